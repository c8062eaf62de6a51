/-! Walks written by a program out of the bytecode: each method as a function over the store, and its contract. -/
theorem dX2_takeWord_0 : decode cX2_takeWord 0 = .ok (.aload_n 0, 1) := by decide +kernel
theorem dX2_takeWord_1 : decode cX2_takeWord 1 = .ok (.aload_n 1, 1) := by decide +kernel
theorem dX2_takeWord_2 : decode cX2_takeWord 2 = .ok (.invokevirtual 92, 3) := by decide +kernel
theorem dX2_takeWord_5 : decode cX2_takeWord 5 = .ok (.ifCond .ne 9, 3) := by decide +kernel
theorem dX2_takeWord_8 : decode cX2_takeWord 8 = .ok (.aload_n 0, 1) := by decide +kernel
theorem dX2_takeWord_9 : decode cX2_takeWord 9 = .ok (.iconst 1, 1) := by decide +kernel
theorem dX2_takeWord_10 : decode cX2_takeWord 10 = .ok (.invokevirtual 97, 3) := by decide +kernel
theorem dX2_takeWord_13 : decode cX2_takeWord 13 = .ok (.ireturn, 1) := by decide +kernel
theorem dX2_takeWord_14 : decode cX2_takeWord 14 = .ok (.aload_n 0, 1) := by decide +kernel
theorem dX2_takeWord_15 : decode cX2_takeWord 15 = .ok (.invokevirtual 42, 3) := by decide +kernel
theorem dX2_takeWord_18 : decode cX2_takeWord 18 = .ok (.iconst 1, 1) := by decide +kernel
theorem dX2_takeWord_19 : decode cX2_takeWord 19 = .ok (.ireturn, 1) := by decide +kernel
def mX2_takeWord : MM := (yX2_takeWord, cX2_takeWord, 2, Option.some Jvm.ClassFile.FieldType.boolean, { frames := 6, cells := 0, slots := 0, locals := 172 })
def fX2_takeWord (σ : SS) (a1 : Nat) : Option (Bool × SS) :=
  bnd1 (fX2_isWord σ a1) fun b2 =>
  if b2 = true then (
    bnd1 (fX2_advance σ) fun σ4 =>
    some (true, σ4)
    ) else (
    bnd (fX2_refuse σ (1 : Int32)) fun b6 σ8 =>
    some (b6, σ8)
    )

set_option maxRecDepth 20000 in
theorem sX2_takeWord {g : GG} {σ : SS} {a1 : Nat} {r : Bool × SS} (hr : fX2_takeWord σ a1 = some r) (hs1 : a1 < 6) : Ct g mX2_takeWord [.ref (ad g 26), .ref (ad g (1010 + a1))] NF σ (some (.int (b2i r.1))) NF r.2 := by
  refine Ct.of (by decide +kernel) (nle rfl) fun hw0 => ?_
  have hw := hw0 rfl
  unfold fX2_takeWord at hr
  change RR g mX2_takeWord (FinR g mX2_takeWord (some (.int (b2i r.1))) NF r.2) zF 0 [(0, .ref (ad g 26)), (1, .ref (ad g (1010 + a1)))] [] σ
  refine r_aload_n (pc := 0) (j := 0) dX2_takeWord_0 rfl rfl ?_
  refine r_aload_n (pc := 1) (j := 1) dX2_takeWord_1 rfl rfl ?_
  obtain ⟨b2, hb2, hr⟩ := bnd1_inv hr
  refine kX2_isWord (pc := 2) hb2 hs1 tw_3_186 ⟨nle rfl, nle rfl⟩ (nle rfl) dX2_takeWord_2 ?_
  refine r_ifB_ne (pc := 5) (tgt := 14) dX2_takeWord_5 rfl (fun hc => ?_) (fun hc => ?_)
  · replace hr := ite_t hc hr
    refine r_aload_n (pc := 14) (j := 0) dX2_takeWord_14 rfl rfl ?_
    obtain ⟨σ4, eσ4, hr⟩ := bnd1_inv hr
    refine kX2_advance (pc := 15) eσ4 tw_3_166 ⟨nle rfl, nle rfl⟩ (nle rfl) dX2_takeWord_15 fun hσ4 => ?_
    refine r_iconst (pc := 18) (v := (1 : Int32)) dX2_takeWord_18 rfl ?_
    exact l_osz hr (r_zret (pc := 19) (v := b2i true) (ty := .boolean) rfl (b2i_nar _) rfl ⟨Nat.le_refl _, Nat.le_refl _⟩ dX2_takeWord_19)
  replace hr := ite_f hc hr
  refine r_aload_n (pc := 8) (j := 0) dX2_takeWord_8 rfl rfl ?_
  refine r_iconst (pc := 9) (v := (1 : Int32)) dX2_takeWord_9 rfl ?_
  obtain ⟨b6, σ8, eσ8, hr⟩ := bnd_inv hr
  refine kX2_refuse (pc := 10) eσ8 tw_3_238 ⟨nle rfl, nle rfl⟩ (nle rfl) dX2_takeWord_10 fun hσ8 => ?_
  exact l_osz hr (r_zret (pc := 13) (v := b2i b6) (ty := .boolean) rfl (b2i_nar _) rfl ⟨Nat.le_refl _, Nat.le_refl _⟩ dX2_takeWord_13)

theorem kX2_takeWord {g : GG} {σ : SS} {a1 : Nat} {v : Bool} {σ2 : SS} {M : MM} {F : State → Array Value → List Frame → State → Prop} {pc index : Nat} {ls : List (Nat × Value)} {rest : List Value} (hf : fX2_takeWord σ a1 = some (v, σ2)) (hs1 : a1 < 6) (hl : Cond.methodLink M.1.cls index yX2_takeWord ∈ lw_gt) (hR : mX2_takeWord.2.2.2.2.frames + 1 ≤ M.2.2.2.2.frames ∧ 8 + (mX2_takeWord.2.2.1 + 11) + mX2_takeWord.2.2.2.2.locals ≤ M.2.2.2.2.locals) (hrest : (rest.map fun v => v.category).sum ≤ 8) (hd : decode M.2.1 pc = .ok (.invokevirtual index, 3)) (k : WT σ2 → RR g M F zF (pc + 3) ls (.int (b2i v) :: rest) σ2) : RR g M F zF pc ls (.ref (ad g (1010 + a1)) :: .ref (ad g 26) :: rest) σ :=
  r_callV (z := zF) (N := mX2_takeWord) (nn := 1) (o1 := some (.int (b2i v))) (sX2_takeWord hf hs1) (rfl : shp 26 = (2, 0)) (by decide) (shp_le (rfl : shp 26 = (2, 0)) (nle rfl)) (ci := 2) rfl rfl tw_3_185 tw_1_4 hl tw_3_184 tp_16 ⟨by decide, by decide, rfl⟩ hR rfl hrest hd ⟨Nat.zero_le _, Nat.zero_le _⟩ rfl (fun h => k (h rfl))

theorem dX2_isNumber_0 : decode cX2_isNumber 0 = .ok (.aload_n 0, 1) := by decide +kernel
theorem dX2_isNumber_1 : decode cX2_isNumber 1 = .ok (.getfield 87, 3) := by decide +kernel
theorem dX2_isNumber_4 : decode cX2_isNumber 4 = .ok (.iconst 2, 1) := by decide +kernel
theorem dX2_isNumber_5 : decode cX2_isNumber 5 = .ok (.if_icmp .eq 9, 3) := by decide +kernel
theorem dX2_isNumber_8 : decode cX2_isNumber 8 = .ok (.aload_n 0, 1) := by decide +kernel
theorem dX2_isNumber_9 : decode cX2_isNumber 9 = .ok (.iconst 1, 1) := by decide +kernel
theorem dX2_isNumber_10 : decode cX2_isNumber 10 = .ok (.invokevirtual 97, 3) := by decide +kernel
theorem dX2_isNumber_13 : decode cX2_isNumber 13 = .ok (.ireturn, 1) := by decide +kernel
theorem dX2_isNumber_14 : decode cX2_isNumber 14 = .ok (.aload_n 0, 1) := by decide +kernel
theorem dX2_isNumber_15 : decode cX2_isNumber 15 = .ok (.getfield 120, 3) := by decide +kernel
theorem dX2_isNumber_18 : decode cX2_isNumber 18 = .ok (.iload_n 1, 1) := by decide +kernel
theorem dX2_isNumber_19 : decode cX2_isNumber 19 = .ok (.if_icmp .lt 11, 3) := by decide +kernel
theorem dX2_isNumber_22 : decode cX2_isNumber 22 = .ok (.aload_n 0, 1) := by decide +kernel
theorem dX2_isNumber_23 : decode cX2_isNumber 23 = .ok (.getfield 120, 3) := by decide +kernel
theorem dX2_isNumber_26 : decode cX2_isNumber 26 = .ok (.iload_n 2, 1) := by decide +kernel
theorem dX2_isNumber_27 : decode cX2_isNumber 27 = .ok (.if_icmp .le 11, 3) := by decide +kernel
theorem dX2_isNumber_30 : decode cX2_isNumber 30 = .ok (.aload_n 0, 1) := by decide +kernel
theorem dX2_isNumber_31 : decode cX2_isNumber 31 = .ok (.iconst 2, 1) := by decide +kernel
theorem dX2_isNumber_32 : decode cX2_isNumber 32 = .ok (.invokevirtual 97, 3) := by decide +kernel
theorem dX2_isNumber_35 : decode cX2_isNumber 35 = .ok (.ifCond .eq 7, 3) := by decide +kernel
theorem dX2_isNumber_38 : decode cX2_isNumber 38 = .ok (.iconst 1, 1) := by decide +kernel
theorem dX2_isNumber_39 : decode cX2_isNumber 39 = .ok (.goto 4, 3) := by decide +kernel
theorem dX2_isNumber_42 : decode cX2_isNumber 42 = .ok (.iconst 0, 1) := by decide +kernel
theorem dX2_isNumber_43 : decode cX2_isNumber 43 = .ok (.ireturn, 1) := by decide +kernel
def mX2_isNumber : MM := (yX2_isNumber, cX2_isNumber, 3, Option.some Jvm.ClassFile.FieldType.boolean, { frames := 1, cells := 0, slots := 0, locals := 21 })
def fX2_isNumber (σ : SS) (a1 : Int32) (a2 : Int32) : Option (Bool × SS) :=
  if (gI σ 26 4) = (2 : Int32) then (
    vthen (fun  (σ1 : SS) =>
      some (true, σ1)
      ) fun j38 =>
    vthen (fun (_u : Unit) =>
      bnd (fX2_refuse σ (2 : Int32)) fun b3 σ5 =>
      if b3 = true then (
        j38 σ5
        ) else (
        some (false, σ5)
        )
      ) fun j30 =>
    if (gI σ 26 5) < a1 then (
      j30 ()
      ) else (
      if (gI σ 26 5) ≤ a2 then (
        j38 σ
        ) else (
        j30 ()
        )
      )
    ) else (
    bnd (fX2_refuse σ (1 : Int32)) fun b7 σ9 =>
    some (b7, σ9)
    )

set_option maxRecDepth 20000 in
theorem sX2_isNumber {g : GG} {σ : SS} {a1 : Int32} {a2 : Int32} {r : Bool × SS} (hr : fX2_isNumber σ a1 a2 = some r)  : Ct g mX2_isNumber [.ref (ad g 26), .int a1, .int a2] NF σ (some (.int (b2i r.1))) NF r.2 := by
  refine Ct.of (by decide +kernel) (nle rfl) fun hw0 => ?_
  have hw := hw0 rfl
  unfold fX2_isNumber at hr
  change RR g mX2_isNumber (FinR g mX2_isNumber (some (.int (b2i r.1))) NF r.2) zF 0 [(0, .ref (ad g 26)), (1, .int a1), (2, .int a2)] [] σ
  refine r_aload_n (pc := 0) (j := 0) dX2_isNumber_0 rfl rfl ?_
  refine gf2_4 (pc := 1) tw_1_148 rfl dX2_isNumber_1 ?_
  refine r_iconst (pc := 4) (v := (2 : Int32)) dX2_isNumber_4 rfl ?_
  refine r_icmp_eq (pc := 5) (tgt := 14) dX2_isNumber_5 rfl (fun hc => ?_) (fun hc => ?_)
  · replace hr := ite_t hc hr
    refine r_aload_n (pc := 14) (j := 0) dX2_isNumber_14 rfl rfl ?_
    refine gf2_5 (pc := 15) tw_1_149 rfl dX2_isNumber_15 ?_
    refine r_iload_n (pc := 18) (j := 1) dX2_isNumber_18 rfl rfl ?_
    obtain ⟨j38, ej38, hr⟩ := vth_ex hr
    have hj38 : ∀ (σ1 : SS), j38 σ1 = some r → WT σ1 → RR g mX2_isNumber (FinR g mX2_isNumber (some (.int (b2i r.1))) NF r.2) zF 38 [] [] σ1 := by
      intro σ1 hr hσ1
      replace hr := (congrFun ej38 σ1).symm.trans hr
      refine r_iconst (pc := 38) (v := (1 : Int32)) dX2_isNumber_38 rfl ?_
      refine r_goto (pc := 39) (tgt := 43) dX2_isNumber_39 rfl ?_
      exact l_osz hr (r_zret (pc := 43) (v := b2i true) (ty := .boolean) rfl (b2i_nar _) rfl ⟨Nat.le_refl _, Nat.le_refl _⟩ dX2_isNumber_43)
    obtain ⟨j30, ej30, hr⟩ := vth_ex hr
    have hj30 : j30 () = some r → RR g mX2_isNumber (FinR g mX2_isNumber (some (.int (b2i r.1))) NF r.2) zF 30 [(0, .ref (ad g 26))] [] σ := by
      intro  hr
      replace hr := (congrFun ej30 ()).symm.trans hr
      refine r_aload_n (pc := 30) (j := 0) dX2_isNumber_30 rfl rfl ?_
      refine r_iconst (pc := 31) (v := (2 : Int32)) dX2_isNumber_31 rfl ?_
      obtain ⟨b3, σ5, eσ5, hr⟩ := bnd_inv hr
      refine kX2_refuse (pc := 32) eσ5 tw_3_238 ⟨nle rfl, nle rfl⟩ (nle rfl) dX2_isNumber_32 fun hσ5 => ?_
      refine r_ifB_eq (pc := 35) (tgt := 42) dX2_isNumber_35 rfl (fun hc => ?_) (fun hc => ?_)
      · replace hr := ite_f hc hr
        refine r_iconst (pc := 42) (v := (0 : Int32)) dX2_isNumber_42 rfl ?_
        exact l_osz hr (r_zret (pc := 43) (v := b2i false) (ty := .boolean) rfl (b2i_nar _) rfl ⟨Nat.le_refl _, Nat.le_refl _⟩ dX2_isNumber_43)
      replace hr := ite_t hc hr
      exact r_pick (ls1 := []) [] rfl (hj38 σ5 hr hσ5)
    refine r_icmp_lt (pc := 19) (tgt := 30) dX2_isNumber_19 rfl (fun hc => ?_) (fun hc => ?_)
    · replace hr := ite_t hc hr
      exact r_pick (ls1 := [(0, .ref (ad g 26))]) [0] rfl (hj30  hr)
    replace hr := ite_f hc hr
    refine r_aload_n (pc := 22) (j := 0) dX2_isNumber_22 rfl rfl ?_
    refine gf2_5 (pc := 23) tw_1_149 rfl dX2_isNumber_23 ?_
    refine r_iload_n (pc := 26) (j := 2) dX2_isNumber_26 rfl rfl ?_
    refine r_icmp_le (pc := 27) (tgt := 38) dX2_isNumber_27 rfl (fun hc => ?_) (fun hc => ?_)
    · replace hr := ite_t hc hr
      exact r_pick (ls1 := []) [] rfl (hj38 σ hr hw)
    replace hr := ite_f hc hr
    exact r_pick (ls1 := [(0, .ref (ad g 26))]) [0] rfl (hj30  hr)
  replace hr := ite_f hc hr
  refine r_aload_n (pc := 8) (j := 0) dX2_isNumber_8 rfl rfl ?_
  refine r_iconst (pc := 9) (v := (1 : Int32)) dX2_isNumber_9 rfl ?_
  obtain ⟨b7, σ9, eσ9, hr⟩ := bnd_inv hr
  refine kX2_refuse (pc := 10) eσ9 tw_3_238 ⟨nle rfl, nle rfl⟩ (nle rfl) dX2_isNumber_10 fun hσ9 => ?_
  exact l_osz hr (r_zret (pc := 13) (v := b2i b7) (ty := .boolean) rfl (b2i_nar _) rfl ⟨Nat.le_refl _, Nat.le_refl _⟩ dX2_isNumber_13)

theorem kX2_isNumber {g : GG} {σ : SS} {a1 : Int32} {a2 : Int32} {v : Bool} {σ2 : SS} {M : MM} {F : State → Array Value → List Frame → State → Prop} {pc index : Nat} {ls : List (Nat × Value)} {rest : List Value} (hf : fX2_isNumber σ a1 a2 = some (v, σ2))  (hl : Cond.methodLink M.1.cls index yX2_isNumber ∈ lw_gt) (hR : mX2_isNumber.2.2.2.2.frames + 1 ≤ M.2.2.2.2.frames ∧ 8 + (mX2_isNumber.2.2.1 + 11) + mX2_isNumber.2.2.2.2.locals ≤ M.2.2.2.2.locals) (hrest : (rest.map fun v => v.category).sum ≤ 8) (hd : decode M.2.1 pc = .ok (.invokevirtual index, 3)) (k : WT σ2 → RR g M F zF (pc + 3) ls (.int (b2i v) :: rest) σ2) : RR g M F zF pc ls (.int a2 :: .int a1 :: .ref (ad g 26) :: rest) σ :=
  r_callV (z := zF) (N := mX2_isNumber) (nn := 2) (o1 := some (.int (b2i v))) (sX2_isNumber hf ) (rfl : shp 26 = (2, 0)) (by decide) (shp_le (rfl : shp 26 = (2, 0)) (nle rfl)) (ci := 2) rfl rfl tw_4_9 tw_1_4 hl tw_4_8 tp_20 ⟨by decide, by decide, rfl⟩ hR rfl hrest hd ⟨Nat.zero_le _, Nat.zero_le _⟩ rfl (fun h => k (h rfl))

theorem dX2_takeNumber_0 : decode cX2_takeNumber 0 = .ok (.aload_n 0, 1) := by decide +kernel
theorem dX2_takeNumber_1 : decode cX2_takeNumber 1 = .ok (.iload_n 1, 1) := by decide +kernel
theorem dX2_takeNumber_2 : decode cX2_takeNumber 2 = .ok (.iload_n 2, 1) := by decide +kernel
theorem dX2_takeNumber_3 : decode cX2_takeNumber 3 = .ok (.invokevirtual 117, 3) := by decide +kernel
theorem dX2_takeNumber_6 : decode cX2_takeNumber 6 = .ok (.ifCond .ne 5, 3) := by decide +kernel
theorem dX2_takeNumber_9 : decode cX2_takeNumber 9 = .ok (.iconst 0, 1) := by decide +kernel
theorem dX2_takeNumber_10 : decode cX2_takeNumber 10 = .ok (.ireturn, 1) := by decide +kernel
theorem dX2_takeNumber_11 : decode cX2_takeNumber 11 = .ok (.aload_n 0, 1) := by decide +kernel
theorem dX2_takeNumber_12 : decode cX2_takeNumber 12 = .ok (.aload_n 0, 1) := by decide +kernel
theorem dX2_takeNumber_13 : decode cX2_takeNumber 13 = .ok (.getfield 120, 3) := by decide +kernel
theorem dX2_takeNumber_16 : decode cX2_takeNumber 16 = .ok (.putfield 66, 3) := by decide +kernel
theorem dX2_takeNumber_19 : decode cX2_takeNumber 19 = .ok (.aload_n 0, 1) := by decide +kernel
theorem dX2_takeNumber_20 : decode cX2_takeNumber 20 = .ok (.invokevirtual 42, 3) := by decide +kernel
theorem dX2_takeNumber_23 : decode cX2_takeNumber 23 = .ok (.iconst 1, 1) := by decide +kernel
theorem dX2_takeNumber_24 : decode cX2_takeNumber 24 = .ok (.ireturn, 1) := by decide +kernel
def mX2_takeNumber : MM := (yX2_takeNumber, cX2_takeNumber, 3, Option.some Jvm.ClassFile.FieldType.boolean, { frames := 2, cells := 0, slots := 0, locals := 43 })
def fX2_takeNumber (σ : SS) (a1 : Int32) (a2 : Int32) : Option (Bool × SS) :=
  bnd (fX2_isNumber σ a1 a2) fun b2 σ4 =>
  if b2 = true then (
    vthen (sI σ4 26 6 (gI σ4 26 5)) fun σ5 =>
    bnd1 (fX2_advance σ5) fun σ6 =>
    some (true, σ6)
    ) else (
    some (false, σ4)
    )

set_option maxRecDepth 20000 in
theorem sX2_takeNumber {g : GG} {σ : SS} {a1 : Int32} {a2 : Int32} {r : Bool × SS} (hr : fX2_takeNumber σ a1 a2 = some r)  : Ct g mX2_takeNumber [.ref (ad g 26), .int a1, .int a2] NF σ (some (.int (b2i r.1))) NF r.2 := by
  refine Ct.of (by decide +kernel) (nle rfl) fun hw0 => ?_
  have hw := hw0 rfl
  unfold fX2_takeNumber at hr
  change RR g mX2_takeNumber (FinR g mX2_takeNumber (some (.int (b2i r.1))) NF r.2) zF 0 [(0, .ref (ad g 26)), (1, .int a1), (2, .int a2)] [] σ
  refine r_aload_n (pc := 0) (j := 0) dX2_takeNumber_0 rfl rfl ?_
  refine r_iload_n (pc := 1) (j := 1) dX2_takeNumber_1 rfl rfl ?_
  refine r_iload_n (pc := 2) (j := 2) dX2_takeNumber_2 rfl rfl ?_
  obtain ⟨b2, σ4, eσ4, hr⟩ := bnd_inv hr
  refine kX2_isNumber (pc := 3) eσ4 tw_4_6 ⟨nle rfl, nle rfl⟩ (nle rfl) dX2_takeNumber_3 fun hσ4 => ?_
  refine r_ifB_ne (pc := 6) (tgt := 11) dX2_takeNumber_6 rfl (fun hc => ?_) (fun hc => ?_)
  · replace hr := ite_t hc hr
    refine r_aload_n (pc := 11) (j := 0) dX2_takeNumber_11 rfl rfl ?_
    refine r_aload_n (pc := 12) (j := 0) dX2_takeNumber_12 rfl rfl ?_
    refine gf2_5 (pc := 13) tw_1_149 rfl dX2_takeNumber_13 ?_
    refine pf2_6 (pc := 16) tw_1_150 rfl dX2_takeNumber_16 fun σ5 eσ5 => ?_
    replace hr := vthen_inv hr σ5 eσ5
    have hσ5 := wtI eσ5 hσ4
    refine r_aload_n (pc := 19) (j := 0) dX2_takeNumber_19 rfl rfl ?_
    obtain ⟨σ6, eσ6, hr⟩ := bnd1_inv hr
    refine kX2_advance (pc := 20) eσ6 tw_3_166 ⟨nle rfl, nle rfl⟩ (nle rfl) dX2_takeNumber_20 fun hσ6 => ?_
    refine r_iconst (pc := 23) (v := (1 : Int32)) dX2_takeNumber_23 rfl ?_
    exact l_osz hr (r_zret (pc := 24) (v := b2i true) (ty := .boolean) rfl (b2i_nar _) rfl ⟨Nat.le_refl _, Nat.le_refl _⟩ dX2_takeNumber_24)
  replace hr := ite_f hc hr
  refine r_iconst (pc := 9) (v := (0 : Int32)) dX2_takeNumber_9 rfl ?_
  exact l_osz hr (r_zret (pc := 10) (v := b2i false) (ty := .boolean) rfl (b2i_nar _) rfl ⟨Nat.le_refl _, Nat.le_refl _⟩ dX2_takeNumber_10)

theorem kX2_takeNumber {g : GG} {σ : SS} {a1 : Int32} {a2 : Int32} {v : Bool} {σ2 : SS} {M : MM} {F : State → Array Value → List Frame → State → Prop} {pc index : Nat} {ls : List (Nat × Value)} {rest : List Value} (hf : fX2_takeNumber σ a1 a2 = some (v, σ2))  (hl : Cond.methodLink M.1.cls index yX2_takeNumber ∈ lw_gt) (hR : mX2_takeNumber.2.2.2.2.frames + 1 ≤ M.2.2.2.2.frames ∧ 8 + (mX2_takeNumber.2.2.1 + 11) + mX2_takeNumber.2.2.2.2.locals ≤ M.2.2.2.2.locals) (hrest : (rest.map fun v => v.category).sum ≤ 8) (hd : decode M.2.1 pc = .ok (.invokevirtual index, 3)) (k : WT σ2 → RR g M F zF (pc + 3) ls (.int (b2i v) :: rest) σ2) : RR g M F zF pc ls (.int a2 :: .int a1 :: .ref (ad g 26) :: rest) σ :=
  r_callV (z := zF) (N := mX2_takeNumber) (nn := 2) (o1 := some (.int (b2i v))) (sX2_takeNumber hf ) (rfl : shp 26 = (2, 0)) (by decide) (shp_le (rfl : shp 26 = (2, 0)) (nle rfl)) (ci := 2) rfl rfl tw_4_5 tw_1_4 hl tw_4_4 tp_19 ⟨by decide, by decide, rfl⟩ hR rfl hrest hd ⟨Nat.zero_le _, Nat.zero_le _⟩ rfl (fun h => k (h rfl))

theorem dX2_takeSign_0 : decode cX2_takeSign 0 = .ok (.aload_n 0, 1) := by decide +kernel
theorem dX2_takeSign_1 : decode cX2_takeSign 1 = .ok (.getfield 87, 3) := by decide +kernel
theorem dX2_takeSign_4 : decode cX2_takeSign 4 = .ok (.iload_n 1, 1) := by decide +kernel
theorem dX2_takeSign_5 : decode cX2_takeSign 5 = .ok (.if_icmp .eq 9, 3) := by decide +kernel
theorem dX2_takeSign_8 : decode cX2_takeSign 8 = .ok (.aload_n 0, 1) := by decide +kernel
theorem dX2_takeSign_9 : decode cX2_takeSign 9 = .ok (.iconst 1, 1) := by decide +kernel
theorem dX2_takeSign_10 : decode cX2_takeSign 10 = .ok (.invokevirtual 97, 3) := by decide +kernel
theorem dX2_takeSign_13 : decode cX2_takeSign 13 = .ok (.ireturn, 1) := by decide +kernel
theorem dX2_takeSign_14 : decode cX2_takeSign 14 = .ok (.aload_n 0, 1) := by decide +kernel
theorem dX2_takeSign_15 : decode cX2_takeSign 15 = .ok (.invokevirtual 42, 3) := by decide +kernel
theorem dX2_takeSign_18 : decode cX2_takeSign 18 = .ok (.iconst 1, 1) := by decide +kernel
theorem dX2_takeSign_19 : decode cX2_takeSign 19 = .ok (.ireturn, 1) := by decide +kernel
def mX2_takeSign : MM := (yX2_takeSign, cX2_takeSign, 2, Option.some Jvm.ClassFile.FieldType.boolean, { frames := 2, cells := 0, slots := 0, locals := 42 })
def fX2_takeSign (σ : SS) (a1 : Int32) : Option (Bool × SS) :=
  if (gI σ 26 4) = a1 then (
    bnd1 (fX2_advance σ) fun σ1 =>
    some (true, σ1)
    ) else (
    bnd (fX2_refuse σ (1 : Int32)) fun b3 σ5 =>
    some (b3, σ5)
    )

set_option maxRecDepth 20000 in
theorem sX2_takeSign {g : GG} {σ : SS} {a1 : Int32} {r : Bool × SS} (hr : fX2_takeSign σ a1 = some r)  : Ct g mX2_takeSign [.ref (ad g 26), .int a1] NF σ (some (.int (b2i r.1))) NF r.2 := by
  refine Ct.of (by decide +kernel) (nle rfl) fun hw0 => ?_
  have hw := hw0 rfl
  unfold fX2_takeSign at hr
  change RR g mX2_takeSign (FinR g mX2_takeSign (some (.int (b2i r.1))) NF r.2) zF 0 [(0, .ref (ad g 26)), (1, .int a1)] [] σ
  refine r_aload_n (pc := 0) (j := 0) dX2_takeSign_0 rfl rfl ?_
  refine gf2_4 (pc := 1) tw_1_148 rfl dX2_takeSign_1 ?_
  refine r_iload_n (pc := 4) (j := 1) dX2_takeSign_4 rfl rfl ?_
  refine r_icmp_eq (pc := 5) (tgt := 14) dX2_takeSign_5 rfl (fun hc => ?_) (fun hc => ?_)
  · replace hr := ite_t hc hr
    refine r_aload_n (pc := 14) (j := 0) dX2_takeSign_14 rfl rfl ?_
    obtain ⟨σ1, eσ1, hr⟩ := bnd1_inv hr
    refine kX2_advance (pc := 15) eσ1 tw_3_166 ⟨nle rfl, nle rfl⟩ (nle rfl) dX2_takeSign_15 fun hσ1 => ?_
    refine r_iconst (pc := 18) (v := (1 : Int32)) dX2_takeSign_18 rfl ?_
    exact l_osz hr (r_zret (pc := 19) (v := b2i true) (ty := .boolean) rfl (b2i_nar _) rfl ⟨Nat.le_refl _, Nat.le_refl _⟩ dX2_takeSign_19)
  replace hr := ite_f hc hr
  refine r_aload_n (pc := 8) (j := 0) dX2_takeSign_8 rfl rfl ?_
  refine r_iconst (pc := 9) (v := (1 : Int32)) dX2_takeSign_9 rfl ?_
  obtain ⟨b3, σ5, eσ5, hr⟩ := bnd_inv hr
  refine kX2_refuse (pc := 10) eσ5 tw_3_238 ⟨nle rfl, nle rfl⟩ (nle rfl) dX2_takeSign_10 fun hσ5 => ?_
  exact l_osz hr (r_zret (pc := 13) (v := b2i b3) (ty := .boolean) rfl (b2i_nar _) rfl ⟨Nat.le_refl _, Nat.le_refl _⟩ dX2_takeSign_13)

theorem kX2_takeSign {g : GG} {σ : SS} {a1 : Int32} {v : Bool} {σ2 : SS} {M : MM} {F : State → Array Value → List Frame → State → Prop} {pc index : Nat} {ls : List (Nat × Value)} {rest : List Value} (hf : fX2_takeSign σ a1 = some (v, σ2))  (hl : Cond.methodLink M.1.cls index yX2_takeSign ∈ lw_gt) (hR : mX2_takeSign.2.2.2.2.frames + 1 ≤ M.2.2.2.2.frames ∧ 8 + (mX2_takeSign.2.2.1 + 11) + mX2_takeSign.2.2.2.2.locals ≤ M.2.2.2.2.locals) (hrest : (rest.map fun v => v.category).sum ≤ 8) (hd : decode M.2.1 pc = .ok (.invokevirtual index, 3)) (k : WT σ2 → RR g M F zF (pc + 3) ls (.int (b2i v) :: rest) σ2) : RR g M F zF pc ls (.int a1 :: .ref (ad g 26) :: rest) σ :=
  r_callV (z := zF) (N := mX2_takeSign) (nn := 1) (o1 := some (.int (b2i v))) (sX2_takeSign hf ) (rfl : shp 26 = (2, 0)) (by decide) (shp_le (rfl : shp 26 = (2, 0)) (nle rfl)) (ci := 2) rfl rfl tw_4_13 tw_1_4 hl tw_4_12 tp_21 ⟨by decide, by decide, rfl⟩ hR rfl hrest hd ⟨Nat.zero_le _, Nat.zero_le _⟩ rfl (fun h => k (h rfl))

theorem dX2_readHead_0 : decode cX2_readHead 0 = .ok (.aload_n 0, 1) := by decide +kernel
theorem dX2_readHead_1 : decode cX2_readHead 1 = .ok (.ldc 56, 2) := by decide +kernel
theorem dX2_readHead_3 : decode cX2_readHead 3 = .ok (.invokevirtual 58, 3) := by decide +kernel
theorem dX2_readHead_6 : decode cX2_readHead 6 = .ok (.ifCond .eq 13, 3) := by decide +kernel
theorem dX2_readHead_9 : decode cX2_readHead 9 = .ok (.aload_n 0, 1) := by decide +kernel
theorem dX2_readHead_10 : decode cX2_readHead 10 = .ok (.iconst 4, 1) := by decide +kernel
theorem dX2_readHead_11 : decode cX2_readHead 11 = .ok (.bipush 40, 2) := by decide +kernel
theorem dX2_readHead_13 : decode cX2_readHead 13 = .ok (.invokevirtual 62, 3) := by decide +kernel
theorem dX2_readHead_16 : decode cX2_readHead 16 = .ok (.ifCond .ne 5, 3) := by decide +kernel
theorem dX2_readHead_19 : decode cX2_readHead 19 = .ok (.iconst 0, 1) := by decide +kernel
theorem dX2_readHead_20 : decode cX2_readHead 20 = .ok (.ireturn, 1) := by decide +kernel
theorem dX2_readHead_21 : decode cX2_readHead 21 = .ok (.aload_n 1, 1) := by decide +kernel
theorem dX2_readHead_22 : decode cX2_readHead 22 = .ok (.aload_n 0, 1) := by decide +kernel
theorem dX2_readHead_23 : decode cX2_readHead 23 = .ok (.getfield 66, 3) := by decide +kernel
theorem dX2_readHead_26 : decode cX2_readHead 26 = .ok (.putfield 69, 3) := by decide +kernel
theorem dX2_readHead_29 : decode cX2_readHead 29 = .ok (.aload_n 0, 1) := by decide +kernel
theorem dX2_readHead_30 : decode cX2_readHead 30 = .ok (.iconst 4, 1) := by decide +kernel
theorem dX2_readHead_31 : decode cX2_readHead 31 = .ok (.bipush 40, 2) := by decide +kernel
theorem dX2_readHead_33 : decode cX2_readHead 33 = .ok (.invokevirtual 62, 3) := by decide +kernel
theorem dX2_readHead_36 : decode cX2_readHead 36 = .ok (.ifCond .ne 5, 3) := by decide +kernel
theorem dX2_readHead_39 : decode cX2_readHead 39 = .ok (.iconst 0, 1) := by decide +kernel
theorem dX2_readHead_40 : decode cX2_readHead 40 = .ok (.ireturn, 1) := by decide +kernel
theorem dX2_readHead_41 : decode cX2_readHead 41 = .ok (.aload_n 1, 1) := by decide +kernel
theorem dX2_readHead_42 : decode cX2_readHead 42 = .ok (.aload_n 0, 1) := by decide +kernel
theorem dX2_readHead_43 : decode cX2_readHead 43 = .ok (.getfield 66, 3) := by decide +kernel
theorem dX2_readHead_46 : decode cX2_readHead 46 = .ok (.putfield 72, 3) := by decide +kernel
theorem dX2_readHead_49 : decode cX2_readHead 49 = .ok (.aload_n 0, 1) := by decide +kernel
theorem dX2_readHead_50 : decode cX2_readHead 50 = .ok (.iconst 4, 1) := by decide +kernel
theorem dX2_readHead_51 : decode cX2_readHead 51 = .ok (.invokevirtual 75, 3) := by decide +kernel
theorem dX2_readHead_54 : decode cX2_readHead 54 = .ok (.ifCond .eq 22, 3) := by decide +kernel
theorem dX2_readHead_57 : decode cX2_readHead 57 = .ok (.aload_n 0, 1) := by decide +kernel
theorem dX2_readHead_58 : decode cX2_readHead 58 = .ok (.ldc 79, 2) := by decide +kernel
theorem dX2_readHead_60 : decode cX2_readHead 60 = .ok (.invokevirtual 58, 3) := by decide +kernel
theorem dX2_readHead_63 : decode cX2_readHead 63 = .ok (.ifCond .eq 13, 3) := by decide +kernel
theorem dX2_readHead_66 : decode cX2_readHead 66 = .ok (.aload_n 0, 1) := by decide +kernel
theorem dX2_readHead_67 : decode cX2_readHead 67 = .ok (.iconst 1, 1) := by decide +kernel
theorem dX2_readHead_68 : decode cX2_readHead 68 = .ok (.bipush 6, 2) := by decide +kernel
theorem dX2_readHead_70 : decode cX2_readHead 70 = .ok (.invokevirtual 62, 3) := by decide +kernel
theorem dX2_readHead_73 : decode cX2_readHead 73 = .ok (.ifCond .ne 5, 3) := by decide +kernel
theorem dX2_readHead_76 : decode cX2_readHead 76 = .ok (.iconst 0, 1) := by decide +kernel
theorem dX2_readHead_77 : decode cX2_readHead 77 = .ok (.ireturn, 1) := by decide +kernel
theorem dX2_readHead_78 : decode cX2_readHead 78 = .ok (.aload_n 1, 1) := by decide +kernel
theorem dX2_readHead_79 : decode cX2_readHead 79 = .ok (.aload_n 0, 1) := by decide +kernel
theorem dX2_readHead_80 : decode cX2_readHead 80 = .ok (.getfield 66, 3) := by decide +kernel
theorem dX2_readHead_83 : decode cX2_readHead 83 = .ok (.putfield 81, 3) := by decide +kernel
theorem dX2_readHead_86 : decode cX2_readHead 86 = .ok (.aload_n 0, 1) := by decide +kernel
theorem dX2_readHead_87 : decode cX2_readHead 87 = .ok (.iconst 1, 1) := by decide +kernel
theorem dX2_readHead_88 : decode cX2_readHead 88 = .ok (.bipush 6, 2) := by decide +kernel
theorem dX2_readHead_90 : decode cX2_readHead 90 = .ok (.invokevirtual 62, 3) := by decide +kernel
theorem dX2_readHead_93 : decode cX2_readHead 93 = .ok (.ifCond .ne 5, 3) := by decide +kernel
theorem dX2_readHead_96 : decode cX2_readHead 96 = .ok (.iconst 0, 1) := by decide +kernel
theorem dX2_readHead_97 : decode cX2_readHead 97 = .ok (.ireturn, 1) := by decide +kernel
theorem dX2_readHead_98 : decode cX2_readHead 98 = .ok (.aload_n 1, 1) := by decide +kernel
theorem dX2_readHead_99 : decode cX2_readHead 99 = .ok (.aload_n 0, 1) := by decide +kernel
theorem dX2_readHead_100 : decode cX2_readHead 100 = .ok (.getfield 66, 3) := by decide +kernel
theorem dX2_readHead_103 : decode cX2_readHead 103 = .ok (.putfield 84, 3) := by decide +kernel
theorem dX2_readHead_106 : decode cX2_readHead 106 = .ok (.aload_n 0, 1) := by decide +kernel
theorem dX2_readHead_107 : decode cX2_readHead 107 = .ok (.iconst 4, 1) := by decide +kernel
theorem dX2_readHead_108 : decode cX2_readHead 108 = .ok (.invokevirtual 75, 3) := by decide +kernel
theorem dX2_readHead_111 : decode cX2_readHead 111 = .ok (.ireturn, 1) := by decide +kernel
def mX2_readHead : MM := (yX2_readHead, cX2_readHead, 2, Option.some Jvm.ClassFile.FieldType.boolean, { frames := 7, cells := 0, slots := 0, locals := 193 })
def fX2_readHead (σ : SS) (a1 : Nat) : Option (Bool × SS) :=
  bnd (fX2_takeWord σ 0) fun b2 σ4 =>
  if b2 = true then (
    bnd (fX2_takeNumber σ4 (4 : Int32) (40 : Int32)) fun b6 σ8 =>
    if b6 = true then (
      vthen (sI σ8 a1 1 (gI σ8 26 6)) fun σ9 =>
      bnd (fX2_takeNumber σ9 (4 : Int32) (40 : Int32)) fun b11 σ13 =>
      if b11 = true then (
        vthen (sI σ13 a1 2 (gI σ13 26 6)) fun σ14 =>
        bnd (fX2_takeSign σ14 (4 : Int32)) fun b16 σ18 =>
        if b16 = true then (
          bnd (fX2_takeWord σ18 1) fun b20 σ22 =>
          if b20 = true then (
            bnd (fX2_takeNumber σ22 (1 : Int32) (6 : Int32)) fun b24 σ26 =>
            if b24 = true then (
              vthen (sI σ26 a1 3 (gI σ26 26 6)) fun σ27 =>
              bnd (fX2_takeNumber σ27 (1 : Int32) (6 : Int32)) fun b29 σ31 =>
              if b29 = true then (
                vthen (sI σ31 a1 4 (gI σ31 26 6)) fun σ32 =>
                bnd (fX2_takeSign σ32 (4 : Int32)) fun b34 σ36 =>
                some (b34, σ36)
                ) else (
                some (false, σ31)
                )
              ) else (
              some (false, σ26)
              )
            ) else (
            some (false, σ22)
            )
          ) else (
          some (false, σ18)
          )
        ) else (
        some (false, σ13)
        )
      ) else (
      some (false, σ8)
      )
    ) else (
    some (false, σ4)
    )

set_option maxRecDepth 20000 in
theorem sX2_readHead {g : GG} {σ : SS} {a1 : Nat} {r : Bool × SS} (hr : fX2_readHead σ a1 = some r) (hs1 : shp a1 = (1, 0)) : Ct g mX2_readHead [.ref (ad g 26), .ref (ad g a1)] NF σ (some (.int (b2i r.1))) NF r.2 := by
  refine Ct.of (by decide +kernel) (nle rfl) fun hw0 => ?_
  have hw := hw0 rfl
  unfold fX2_readHead at hr
  change RR g mX2_readHead (FinR g mX2_readHead (some (.int (b2i r.1))) NF r.2) zF 0 [(0, .ref (ad g 26)), (1, .ref (ad g a1))] [] σ
  refine r_aload_n (pc := 0) (j := 0) dX2_readHead_0 rfl rfl ?_
  refine r_ldcs (pc := 1) 0 (by decide) rfl dX2_readHead_1 ?_
  obtain ⟨b2, σ4, eσ4, hr⟩ := bnd_inv hr
  refine kX2_takeWord (pc := 3) eσ4 (by decide) tw_3_182 ⟨nle rfl, nle rfl⟩ (nle rfl) dX2_readHead_3 fun hσ4 => ?_
  refine r_ifB_eq (pc := 6) (tgt := 19) dX2_readHead_6 rfl (fun hc => ?_) (fun hc => ?_)
  · replace hr := ite_f hc hr
    refine r_iconst (pc := 19) (v := (0 : Int32)) dX2_readHead_19 rfl ?_
    exact l_osz hr (r_zret (pc := 20) (v := b2i false) (ty := .boolean) rfl (b2i_nar _) rfl ⟨Nat.le_refl _, Nat.le_refl _⟩ dX2_readHead_20)
  replace hr := ite_t hc hr
  refine r_aload_n (pc := 9) (j := 0) dX2_readHead_9 rfl rfl ?_
  refine r_iconst (pc := 10) (v := (4 : Int32)) dX2_readHead_10 rfl ?_
  refine r_bipush (pc := 11) (v := (40 : Int32)) dX2_readHead_11 rfl ?_
  obtain ⟨b6, σ8, eσ8, hr⟩ := bnd_inv hr
  refine kX2_takeNumber (pc := 13) eσ8 tw_4_2 ⟨nle rfl, nle rfl⟩ (nle rfl) dX2_readHead_13 fun hσ8 => ?_
  refine r_ifB_ne (pc := 16) (tgt := 21) dX2_readHead_16 rfl (fun hc => ?_) (fun hc => ?_)
  · replace hr := ite_t hc hr
    refine r_aload_n (pc := 21) (j := 1) dX2_readHead_21 rfl rfl ?_
    refine r_aload_n (pc := 22) (j := 0) dX2_readHead_22 rfl rfl ?_
    refine gf2_6 (pc := 23) tw_1_150 rfl dX2_readHead_23 ?_
    refine pf1_1 (pc := 26) tw_1_62 hs1 dX2_readHead_26 fun σ9 eσ9 => ?_
    replace hr := vthen_inv hr σ9 eσ9
    have hσ9 := wtI eσ9 hσ8
    refine r_aload_n (pc := 29) (j := 0) dX2_readHead_29 rfl rfl ?_
    refine r_iconst (pc := 30) (v := (4 : Int32)) dX2_readHead_30 rfl ?_
    refine r_bipush (pc := 31) (v := (40 : Int32)) dX2_readHead_31 rfl ?_
    obtain ⟨b11, σ13, eσ13, hr⟩ := bnd_inv hr
    refine kX2_takeNumber (pc := 33) eσ13 tw_4_2 ⟨nle rfl, nle rfl⟩ (nle rfl) dX2_readHead_33 fun hσ13 => ?_
    refine r_ifB_ne (pc := 36) (tgt := 41) dX2_readHead_36 rfl (fun hc => ?_) (fun hc => ?_)
    · replace hr := ite_t hc hr
      refine r_aload_n (pc := 41) (j := 1) dX2_readHead_41 rfl rfl ?_
      refine r_aload_n (pc := 42) (j := 0) dX2_readHead_42 rfl rfl ?_
      refine gf2_6 (pc := 43) tw_1_150 rfl dX2_readHead_43 ?_
      refine pf1_2 (pc := 46) tw_1_66 hs1 dX2_readHead_46 fun σ14 eσ14 => ?_
      replace hr := vthen_inv hr σ14 eσ14
      have hσ14 := wtI eσ14 hσ13
      refine r_aload_n (pc := 49) (j := 0) dX2_readHead_49 rfl rfl ?_
      refine r_iconst (pc := 50) (v := (4 : Int32)) dX2_readHead_50 rfl ?_
      obtain ⟨b16, σ18, eσ18, hr⟩ := bnd_inv hr
      refine kX2_takeSign (pc := 51) eσ18 tw_4_10 ⟨nle rfl, nle rfl⟩ (nle rfl) dX2_readHead_51 fun hσ18 => ?_
      refine r_ifB_eq (pc := 54) (tgt := 76) dX2_readHead_54 rfl (fun hc => ?_) (fun hc => ?_)
      · replace hr := ite_f hc hr
        refine r_iconst (pc := 76) (v := (0 : Int32)) dX2_readHead_76 rfl ?_
        exact l_osz hr (r_zret (pc := 77) (v := b2i false) (ty := .boolean) rfl (b2i_nar _) rfl ⟨Nat.le_refl _, Nat.le_refl _⟩ dX2_readHead_77)
      replace hr := ite_t hc hr
      refine r_aload_n (pc := 57) (j := 0) dX2_readHead_57 rfl rfl ?_
      refine r_ldcs (pc := 58) 1 (by decide) rfl dX2_readHead_58 ?_
      obtain ⟨b20, σ22, eσ22, hr⟩ := bnd_inv hr
      refine kX2_takeWord (pc := 60) eσ22 (by decide) tw_3_182 ⟨nle rfl, nle rfl⟩ (nle rfl) dX2_readHead_60 fun hσ22 => ?_
      refine r_ifB_eq (pc := 63) (tgt := 76) dX2_readHead_63 rfl (fun hc => ?_) (fun hc => ?_)
      · replace hr := ite_f hc hr
        refine r_iconst (pc := 76) (v := (0 : Int32)) dX2_readHead_76 rfl ?_
        exact l_osz hr (r_zret (pc := 77) (v := b2i false) (ty := .boolean) rfl (b2i_nar _) rfl ⟨Nat.le_refl _, Nat.le_refl _⟩ dX2_readHead_77)
      replace hr := ite_t hc hr
      refine r_aload_n (pc := 66) (j := 0) dX2_readHead_66 rfl rfl ?_
      refine r_iconst (pc := 67) (v := (1 : Int32)) dX2_readHead_67 rfl ?_
      refine r_bipush (pc := 68) (v := (6 : Int32)) dX2_readHead_68 rfl ?_
      obtain ⟨b24, σ26, eσ26, hr⟩ := bnd_inv hr
      refine kX2_takeNumber (pc := 70) eσ26 tw_4_2 ⟨nle rfl, nle rfl⟩ (nle rfl) dX2_readHead_70 fun hσ26 => ?_
      refine r_ifB_ne (pc := 73) (tgt := 78) dX2_readHead_73 rfl (fun hc => ?_) (fun hc => ?_)
      · replace hr := ite_t hc hr
        refine r_aload_n (pc := 78) (j := 1) dX2_readHead_78 rfl rfl ?_
        refine r_aload_n (pc := 79) (j := 0) dX2_readHead_79 rfl rfl ?_
        refine gf2_6 (pc := 80) tw_1_150 rfl dX2_readHead_80 ?_
        refine pf1_3 (pc := 83) tw_1_70 hs1 dX2_readHead_83 fun σ27 eσ27 => ?_
        replace hr := vthen_inv hr σ27 eσ27
        have hσ27 := wtI eσ27 hσ26
        refine r_aload_n (pc := 86) (j := 0) dX2_readHead_86 rfl rfl ?_
        refine r_iconst (pc := 87) (v := (1 : Int32)) dX2_readHead_87 rfl ?_
        refine r_bipush (pc := 88) (v := (6 : Int32)) dX2_readHead_88 rfl ?_
        obtain ⟨b29, σ31, eσ31, hr⟩ := bnd_inv hr
        refine kX2_takeNumber (pc := 90) eσ31 tw_4_2 ⟨nle rfl, nle rfl⟩ (nle rfl) dX2_readHead_90 fun hσ31 => ?_
        refine r_ifB_ne (pc := 93) (tgt := 98) dX2_readHead_93 rfl (fun hc => ?_) (fun hc => ?_)
        · replace hr := ite_t hc hr
          refine r_aload_n (pc := 98) (j := 1) dX2_readHead_98 rfl rfl ?_
          refine r_aload_n (pc := 99) (j := 0) dX2_readHead_99 rfl rfl ?_
          refine gf2_6 (pc := 100) tw_1_150 rfl dX2_readHead_100 ?_
          refine pf1_4 (pc := 103) tw_1_74 hs1 dX2_readHead_103 fun σ32 eσ32 => ?_
          replace hr := vthen_inv hr σ32 eσ32
          have hσ32 := wtI eσ32 hσ31
          refine r_aload_n (pc := 106) (j := 0) dX2_readHead_106 rfl rfl ?_
          refine r_iconst (pc := 107) (v := (4 : Int32)) dX2_readHead_107 rfl ?_
          obtain ⟨b34, σ36, eσ36, hr⟩ := bnd_inv hr
          refine kX2_takeSign (pc := 108) eσ36 tw_4_10 ⟨nle rfl, nle rfl⟩ (nle rfl) dX2_readHead_108 fun hσ36 => ?_
          exact l_osz hr (r_zret (pc := 111) (v := b2i b34) (ty := .boolean) rfl (b2i_nar _) rfl ⟨Nat.le_refl _, Nat.le_refl _⟩ dX2_readHead_111)
        replace hr := ite_f hc hr
        refine r_iconst (pc := 96) (v := (0 : Int32)) dX2_readHead_96 rfl ?_
        exact l_osz hr (r_zret (pc := 97) (v := b2i false) (ty := .boolean) rfl (b2i_nar _) rfl ⟨Nat.le_refl _, Nat.le_refl _⟩ dX2_readHead_97)
      replace hr := ite_f hc hr
      refine r_iconst (pc := 76) (v := (0 : Int32)) dX2_readHead_76 rfl ?_
      exact l_osz hr (r_zret (pc := 77) (v := b2i false) (ty := .boolean) rfl (b2i_nar _) rfl ⟨Nat.le_refl _, Nat.le_refl _⟩ dX2_readHead_77)
    replace hr := ite_f hc hr
    refine r_iconst (pc := 39) (v := (0 : Int32)) dX2_readHead_39 rfl ?_
    exact l_osz hr (r_zret (pc := 40) (v := b2i false) (ty := .boolean) rfl (b2i_nar _) rfl ⟨Nat.le_refl _, Nat.le_refl _⟩ dX2_readHead_40)
  replace hr := ite_f hc hr
  refine r_iconst (pc := 19) (v := (0 : Int32)) dX2_readHead_19 rfl ?_
  exact l_osz hr (r_zret (pc := 20) (v := b2i false) (ty := .boolean) rfl (b2i_nar _) rfl ⟨Nat.le_refl _, Nat.le_refl _⟩ dX2_readHead_20)

theorem kX2_readHead {g : GG} {σ : SS} {a1 : Nat} {v : Bool} {σ2 : SS} {M : MM} {F : State → Array Value → List Frame → State → Prop} {pc index : Nat} {ls : List (Nat × Value)} {rest : List Value} (hf : fX2_readHead σ a1 = some (v, σ2)) (hs1 : shp a1 = (1, 0)) (hl : Cond.methodLink M.1.cls index yX2_readHead ∈ lw_gt) (hR : mX2_readHead.2.2.2.2.frames + 1 ≤ M.2.2.2.2.frames ∧ 8 + (mX2_readHead.2.2.1 + 11) + mX2_readHead.2.2.2.2.locals ≤ M.2.2.2.2.locals) (hrest : (rest.map fun v => v.category).sum ≤ 8) (hd : decode M.2.1 pc = .ok (.invokevirtual index, 3)) (k : WT σ2 → RR g M F zF (pc + 3) ls (.int (b2i v) :: rest) σ2) : RR g M F zF pc ls (.ref (ad g a1) :: .ref (ad g 26) :: rest) σ :=
  r_callV (z := zF) (N := mX2_readHead) (nn := 1) (o1 := some (.int (b2i v))) (sX2_readHead hf hs1) (rfl : shp 26 = (2, 0)) (by decide) (shp_le (rfl : shp 26 = (2, 0)) (nle rfl)) (ci := 2) rfl rfl tw_3_180 tw_1_4 hl tw_3_179 tp_15 ⟨by decide, by decide, rfl⟩ hR rfl hrest hd ⟨Nat.zero_le _, Nat.zero_le _⟩ rfl (fun h => k (h rfl))

theorem dX1_addQuestion_0 : decode cX1_addQuestion 0 = .ok (.aload_n 0, 1) := by decide +kernel
theorem dX1_addQuestion_1 : decode cX1_addQuestion 1 = .ok (.getfield 51, 3) := by decide +kernel
theorem dX1_addQuestion_4 : decode cX1_addQuestion 4 = .ok (.bipush 12, 2) := by decide +kernel
theorem dX1_addQuestion_6 : decode cX1_addQuestion 6 = .ok (.if_icmp .ge 66, 3) := by decide +kernel
theorem dX1_addQuestion_9 : decode cX1_addQuestion 9 = .ok (.aload_n 0, 1) := by decide +kernel
theorem dX1_addQuestion_10 : decode cX1_addQuestion 10 = .ok (.getfield 9, 3) := by decide +kernel
theorem dX1_addQuestion_13 : decode cX1_addQuestion 13 = .ok (.aload_n 0, 1) := by decide +kernel
theorem dX1_addQuestion_14 : decode cX1_addQuestion 14 = .ok (.getfield 51, 3) := by decide +kernel
theorem dX1_addQuestion_17 : decode cX1_addQuestion 17 = .ok (.iload_n 1, 1) := by decide +kernel
theorem dX1_addQuestion_18 : decode cX1_addQuestion 18 = .ok (.bastore, 1) := by decide +kernel
theorem dX1_addQuestion_19 : decode cX1_addQuestion 19 = .ok (.aload_n 0, 1) := by decide +kernel
theorem dX1_addQuestion_20 : decode cX1_addQuestion 20 = .ok (.getfield 15, 3) := by decide +kernel
theorem dX1_addQuestion_23 : decode cX1_addQuestion 23 = .ok (.aload_n 0, 1) := by decide +kernel
theorem dX1_addQuestion_24 : decode cX1_addQuestion 24 = .ok (.getfield 51, 3) := by decide +kernel
theorem dX1_addQuestion_27 : decode cX1_addQuestion 27 = .ok (.aload_n 0, 1) := by decide +kernel
theorem dX1_addQuestion_28 : decode cX1_addQuestion 28 = .ok (.getfield 54, 3) := by decide +kernel
theorem dX1_addQuestion_31 : decode cX1_addQuestion 31 = .ok (.iastore, 1) := by decide +kernel
theorem dX1_addQuestion_32 : decode cX1_addQuestion 32 = .ok (.aload_n 0, 1) := by decide +kernel
theorem dX1_addQuestion_33 : decode cX1_addQuestion 33 = .ok (.getfield 19, 3) := by decide +kernel
theorem dX1_addQuestion_36 : decode cX1_addQuestion 36 = .ok (.aload_n 0, 1) := by decide +kernel
theorem dX1_addQuestion_37 : decode cX1_addQuestion 37 = .ok (.getfield 51, 3) := by decide +kernel
theorem dX1_addQuestion_40 : decode cX1_addQuestion 40 = .ok (.iconst 0, 1) := by decide +kernel
theorem dX1_addQuestion_41 : decode cX1_addQuestion 41 = .ok (.iastore, 1) := by decide +kernel
theorem dX1_addQuestion_42 : decode cX1_addQuestion 42 = .ok (.aload_n 0, 1) := by decide +kernel
theorem dX1_addQuestion_43 : decode cX1_addQuestion 43 = .ok (.getfield 22, 3) := by decide +kernel
theorem dX1_addQuestion_46 : decode cX1_addQuestion 46 = .ok (.aload_n 0, 1) := by decide +kernel
theorem dX1_addQuestion_47 : decode cX1_addQuestion 47 = .ok (.getfield 51, 3) := by decide +kernel
theorem dX1_addQuestion_50 : decode cX1_addQuestion 50 = .ok (.iconst 0, 1) := by decide +kernel
theorem dX1_addQuestion_51 : decode cX1_addQuestion 51 = .ok (.iastore, 1) := by decide +kernel
theorem dX1_addQuestion_52 : decode cX1_addQuestion 52 = .ok (.aload_n 0, 1) := by decide +kernel
theorem dX1_addQuestion_53 : decode cX1_addQuestion 53 = .ok (.getfield 25, 3) := by decide +kernel
theorem dX1_addQuestion_56 : decode cX1_addQuestion 56 = .ok (.aload_n 0, 1) := by decide +kernel
theorem dX1_addQuestion_57 : decode cX1_addQuestion 57 = .ok (.getfield 51, 3) := by decide +kernel
theorem dX1_addQuestion_60 : decode cX1_addQuestion 60 = .ok (.iconst 1, 1) := by decide +kernel
theorem dX1_addQuestion_61 : decode cX1_addQuestion 61 = .ok (.iastore, 1) := by decide +kernel
theorem dX1_addQuestion_62 : decode cX1_addQuestion 62 = .ok (.aload_n 0, 1) := by decide +kernel
theorem dX1_addQuestion_63 : decode cX1_addQuestion 63 = .ok (.dup, 1) := by decide +kernel
theorem dX1_addQuestion_64 : decode cX1_addQuestion 64 = .ok (.getfield 51, 3) := by decide +kernel
theorem dX1_addQuestion_67 : decode cX1_addQuestion 67 = .ok (.iconst 1, 1) := by decide +kernel
theorem dX1_addQuestion_68 : decode cX1_addQuestion 68 = .ok (.iadd, 1) := by decide +kernel
theorem dX1_addQuestion_69 : decode cX1_addQuestion 69 = .ok (.putfield 51, 3) := by decide +kernel
theorem dX1_addQuestion_72 : decode cX1_addQuestion 72 = .ok (.return_, 1) := by decide +kernel
def mX1_addQuestion : MM := (yX1_addQuestion, cX1_addQuestion, 2, none, { frames := 0, cells := 0, slots := 0, locals := 0 })
def fX1_addQuestion (σ : SS) (a0 : Nat) (a1 : Bool) : Option SS :=
  if (12 : Int32) ≤ (gI σ a0 5) then (
    some σ
    ) else (
    grd (inb (gI σ a0 5) 12) <|
    vthen (sI σ (a0 + 1) (Int32.toNatClampNeg (gI σ a0 5)) (b2i a1)) fun σ2 =>
    grd (inb (gI σ2 a0 5) 12) <|
    vthen (sI σ2 (a0 + 2) (Int32.toNatClampNeg (gI σ2 a0 5)) (gI σ2 a0 6)) fun σ4 =>
    grd (inb (gI σ4 a0 5) 12) <|
    vthen (sI σ4 (a0 + 3) (Int32.toNatClampNeg (gI σ4 a0 5)) (0 : Int32)) fun σ6 =>
    grd (inb (gI σ6 a0 5) 12) <|
    vthen (sI σ6 (a0 + 4) (Int32.toNatClampNeg (gI σ6 a0 5)) (0 : Int32)) fun σ8 =>
    grd (inb (gI σ8 a0 5) 12) <|
    vthen (sI σ8 (a0 + 5) (Int32.toNatClampNeg (gI σ8 a0 5)) (1 : Int32)) fun σ10 =>
    vthen (sI σ10 a0 5 ((gI σ10 a0 5) + (1 : Int32))) fun σ11 =>
    some σ11
    )

set_option maxRecDepth 20000 in
theorem sX1_addQuestion {g : GG} {σ : SS} {a0 : Nat} {a1 : Bool} {r : SS} (hr : fX1_addQuestion σ a0 a1 = some r) (hs0 : shp a0 = (1, 0)) : Ct g mX1_addQuestion [.ref (ad g a0), .int (b2i a1)] NF σ none NF r := by
  refine Ct.of (by decide +kernel) (nle rfl) fun hw0 => ?_
  have hw := hw0 rfl
  unfold fX1_addQuestion at hr
  change RR g mX1_addQuestion (FinR g mX1_addQuestion none NF r) zF 0 [(0, .ref (ad g a0)), (1, .int (b2i a1))] [] σ
  refine r_aload_n (pc := 0) (j := 0) dX1_addQuestion_0 rfl rfl ?_
  refine gf1_5 (pc := 1) tw_1_77 hs0 dX1_addQuestion_1 ?_
  refine r_bipush (pc := 4) (v := (12 : Int32)) dX1_addQuestion_4 rfl ?_
  refine r_icmp_ge (pc := 6) (tgt := 72) dX1_addQuestion_6 rfl (fun hc => ?_) (fun hc => ?_)
  · replace hr := ite_t hc hr
    exact l_ov hr (r_vret (pc := 72) rfl rfl ⟨Nat.le_refl _, Nat.le_refl _⟩ dX1_addQuestion_72)
  replace hr := ite_f hc hr
  refine r_aload_n (pc := 9) (j := 0) dX1_addQuestion_9 rfl rfl ?_
  refine gf1_7 (pc := 10) tw_1_84 hw hs0 dX1_addQuestion_10 ?_
  refine r_aload_n (pc := 13) (j := 0) dX1_addQuestion_13 rfl rfl ?_
  refine gf1_5 (pc := 14) tw_1_77 hs0 dX1_addQuestion_14 ?_
  refine r_iload_n (pc := 17) (j := 1) dX1_addQuestion_17 rfl rfl ?_
  obtain ⟨h1, hr⟩ := grd_inv hr
  refine x_zast (pc := 18) (j := (Int32.toNatClampNeg (gI σ a0 5))) (sh1_7 hs0) h1 rfl (isb_b2i _) dX1_addQuestion_18 fun σ2 eσ2 => ?_
  replace hr := vthen_inv hr σ2 eσ2
  have hσ2 := wtI eσ2 hw
  refine r_aload_n (pc := 19) (j := 0) dX1_addQuestion_19 rfl rfl ?_
  refine gf1_8 (pc := 20) tw_1_87 hσ2 hs0 dX1_addQuestion_20 ?_
  refine r_aload_n (pc := 23) (j := 0) dX1_addQuestion_23 rfl rfl ?_
  refine gf1_5 (pc := 24) tw_1_77 hs0 dX1_addQuestion_24 ?_
  refine r_aload_n (pc := 27) (j := 0) dX1_addQuestion_27 rfl rfl ?_
  refine gf1_6 (pc := 28) tw_1_81 hs0 dX1_addQuestion_28 ?_
  obtain ⟨h3, hr⟩ := grd_inv hr
  refine x_iast (pc := 31) (j := (Int32.toNatClampNeg (gI σ2 a0 5))) (sh1_8 hs0) h3 rfl dX1_addQuestion_31 fun σ4 eσ4 => ?_
  replace hr := vthen_inv hr σ4 eσ4
  have hσ4 := wtI eσ4 hσ2
  refine r_aload_n (pc := 32) (j := 0) dX1_addQuestion_32 rfl rfl ?_
  refine gf1_9 (pc := 33) tw_1_90 hσ4 hs0 dX1_addQuestion_33 ?_
  refine r_aload_n (pc := 36) (j := 0) dX1_addQuestion_36 rfl rfl ?_
  refine gf1_5 (pc := 37) tw_1_77 hs0 dX1_addQuestion_37 ?_
  refine r_iconst (pc := 40) (v := (0 : Int32)) dX1_addQuestion_40 rfl ?_
  obtain ⟨h5, hr⟩ := grd_inv hr
  refine x_iast (pc := 41) (j := (Int32.toNatClampNeg (gI σ4 a0 5))) (sh1_9 hs0) h5 rfl dX1_addQuestion_41 fun σ6 eσ6 => ?_
  replace hr := vthen_inv hr σ6 eσ6
  have hσ6 := wtI eσ6 hσ4
  refine r_aload_n (pc := 42) (j := 0) dX1_addQuestion_42 rfl rfl ?_
  refine gf1_10 (pc := 43) tw_1_94 hσ6 hs0 dX1_addQuestion_43 ?_
  refine r_aload_n (pc := 46) (j := 0) dX1_addQuestion_46 rfl rfl ?_
  refine gf1_5 (pc := 47) tw_1_77 hs0 dX1_addQuestion_47 ?_
  refine r_iconst (pc := 50) (v := (0 : Int32)) dX1_addQuestion_50 rfl ?_
  obtain ⟨h7, hr⟩ := grd_inv hr
  refine x_iast (pc := 51) (j := (Int32.toNatClampNeg (gI σ6 a0 5))) (sh1_10 hs0) h7 rfl dX1_addQuestion_51 fun σ8 eσ8 => ?_
  replace hr := vthen_inv hr σ8 eσ8
  have hσ8 := wtI eσ8 hσ6
  refine r_aload_n (pc := 52) (j := 0) dX1_addQuestion_52 rfl rfl ?_
  refine gf1_11 (pc := 53) tw_1_98 hσ8 hs0 dX1_addQuestion_53 ?_
  refine r_aload_n (pc := 56) (j := 0) dX1_addQuestion_56 rfl rfl ?_
  refine gf1_5 (pc := 57) tw_1_77 hs0 dX1_addQuestion_57 ?_
  refine r_iconst (pc := 60) (v := (1 : Int32)) dX1_addQuestion_60 rfl ?_
  obtain ⟨h9, hr⟩ := grd_inv hr
  refine x_iast (pc := 61) (j := (Int32.toNatClampNeg (gI σ8 a0 5))) (sh1_11 hs0) h9 rfl dX1_addQuestion_61 fun σ10 eσ10 => ?_
  replace hr := vthen_inv hr σ10 eσ10
  have hσ10 := wtI eσ10 hσ8
  refine r_aload_n (pc := 62) (j := 0) dX1_addQuestion_62 rfl rfl ?_
  refine r_dup (pc := 63) dX1_addQuestion_63 rfl ?_
  refine gf1_5 (pc := 64) tw_1_77 hs0 dX1_addQuestion_64 ?_
  refine r_iconst (pc := 67) (v := (1 : Int32)) dX1_addQuestion_67 rfl ?_
  refine r_iadd (pc := 68) dX1_addQuestion_68 ?_
  refine pf1_5 (pc := 69) tw_1_77 hs0 dX1_addQuestion_69 fun σ11 eσ11 => ?_
  replace hr := vthen_inv hr σ11 eσ11
  have hσ11 := wtI eσ11 hσ10
  exact l_ov hr (r_vret (pc := 72) rfl rfl ⟨Nat.le_refl _, Nat.le_refl _⟩ dX1_addQuestion_72)

theorem kX1_addQuestion {g : GG} {σ : SS} {a0 : Nat} {a1 : Bool} {σ2 : SS} {M : MM} {F : State → Array Value → List Frame → State → Prop} {pc index : Nat} {ls : List (Nat × Value)} {rest : List Value} (hf : fX1_addQuestion σ a0 a1 = some σ2) (hs0 : shp a0 = (1, 0)) (hl : Cond.methodLink M.1.cls index yX1_addQuestion ∈ lw_gt) (hR : mX1_addQuestion.2.2.2.2.frames + 1 ≤ M.2.2.2.2.frames ∧ 8 + (mX1_addQuestion.2.2.1 + 11) + mX1_addQuestion.2.2.2.2.locals ≤ M.2.2.2.2.locals) (hrest : (rest.map fun v => v.category).sum ≤ 8) (hd : decode M.2.1 pc = .ok (.invokevirtual index, 3)) (k : WT σ2 → RR g M F zF (pc + 3) ls rest σ2) : RR g M F zF pc ls (.int (b2i a1) :: .ref (ad g a0) :: rest) σ :=
  r_callV (z := zF) (N := mX1_addQuestion) (nn := 1) (o1 := none) (sX1_addQuestion hf hs0) hs0 (by decide) (shp_le hs0 (nle rfl)) (ci := 1) rfl rfl tw_4_24 tw_1_3 hl tw_4_22 tw_4_23 ⟨by decide, by decide, rfl⟩ hR rfl hrest hd ⟨Nat.zero_le _, Nat.zero_le _⟩ rfl (fun h => k (h rfl))

theorem dX1_isCovered_0 : decode cX1_isCovered 0 = .ok (.iconst 0, 1) := by decide +kernel
theorem dX1_isCovered_1 : decode cX1_isCovered 1 = .ok (.istore_n 3, 1) := by decide +kernel
theorem dX1_isCovered_2 : decode cX1_isCovered 2 = .ok (.iload_n 3, 1) := by decide +kernel
theorem dX1_isCovered_3 : decode cX1_isCovered 3 = .ok (.aload_n 0, 1) := by decide +kernel
theorem dX1_isCovered_4 : decode cX1_isCovered 4 = .ok (.getfield 54, 3) := by decide +kernel
theorem dX1_isCovered_7 : decode cX1_isCovered 7 = .ok (.if_icmp .ge 47, 3) := by decide +kernel
theorem dX1_isCovered_10 : decode cX1_isCovered 10 = .ok (.aload_n 0, 1) := by decide +kernel
theorem dX1_isCovered_11 : decode cX1_isCovered 11 = .ok (.getfield 28, 3) := by decide +kernel
theorem dX1_isCovered_14 : decode cX1_isCovered 14 = .ok (.iload_n 3, 1) := by decide +kernel
theorem dX1_isCovered_15 : decode cX1_isCovered 15 = .ok (.iaload, 1) := by decide +kernel
theorem dX1_isCovered_16 : decode cX1_isCovered 16 = .ok (.iload_n 1, 1) := by decide +kernel
theorem dX1_isCovered_17 : decode cX1_isCovered 17 = .ok (.isub, 1) := by decide +kernel
theorem dX1_isCovered_18 : decode cX1_isCovered 18 = .ok (.invokestatic 61, 3) := by decide +kernel
theorem dX1_isCovered_21 : decode cX1_isCovered 21 = .ok (.aload_n 0, 1) := by decide +kernel
theorem dX1_isCovered_22 : decode cX1_isCovered 22 = .ok (.getfield 45, 3) := by decide +kernel
theorem dX1_isCovered_25 : decode cX1_isCovered 25 = .ok (.if_icmp .ge 23, 3) := by decide +kernel
theorem dX1_isCovered_28 : decode cX1_isCovered 28 = .ok (.aload_n 0, 1) := by decide +kernel
theorem dX1_isCovered_29 : decode cX1_isCovered 29 = .ok (.getfield 31, 3) := by decide +kernel
theorem dX1_isCovered_32 : decode cX1_isCovered 32 = .ok (.iload_n 3, 1) := by decide +kernel
theorem dX1_isCovered_33 : decode cX1_isCovered 33 = .ok (.iaload, 1) := by decide +kernel
theorem dX1_isCovered_34 : decode cX1_isCovered 34 = .ok (.iload_n 2, 1) := by decide +kernel
theorem dX1_isCovered_35 : decode cX1_isCovered 35 = .ok (.isub, 1) := by decide +kernel
theorem dX1_isCovered_36 : decode cX1_isCovered 36 = .ok (.invokestatic 61, 3) := by decide +kernel
theorem dX1_isCovered_39 : decode cX1_isCovered 39 = .ok (.aload_n 0, 1) := by decide +kernel
theorem dX1_isCovered_40 : decode cX1_isCovered 40 = .ok (.getfield 48, 3) := by decide +kernel
theorem dX1_isCovered_43 : decode cX1_isCovered 43 = .ok (.if_icmp .ge 5, 3) := by decide +kernel
theorem dX1_isCovered_46 : decode cX1_isCovered 46 = .ok (.iconst 1, 1) := by decide +kernel
theorem dX1_isCovered_47 : decode cX1_isCovered 47 = .ok (.ireturn, 1) := by decide +kernel
theorem dX1_isCovered_48 : decode cX1_isCovered 48 = .ok (.iinc 3 1, 3) := by decide +kernel
theorem dX1_isCovered_51 : decode cX1_isCovered 51 = .ok (.goto (-49), 3) := by decide +kernel
theorem dX1_isCovered_54 : decode cX1_isCovered 54 = .ok (.iconst 0, 1) := by decide +kernel
theorem dX1_isCovered_55 : decode cX1_isCovered 55 = .ok (.ireturn, 1) := by decide +kernel
def mX1_isCovered : MM := (yX1_isCovered, cX1_isCovered, 4, Option.some Jvm.ClassFile.FieldType.boolean, { frames := 1, cells := 0, slots := 0, locals := 21 })
def X1_isCovered_L2 (σ_ : SS) (o0_ : Nat) (u1_ : Int32) (u2_ : Int32)  : Nat → Int32 → Option Bool :=
  lp (fun _ => none) fun rec v3_ =>
    if (gI σ_ o0_ 6) ≤ v3_ then (
      some false
      ) else (
      grd (inb v3_ 72) <|
      if (gI σ_ o0_ 3) ≤ (fJ9_abs_0f7a4 σ_ ((gI σ_ (o0_ + 6) (Int32.toNatClampNeg v3_)) - u1_)) then (
        rec (v3_ + (1 : Int32))
        ) else (
        if (gI σ_ o0_ 4) ≤ (fJ9_abs_0f7a4 σ_ ((gI σ_ (o0_ + 7) (Int32.toNatClampNeg v3_)) - u2_)) then (
          rec (v3_ + (1 : Int32))
          ) else (
          some true
          )
        )
      )

def fX1_isCovered (σ0 : SS) (a0 : Nat) (a1 : Int32) (a2 : Int32) : Option Bool :=
  X1_isCovered_L2 σ0 a0 a1 a2
  fuel (0 : Int32)

set_option maxRecDepth 20000 in
theorem sX1_isCovered_L2 {g : GG} {r : Bool} {σ_ : SS} {σ0 : SS} {o0_ : Nat} {u1_ : Int32} {u2_ : Int32}  (hs0_ : shp o0_ = (1, 0))
    (hw_ : WT σ_)
    (h0_ : σ_ = σ0)
    (n : Nat) : ∀ (v3_ : Int32), X1_isCovered_L2 σ_ o0_ u1_ u2_ n v3_ = some r → RR g mX1_isCovered (FinR g mX1_isCovered (some (.int (b2i r))) NF σ0) zF 2 [(0, .ref (ad g o0_)), (1, .int u1_), (2, .int u2_), (3, .int v3_)] [] σ_ := by
  unfold X1_isCovered_L2
  refine lp_ind (P := fun (rec : Int32 → Option Bool) => ∀ (v3_ : Int32), rec v3_ = some r → RR g mX1_isCovered (FinR g mX1_isCovered (some (.int (b2i r))) NF σ0) zF 2 [(0, .ref (ad g o0_)), (1, .int u1_), (2, .int u2_), (3, .int v3_)] [] σ_) ?_ ?_ n
  · intro v3_ hr; cases hr
  intro rec ih v3_ hr
  subst h0_
  refine r_iload_n (pc := 2) (j := 3) dX1_isCovered_2 rfl rfl ?_
  refine r_aload_n (pc := 3) (j := 0) dX1_isCovered_3 rfl rfl ?_
  refine gf1_6 (pc := 4) tw_1_81 hs0_ dX1_isCovered_4 ?_
  refine r_icmp_ge (pc := 7) (tgt := 54) dX1_isCovered_7 rfl (fun hc => ?_) (fun hc => ?_)
  · replace hr := ite_t hc hr
    refine r_iconst (pc := 54) (v := (0 : Int32)) dX1_isCovered_54 rfl ?_
    exact l_opz hr (r_zret (pc := 55) (v := b2i false) (ty := .boolean) rfl (b2i_nar _) rfl ⟨Nat.le_refl _, Nat.le_refl _⟩ dX1_isCovered_55)
  replace hr := ite_f hc hr
  refine r_aload_n (pc := 10) (j := 0) dX1_isCovered_10 rfl rfl ?_
  refine gf1_12 (pc := 11) tw_1_102 hw_ hs0_ dX1_isCovered_11 ?_
  refine r_iload_n (pc := 14) (j := 3) dX1_isCovered_14 rfl rfl ?_
  obtain ⟨h1, hr⟩ := grd_inv hr
  refine x_iald (pc := 15) (k := (Int32.toNatClampNeg v3_)) (sh1_12 hs0_) h1 rfl dX1_isCovered_15 ?_
  refine r_iload_n (pc := 16) (j := 1) dX1_isCovered_16 rfl rfl ?_
  refine r_isub (pc := 17) dX1_isCovered_17 ?_
  refine kJ9_abs_0f7a4 (pc := 18) (hf := rfl) tw_4_37 ⟨nle rfl, nle rfl⟩ (nle rfl) dX1_isCovered_18 ?_
  refine r_aload_n (pc := 21) (j := 0) dX1_isCovered_21 rfl rfl ?_
  refine gf1_3 (pc := 22) tw_1_69 hs0_ dX1_isCovered_22 ?_
  refine r_icmp_ge (pc := 25) (tgt := 48) dX1_isCovered_25 rfl (fun hc => ?_) (fun hc => ?_)
  · replace hr := ite_t hc hr
    refine r_iinc (pc := 48) (j := 3) (v := (v3_ + (1 : Int32))) (ls1 := [(3, .int (v3_ + (1 : Int32))), (0, .ref (ad g o0_)), (1, .int u1_), (2, .int u2_)]) dX1_isCovered_48 rfl rfl (nle rfl) rfl ?_
    refine r_goto (pc := 51) (tgt := 2) dX1_isCovered_51 rfl ?_
    exact r_pick (ls1 := [(0, .ref (ad g o0_)), (1, .int u1_), (2, .int u2_), (3, .int (v3_ + (1 : Int32)))]) [1, 2, 3, 0] rfl (ih (v3_ + (1 : Int32)) hr)
  replace hr := ite_f hc hr
  refine r_aload_n (pc := 28) (j := 0) dX1_isCovered_28 rfl rfl ?_
  refine gf1_13 (pc := 29) tw_1_105 hw_ hs0_ dX1_isCovered_29 ?_
  refine r_iload_n (pc := 32) (j := 3) dX1_isCovered_32 rfl rfl ?_
  refine x_iald (pc := 33) (k := (Int32.toNatClampNeg v3_)) (sh1_13 hs0_) h1 rfl dX1_isCovered_33 ?_
  refine r_iload_n (pc := 34) (j := 2) dX1_isCovered_34 rfl rfl ?_
  refine r_isub (pc := 35) dX1_isCovered_35 ?_
  refine kJ9_abs_0f7a4 (pc := 36) (hf := rfl) tw_4_37 ⟨nle rfl, nle rfl⟩ (nle rfl) dX1_isCovered_36 ?_
  refine r_aload_n (pc := 39) (j := 0) dX1_isCovered_39 rfl rfl ?_
  refine gf1_4 (pc := 40) tw_1_73 hs0_ dX1_isCovered_40 ?_
  refine r_icmp_ge (pc := 43) (tgt := 48) dX1_isCovered_43 rfl (fun hc => ?_) (fun hc => ?_)
  · replace hr := ite_t hc hr
    refine r_iinc (pc := 48) (j := 3) (v := (v3_ + (1 : Int32))) (ls1 := [(3, .int (v3_ + (1 : Int32))), (0, .ref (ad g o0_)), (1, .int u1_), (2, .int u2_)]) dX1_isCovered_48 rfl rfl (nle rfl) rfl ?_
    refine r_goto (pc := 51) (tgt := 2) dX1_isCovered_51 rfl ?_
    exact r_pick (ls1 := [(0, .ref (ad g o0_)), (1, .int u1_), (2, .int u2_), (3, .int (v3_ + (1 : Int32)))]) [1, 2, 3, 0] rfl (ih (v3_ + (1 : Int32)) hr)
  replace hr := ite_f hc hr
  refine r_iconst (pc := 46) (v := (1 : Int32)) dX1_isCovered_46 rfl ?_
  exact l_opz hr (r_zret (pc := 47) (v := b2i true) (ty := .boolean) rfl (b2i_nar _) rfl ⟨Nat.le_refl _, Nat.le_refl _⟩ dX1_isCovered_47)

set_option maxRecDepth 20000 in
theorem sX1_isCovered {g : GG} {σ0 : SS} {a0 : Nat} {a1 : Int32} {a2 : Int32} {r : Bool} (hr : fX1_isCovered σ0 a0 a1 a2 = some r) (hs0 : shp a0 = (1, 0)) : Ct g mX1_isCovered [.ref (ad g a0), .int a1, .int a2] NF σ0 (some (.int (b2i r))) NF σ0 := by
  refine Ct.of (by decide +kernel) (nle rfl) fun hw0 => ?_
  have hw := hw0 rfl
  unfold fX1_isCovered at hr
  change RR g mX1_isCovered (FinR g mX1_isCovered (some (.int (b2i r))) NF σ0) zF 0 [(0, .ref (ad g a0)), (1, .int a1), (2, .int a2)] [] σ0
  refine r_iconst (pc := 0) (v := (0 : Int32)) dX1_isCovered_0 rfl ?_
  refine r_istore_n (pc := 1) (ls1 := [(3, .int (0 : Int32)), (0, .ref (ad g a0)), (1, .int a1), (2, .int a2)]) dX1_isCovered_1 rfl (nle rfl) rfl ?_
  refine r_pick (ls1 := [(0, .ref (ad g a0)), (1, .int a1), (2, .int a2), (3, .int (0 : Int32))]) [1, 2, 3, 0] rfl ?_
  refine sX1_isCovered_L2 hs0 hw rfl  fuel (0 : Int32) hr

theorem kX1_isCovered {g : GG} {σ0 : SS} {a0 : Nat} {a1 : Int32} {a2 : Int32} {v : Bool} {M : MM} {F : State → Array Value → List Frame → State → Prop} {pc index : Nat} {ls : List (Nat × Value)} {rest : List Value} (hf : fX1_isCovered σ0 a0 a1 a2 = some v) (hs0 : shp a0 = (1, 0)) (hl : Cond.methodLink M.1.cls index yX1_isCovered ∈ lw_gt) (hR : mX1_isCovered.2.2.2.2.frames + 1 ≤ M.2.2.2.2.frames ∧ 8 + (mX1_isCovered.2.2.1 + 11) + mX1_isCovered.2.2.2.2.locals ≤ M.2.2.2.2.locals) (hrest : (rest.map fun v => v.category).sum ≤ 8) (hd : decode M.2.1 pc = .ok (.invokevirtual index, 3)) (k : RR g M F zF (pc + 3) ls (.int (b2i v) :: rest) σ0) : RR g M F zF pc ls (.int a2 :: .int a1 :: .ref (ad g a0) :: rest) σ0 :=
  r_callV (z := zF) (N := mX1_isCovered) (nn := 2) (o1 := some (.int (b2i v))) (sX1_isCovered hf hs0) hs0 (by decide) (shp_le hs0 (nle rfl)) (ci := 1) rfl rfl tw_4_36 tw_1_3 hl tw_4_34 tw_4_35 ⟨by decide, by decide, rfl⟩ hR rfl hrest hd ⟨Nat.zero_le _, Nat.zero_le _⟩ rfl (fun h => k)

theorem dX1_addBox_0 : decode cX1_addBox 0 = .ok (.aload_n 0, 1) := by decide +kernel
theorem dX1_addBox_1 : decode cX1_addBox 1 = .ok (.getfield 51, 3) := by decide +kernel
theorem dX1_addBox_4 : decode cX1_addBox 4 = .ok (.ifCond .le 57, 3) := by decide +kernel
theorem dX1_addBox_7 : decode cX1_addBox 7 = .ok (.aload_n 0, 1) := by decide +kernel
theorem dX1_addBox_8 : decode cX1_addBox 8 = .ok (.getfield 54, 3) := by decide +kernel
theorem dX1_addBox_11 : decode cX1_addBox 11 = .ok (.bipush 72, 2) := by decide +kernel
theorem dX1_addBox_13 : decode cX1_addBox 13 = .ok (.if_icmp .ge 48, 3) := by decide +kernel
theorem dX1_addBox_16 : decode cX1_addBox 16 = .ok (.aload_n 0, 1) := by decide +kernel
theorem dX1_addBox_17 : decode cX1_addBox 17 = .ok (.getfield 28, 3) := by decide +kernel
theorem dX1_addBox_20 : decode cX1_addBox 20 = .ok (.aload_n 0, 1) := by decide +kernel
theorem dX1_addBox_21 : decode cX1_addBox 21 = .ok (.getfield 54, 3) := by decide +kernel
theorem dX1_addBox_24 : decode cX1_addBox 24 = .ok (.iload_n 1, 1) := by decide +kernel
theorem dX1_addBox_25 : decode cX1_addBox 25 = .ok (.iastore, 1) := by decide +kernel
theorem dX1_addBox_26 : decode cX1_addBox 26 = .ok (.aload_n 0, 1) := by decide +kernel
theorem dX1_addBox_27 : decode cX1_addBox 27 = .ok (.getfield 31, 3) := by decide +kernel
theorem dX1_addBox_30 : decode cX1_addBox 30 = .ok (.aload_n 0, 1) := by decide +kernel
theorem dX1_addBox_31 : decode cX1_addBox 31 = .ok (.getfield 54, 3) := by decide +kernel
theorem dX1_addBox_34 : decode cX1_addBox 34 = .ok (.iload_n 2, 1) := by decide +kernel
theorem dX1_addBox_35 : decode cX1_addBox 35 = .ok (.iastore, 1) := by decide +kernel
theorem dX1_addBox_36 : decode cX1_addBox 36 = .ok (.aload_n 0, 1) := by decide +kernel
theorem dX1_addBox_37 : decode cX1_addBox 37 = .ok (.dup, 1) := by decide +kernel
theorem dX1_addBox_38 : decode cX1_addBox 38 = .ok (.getfield 54, 3) := by decide +kernel
theorem dX1_addBox_41 : decode cX1_addBox 41 = .ok (.iconst 1, 1) := by decide +kernel
theorem dX1_addBox_42 : decode cX1_addBox 42 = .ok (.iadd, 1) := by decide +kernel
theorem dX1_addBox_43 : decode cX1_addBox 43 = .ok (.putfield 54, 3) := by decide +kernel
theorem dX1_addBox_46 : decode cX1_addBox 46 = .ok (.aload_n 0, 1) := by decide +kernel
theorem dX1_addBox_47 : decode cX1_addBox 47 = .ok (.getfield 19, 3) := by decide +kernel
theorem dX1_addBox_50 : decode cX1_addBox 50 = .ok (.aload_n 0, 1) := by decide +kernel
theorem dX1_addBox_51 : decode cX1_addBox 51 = .ok (.getfield 51, 3) := by decide +kernel
theorem dX1_addBox_54 : decode cX1_addBox 54 = .ok (.iconst 1, 1) := by decide +kernel
theorem dX1_addBox_55 : decode cX1_addBox 55 = .ok (.isub, 1) := by decide +kernel
theorem dX1_addBox_56 : decode cX1_addBox 56 = .ok (.dup2, 1) := by decide +kernel
theorem dX1_addBox_57 : decode cX1_addBox 57 = .ok (.iaload, 1) := by decide +kernel
theorem dX1_addBox_58 : decode cX1_addBox 58 = .ok (.iconst 1, 1) := by decide +kernel
theorem dX1_addBox_59 : decode cX1_addBox 59 = .ok (.iadd, 1) := by decide +kernel
theorem dX1_addBox_60 : decode cX1_addBox 60 = .ok (.iastore, 1) := by decide +kernel
theorem dX1_addBox_61 : decode cX1_addBox 61 = .ok (.return_, 1) := by decide +kernel
def mX1_addBox : MM := (yX1_addBox, cX1_addBox, 3, none, { frames := 0, cells := 0, slots := 0, locals := 0 })
def fX1_addBox (σ : SS) (a0 : Nat) (a1 : Int32) (a2 : Int32) : Option SS :=
  if (gI σ a0 5) ≤ 0 then (
    some σ
    ) else (
    if (72 : Int32) ≤ (gI σ a0 6) then (
      some σ
      ) else (
      grd (inb (gI σ a0 6) 72) <|
      vthen (sI σ (a0 + 6) (Int32.toNatClampNeg (gI σ a0 6)) a1) fun σ2 =>
      grd (inb (gI σ2 a0 6) 72) <|
      vthen (sI σ2 (a0 + 7) (Int32.toNatClampNeg (gI σ2 a0 6)) a2) fun σ4 =>
      vthen (sI σ4 a0 6 ((gI σ4 a0 6) + (1 : Int32))) fun σ5 =>
      grd (inb ((gI σ5 a0 5) - (1 : Int32)) 12) <|
      vthen (sI σ5 (a0 + 3) (Int32.toNatClampNeg ((gI σ5 a0 5) - (1 : Int32))) ((gI σ5 (a0 + 3) (Int32.toNatClampNeg ((gI σ5 a0 5) - (1 : Int32)))) + (1 : Int32))) fun σ7 =>
      some σ7
      )
    )

set_option maxRecDepth 20000 in
theorem sX1_addBox {g : GG} {σ : SS} {a0 : Nat} {a1 : Int32} {a2 : Int32} {r : SS} (hr : fX1_addBox σ a0 a1 a2 = some r) (hs0 : shp a0 = (1, 0)) : Ct g mX1_addBox [.ref (ad g a0), .int a1, .int a2] NF σ none NF r := by
  refine Ct.of (by decide +kernel) (nle rfl) fun hw0 => ?_
  have hw := hw0 rfl
  unfold fX1_addBox at hr
  change RR g mX1_addBox (FinR g mX1_addBox none NF r) zF 0 [(0, .ref (ad g a0)), (1, .int a1), (2, .int a2)] [] σ
  refine r_aload_n (pc := 0) (j := 0) dX1_addBox_0 rfl rfl ?_
  refine gf1_5 (pc := 1) tw_1_77 hs0 dX1_addBox_1 ?_
  refine r_if_le (pc := 4) (tgt := 61) dX1_addBox_4 rfl (fun hc => ?_) (fun hc => ?_)
  · replace hr := ite_t hc hr
    exact l_ov hr (r_vret (pc := 61) rfl rfl ⟨Nat.le_refl _, Nat.le_refl _⟩ dX1_addBox_61)
  replace hr := ite_f hc hr
  refine r_aload_n (pc := 7) (j := 0) dX1_addBox_7 rfl rfl ?_
  refine gf1_6 (pc := 8) tw_1_81 hs0 dX1_addBox_8 ?_
  refine r_bipush (pc := 11) (v := (72 : Int32)) dX1_addBox_11 rfl ?_
  refine r_icmp_ge (pc := 13) (tgt := 61) dX1_addBox_13 rfl (fun hc => ?_) (fun hc => ?_)
  · replace hr := ite_t hc hr
    exact l_ov hr (r_vret (pc := 61) rfl rfl ⟨Nat.le_refl _, Nat.le_refl _⟩ dX1_addBox_61)
  replace hr := ite_f hc hr
  refine r_aload_n (pc := 16) (j := 0) dX1_addBox_16 rfl rfl ?_
  refine gf1_12 (pc := 17) tw_1_102 hw hs0 dX1_addBox_17 ?_
  refine r_aload_n (pc := 20) (j := 0) dX1_addBox_20 rfl rfl ?_
  refine gf1_6 (pc := 21) tw_1_81 hs0 dX1_addBox_21 ?_
  refine r_iload_n (pc := 24) (j := 1) dX1_addBox_24 rfl rfl ?_
  obtain ⟨h1, hr⟩ := grd_inv hr
  refine x_iast (pc := 25) (j := (Int32.toNatClampNeg (gI σ a0 6))) (sh1_12 hs0) h1 rfl dX1_addBox_25 fun σ2 eσ2 => ?_
  replace hr := vthen_inv hr σ2 eσ2
  have hσ2 := wtI eσ2 hw
  refine r_aload_n (pc := 26) (j := 0) dX1_addBox_26 rfl rfl ?_
  refine gf1_13 (pc := 27) tw_1_105 hσ2 hs0 dX1_addBox_27 ?_
  refine r_aload_n (pc := 30) (j := 0) dX1_addBox_30 rfl rfl ?_
  refine gf1_6 (pc := 31) tw_1_81 hs0 dX1_addBox_31 ?_
  refine r_iload_n (pc := 34) (j := 2) dX1_addBox_34 rfl rfl ?_
  obtain ⟨h3, hr⟩ := grd_inv hr
  refine x_iast (pc := 35) (j := (Int32.toNatClampNeg (gI σ2 a0 6))) (sh1_13 hs0) h3 rfl dX1_addBox_35 fun σ4 eσ4 => ?_
  replace hr := vthen_inv hr σ4 eσ4
  have hσ4 := wtI eσ4 hσ2
  refine r_aload_n (pc := 36) (j := 0) dX1_addBox_36 rfl rfl ?_
  refine r_dup (pc := 37) dX1_addBox_37 rfl ?_
  refine gf1_6 (pc := 38) tw_1_81 hs0 dX1_addBox_38 ?_
  refine r_iconst (pc := 41) (v := (1 : Int32)) dX1_addBox_41 rfl ?_
  refine r_iadd (pc := 42) dX1_addBox_42 ?_
  refine pf1_6 (pc := 43) tw_1_81 hs0 dX1_addBox_43 fun σ5 eσ5 => ?_
  replace hr := vthen_inv hr σ5 eσ5
  have hσ5 := wtI eσ5 hσ4
  refine r_aload_n (pc := 46) (j := 0) dX1_addBox_46 rfl rfl ?_
  refine gf1_9 (pc := 47) tw_1_90 hσ5 hs0 dX1_addBox_47 ?_
  refine r_aload_n (pc := 50) (j := 0) dX1_addBox_50 rfl rfl ?_
  refine gf1_5 (pc := 51) tw_1_77 hs0 dX1_addBox_51 ?_
  refine r_iconst (pc := 54) (v := (1 : Int32)) dX1_addBox_54 rfl ?_
  refine r_isub (pc := 55) dX1_addBox_55 ?_
  refine r_dup2 (pc := 56) dX1_addBox_56 rfl rfl ?_
  obtain ⟨h6, hr⟩ := grd_inv hr
  refine x_iald (pc := 57) (k := (Int32.toNatClampNeg ((gI σ5 a0 5) - (1 : Int32)))) (sh1_9 hs0) h6 rfl dX1_addBox_57 ?_
  refine r_iconst (pc := 58) (v := (1 : Int32)) dX1_addBox_58 rfl ?_
  refine r_iadd (pc := 59) dX1_addBox_59 ?_
  refine x_iast (pc := 60) (j := (Int32.toNatClampNeg ((gI σ5 a0 5) - (1 : Int32)))) (sh1_9 hs0) h6 rfl dX1_addBox_60 fun σ7 eσ7 => ?_
  replace hr := vthen_inv hr σ7 eσ7
  have hσ7 := wtI eσ7 hσ5
  exact l_ov hr (r_vret (pc := 61) rfl rfl ⟨Nat.le_refl _, Nat.le_refl _⟩ dX1_addBox_61)

theorem kX1_addBox {g : GG} {σ : SS} {a0 : Nat} {a1 : Int32} {a2 : Int32} {σ2 : SS} {M : MM} {F : State → Array Value → List Frame → State → Prop} {pc index : Nat} {ls : List (Nat × Value)} {rest : List Value} (hf : fX1_addBox σ a0 a1 a2 = some σ2) (hs0 : shp a0 = (1, 0)) (hl : Cond.methodLink M.1.cls index yX1_addBox ∈ lw_gt) (hR : mX1_addBox.2.2.2.2.frames + 1 ≤ M.2.2.2.2.frames ∧ 8 + (mX1_addBox.2.2.1 + 11) + mX1_addBox.2.2.2.2.locals ≤ M.2.2.2.2.locals) (hrest : (rest.map fun v => v.category).sum ≤ 8) (hd : decode M.2.1 pc = .ok (.invokevirtual index, 3)) (k : WT σ2 → RR g M F zF (pc + 3) ls rest σ2) : RR g M F zF pc ls (.int a2 :: .int a1 :: .ref (ad g a0) :: rest) σ :=
  r_callV (z := zF) (N := mX1_addBox) (nn := 2) (o1 := none) (sX1_addBox hf hs0) hs0 (by decide) (shp_le hs0 (nle rfl)) (ci := 1) rfl rfl tw_4_43 tw_1_3 hl tw_4_41 tw_4_42 ⟨by decide, by decide, rfl⟩ hR rfl hrest hd ⟨Nat.zero_le _, Nat.zero_le _⟩ rfl (fun h => k (h rfl))

theorem dX2_readPlace_0 : decode cX2_readPlace 0 = .ok (.aload_n 0, 1) := by decide +kernel
theorem dX2_readPlace_1 : decode cX2_readPlace 1 = .ok (.iconst 0, 1) := by decide +kernel
theorem dX2_readPlace_2 : decode cX2_readPlace 2 = .ok (.aload_n 1, 1) := by decide +kernel
theorem dX2_readPlace_3 : decode cX2_readPlace 3 = .ok (.getfield 69, 3) := by decide +kernel
theorem dX2_readPlace_6 : decode cX2_readPlace 6 = .ok (.aload_n 1, 1) := by decide +kernel
theorem dX2_readPlace_7 : decode cX2_readPlace 7 = .ok (.getfield 81, 3) := by decide +kernel
theorem dX2_readPlace_10 : decode cX2_readPlace 10 = .ok (.isub, 1) := by decide +kernel
theorem dX2_readPlace_11 : decode cX2_readPlace 11 = .ok (.invokevirtual 117, 3) := by decide +kernel
theorem dX2_readPlace_14 : decode cX2_readPlace 14 = .ok (.ifCond .ne 5, 3) := by decide +kernel
theorem dX2_readPlace_17 : decode cX2_readPlace 17 = .ok (.iconst 0, 1) := by decide +kernel
theorem dX2_readPlace_18 : decode cX2_readPlace 18 = .ok (.ireturn, 1) := by decide +kernel
theorem dX2_readPlace_19 : decode cX2_readPlace 19 = .ok (.iload_n 2, 1) := by decide +kernel
theorem dX2_readPlace_20 : decode cX2_readPlace 20 = .ok (.bipush 6, 2) := by decide +kernel
theorem dX2_readPlace_22 : decode cX2_readPlace 22 = .ok (.if_icmp .ne 9, 3) := by decide +kernel
theorem dX2_readPlace_25 : decode cX2_readPlace 25 = .ok (.aload_n 0, 1) := by decide +kernel
theorem dX2_readPlace_26 : decode cX2_readPlace 26 = .ok (.iconst 3, 1) := by decide +kernel
theorem dX2_readPlace_27 : decode cX2_readPlace 27 = .ok (.invokevirtual 97, 3) := by decide +kernel
theorem dX2_readPlace_30 : decode cX2_readPlace 30 = .ok (.ireturn, 1) := by decide +kernel
theorem dX2_readPlace_31 : decode cX2_readPlace 31 = .ok (.aload_n 0, 1) := by decide +kernel
theorem dX2_readPlace_32 : decode cX2_readPlace 32 = .ok (.getfield 120, 3) := by decide +kernel
theorem dX2_readPlace_35 : decode cX2_readPlace 35 = .ok (.istore_n 3, 1) := by decide +kernel
theorem dX2_readPlace_36 : decode cX2_readPlace 36 = .ok (.aload_n 0, 1) := by decide +kernel
theorem dX2_readPlace_37 : decode cX2_readPlace 37 = .ok (.invokevirtual 42, 3) := by decide +kernel
theorem dX2_readPlace_40 : decode cX2_readPlace 40 = .ok (.aload_n 0, 1) := by decide +kernel
theorem dX2_readPlace_41 : decode cX2_readPlace 41 = .ok (.iconst 0, 1) := by decide +kernel
theorem dX2_readPlace_42 : decode cX2_readPlace 42 = .ok (.aload_n 1, 1) := by decide +kernel
theorem dX2_readPlace_43 : decode cX2_readPlace 43 = .ok (.getfield 72, 3) := by decide +kernel
theorem dX2_readPlace_46 : decode cX2_readPlace 46 = .ok (.aload_n 1, 1) := by decide +kernel
theorem dX2_readPlace_47 : decode cX2_readPlace 47 = .ok (.getfield 84, 3) := by decide +kernel
theorem dX2_readPlace_50 : decode cX2_readPlace 50 = .ok (.isub, 1) := by decide +kernel
theorem dX2_readPlace_51 : decode cX2_readPlace 51 = .ok (.invokevirtual 117, 3) := by decide +kernel
theorem dX2_readPlace_54 : decode cX2_readPlace 54 = .ok (.ifCond .ne 5, 3) := by decide +kernel
theorem dX2_readPlace_57 : decode cX2_readPlace 57 = .ok (.iconst 0, 1) := by decide +kernel
theorem dX2_readPlace_58 : decode cX2_readPlace 58 = .ok (.ireturn, 1) := by decide +kernel
theorem dX2_readPlace_59 : decode cX2_readPlace 59 = .ok (.aload_n 1, 1) := by decide +kernel
theorem dX2_readPlace_60 : decode cX2_readPlace 60 = .ok (.iload_n 3, 1) := by decide +kernel
theorem dX2_readPlace_61 : decode cX2_readPlace 61 = .ok (.aload_n 0, 1) := by decide +kernel
theorem dX2_readPlace_62 : decode cX2_readPlace 62 = .ok (.getfield 120, 3) := by decide +kernel
theorem dX2_readPlace_65 : decode cX2_readPlace 65 = .ok (.invokevirtual 123, 3) := by decide +kernel
theorem dX2_readPlace_68 : decode cX2_readPlace 68 = .ok (.ifCond .eq 9, 3) := by decide +kernel
theorem dX2_readPlace_71 : decode cX2_readPlace 71 = .ok (.aload_n 0, 1) := by decide +kernel
theorem dX2_readPlace_72 : decode cX2_readPlace 72 = .ok (.iconst 4, 1) := by decide +kernel
theorem dX2_readPlace_73 : decode cX2_readPlace 73 = .ok (.invokevirtual 97, 3) := by decide +kernel
theorem dX2_readPlace_76 : decode cX2_readPlace 76 = .ok (.ireturn, 1) := by decide +kernel
theorem dX2_readPlace_77 : decode cX2_readPlace 77 = .ok (.aload_n 1, 1) := by decide +kernel
theorem dX2_readPlace_78 : decode cX2_readPlace 78 = .ok (.iload_n 3, 1) := by decide +kernel
theorem dX2_readPlace_79 : decode cX2_readPlace 79 = .ok (.aload_n 0, 1) := by decide +kernel
theorem dX2_readPlace_80 : decode cX2_readPlace 80 = .ok (.getfield 120, 3) := by decide +kernel
theorem dX2_readPlace_83 : decode cX2_readPlace 83 = .ok (.invokevirtual 126, 3) := by decide +kernel
theorem dX2_readPlace_86 : decode cX2_readPlace 86 = .ok (.aload_n 0, 1) := by decide +kernel
theorem dX2_readPlace_87 : decode cX2_readPlace 87 = .ok (.invokevirtual 42, 3) := by decide +kernel
theorem dX2_readPlace_90 : decode cX2_readPlace 90 = .ok (.iconst 1, 1) := by decide +kernel
theorem dX2_readPlace_91 : decode cX2_readPlace 91 = .ok (.ireturn, 1) := by decide +kernel
def mX2_readPlace : MM := (yX2_readPlace, cX2_readPlace, 4, Option.some Jvm.ClassFile.FieldType.boolean, { frames := 2, cells := 0, slots := 0, locals := 44 })
def fX2_readPlace (σ : SS) (a1 : Nat) (a2 : Int32) : Option (Bool × SS) :=
  bnd (fX2_isNumber σ (0 : Int32) ((gI σ a1 1) - (gI σ a1 3))) fun b2 σ4 =>
  if b2 = true then (
    if a2 = (6 : Int32) then (
      bnd (fX2_refuse σ4 (3 : Int32)) fun b21 σ23 =>
      some (b21, σ23)
      ) else (
      vthen (gI σ4 26 5) fun v5 =>
      bnd1 (fX2_advance σ4) fun σ6 =>
      bnd (fX2_isNumber σ6 (0 : Int32) ((gI σ6 a1 2) - (gI σ6 a1 4))) fun b8 σ10 =>
      if b8 = true then (
        bnd1 (fX1_isCovered σ10 a1 v5 (gI σ10 26 5)) fun b12 =>
        if b12 = true then (
          bnd (fX2_refuse σ10 (4 : Int32)) fun b17 σ19 =>
          some (b17, σ19)
          ) else (
          bnd1 (fX1_addBox σ10 a1 v5 (gI σ10 26 5)) fun σ14 =>
          bnd1 (fX2_advance σ14) fun σ15 =>
          some (true, σ15)
          )
        ) else (
        some (false, σ10)
        )
      )
    ) else (
    some (false, σ4)
    )

set_option maxRecDepth 20000 in
theorem sX2_readPlace {g : GG} {σ : SS} {a1 : Nat} {a2 : Int32} {r : Bool × SS} (hr : fX2_readPlace σ a1 a2 = some r) (hs1 : shp a1 = (1, 0)) : Ct g mX2_readPlace [.ref (ad g 26), .ref (ad g a1), .int a2] NF σ (some (.int (b2i r.1))) NF r.2 := by
  refine Ct.of (by decide +kernel) (nle rfl) fun hw0 => ?_
  have hw := hw0 rfl
  unfold fX2_readPlace at hr
  change RR g mX2_readPlace (FinR g mX2_readPlace (some (.int (b2i r.1))) NF r.2) zF 0 [(0, .ref (ad g 26)), (1, .ref (ad g a1)), (2, .int a2)] [] σ
  refine r_aload_n (pc := 0) (j := 0) dX2_readPlace_0 rfl rfl ?_
  refine r_iconst (pc := 1) (v := (0 : Int32)) dX2_readPlace_1 rfl ?_
  refine r_aload_n (pc := 2) (j := 1) dX2_readPlace_2 rfl rfl ?_
  refine gf1_1 (pc := 3) tw_1_62 hs1 dX2_readPlace_3 ?_
  refine r_aload_n (pc := 6) (j := 1) dX2_readPlace_6 rfl rfl ?_
  refine gf1_3 (pc := 7) tw_1_70 hs1 dX2_readPlace_7 ?_
  refine r_isub (pc := 10) dX2_readPlace_10 ?_
  obtain ⟨b2, σ4, eσ4, hr⟩ := bnd_inv hr
  refine kX2_isNumber (pc := 11) eσ4 tw_4_6 ⟨nle rfl, nle rfl⟩ (nle rfl) dX2_readPlace_11 fun hσ4 => ?_
  refine r_ifB_ne (pc := 14) (tgt := 19) dX2_readPlace_14 rfl (fun hc => ?_) (fun hc => ?_)
  · replace hr := ite_t hc hr
    refine r_iload_n (pc := 19) (j := 2) dX2_readPlace_19 rfl rfl ?_
    refine r_bipush (pc := 20) (v := (6 : Int32)) dX2_readPlace_20 rfl ?_
    refine r_icmp_ne (pc := 22) (tgt := 31) dX2_readPlace_22 rfl (fun hc => ?_) (fun hc => ?_)
    · replace hr := ite_f hc hr
      refine r_aload_n (pc := 31) (j := 0) dX2_readPlace_31 rfl rfl ?_
      refine gf2_5 (pc := 32) tw_1_149 rfl dX2_readPlace_32 ?_
      refine r_topi fun v5 ev5 => ?_
      replace hr := vthen_inv hr v5 ev5
      refine r_istore_n (pc := 35) (ls1 := [(3, .int v5), (0, .ref (ad g 26)), (1, .ref (ad g a1)), (2, .int a2)]) dX2_readPlace_35 rfl (nle rfl) rfl ?_
      refine r_aload_n (pc := 36) (j := 1) dX2_readPlace_36 rfl rfl ?_
      obtain ⟨σ6, eσ6, hr⟩ := bnd1_inv hr
      refine kX2_advance (pc := 37) eσ6 tw_3_166 ⟨nle rfl, nle rfl⟩ (nle rfl) dX2_readPlace_37 fun hσ6 => ?_
      refine r_aload_n (pc := 40) (j := 1) dX2_readPlace_40 rfl rfl ?_
      refine r_iconst (pc := 41) (v := (0 : Int32)) dX2_readPlace_41 rfl ?_
      refine r_aload_n (pc := 42) (j := 2) dX2_readPlace_42 rfl rfl ?_
      refine gf1_2 (pc := 43) tw_1_66 hs1 dX2_readPlace_43 ?_
      refine r_aload_n (pc := 46) (j := 2) dX2_readPlace_46 rfl rfl ?_
      refine gf1_4 (pc := 47) tw_1_74 hs1 dX2_readPlace_47 ?_
      refine r_isub (pc := 50) dX2_readPlace_50 ?_
      obtain ⟨b8, σ10, eσ10, hr⟩ := bnd_inv hr
      refine kX2_isNumber (pc := 51) eσ10 tw_4_6 ⟨nle rfl, nle rfl⟩ (nle rfl) dX2_readPlace_51 fun hσ10 => ?_
      refine r_ifB_ne (pc := 54) (tgt := 59) dX2_readPlace_54 rfl (fun hc => ?_) (fun hc => ?_)
      · replace hr := ite_t hc hr
        refine r_aload_n (pc := 59) (j := 2) dX2_readPlace_59 rfl rfl ?_
        refine r_iload_n (pc := 60) (j := 0) dX2_readPlace_60 rfl rfl ?_
        refine r_aload_n (pc := 61) (j := 1) dX2_readPlace_61 rfl rfl ?_
        refine gf2_5 (pc := 62) tw_1_149 rfl dX2_readPlace_62 ?_
        obtain ⟨b12, hb12, hr⟩ := bnd1_inv hr
        refine kX1_isCovered (pc := 65) hb12 hs1 tw_4_33 ⟨nle rfl, nle rfl⟩ (nle rfl) dX2_readPlace_65 ?_
        refine r_ifB_eq (pc := 68) (tgt := 77) dX2_readPlace_68 rfl (fun hc => ?_) (fun hc => ?_)
        · replace hr := ite_f hc hr
          refine r_aload_n (pc := 77) (j := 2) dX2_readPlace_77 rfl rfl ?_
          refine r_iload_n (pc := 78) (j := 0) dX2_readPlace_78 rfl rfl ?_
          refine r_aload_n (pc := 79) (j := 1) dX2_readPlace_79 rfl rfl ?_
          refine gf2_5 (pc := 80) tw_1_149 rfl dX2_readPlace_80 ?_
          obtain ⟨σ14, eσ14, hr⟩ := bnd1_inv hr
          refine kX1_addBox (pc := 83) eσ14 hs1 tw_4_40 ⟨nle rfl, nle rfl⟩ (nle rfl) dX2_readPlace_83 fun hσ14 => ?_
          refine r_aload_n (pc := 86) (j := 1) dX2_readPlace_86 rfl rfl ?_
          obtain ⟨σ15, eσ15, hr⟩ := bnd1_inv hr
          refine kX2_advance (pc := 87) eσ15 tw_3_166 ⟨nle rfl, nle rfl⟩ (nle rfl) dX2_readPlace_87 fun hσ15 => ?_
          refine r_iconst (pc := 90) (v := (1 : Int32)) dX2_readPlace_90 rfl ?_
          exact l_osz hr (r_zret (pc := 91) (v := b2i true) (ty := .boolean) rfl (b2i_nar _) rfl ⟨Nat.le_refl _, Nat.le_refl _⟩ dX2_readPlace_91)
        replace hr := ite_t hc hr
        refine r_aload_n (pc := 71) (j := 1) dX2_readPlace_71 rfl rfl ?_
        refine r_iconst (pc := 72) (v := (4 : Int32)) dX2_readPlace_72 rfl ?_
        obtain ⟨b17, σ19, eσ19, hr⟩ := bnd_inv hr
        refine kX2_refuse (pc := 73) eσ19 tw_3_238 ⟨nle rfl, nle rfl⟩ (nle rfl) dX2_readPlace_73 fun hσ19 => ?_
        exact l_osz hr (r_zret (pc := 76) (v := b2i b17) (ty := .boolean) rfl (b2i_nar _) rfl ⟨Nat.le_refl _, Nat.le_refl _⟩ dX2_readPlace_76)
      replace hr := ite_f hc hr
      refine r_iconst (pc := 57) (v := (0 : Int32)) dX2_readPlace_57 rfl ?_
      exact l_osz hr (r_zret (pc := 58) (v := b2i false) (ty := .boolean) rfl (b2i_nar _) rfl ⟨Nat.le_refl _, Nat.le_refl _⟩ dX2_readPlace_58)
    replace hr := ite_t hc hr
    refine r_aload_n (pc := 25) (j := 0) dX2_readPlace_25 rfl rfl ?_
    refine r_iconst (pc := 26) (v := (3 : Int32)) dX2_readPlace_26 rfl ?_
    obtain ⟨b21, σ23, eσ23, hr⟩ := bnd_inv hr
    refine kX2_refuse (pc := 27) eσ23 tw_3_238 ⟨nle rfl, nle rfl⟩ (nle rfl) dX2_readPlace_27 fun hσ23 => ?_
    exact l_osz hr (r_zret (pc := 30) (v := b2i b21) (ty := .boolean) rfl (b2i_nar _) rfl ⟨Nat.le_refl _, Nat.le_refl _⟩ dX2_readPlace_30)
  replace hr := ite_f hc hr
  refine r_iconst (pc := 17) (v := (0 : Int32)) dX2_readPlace_17 rfl ?_
  exact l_osz hr (r_zret (pc := 18) (v := b2i false) (ty := .boolean) rfl (b2i_nar _) rfl ⟨Nat.le_refl _, Nat.le_refl _⟩ dX2_readPlace_18)

theorem kX2_readPlace {g : GG} {σ : SS} {a1 : Nat} {a2 : Int32} {v : Bool} {σ2 : SS} {M : MM} {F : State → Array Value → List Frame → State → Prop} {pc index : Nat} {ls : List (Nat × Value)} {rest : List Value} (hf : fX2_readPlace σ a1 a2 = some (v, σ2)) (hs1 : shp a1 = (1, 0)) (hl : Cond.methodLink M.1.cls index yX2_readPlace ∈ lw_gt) (hR : mX2_readPlace.2.2.2.2.frames + 1 ≤ M.2.2.2.2.frames ∧ 8 + (mX2_readPlace.2.2.1 + 11) + mX2_readPlace.2.2.2.2.locals ≤ M.2.2.2.2.locals) (hrest : (rest.map fun v => v.category).sum ≤ 8) (hd : decode M.2.1 pc = .ok (.invokevirtual index, 3)) (k : WT σ2 → RR g M F zF (pc + 3) ls (.int (b2i v) :: rest) σ2) : RR g M F zF pc ls (.int a2 :: .ref (ad g a1) :: .ref (ad g 26) :: rest) σ :=
  r_callV (z := zF) (N := mX2_readPlace) (nn := 2) (o1 := some (.int (b2i v))) (sX2_readPlace hf hs1) (rfl : shp 26 = (2, 0)) (by decide) (shp_le (rfl : shp 26 = (2, 0)) (nle rfl)) (ci := 2) rfl rfl tw_4_32 tw_1_4 hl tw_4_31 tp_24 ⟨by decide, by decide, rfl⟩ hR rfl hrest hd ⟨Nat.zero_le _, Nat.zero_le _⟩ rfl (fun h => k (h rfl))

theorem dX2_readPlaces_0 : decode cX2_readPlaces 0 = .ok (.iconst 0, 1) := by decide +kernel
theorem dX2_readPlaces_1 : decode cX2_readPlaces 1 = .ok (.istore_n 2, 1) := by decide +kernel
theorem dX2_readPlaces_2 : decode cX2_readPlaces 2 = .ok (.iload_n 2, 1) := by decide +kernel
theorem dX2_readPlaces_3 : decode cX2_readPlaces 3 = .ok (.bipush 6, 2) := by decide +kernel
theorem dX2_readPlaces_5 : decode cX2_readPlaces 5 = .ok (.if_icmp .gt 34, 3) := by decide +kernel
theorem dX2_readPlaces_8 : decode cX2_readPlaces 8 = .ok (.aload_n 0, 1) := by decide +kernel
theorem dX2_readPlaces_9 : decode cX2_readPlaces 9 = .ok (.aload_n 1, 1) := by decide +kernel
theorem dX2_readPlaces_10 : decode cX2_readPlaces 10 = .ok (.iload_n 2, 1) := by decide +kernel
theorem dX2_readPlaces_11 : decode cX2_readPlaces 11 = .ok (.invokevirtual 114, 3) := by decide +kernel
theorem dX2_readPlaces_14 : decode cX2_readPlaces 14 = .ok (.ifCond .ne 5, 3) := by decide +kernel
theorem dX2_readPlaces_17 : decode cX2_readPlaces 17 = .ok (.iconst 0, 1) := by decide +kernel
theorem dX2_readPlaces_18 : decode cX2_readPlaces 18 = .ok (.ireturn, 1) := by decide +kernel
theorem dX2_readPlaces_19 : decode cX2_readPlaces 19 = .ok (.aload_n 0, 1) := by decide +kernel
theorem dX2_readPlaces_20 : decode cX2_readPlaces 20 = .ok (.getfield 87, 3) := by decide +kernel
theorem dX2_readPlaces_23 : decode cX2_readPlaces 23 = .ok (.iconst 3, 1) := by decide +kernel
theorem dX2_readPlaces_24 : decode cX2_readPlaces 24 = .ok (.if_icmp .eq 5, 3) := by decide +kernel
theorem dX2_readPlaces_27 : decode cX2_readPlaces 27 = .ok (.iconst 1, 1) := by decide +kernel
theorem dX2_readPlaces_28 : decode cX2_readPlaces 28 = .ok (.ireturn, 1) := by decide +kernel
theorem dX2_readPlaces_29 : decode cX2_readPlaces 29 = .ok (.aload_n 0, 1) := by decide +kernel
theorem dX2_readPlaces_30 : decode cX2_readPlaces 30 = .ok (.invokevirtual 42, 3) := by decide +kernel
theorem dX2_readPlaces_33 : decode cX2_readPlaces 33 = .ok (.iinc 2 1, 3) := by decide +kernel
theorem dX2_readPlaces_36 : decode cX2_readPlaces 36 = .ok (.goto (-34), 3) := by decide +kernel
theorem dX2_readPlaces_39 : decode cX2_readPlaces 39 = .ok (.iconst 1, 1) := by decide +kernel
theorem dX2_readPlaces_40 : decode cX2_readPlaces 40 = .ok (.ireturn, 1) := by decide +kernel
def mX2_readPlaces : MM := (yX2_readPlaces, cX2_readPlaces, 3, Option.some Jvm.ClassFile.FieldType.boolean, { frames := 3, cells := 0, slots := 0, locals := 67 })
def X2_readPlaces_L2 (o1_ : Nat)  : Nat → Int32 → SS → Option (Bool × SS) :=
  lp (fun _ _ => none) fun rec v2_ σ_ =>
    if (6 : Int32) < v2_ then (
      some (true, σ_)
      ) else (
      bnd (fX2_readPlace σ_ o1_ v2_) fun b2 σ4 =>
      if b2 = true then (
        if (gI σ4 26 4) = (3 : Int32) then (
          bnd1 (fX2_advance σ4) fun σ5 =>
          rec (v2_ + (1 : Int32)) σ5
          ) else (
          some (true, σ4)
          )
        ) else (
        some (false, σ4)
        )
      )

def fX2_readPlaces (σ : SS) (a1 : Nat) : Option (Bool × SS) :=
  X2_readPlaces_L2 a1
  fuel (0 : Int32) σ

set_option maxRecDepth 20000 in
theorem sX2_readPlaces_L2 {g : GG} {r : Bool × SS} {o1_ : Nat}  (hs1_ : shp o1_ = (1, 0))
    (n : Nat) : ∀ (v2_ : Int32) (σ_ : SS), X2_readPlaces_L2 o1_ n v2_ σ_ = some r → WT σ_ → RR g mX2_readPlaces (FinR g mX2_readPlaces (some (.int (b2i r.1))) NF r.2) zF 2 [(0, .ref (ad g 26)), (1, .ref (ad g o1_)), (2, .int v2_)] [] σ_ := by
  unfold X2_readPlaces_L2
  refine lp_ind (P := fun (rec : Int32 → SS → Option (Bool × SS)) => ∀ (v2_ : Int32) (σ_ : SS), rec v2_ σ_ = some r → WT σ_ → RR g mX2_readPlaces (FinR g mX2_readPlaces (some (.int (b2i r.1))) NF r.2) zF 2 [(0, .ref (ad g 26)), (1, .ref (ad g o1_)), (2, .int v2_)] [] σ_) ?_ ?_ n
  · intro v2_ σ_ hr; cases hr
  intro rec ih v2_ σ_ hr hw_
  refine r_iload_n (pc := 2) (j := 2) dX2_readPlaces_2 rfl rfl ?_
  refine r_bipush (pc := 3) (v := (6 : Int32)) dX2_readPlaces_3 rfl ?_
  refine r_icmp_gt (pc := 5) (tgt := 39) dX2_readPlaces_5 rfl (fun hc => ?_) (fun hc => ?_)
  · replace hr := ite_t hc hr
    refine r_iconst (pc := 39) (v := (1 : Int32)) dX2_readPlaces_39 rfl ?_
    exact l_osz hr (r_zret (pc := 40) (v := b2i true) (ty := .boolean) rfl (b2i_nar _) rfl ⟨Nat.le_refl _, Nat.le_refl _⟩ dX2_readPlaces_40)
  replace hr := ite_f hc hr
  refine r_aload_n (pc := 8) (j := 0) dX2_readPlaces_8 rfl rfl ?_
  refine r_aload_n (pc := 9) (j := 1) dX2_readPlaces_9 rfl rfl ?_
  refine r_iload_n (pc := 10) (j := 2) dX2_readPlaces_10 rfl rfl ?_
  obtain ⟨b2, σ4, eσ4, hr⟩ := bnd_inv hr
  refine kX2_readPlace (pc := 11) eσ4 hs1_ tw_4_29 ⟨nle rfl, nle rfl⟩ (nle rfl) dX2_readPlaces_11 fun hσ4 => ?_
  refine r_ifB_ne (pc := 14) (tgt := 19) dX2_readPlaces_14 rfl (fun hc => ?_) (fun hc => ?_)
  · replace hr := ite_t hc hr
    refine r_aload_n (pc := 19) (j := 0) dX2_readPlaces_19 rfl rfl ?_
    refine gf2_4 (pc := 20) tw_1_148 rfl dX2_readPlaces_20 ?_
    refine r_iconst (pc := 23) (v := (3 : Int32)) dX2_readPlaces_23 rfl ?_
    refine r_icmp_eq (pc := 24) (tgt := 29) dX2_readPlaces_24 rfl (fun hc => ?_) (fun hc => ?_)
    · replace hr := ite_t hc hr
      refine r_aload_n (pc := 29) (j := 0) dX2_readPlaces_29 rfl rfl ?_
      obtain ⟨σ5, eσ5, hr⟩ := bnd1_inv hr
      refine kX2_advance (pc := 30) eσ5 tw_3_166 ⟨nle rfl, nle rfl⟩ (nle rfl) dX2_readPlaces_30 fun hσ5 => ?_
      refine r_iinc (pc := 33) (j := 2) (v := (v2_ + (1 : Int32))) (ls1 := [(2, .int (v2_ + (1 : Int32))), (0, .ref (ad g 26)), (1, .ref (ad g o1_))]) dX2_readPlaces_33 rfl rfl (nle rfl) rfl ?_
      refine r_goto (pc := 36) (tgt := 2) dX2_readPlaces_36 rfl ?_
      exact r_pick (ls1 := [(0, .ref (ad g 26)), (1, .ref (ad g o1_)), (2, .int (v2_ + (1 : Int32)))]) [1, 2, 0] rfl (ih (v2_ + (1 : Int32)) σ5 hr hσ5)
    replace hr := ite_f hc hr
    refine r_iconst (pc := 27) (v := (1 : Int32)) dX2_readPlaces_27 rfl ?_
    exact l_osz hr (r_zret (pc := 28) (v := b2i true) (ty := .boolean) rfl (b2i_nar _) rfl ⟨Nat.le_refl _, Nat.le_refl _⟩ dX2_readPlaces_28)
  replace hr := ite_f hc hr
  refine r_iconst (pc := 17) (v := (0 : Int32)) dX2_readPlaces_17 rfl ?_
  exact l_osz hr (r_zret (pc := 18) (v := b2i false) (ty := .boolean) rfl (b2i_nar _) rfl ⟨Nat.le_refl _, Nat.le_refl _⟩ dX2_readPlaces_18)

set_option maxRecDepth 20000 in
theorem sX2_readPlaces {g : GG} {σ : SS} {a1 : Nat} {r : Bool × SS} (hr : fX2_readPlaces σ a1 = some r) (hs1 : shp a1 = (1, 0)) : Ct g mX2_readPlaces [.ref (ad g 26), .ref (ad g a1)] NF σ (some (.int (b2i r.1))) NF r.2 := by
  refine Ct.of (by decide +kernel) (nle rfl) fun hw0 => ?_
  have hw := hw0 rfl
  unfold fX2_readPlaces at hr
  change RR g mX2_readPlaces (FinR g mX2_readPlaces (some (.int (b2i r.1))) NF r.2) zF 0 [(0, .ref (ad g 26)), (1, .ref (ad g a1))] [] σ
  refine r_iconst (pc := 0) (v := (0 : Int32)) dX2_readPlaces_0 rfl ?_
  refine r_istore_n (pc := 1) (ls1 := [(2, .int (0 : Int32)), (0, .ref (ad g 26)), (1, .ref (ad g a1))]) dX2_readPlaces_1 rfl (nle rfl) rfl ?_
  refine r_pick (ls1 := [(0, .ref (ad g 26)), (1, .ref (ad g a1)), (2, .int (0 : Int32))]) [1, 2, 0] rfl ?_
  refine sX2_readPlaces_L2 hs1    fuel (0 : Int32) σ hr hw

theorem kX2_readPlaces {g : GG} {σ : SS} {a1 : Nat} {v : Bool} {σ2 : SS} {M : MM} {F : State → Array Value → List Frame → State → Prop} {pc index : Nat} {ls : List (Nat × Value)} {rest : List Value} (hf : fX2_readPlaces σ a1 = some (v, σ2)) (hs1 : shp a1 = (1, 0)) (hl : Cond.methodLink M.1.cls index yX2_readPlaces ∈ lw_gt) (hR : mX2_readPlaces.2.2.2.2.frames + 1 ≤ M.2.2.2.2.frames ∧ 8 + (mX2_readPlaces.2.2.1 + 11) + mX2_readPlaces.2.2.2.2.locals ≤ M.2.2.2.2.locals) (hrest : (rest.map fun v => v.category).sum ≤ 8) (hd : decode M.2.1 pc = .ok (.invokevirtual index, 3)) (k : WT σ2 → RR g M F zF (pc + 3) ls (.int (b2i v) :: rest) σ2) : RR g M F zF pc ls (.ref (ad g a1) :: .ref (ad g 26) :: rest) σ :=
  r_callV (z := zF) (N := mX2_readPlaces) (nn := 1) (o1 := some (.int (b2i v))) (sX2_readPlaces hf hs1) (rfl : shp 26 = (2, 0)) (by decide) (shp_le (rfl : shp 26 = (2, 0)) (nle rfl)) (ci := 2) rfl rfl tw_4_28 tw_1_4 hl tw_4_27 tp_23 ⟨by decide, by decide, rfl⟩ hR rfl hrest hd ⟨Nat.zero_le _, Nat.zero_le _⟩ rfl (fun h => k (h rfl))

theorem dX2_isLetter_0 : decode cX2_isLetter 0 = .ok (.aload_n 0, 1) := by decide +kernel
theorem dX2_isLetter_1 : decode cX2_isLetter 1 = .ok (.getfield 87, 3) := by decide +kernel
theorem dX2_isLetter_4 : decode cX2_isLetter 4 = .ok (.iconst 1, 1) := by decide +kernel
theorem dX2_isLetter_5 : decode cX2_isLetter 5 = .ok (.if_icmp .ne 34, 3) := by decide +kernel
theorem dX2_isLetter_8 : decode cX2_isLetter 8 = .ok (.aload_n 0, 1) := by decide +kernel
theorem dX2_isLetter_9 : decode cX2_isLetter 9 = .ok (.getfield 31, 3) := by decide +kernel
theorem dX2_isLetter_12 : decode cX2_isLetter 12 = .ok (.aload_n 0, 1) := by decide +kernel
theorem dX2_isLetter_13 : decode cX2_isLetter 13 = .ok (.getfield 136, 3) := by decide +kernel
theorem dX2_isLetter_16 : decode cX2_isLetter 16 = .ok (.isub, 1) := by decide +kernel
theorem dX2_isLetter_17 : decode cX2_isLetter 17 = .ok (.iconst 1, 1) := by decide +kernel
theorem dX2_isLetter_18 : decode cX2_isLetter 18 = .ok (.if_icmp .ne 21, 3) := by decide +kernel
theorem dX2_isLetter_21 : decode cX2_isLetter 21 = .ok (.aload_n 0, 1) := by decide +kernel
theorem dX2_isLetter_22 : decode cX2_isLetter 22 = .ok (.getfield 9, 3) := by decide +kernel
theorem dX2_isLetter_25 : decode cX2_isLetter 25 = .ok (.aload_n 0, 1) := by decide +kernel
theorem dX2_isLetter_26 : decode cX2_isLetter 26 = .ok (.getfield 136, 3) := by decide +kernel
theorem dX2_isLetter_29 : decode cX2_isLetter 29 = .ok (.iaload, 1) := by decide +kernel
theorem dX2_isLetter_30 : decode cX2_isLetter 30 = .ok (.bipush 102, 2) := by decide +kernel
theorem dX2_isLetter_32 : decode cX2_isLetter 32 = .ok (.if_icmp .gt 7, 3) := by decide +kernel
theorem dX2_isLetter_35 : decode cX2_isLetter 35 = .ok (.iconst 1, 1) := by decide +kernel
theorem dX2_isLetter_36 : decode cX2_isLetter 36 = .ok (.goto 4, 3) := by decide +kernel
theorem dX2_isLetter_39 : decode cX2_isLetter 39 = .ok (.iconst 0, 1) := by decide +kernel
theorem dX2_isLetter_40 : decode cX2_isLetter 40 = .ok (.ireturn, 1) := by decide +kernel
def mX2_isLetter : MM := (yX2_isLetter, cX2_isLetter, 1, Option.some Jvm.ClassFile.FieldType.boolean, { frames := 0, cells := 0, slots := 0, locals := 0 })
def fX2_isLetter (σ0 : SS)  : Option Bool :=
  vthen (fun (_u : Unit) =>
    some false
    ) fun j39 =>
  if (gI σ0 26 4) = (1 : Int32) then (
    if ((gI σ0 26 3) - (gI σ0 26 2)) = (1 : Int32) then (
      grd (inb (gI σ0 26 2) 400) <|
      if (102 : Int32) < (gI σ0 27 (Int32.toNatClampNeg (gI σ0 26 2))) then (
        j39 ()
        ) else (
        some true
        )
      ) else (
      j39 ()
      )
    ) else (
    j39 ()
    )

set_option maxRecDepth 20000 in
theorem sX2_isLetter {g : GG} {σ0 : SS}  {r : Bool} (hr : fX2_isLetter σ0 = some r)  : Ct g mX2_isLetter [.ref (ad g 26)] NF σ0 (some (.int (b2i r))) NF σ0 := by
  refine Ct.of (by decide +kernel) (nle rfl) fun hw0 => ?_
  have hw := hw0 rfl
  unfold fX2_isLetter at hr
  change RR g mX2_isLetter (FinR g mX2_isLetter (some (.int (b2i r))) NF σ0) zF 0 [(0, .ref (ad g 26))] [] σ0
  refine r_aload_n (pc := 0) (j := 0) dX2_isLetter_0 rfl rfl ?_
  refine gf2_4 (pc := 1) tw_1_148 rfl dX2_isLetter_1 ?_
  refine r_iconst (pc := 4) (v := (1 : Int32)) dX2_isLetter_4 rfl ?_
  obtain ⟨j39, ej39, hr⟩ := vth_ex hr
  have hj39 : j39 () = some r → RR g mX2_isLetter (FinR g mX2_isLetter (some (.int (b2i r))) NF σ0) zF 39 [] [] σ0 := by
    intro  hr
    replace hr := (congrFun ej39 ()).symm.trans hr
    refine r_iconst (pc := 39) (v := (0 : Int32)) dX2_isLetter_39 rfl ?_
    exact l_opz hr (r_zret (pc := 40) (v := b2i false) (ty := .boolean) rfl (b2i_nar _) rfl ⟨Nat.le_refl _, Nat.le_refl _⟩ dX2_isLetter_40)
  refine r_icmp_ne (pc := 5) (tgt := 39) dX2_isLetter_5 rfl (fun hc => ?_) (fun hc => ?_)
  · replace hr := ite_f hc hr
    exact r_pick (ls1 := []) [] rfl (hj39  hr)
  replace hr := ite_t hc hr
  refine r_aload_n (pc := 8) (j := 0) dX2_isLetter_8 rfl rfl ?_
  refine gf2_3 (pc := 9) tw_1_147 rfl dX2_isLetter_9 ?_
  refine r_aload_n (pc := 12) (j := 0) dX2_isLetter_12 rfl rfl ?_
  refine gf2_2 (pc := 13) tw_1_146 rfl dX2_isLetter_13 ?_
  refine r_isub (pc := 16) dX2_isLetter_16 ?_
  refine r_iconst (pc := 17) (v := (1 : Int32)) dX2_isLetter_17 rfl ?_
  refine r_icmp_ne (pc := 18) (tgt := 39) dX2_isLetter_18 rfl (fun hc => ?_) (fun hc => ?_)
  · replace hr := ite_f hc hr
    exact r_pick (ls1 := []) [] rfl (hj39  hr)
  replace hr := ite_t hc hr
  refine r_aload_n (pc := 21) (j := 0) dX2_isLetter_21 rfl rfl ?_
  refine gf2_0 (pc := 22) tw_1_144 hw dX2_isLetter_22 ?_
  refine r_aload_n (pc := 25) (j := 0) dX2_isLetter_25 rfl rfl ?_
  refine gf2_2 (pc := 26) tw_1_146 rfl dX2_isLetter_26 ?_
  obtain ⟨h1, hr⟩ := grd_inv hr
  refine x_iald (pc := 29) (k := (Int32.toNatClampNeg (gI σ0 26 2))) rfl h1 rfl dX2_isLetter_29 ?_
  refine r_bipush (pc := 30) (v := (102 : Int32)) dX2_isLetter_30 rfl ?_
  refine r_icmp_gt (pc := 32) (tgt := 39) dX2_isLetter_32 rfl (fun hc => ?_) (fun hc => ?_)
  · replace hr := ite_t hc hr
    exact r_pick (ls1 := []) [] rfl (hj39  hr)
  replace hr := ite_f hc hr
  refine r_iconst (pc := 35) (v := (1 : Int32)) dX2_isLetter_35 rfl ?_
  refine r_goto (pc := 36) (tgt := 40) dX2_isLetter_36 rfl ?_
  exact l_opz hr (r_zret (pc := 40) (v := b2i true) (ty := .boolean) rfl (b2i_nar _) rfl ⟨Nat.le_refl _, Nat.le_refl _⟩ dX2_isLetter_40)

theorem kX2_isLetter {g : GG} {σ0 : SS}  {v : Bool} {M : MM} {F : State → Array Value → List Frame → State → Prop} {pc index : Nat} {ls : List (Nat × Value)} {rest : List Value} (hf : fX2_isLetter σ0 = some v)  (hl : Cond.methodLink M.1.cls index yX2_isLetter ∈ lw_gt) (hR : mX2_isLetter.2.2.2.2.frames + 1 ≤ M.2.2.2.2.frames ∧ 8 + (mX2_isLetter.2.2.1 + 11) + mX2_isLetter.2.2.2.2.locals ≤ M.2.2.2.2.locals) (hrest : (rest.map fun v => v.category).sum ≤ 8) (hd : decode M.2.1 pc = .ok (.invokevirtual index, 3)) (k : RR g M F zF (pc + 3) ls (.int (b2i v) :: rest) σ0) : RR g M F zF pc ls (.ref (ad g 26) :: rest) σ0 :=
  r_callV (z := zF) (N := mX2_isLetter) (nn := 0) (o1 := some (.int (b2i v))) (sX2_isLetter hf ) (rfl : shp 26 = (2, 0)) (by decide) (shp_le (rfl : shp 26 = (2, 0)) (nle rfl)) (ci := 2) rfl rfl tw_4_52 tw_1_4 hl tw_4_51 tp_26 ⟨by decide, by decide, rfl⟩ hR rfl hrest hd ⟨Nat.zero_le _, Nat.zero_le _⟩ rfl (fun h => k)

theorem dX2_readKey_0 : decode cX2_readKey 0 = .ok (.aload_n 0, 1) := by decide +kernel
theorem dX2_readKey_1 : decode cX2_readKey 1 = .ok (.ldc 130, 2) := by decide +kernel
theorem dX2_readKey_3 : decode cX2_readKey 3 = .ok (.invokevirtual 92, 3) := by decide +kernel
theorem dX2_readKey_6 : decode cX2_readKey 6 = .ok (.ifCond .ne 5, 3) := by decide +kernel
theorem dX2_readKey_9 : decode cX2_readKey 9 = .ok (.iconst 1, 1) := by decide +kernel
theorem dX2_readKey_10 : decode cX2_readKey 10 = .ok (.ireturn, 1) := by decide +kernel
theorem dX2_readKey_11 : decode cX2_readKey 11 = .ok (.aload_n 0, 1) := by decide +kernel
theorem dX2_readKey_12 : decode cX2_readKey 12 = .ok (.invokevirtual 42, 3) := by decide +kernel
theorem dX2_readKey_15 : decode cX2_readKey 15 = .ok (.iconst 0, 1) := by decide +kernel
theorem dX2_readKey_16 : decode cX2_readKey 16 = .ok (.istore_n 3, 1) := by decide +kernel
theorem dX2_readKey_17 : decode cX2_readKey 17 = .ok (.iload_n 3, 1) := by decide +kernel
theorem dX2_readKey_18 : decode cX2_readKey 18 = .ok (.bipush 6, 2) := by decide +kernel
theorem dX2_readKey_20 : decode cX2_readKey 20 = .ok (.if_icmp .gt 97, 3) := by decide +kernel
theorem dX2_readKey_23 : decode cX2_readKey 23 = .ok (.aload_n 0, 1) := by decide +kernel
theorem dX2_readKey_24 : decode cX2_readKey 24 = .ok (.invokevirtual 132, 3) := by decide +kernel
theorem dX2_readKey_27 : decode cX2_readKey 27 = .ok (.ifCond .ne 21, 3) := by decide +kernel
theorem dX2_readKey_30 : decode cX2_readKey 30 = .ok (.iload_n 3, 1) := by decide +kernel
theorem dX2_readKey_31 : decode cX2_readKey 31 = .ok (.ifCond .gt 11, 3) := by decide +kernel
theorem dX2_readKey_34 : decode cX2_readKey 34 = .ok (.aload_n 0, 1) := by decide +kernel
theorem dX2_readKey_35 : decode cX2_readKey 35 = .ok (.iconst 1, 1) := by decide +kernel
theorem dX2_readKey_36 : decode cX2_readKey 36 = .ok (.invokevirtual 97, 3) := by decide +kernel
theorem dX2_readKey_39 : decode cX2_readKey 39 = .ok (.ifCond .eq 7, 3) := by decide +kernel
theorem dX2_readKey_42 : decode cX2_readKey 42 = .ok (.iconst 1, 1) := by decide +kernel
theorem dX2_readKey_43 : decode cX2_readKey 43 = .ok (.goto 4, 3) := by decide +kernel
theorem dX2_readKey_46 : decode cX2_readKey 46 = .ok (.iconst 0, 1) := by decide +kernel
theorem dX2_readKey_47 : decode cX2_readKey 47 = .ok (.ireturn, 1) := by decide +kernel
theorem dX2_readKey_48 : decode cX2_readKey 48 = .ok (.aload_n 0, 1) := by decide +kernel
theorem dX2_readKey_49 : decode cX2_readKey 49 = .ok (.getfield 9, 3) := by decide +kernel
theorem dX2_readKey_52 : decode cX2_readKey 52 = .ok (.aload_n 0, 1) := by decide +kernel
theorem dX2_readKey_53 : decode cX2_readKey 53 = .ok (.getfield 136, 3) := by decide +kernel
theorem dX2_readKey_56 : decode cX2_readKey 56 = .ok (.iaload, 1) := by decide +kernel
theorem dX2_readKey_57 : decode cX2_readKey 57 = .ok (.bipush 97, 2) := by decide +kernel
theorem dX2_readKey_59 : decode cX2_readKey 59 = .ok (.isub, 1) := by decide +kernel
theorem dX2_readKey_60 : decode cX2_readKey 60 = .ok (.istore 4, 2) := by decide +kernel
theorem dX2_readKey_62 : decode cX2_readKey 62 = .ok (.iload 4, 2) := by decide +kernel
theorem dX2_readKey_64 : decode cX2_readKey 64 = .ok (.aload_n 1, 1) := by decide +kernel
theorem dX2_readKey_65 : decode cX2_readKey 65 = .ok (.getfield 139, 3) := by decide +kernel
theorem dX2_readKey_68 : decode cX2_readKey 68 = .ok (.iload_n 2, 1) := by decide +kernel
theorem dX2_readKey_69 : decode cX2_readKey 69 = .ok (.iaload, 1) := by decide +kernel
theorem dX2_readKey_70 : decode cX2_readKey 70 = .ok (.if_icmp .ge 18, 3) := by decide +kernel
theorem dX2_readKey_73 : decode cX2_readKey 73 = .ok (.aload_n 1, 1) := by decide +kernel
theorem dX2_readKey_74 : decode cX2_readKey 74 = .ok (.getfield 142, 3) := by decide +kernel
theorem dX2_readKey_77 : decode cX2_readKey 77 = .ok (.iload_n 2, 1) := by decide +kernel
theorem dX2_readKey_78 : decode cX2_readKey 78 = .ok (.iaload, 1) := by decide +kernel
theorem dX2_readKey_79 : decode cX2_readKey 79 = .ok (.iload 4, 2) := by decide +kernel
theorem dX2_readKey_81 : decode cX2_readKey 81 = .ok (.ishr, 1) := by decide +kernel
theorem dX2_readKey_82 : decode cX2_readKey 82 = .ok (.iconst 1, 1) := by decide +kernel
theorem dX2_readKey_83 : decode cX2_readKey 83 = .ok (.iand, 1) := by decide +kernel
theorem dX2_readKey_84 : decode cX2_readKey 84 = .ok (.iconst 1, 1) := by decide +kernel
theorem dX2_readKey_85 : decode cX2_readKey 85 = .ok (.if_icmp .ne 9, 3) := by decide +kernel
theorem dX2_readKey_88 : decode cX2_readKey 88 = .ok (.aload_n 0, 1) := by decide +kernel
theorem dX2_readKey_89 : decode cX2_readKey 89 = .ok (.iconst 5, 1) := by decide +kernel
theorem dX2_readKey_90 : decode cX2_readKey 90 = .ok (.invokevirtual 97, 3) := by decide +kernel
theorem dX2_readKey_93 : decode cX2_readKey 93 = .ok (.ireturn, 1) := by decide +kernel
theorem dX2_readKey_94 : decode cX2_readKey 94 = .ok (.aload_n 1, 1) := by decide +kernel
theorem dX2_readKey_95 : decode cX2_readKey 95 = .ok (.getfield 142, 3) := by decide +kernel
theorem dX2_readKey_98 : decode cX2_readKey 98 = .ok (.iload_n 2, 1) := by decide +kernel
theorem dX2_readKey_99 : decode cX2_readKey 99 = .ok (.dup2, 1) := by decide +kernel
theorem dX2_readKey_100 : decode cX2_readKey 100 = .ok (.iaload, 1) := by decide +kernel
theorem dX2_readKey_101 : decode cX2_readKey 101 = .ok (.iconst 1, 1) := by decide +kernel
theorem dX2_readKey_102 : decode cX2_readKey 102 = .ok (.iload 4, 2) := by decide +kernel
theorem dX2_readKey_104 : decode cX2_readKey 104 = .ok (.ishl, 1) := by decide +kernel
theorem dX2_readKey_105 : decode cX2_readKey 105 = .ok (.ior, 1) := by decide +kernel
theorem dX2_readKey_106 : decode cX2_readKey 106 = .ok (.iastore, 1) := by decide +kernel
theorem dX2_readKey_107 : decode cX2_readKey 107 = .ok (.aload_n 0, 1) := by decide +kernel
theorem dX2_readKey_108 : decode cX2_readKey 108 = .ok (.invokevirtual 42, 3) := by decide +kernel
theorem dX2_readKey_111 : decode cX2_readKey 111 = .ok (.iinc 3 1, 3) := by decide +kernel
theorem dX2_readKey_114 : decode cX2_readKey 114 = .ok (.goto (-97), 3) := by decide +kernel
theorem dX2_readKey_117 : decode cX2_readKey 117 = .ok (.iconst 1, 1) := by decide +kernel
theorem dX2_readKey_118 : decode cX2_readKey 118 = .ok (.ireturn, 1) := by decide +kernel
def mX2_readKey : MM := (yX2_readKey, cX2_readKey, 5, Option.some Jvm.ClassFile.FieldType.boolean, { frames := 6, cells := 0, slots := 0, locals := 172 })
def X2_readKey_L17 (o1_ : Nat) (u2_ : Int32)  : Nat → Int32 → SS → Option (Bool × SS) :=
  lp (fun _ _ => none) fun rec v3_ σ_ =>
    if (6 : Int32) < v3_ then (
      some (true, σ_)
      ) else (
      bnd1 (fX2_isLetter σ_) fun b6 =>
      if b6 = true then (
        grd (inb (gI σ_ 26 2) 400) <|
        vthen ((gI σ_ 27 (Int32.toNatClampNeg (gI σ_ 26 2))) - (97 : Int32)) fun v9 =>
        grd (inb u2_ 12) <|
        vthen (fun (_u : Unit) =>
          bnd (fX2_refuse σ_ (5 : Int32)) fun b12 σ14 =>
          some (b12, σ14)
          ) fun j88 =>
        if (gI σ_ (o1_ + 3) (Int32.toNatClampNeg u2_)) ≤ v9 then (
          j88 ()
          ) else (
          if (((gI σ_ (o1_ + 4) (Int32.toNatClampNeg u2_)) >>> (v9 &&& 31)) &&& (1 : Int32)) = (1 : Int32) then (
            j88 ()
            ) else (
            vthen (sI σ_ (o1_ + 4) (Int32.toNatClampNeg u2_) ((gI σ_ (o1_ + 4) (Int32.toNatClampNeg u2_)) ||| ((1 : Int32) <<< (v9 &&& 31)))) fun σ15 =>
            bnd1 (fX2_advance σ15) fun σ16 =>
            rec (v3_ + (1 : Int32)) σ16
            )
          )
        ) else (
        vthen (fun  (σ17 : SS) =>
          some (true, σ17)
          ) fun j42 =>
        if 0 < v3_ then (
          j42 σ_
          ) else (
          bnd (fX2_refuse σ_ (1 : Int32)) fun b19 σ21 =>
          if b19 = true then (
            j42 σ21
            ) else (
            some (false, σ21)
            )
          )
        )
      )

def fX2_readKey (σ : SS) (a1 : Nat) (a2 : Int32) : Option (Bool × SS) :=
  bnd1 (fX2_isWord σ 4) fun b2 =>
  if b2 = true then (
    bnd1 (fX2_advance σ) fun σ4 =>
    X2_readKey_L17 a1 a2
    fuel (0 : Int32) σ4
    ) else (
    some (true, σ)
    )

set_option maxRecDepth 20000 in
theorem sX2_readKey_L17 {g : GG} {r : Bool × SS} {o1_ : Nat} {u2_ : Int32}  (hs1_ : shp o1_ = (1, 0))
    (n : Nat) : ∀ (v3_ : Int32) (σ_ : SS), X2_readKey_L17 o1_ u2_ n v3_ σ_ = some r → WT σ_ → RR g mX2_readKey (FinR g mX2_readKey (some (.int (b2i r.1))) NF r.2) zF 17 [(0, .ref (ad g 26)), (1, .ref (ad g o1_)), (2, .int u2_), (3, .int v3_)] [] σ_ := by
  unfold X2_readKey_L17
  refine lp_ind (P := fun (rec : Int32 → SS → Option (Bool × SS)) => ∀ (v3_ : Int32) (σ_ : SS), rec v3_ σ_ = some r → WT σ_ → RR g mX2_readKey (FinR g mX2_readKey (some (.int (b2i r.1))) NF r.2) zF 17 [(0, .ref (ad g 26)), (1, .ref (ad g o1_)), (2, .int u2_), (3, .int v3_)] [] σ_) ?_ ?_ n
  · intro v3_ σ_ hr; cases hr
  intro rec ih v3_ σ_ hr hw_
  refine r_iload_n (pc := 17) (j := 3) dX2_readKey_17 rfl rfl ?_
  refine r_bipush (pc := 18) (v := (6 : Int32)) dX2_readKey_18 rfl ?_
  refine r_icmp_gt (pc := 20) (tgt := 117) dX2_readKey_20 rfl (fun hc => ?_) (fun hc => ?_)
  · replace hr := ite_t hc hr
    refine r_iconst (pc := 117) (v := (1 : Int32)) dX2_readKey_117 rfl ?_
    exact l_osz hr (r_zret (pc := 118) (v := b2i true) (ty := .boolean) rfl (b2i_nar _) rfl ⟨Nat.le_refl _, Nat.le_refl _⟩ dX2_readKey_118)
  replace hr := ite_f hc hr
  refine r_aload_n (pc := 23) (j := 0) dX2_readKey_23 rfl rfl ?_
  obtain ⟨b6, hb6, hr⟩ := bnd1_inv hr
  refine kX2_isLetter (pc := 24) hb6 tw_4_49 ⟨nle rfl, nle rfl⟩ (nle rfl) dX2_readKey_24 ?_
  refine r_ifB_ne (pc := 27) (tgt := 48) dX2_readKey_27 rfl (fun hc => ?_) (fun hc => ?_)
  · replace hr := ite_t hc hr
    refine r_aload_n (pc := 48) (j := 0) dX2_readKey_48 rfl rfl ?_
    refine gf2_0 (pc := 49) tw_1_144 hw_ dX2_readKey_49 ?_
    refine r_aload_n (pc := 52) (j := 0) dX2_readKey_52 rfl rfl ?_
    refine gf2_2 (pc := 53) tw_1_146 rfl dX2_readKey_53 ?_
    obtain ⟨h8, hr⟩ := grd_inv hr
    refine x_iald (pc := 56) (k := (Int32.toNatClampNeg (gI σ_ 26 2))) rfl h8 rfl dX2_readKey_56 ?_
    refine r_bipush (pc := 57) (v := (97 : Int32)) dX2_readKey_57 rfl ?_
    refine r_isub (pc := 59) dX2_readKey_59 ?_
    refine r_topi fun v9 ev9 => ?_
    replace hr := vthen_inv hr v9 ev9
    refine r_istore (pc := 60) (ls1 := [(4, .int v9), (0, .ref (ad g 26)), (1, .ref (ad g o1_)), (2, .int u2_), (3, .int v3_)]) dX2_readKey_60 (nle rfl) rfl ?_
    refine r_iload (pc := 62) (j := 0) dX2_readKey_62 rfl ?_
    refine r_aload_n (pc := 64) (j := 2) dX2_readKey_64 rfl rfl ?_
    refine gf1_9 (pc := 65) tw_1_93 hw_ hs1_ dX2_readKey_65 ?_
    refine r_iload_n (pc := 68) (j := 3) dX2_readKey_68 rfl rfl ?_
    obtain ⟨h10, hr⟩ := grd_inv hr
    refine x_iald (pc := 69) (k := (Int32.toNatClampNeg u2_)) (sh1_9 hs1_) h10 rfl dX2_readKey_69 ?_
    obtain ⟨j88, ej88, hr⟩ := vth_ex hr
    have hj88 : j88 () = some r → RR g mX2_readKey (FinR g mX2_readKey (some (.int (b2i r.1))) NF r.2) zF 88 [(0, .ref (ad g 26))] [] σ_ := by
      intro  hr
      replace hr := (congrFun ej88 ()).symm.trans hr
      refine r_aload_n (pc := 88) (j := 0) dX2_readKey_88 rfl rfl ?_
      refine r_iconst (pc := 89) (v := (5 : Int32)) dX2_readKey_89 rfl ?_
      obtain ⟨b12, σ14, eσ14, hr⟩ := bnd_inv hr
      refine kX2_refuse (pc := 90) eσ14 tw_3_238 ⟨nle rfl, nle rfl⟩ (nle rfl) dX2_readKey_90 fun hσ14 => ?_
      exact l_osz hr (r_zret (pc := 93) (v := b2i b12) (ty := .boolean) rfl (b2i_nar _) rfl ⟨Nat.le_refl _, Nat.le_refl _⟩ dX2_readKey_93)
    refine r_icmp_ge (pc := 70) (tgt := 88) dX2_readKey_70 rfl (fun hc => ?_) (fun hc => ?_)
    · replace hr := ite_t hc hr
      exact r_pick (ls1 := [(0, .ref (ad g 26))]) [1] rfl (hj88  hr)
    replace hr := ite_f hc hr
    refine r_aload_n (pc := 73) (j := 2) dX2_readKey_73 rfl rfl ?_
    refine gf1_10 (pc := 74) tw_1_96 hw_ hs1_ dX2_readKey_74 ?_
    refine r_iload_n (pc := 77) (j := 3) dX2_readKey_77 rfl rfl ?_
    refine x_iald (pc := 78) (k := (Int32.toNatClampNeg u2_)) (sh1_10 hs1_) h10 rfl dX2_readKey_78 ?_
    refine r_iload (pc := 79) (j := 0) dX2_readKey_79 rfl ?_
    refine r_ishr (pc := 81) dX2_readKey_81 ?_
    refine r_iconst (pc := 82) (v := (1 : Int32)) dX2_readKey_82 rfl ?_
    refine r_iand (pc := 83) dX2_readKey_83 ?_
    refine r_iconst (pc := 84) (v := (1 : Int32)) dX2_readKey_84 rfl ?_
    refine r_icmp_ne (pc := 85) (tgt := 94) dX2_readKey_85 rfl (fun hc => ?_) (fun hc => ?_)
    · replace hr := ite_f hc hr
      refine r_aload_n (pc := 94) (j := 2) dX2_readKey_94 rfl rfl ?_
      refine gf1_10 (pc := 95) tw_1_96 hw_ hs1_ dX2_readKey_95 ?_
      refine r_iload_n (pc := 98) (j := 3) dX2_readKey_98 rfl rfl ?_
      refine r_dup2 (pc := 99) dX2_readKey_99 rfl rfl ?_
      refine x_iald (pc := 100) (k := (Int32.toNatClampNeg u2_)) (sh1_10 hs1_) h10 rfl dX2_readKey_100 ?_
      refine r_iconst (pc := 101) (v := (1 : Int32)) dX2_readKey_101 rfl ?_
      refine r_iload (pc := 102) (j := 0) dX2_readKey_102 rfl ?_
      refine r_ishl (pc := 104) dX2_readKey_104 ?_
      refine r_ior (pc := 105) dX2_readKey_105 ?_
      refine x_iast (pc := 106) (j := (Int32.toNatClampNeg u2_)) (sh1_10 hs1_) h10 rfl dX2_readKey_106 fun σ15 eσ15 => ?_
      replace hr := vthen_inv hr σ15 eσ15
      have hσ15 := wtI eσ15 hw_
      refine r_aload_n (pc := 107) (j := 1) dX2_readKey_107 rfl rfl ?_
      obtain ⟨σ16, eσ16, hr⟩ := bnd1_inv hr
      refine kX2_advance (pc := 108) eσ16 tw_3_166 ⟨nle rfl, nle rfl⟩ (nle rfl) dX2_readKey_108 fun hσ16 => ?_
      refine r_iinc (pc := 111) (j := 4) (v := (v3_ + (1 : Int32))) (ls1 := [(3, .int (v3_ + (1 : Int32))), (4, .int v9), (0, .ref (ad g 26)), (1, .ref (ad g o1_)), (2, .int u2_)]) dX2_readKey_111 rfl rfl (nle rfl) rfl ?_
      refine r_goto (pc := 114) (tgt := 17) dX2_readKey_114 rfl ?_
      exact r_pick (ls1 := [(0, .ref (ad g 26)), (1, .ref (ad g o1_)), (2, .int u2_), (3, .int (v3_ + (1 : Int32)))]) [2, 3, 4, 0] rfl (ih (v3_ + (1 : Int32)) σ16 hr hσ16)
    replace hr := ite_t hc hr
    exact r_pick (ls1 := [(0, .ref (ad g 26))]) [1] rfl (hj88  hr)
  replace hr := ite_f hc hr
  refine r_iload_n (pc := 30) (j := 3) dX2_readKey_30 rfl rfl ?_
  obtain ⟨j42, ej42, hr⟩ := vth_ex hr
  have hj42 : ∀ (σ17 : SS), j42 σ17 = some r → WT σ17 → RR g mX2_readKey (FinR g mX2_readKey (some (.int (b2i r.1))) NF r.2) zF 42 [] [] σ17 := by
    intro σ17 hr hσ17
    replace hr := (congrFun ej42 σ17).symm.trans hr
    refine r_iconst (pc := 42) (v := (1 : Int32)) dX2_readKey_42 rfl ?_
    refine r_goto (pc := 43) (tgt := 47) dX2_readKey_43 rfl ?_
    exact l_osz hr (r_zret (pc := 47) (v := b2i true) (ty := .boolean) rfl (b2i_nar _) rfl ⟨Nat.le_refl _, Nat.le_refl _⟩ dX2_readKey_47)
  refine r_if_gt (pc := 31) (tgt := 42) dX2_readKey_31 rfl (fun hc => ?_) (fun hc => ?_)
  · replace hr := ite_t hc hr
    exact r_pick (ls1 := []) [] rfl (hj42 σ_ hr hw_)
  replace hr := ite_f hc hr
  refine r_aload_n (pc := 34) (j := 0) dX2_readKey_34 rfl rfl ?_
  refine r_iconst (pc := 35) (v := (1 : Int32)) dX2_readKey_35 rfl ?_
  obtain ⟨b19, σ21, eσ21, hr⟩ := bnd_inv hr
  refine kX2_refuse (pc := 36) eσ21 tw_3_238 ⟨nle rfl, nle rfl⟩ (nle rfl) dX2_readKey_36 fun hσ21 => ?_
  refine r_ifB_eq (pc := 39) (tgt := 46) dX2_readKey_39 rfl (fun hc => ?_) (fun hc => ?_)
  · replace hr := ite_f hc hr
    refine r_iconst (pc := 46) (v := (0 : Int32)) dX2_readKey_46 rfl ?_
    exact l_osz hr (r_zret (pc := 47) (v := b2i false) (ty := .boolean) rfl (b2i_nar _) rfl ⟨Nat.le_refl _, Nat.le_refl _⟩ dX2_readKey_47)
  replace hr := ite_t hc hr
  exact r_pick (ls1 := []) [] rfl (hj42 σ21 hr hσ21)

set_option maxRecDepth 20000 in
theorem sX2_readKey {g : GG} {σ : SS} {a1 : Nat} {a2 : Int32} {r : Bool × SS} (hr : fX2_readKey σ a1 a2 = some r) (hs1 : shp a1 = (1, 0)) : Ct g mX2_readKey [.ref (ad g 26), .ref (ad g a1), .int a2] NF σ (some (.int (b2i r.1))) NF r.2 := by
  refine Ct.of (by decide +kernel) (nle rfl) fun hw0 => ?_
  have hw := hw0 rfl
  unfold fX2_readKey at hr
  change RR g mX2_readKey (FinR g mX2_readKey (some (.int (b2i r.1))) NF r.2) zF 0 [(0, .ref (ad g 26)), (1, .ref (ad g a1)), (2, .int a2)] [] σ
  refine r_aload_n (pc := 0) (j := 0) dX2_readKey_0 rfl rfl ?_
  refine r_ldcs (pc := 1) 4 (by decide) rfl dX2_readKey_1 ?_
  obtain ⟨b2, hb2, hr⟩ := bnd1_inv hr
  refine kX2_isWord (pc := 3) hb2 (by decide) tw_3_186 ⟨nle rfl, nle rfl⟩ (nle rfl) dX2_readKey_3 ?_
  refine r_ifB_ne (pc := 6) (tgt := 11) dX2_readKey_6 rfl (fun hc => ?_) (fun hc => ?_)
  · replace hr := ite_t hc hr
    refine r_aload_n (pc := 11) (j := 0) dX2_readKey_11 rfl rfl ?_
    obtain ⟨σ4, eσ4, hr⟩ := bnd1_inv hr
    refine kX2_advance (pc := 12) eσ4 tw_3_166 ⟨nle rfl, nle rfl⟩ (nle rfl) dX2_readKey_12 fun hσ4 => ?_
    refine r_iconst (pc := 15) (v := (0 : Int32)) dX2_readKey_15 rfl ?_
    refine r_istore_n (pc := 16) (ls1 := [(3, .int (0 : Int32)), (0, .ref (ad g 26)), (1, .ref (ad g a1)), (2, .int a2)]) dX2_readKey_16 rfl (nle rfl) rfl ?_
    refine r_pick (ls1 := [(0, .ref (ad g 26)), (1, .ref (ad g a1)), (2, .int a2), (3, .int (0 : Int32))]) [1, 2, 3, 0] rfl ?_
    refine sX2_readKey_L17 hs1    fuel (0 : Int32) σ4 hr hσ4
  replace hr := ite_f hc hr
  refine r_iconst (pc := 9) (v := (1 : Int32)) dX2_readKey_9 rfl ?_
  exact l_osz hr (r_zret (pc := 10) (v := b2i true) (ty := .boolean) rfl (b2i_nar _) rfl ⟨Nat.le_refl _, Nat.le_refl _⟩ dX2_readKey_10)

theorem kX2_readKey {g : GG} {σ : SS} {a1 : Nat} {a2 : Int32} {v : Bool} {σ2 : SS} {M : MM} {F : State → Array Value → List Frame → State → Prop} {pc index : Nat} {ls : List (Nat × Value)} {rest : List Value} (hf : fX2_readKey σ a1 a2 = some (v, σ2)) (hs1 : shp a1 = (1, 0)) (hl : Cond.methodLink M.1.cls index yX2_readKey ∈ lw_gt) (hR : mX2_readKey.2.2.2.2.frames + 1 ≤ M.2.2.2.2.frames ∧ 8 + (mX2_readKey.2.2.1 + 11) + mX2_readKey.2.2.2.2.locals ≤ M.2.2.2.2.locals) (hrest : (rest.map fun v => v.category).sum ≤ 8) (hd : decode M.2.1 pc = .ok (.invokevirtual index, 3)) (k : WT σ2 → RR g M F zF (pc + 3) ls (.int (b2i v) :: rest) σ2) : RR g M F zF pc ls (.int a2 :: .ref (ad g a1) :: .ref (ad g 26) :: rest) σ :=
  r_callV (z := zF) (N := mX2_readKey) (nn := 2) (o1 := some (.int (b2i v))) (sX2_readKey hf hs1) (rfl : shp 26 = (2, 0)) (by decide) (shp_le (rfl : shp 26 = (2, 0)) (nle rfl)) (ci := 2) rfl rfl tw_4_47 tw_1_4 hl tw_4_46 tp_25 ⟨by decide, by decide, rfl⟩ hR rfl hrest hd ⟨Nat.zero_le _, Nat.zero_le _⟩ rfl (fun h => k (h rfl))

theorem dX2_readWorth_0 : decode cX2_readWorth 0 = .ok (.aload_n 0, 1) := by decide +kernel
theorem dX2_readWorth_1 : decode cX2_readWorth 1 = .ok (.ldc 145, 2) := by decide +kernel
theorem dX2_readWorth_3 : decode cX2_readWorth 3 = .ok (.invokevirtual 92, 3) := by decide +kernel
theorem dX2_readWorth_6 : decode cX2_readWorth 6 = .ok (.ifCond .ne 5, 3) := by decide +kernel
theorem dX2_readWorth_9 : decode cX2_readWorth 9 = .ok (.iconst 1, 1) := by decide +kernel
theorem dX2_readWorth_10 : decode cX2_readWorth 10 = .ok (.ireturn, 1) := by decide +kernel
theorem dX2_readWorth_11 : decode cX2_readWorth 11 = .ok (.aload_n 0, 1) := by decide +kernel
theorem dX2_readWorth_12 : decode cX2_readWorth 12 = .ok (.invokevirtual 42, 3) := by decide +kernel
theorem dX2_readWorth_15 : decode cX2_readWorth 15 = .ok (.aload_n 0, 1) := by decide +kernel
theorem dX2_readWorth_16 : decode cX2_readWorth 16 = .ok (.iconst 0, 1) := by decide +kernel
theorem dX2_readWorth_17 : decode cX2_readWorth 17 = .ok (.bipush 99, 2) := by decide +kernel
theorem dX2_readWorth_19 : decode cX2_readWorth 19 = .ok (.invokevirtual 62, 3) := by decide +kernel
theorem dX2_readWorth_22 : decode cX2_readWorth 22 = .ok (.ifCond .ne 5, 3) := by decide +kernel
theorem dX2_readWorth_25 : decode cX2_readWorth 25 = .ok (.iconst 0, 1) := by decide +kernel
theorem dX2_readWorth_26 : decode cX2_readWorth 26 = .ok (.ireturn, 1) := by decide +kernel
theorem dX2_readWorth_27 : decode cX2_readWorth 27 = .ok (.aload_n 1, 1) := by decide +kernel
theorem dX2_readWorth_28 : decode cX2_readWorth 28 = .ok (.getfield 147, 3) := by decide +kernel
theorem dX2_readWorth_31 : decode cX2_readWorth 31 = .ok (.iload_n 2, 1) := by decide +kernel
theorem dX2_readWorth_32 : decode cX2_readWorth 32 = .ok (.aload_n 0, 1) := by decide +kernel
theorem dX2_readWorth_33 : decode cX2_readWorth 33 = .ok (.getfield 66, 3) := by decide +kernel
theorem dX2_readWorth_36 : decode cX2_readWorth 36 = .ok (.iastore, 1) := by decide +kernel
theorem dX2_readWorth_37 : decode cX2_readWorth 37 = .ok (.iconst 1, 1) := by decide +kernel
theorem dX2_readWorth_38 : decode cX2_readWorth 38 = .ok (.ireturn, 1) := by decide +kernel
def mX2_readWorth : MM := (yX2_readWorth, cX2_readWorth, 3, Option.some Jvm.ClassFile.FieldType.boolean, { frames := 6, cells := 0, slots := 0, locals := 172 })
def fX2_readWorth (σ : SS) (a1 : Nat) (a2 : Int32) : Option (Bool × SS) :=
  bnd1 (fX2_isWord σ 5) fun b2 =>
  if b2 = true then (
    bnd1 (fX2_advance σ) fun σ4 =>
    bnd (fX2_takeNumber σ4 (0 : Int32) (99 : Int32)) fun b6 σ8 =>
    if b6 = true then (
      grd (inb a2 12) <|
      vthen (sI σ8 (a1 + 5) (Int32.toNatClampNeg a2) (gI σ8 26 6)) fun σ10 =>
      some (true, σ10)
      ) else (
      some (false, σ8)
      )
    ) else (
    some (true, σ)
    )

set_option maxRecDepth 20000 in
theorem sX2_readWorth {g : GG} {σ : SS} {a1 : Nat} {a2 : Int32} {r : Bool × SS} (hr : fX2_readWorth σ a1 a2 = some r) (hs1 : shp a1 = (1, 0)) : Ct g mX2_readWorth [.ref (ad g 26), .ref (ad g a1), .int a2] NF σ (some (.int (b2i r.1))) NF r.2 := by
  refine Ct.of (by decide +kernel) (nle rfl) fun hw0 => ?_
  have hw := hw0 rfl
  unfold fX2_readWorth at hr
  change RR g mX2_readWorth (FinR g mX2_readWorth (some (.int (b2i r.1))) NF r.2) zF 0 [(0, .ref (ad g 26)), (1, .ref (ad g a1)), (2, .int a2)] [] σ
  refine r_aload_n (pc := 0) (j := 0) dX2_readWorth_0 rfl rfl ?_
  refine r_ldcs (pc := 1) 5 (by decide) rfl dX2_readWorth_1 ?_
  obtain ⟨b2, hb2, hr⟩ := bnd1_inv hr
  refine kX2_isWord (pc := 3) hb2 (by decide) tw_3_186 ⟨nle rfl, nle rfl⟩ (nle rfl) dX2_readWorth_3 ?_
  refine r_ifB_ne (pc := 6) (tgt := 11) dX2_readWorth_6 rfl (fun hc => ?_) (fun hc => ?_)
  · replace hr := ite_t hc hr
    refine r_aload_n (pc := 11) (j := 0) dX2_readWorth_11 rfl rfl ?_
    obtain ⟨σ4, eσ4, hr⟩ := bnd1_inv hr
    refine kX2_advance (pc := 12) eσ4 tw_3_166 ⟨nle rfl, nle rfl⟩ (nle rfl) dX2_readWorth_12 fun hσ4 => ?_
    refine r_aload_n (pc := 15) (j := 0) dX2_readWorth_15 rfl rfl ?_
    refine r_iconst (pc := 16) (v := (0 : Int32)) dX2_readWorth_16 rfl ?_
    refine r_bipush (pc := 17) (v := (99 : Int32)) dX2_readWorth_17 rfl ?_
    obtain ⟨b6, σ8, eσ8, hr⟩ := bnd_inv hr
    refine kX2_takeNumber (pc := 19) eσ8 tw_4_2 ⟨nle rfl, nle rfl⟩ (nle rfl) dX2_readWorth_19 fun hσ8 => ?_
    refine r_ifB_ne (pc := 22) (tgt := 27) dX2_readWorth_22 rfl (fun hc => ?_) (fun hc => ?_)
    · replace hr := ite_t hc hr
      refine r_aload_n (pc := 27) (j := 1) dX2_readWorth_27 rfl rfl ?_
      refine gf1_11 (pc := 28) tw_1_100 hσ8 hs1 dX2_readWorth_28 ?_
      refine r_iload_n (pc := 31) (j := 2) dX2_readWorth_31 rfl rfl ?_
      refine r_aload_n (pc := 32) (j := 0) dX2_readWorth_32 rfl rfl ?_
      refine gf2_6 (pc := 33) tw_1_150 rfl dX2_readWorth_33 ?_
      obtain ⟨h9, hr⟩ := grd_inv hr
      refine x_iast (pc := 36) (j := (Int32.toNatClampNeg a2)) (sh1_11 hs1) h9 rfl dX2_readWorth_36 fun σ10 eσ10 => ?_
      replace hr := vthen_inv hr σ10 eσ10
      have hσ10 := wtI eσ10 hσ8
      refine r_iconst (pc := 37) (v := (1 : Int32)) dX2_readWorth_37 rfl ?_
      exact l_osz hr (r_zret (pc := 38) (v := b2i true) (ty := .boolean) rfl (b2i_nar _) rfl ⟨Nat.le_refl _, Nat.le_refl _⟩ dX2_readWorth_38)
    replace hr := ite_f hc hr
    refine r_iconst (pc := 25) (v := (0 : Int32)) dX2_readWorth_25 rfl ?_
    exact l_osz hr (r_zret (pc := 26) (v := b2i false) (ty := .boolean) rfl (b2i_nar _) rfl ⟨Nat.le_refl _, Nat.le_refl _⟩ dX2_readWorth_26)
  replace hr := ite_f hc hr
  refine r_iconst (pc := 9) (v := (1 : Int32)) dX2_readWorth_9 rfl ?_
  exact l_osz hr (r_zret (pc := 10) (v := b2i true) (ty := .boolean) rfl (b2i_nar _) rfl ⟨Nat.le_refl _, Nat.le_refl _⟩ dX2_readWorth_10)

theorem kX2_readWorth {g : GG} {σ : SS} {a1 : Nat} {a2 : Int32} {v : Bool} {σ2 : SS} {M : MM} {F : State → Array Value → List Frame → State → Prop} {pc index : Nat} {ls : List (Nat × Value)} {rest : List Value} (hf : fX2_readWorth σ a1 a2 = some (v, σ2)) (hs1 : shp a1 = (1, 0)) (hl : Cond.methodLink M.1.cls index yX2_readWorth ∈ lw_gt) (hR : mX2_readWorth.2.2.2.2.frames + 1 ≤ M.2.2.2.2.frames ∧ 8 + (mX2_readWorth.2.2.1 + 11) + mX2_readWorth.2.2.2.2.locals ≤ M.2.2.2.2.locals) (hrest : (rest.map fun v => v.category).sum ≤ 8) (hd : decode M.2.1 pc = .ok (.invokevirtual index, 3)) (k : WT σ2 → RR g M F zF (pc + 3) ls (.int (b2i v) :: rest) σ2) : RR g M F zF pc ls (.int a2 :: .ref (ad g a1) :: .ref (ad g 26) :: rest) σ :=
  r_callV (z := zF) (N := mX2_readWorth) (nn := 2) (o1 := some (.int (b2i v))) (sX2_readWorth hf hs1) (rfl : shp 26 = (2, 0)) (by decide) (shp_le (rfl : shp 26 = (2, 0)) (nle rfl)) (ci := 2) rfl rfl tw_4_56 tw_1_4 hl tw_4_55 tp_27 ⟨by decide, by decide, rfl⟩ hR rfl hrest hd ⟨Nat.zero_le _, Nat.zero_le _⟩ rfl (fun h => k (h rfl))

theorem dX2_readQuestions_0 : decode cX2_readQuestions 0 = .ok (.iconst 0, 1) := by decide +kernel
theorem dX2_readQuestions_1 : decode cX2_readQuestions 1 = .ok (.istore_n 2, 1) := by decide +kernel
theorem dX2_readQuestions_2 : decode cX2_readQuestions 2 = .ok (.iload_n 2, 1) := by decide +kernel
theorem dX2_readQuestions_3 : decode cX2_readQuestions 3 = .ok (.bipush 12, 2) := by decide +kernel
theorem dX2_readQuestions_5 : decode cX2_readQuestions 5 = .ok (.if_icmp .gt 101, 3) := by decide +kernel
theorem dX2_readQuestions_8 : decode cX2_readQuestions 8 = .ok (.aload_n 0, 1) := by decide +kernel
theorem dX2_readQuestions_9 : decode cX2_readQuestions 9 = .ok (.getfield 87, 3) := by decide +kernel
theorem dX2_readQuestions_12 : decode cX2_readQuestions 12 = .ok (.ifCond .ne 5, 3) := by decide +kernel
theorem dX2_readQuestions_15 : decode cX2_readQuestions 15 = .ok (.iconst 1, 1) := by decide +kernel
theorem dX2_readQuestions_16 : decode cX2_readQuestions 16 = .ok (.ireturn, 1) := by decide +kernel
theorem dX2_readQuestions_17 : decode cX2_readQuestions 17 = .ok (.aload_n 0, 1) := by decide +kernel
theorem dX2_readQuestions_18 : decode cX2_readQuestions 18 = .ok (.ldc 90, 2) := by decide +kernel
theorem dX2_readQuestions_20 : decode cX2_readQuestions 20 = .ok (.invokevirtual 92, 3) := by decide +kernel
theorem dX2_readQuestions_23 : decode cX2_readQuestions 23 = .ok (.istore_n 3, 1) := by decide +kernel
theorem dX2_readQuestions_24 : decode cX2_readQuestions 24 = .ok (.iload_n 3, 1) := by decide +kernel
theorem dX2_readQuestions_25 : decode cX2_readQuestions 25 = .ok (.ifCond .ne 18, 3) := by decide +kernel
theorem dX2_readQuestions_28 : decode cX2_readQuestions 28 = .ok (.aload_n 0, 1) := by decide +kernel
theorem dX2_readQuestions_29 : decode cX2_readQuestions 29 = .ok (.ldc 95, 2) := by decide +kernel
theorem dX2_readQuestions_31 : decode cX2_readQuestions 31 = .ok (.invokevirtual 92, 3) := by decide +kernel
theorem dX2_readQuestions_34 : decode cX2_readQuestions 34 = .ok (.ifCond .ne 9, 3) := by decide +kernel
theorem dX2_readQuestions_37 : decode cX2_readQuestions 37 = .ok (.aload_n 0, 1) := by decide +kernel
theorem dX2_readQuestions_38 : decode cX2_readQuestions 38 = .ok (.iconst 1, 1) := by decide +kernel
theorem dX2_readQuestions_39 : decode cX2_readQuestions 39 = .ok (.invokevirtual 97, 3) := by decide +kernel
theorem dX2_readQuestions_42 : decode cX2_readQuestions 42 = .ok (.ireturn, 1) := by decide +kernel
theorem dX2_readQuestions_43 : decode cX2_readQuestions 43 = .ok (.iload_n 2, 1) := by decide +kernel
theorem dX2_readQuestions_44 : decode cX2_readQuestions 44 = .ok (.bipush 12, 2) := by decide +kernel
theorem dX2_readQuestions_46 : decode cX2_readQuestions 46 = .ok (.if_icmp .ne 9, 3) := by decide +kernel
theorem dX2_readQuestions_49 : decode cX2_readQuestions 49 = .ok (.aload_n 0, 1) := by decide +kernel
theorem dX2_readQuestions_50 : decode cX2_readQuestions 50 = .ok (.iconst 3, 1) := by decide +kernel
theorem dX2_readQuestions_51 : decode cX2_readQuestions 51 = .ok (.invokevirtual 97, 3) := by decide +kernel
theorem dX2_readQuestions_54 : decode cX2_readQuestions 54 = .ok (.ireturn, 1) := by decide +kernel
theorem dX2_readQuestions_55 : decode cX2_readQuestions 55 = .ok (.aload_n 0, 1) := by decide +kernel
theorem dX2_readQuestions_56 : decode cX2_readQuestions 56 = .ok (.invokevirtual 42, 3) := by decide +kernel
theorem dX2_readQuestions_59 : decode cX2_readQuestions 59 = .ok (.aload_n 1, 1) := by decide +kernel
theorem dX2_readQuestions_60 : decode cX2_readQuestions 60 = .ok (.iload_n 3, 1) := by decide +kernel
theorem dX2_readQuestions_61 : decode cX2_readQuestions 61 = .ok (.invokevirtual 100, 3) := by decide +kernel
theorem dX2_readQuestions_64 : decode cX2_readQuestions 64 = .ok (.aload_n 0, 1) := by decide +kernel
theorem dX2_readQuestions_65 : decode cX2_readQuestions 65 = .ok (.aload_n 1, 1) := by decide +kernel
theorem dX2_readQuestions_66 : decode cX2_readQuestions 66 = .ok (.invokevirtual 104, 3) := by decide +kernel
theorem dX2_readQuestions_69 : decode cX2_readQuestions 69 = .ok (.ifCond .eq 29, 3) := by decide +kernel
theorem dX2_readQuestions_72 : decode cX2_readQuestions 72 = .ok (.aload_n 0, 1) := by decide +kernel
theorem dX2_readQuestions_73 : decode cX2_readQuestions 73 = .ok (.aload_n 1, 1) := by decide +kernel
theorem dX2_readQuestions_74 : decode cX2_readQuestions 74 = .ok (.iload_n 2, 1) := by decide +kernel
theorem dX2_readQuestions_75 : decode cX2_readQuestions 75 = .ok (.invokevirtual 107, 3) := by decide +kernel
theorem dX2_readQuestions_78 : decode cX2_readQuestions 78 = .ok (.ifCond .eq 20, 3) := by decide +kernel
theorem dX2_readQuestions_81 : decode cX2_readQuestions 81 = .ok (.aload_n 0, 1) := by decide +kernel
theorem dX2_readQuestions_82 : decode cX2_readQuestions 82 = .ok (.aload_n 1, 1) := by decide +kernel
theorem dX2_readQuestions_83 : decode cX2_readQuestions 83 = .ok (.iload_n 2, 1) := by decide +kernel
theorem dX2_readQuestions_84 : decode cX2_readQuestions 84 = .ok (.invokevirtual 111, 3) := by decide +kernel
theorem dX2_readQuestions_87 : decode cX2_readQuestions 87 = .ok (.ifCond .eq 11, 3) := by decide +kernel
theorem dX2_readQuestions_90 : decode cX2_readQuestions 90 = .ok (.aload_n 0, 1) := by decide +kernel
theorem dX2_readQuestions_91 : decode cX2_readQuestions 91 = .ok (.iconst 4, 1) := by decide +kernel
theorem dX2_readQuestions_92 : decode cX2_readQuestions 92 = .ok (.invokevirtual 75, 3) := by decide +kernel
theorem dX2_readQuestions_95 : decode cX2_readQuestions 95 = .ok (.ifCond .ne 5, 3) := by decide +kernel
theorem dX2_readQuestions_98 : decode cX2_readQuestions 98 = .ok (.iconst 0, 1) := by decide +kernel
theorem dX2_readQuestions_99 : decode cX2_readQuestions 99 = .ok (.ireturn, 1) := by decide +kernel
theorem dX2_readQuestions_100 : decode cX2_readQuestions 100 = .ok (.iinc 2 1, 3) := by decide +kernel
theorem dX2_readQuestions_103 : decode cX2_readQuestions 103 = .ok (.goto (-101), 3) := by decide +kernel
theorem dX2_readQuestions_106 : decode cX2_readQuestions 106 = .ok (.iconst 1, 1) := by decide +kernel
theorem dX2_readQuestions_107 : decode cX2_readQuestions 107 = .ok (.ireturn, 1) := by decide +kernel
def mX2_readQuestions : MM := (yX2_readQuestions, cX2_readQuestions, 4, Option.some Jvm.ClassFile.FieldType.boolean, { frames := 7, cells := 0, slots := 0, locals := 196 })
def X2_readQuestions_L2 (o1_ : Nat)  : Nat → Int32 → SS → Option (Bool × SS) :=
  lp (fun _ _ => none) fun rec v2_ σ_ =>
    if (12 : Int32) < v2_ then (
      some (true, σ_)
      ) else (
      if (gI σ_ 26 4) = 0 then (
        some (true, σ_)
        ) else (
        bnd1 (fX2_isWord σ_ 2) fun b2 =>
        vthen (fun  (σ4 : SS) =>
          if v2_ = (12 : Int32) then (
            bnd (fX2_refuse σ4 (3 : Int32)) fun b24 σ26 =>
            some (b24, σ26)
            ) else (
            bnd1 (fX2_advance σ4) fun σ5 =>
            bnd1 (fX1_addQuestion σ5 o1_ b2) fun σ6 =>
            bnd (fX2_readPlaces σ6 o1_) fun b8 σ10 =>
            if b8 = true then (
              bnd (fX2_readKey σ10 o1_ v2_) fun b12 σ14 =>
              if b12 = true then (
                bnd (fX2_readWorth σ14 o1_ v2_) fun b16 σ18 =>
                if b16 = true then (
                  bnd (fX2_takeSign σ18 (4 : Int32)) fun b20 σ22 =>
                  if b20 = true then (
                    rec (v2_ + (1 : Int32)) σ22
                    ) else (
                    some (false, σ22)
                    )
                  ) else (
                  some (false, σ18)
                  )
                ) else (
                some (false, σ14)
                )
              ) else (
              some (false, σ10)
              )
            )
          ) fun j43 =>
        if b2 = true then (
          j43 σ_
          ) else (
          bnd1 (fX2_isWord σ_ 3) fun b28 =>
          if b28 = true then (
            j43 σ_
            ) else (
            bnd (fX2_refuse σ_ (1 : Int32)) fun b31 σ33 =>
            some (b31, σ33)
            )
          )
        )
      )

def fX2_readQuestions (σ : SS) (a1 : Nat) : Option (Bool × SS) :=
  X2_readQuestions_L2 a1
  fuel (0 : Int32) σ

set_option maxRecDepth 20000 in
theorem sX2_readQuestions_L2 {g : GG} {r : Bool × SS} {o1_ : Nat}  (hs1_ : shp o1_ = (1, 0))
    (n : Nat) : ∀ (v2_ : Int32) (σ_ : SS), X2_readQuestions_L2 o1_ n v2_ σ_ = some r → WT σ_ → RR g mX2_readQuestions (FinR g mX2_readQuestions (some (.int (b2i r.1))) NF r.2) zF 2 [(0, .ref (ad g 26)), (1, .ref (ad g o1_)), (2, .int v2_)] [] σ_ := by
  unfold X2_readQuestions_L2
  refine lp_ind (P := fun (rec : Int32 → SS → Option (Bool × SS)) => ∀ (v2_ : Int32) (σ_ : SS), rec v2_ σ_ = some r → WT σ_ → RR g mX2_readQuestions (FinR g mX2_readQuestions (some (.int (b2i r.1))) NF r.2) zF 2 [(0, .ref (ad g 26)), (1, .ref (ad g o1_)), (2, .int v2_)] [] σ_) ?_ ?_ n
  · intro v2_ σ_ hr; cases hr
  intro rec ih v2_ σ_ hr hw_
  refine r_iload_n (pc := 2) (j := 2) dX2_readQuestions_2 rfl rfl ?_
  refine r_bipush (pc := 3) (v := (12 : Int32)) dX2_readQuestions_3 rfl ?_
  refine r_icmp_gt (pc := 5) (tgt := 106) dX2_readQuestions_5 rfl (fun hc => ?_) (fun hc => ?_)
  · replace hr := ite_t hc hr
    refine r_iconst (pc := 106) (v := (1 : Int32)) dX2_readQuestions_106 rfl ?_
    exact l_osz hr (r_zret (pc := 107) (v := b2i true) (ty := .boolean) rfl (b2i_nar _) rfl ⟨Nat.le_refl _, Nat.le_refl _⟩ dX2_readQuestions_107)
  replace hr := ite_f hc hr
  refine r_aload_n (pc := 8) (j := 0) dX2_readQuestions_8 rfl rfl ?_
  refine gf2_4 (pc := 9) tw_1_148 rfl dX2_readQuestions_9 ?_
  refine r_if_ne (pc := 12) (tgt := 17) dX2_readQuestions_12 rfl (fun hc => ?_) (fun hc => ?_)
  · replace hr := ite_f hc hr
    refine r_aload_n (pc := 17) (j := 0) dX2_readQuestions_17 rfl rfl ?_
    refine r_ldcs (pc := 18) 2 (by decide) rfl dX2_readQuestions_18 ?_
    obtain ⟨b2, hb2, hr⟩ := bnd1_inv hr
    refine kX2_isWord (pc := 20) hb2 (by decide) tw_3_186 ⟨nle rfl, nle rfl⟩ (nle rfl) dX2_readQuestions_20 ?_
    refine r_istore_n (pc := 23) (ls1 := [(3, .int (b2i b2)), (0, .ref (ad g 26)), (1, .ref (ad g o1_)), (2, .int v2_)]) dX2_readQuestions_23 rfl (nle rfl) rfl ?_
    refine r_iload_n (pc := 24) (j := 0) dX2_readQuestions_24 rfl rfl ?_
    obtain ⟨j43, ej43, hr⟩ := vth_ex hr
    have hj43 : ∀ (σ4 : SS), j43 σ4 = some r → WT σ4 → RR g mX2_readQuestions (FinR g mX2_readQuestions (some (.int (b2i r.1))) NF r.2) zF 43 [(0, .ref (ad g 26)), (1, .ref (ad g o1_)), (2, .int v2_), (3, .int (b2i b2))] [] σ4 := by
      intro σ4 hr hσ4
      replace hr := (congrFun ej43 σ4).symm.trans hr
      refine r_iload_n (pc := 43) (j := 2) dX2_readQuestions_43 rfl rfl ?_
      refine r_bipush (pc := 44) (v := (12 : Int32)) dX2_readQuestions_44 rfl ?_
      refine r_icmp_ne (pc := 46) (tgt := 55) dX2_readQuestions_46 rfl (fun hc => ?_) (fun hc => ?_)
      · replace hr := ite_f hc hr
        refine r_aload_n (pc := 55) (j := 0) dX2_readQuestions_55 rfl rfl ?_
        obtain ⟨σ5, eσ5, hr⟩ := bnd1_inv hr
        refine kX2_advance (pc := 56) eσ5 tw_3_166 ⟨nle rfl, nle rfl⟩ (nle rfl) dX2_readQuestions_56 fun hσ5 => ?_
        refine r_aload_n (pc := 59) (j := 1) dX2_readQuestions_59 rfl rfl ?_
        refine r_iload_n (pc := 60) (j := 3) dX2_readQuestions_60 rfl rfl ?_
        obtain ⟨σ6, eσ6, hr⟩ := bnd1_inv hr
        refine kX1_addQuestion (pc := 61) eσ6 hs1_ tw_4_21 ⟨nle rfl, nle rfl⟩ (nle rfl) dX2_readQuestions_61 fun hσ6 => ?_
        refine r_aload_n (pc := 64) (j := 0) dX2_readQuestions_64 rfl rfl ?_
        refine r_aload_n (pc := 65) (j := 1) dX2_readQuestions_65 rfl rfl ?_
        obtain ⟨b8, σ10, eσ10, hr⟩ := bnd_inv hr
        refine kX2_readPlaces (pc := 66) eσ10 hs1_ tw_4_25 ⟨nle rfl, nle rfl⟩ (nle rfl) dX2_readQuestions_66 fun hσ10 => ?_
        refine r_ifB_eq (pc := 69) (tgt := 98) dX2_readQuestions_69 rfl (fun hc => ?_) (fun hc => ?_)
        · replace hr := ite_f hc hr
          refine r_iconst (pc := 98) (v := (0 : Int32)) dX2_readQuestions_98 rfl ?_
          exact l_osz hr (r_zret (pc := 99) (v := b2i false) (ty := .boolean) rfl (b2i_nar _) rfl ⟨Nat.le_refl _, Nat.le_refl _⟩ dX2_readQuestions_99)
        replace hr := ite_t hc hr
        refine r_aload_n (pc := 72) (j := 0) dX2_readQuestions_72 rfl rfl ?_
        refine r_aload_n (pc := 73) (j := 1) dX2_readQuestions_73 rfl rfl ?_
        refine r_iload_n (pc := 74) (j := 2) dX2_readQuestions_74 rfl rfl ?_
        obtain ⟨b12, σ14, eσ14, hr⟩ := bnd_inv hr
        refine kX2_readKey (pc := 75) eσ14 hs1_ tw_4_44 ⟨nle rfl, nle rfl⟩ (nle rfl) dX2_readQuestions_75 fun hσ14 => ?_
        refine r_ifB_eq (pc := 78) (tgt := 98) dX2_readQuestions_78 rfl (fun hc => ?_) (fun hc => ?_)
        · replace hr := ite_f hc hr
          refine r_iconst (pc := 98) (v := (0 : Int32)) dX2_readQuestions_98 rfl ?_
          exact l_osz hr (r_zret (pc := 99) (v := b2i false) (ty := .boolean) rfl (b2i_nar _) rfl ⟨Nat.le_refl _, Nat.le_refl _⟩ dX2_readQuestions_99)
        replace hr := ite_t hc hr
        refine r_aload_n (pc := 81) (j := 0) dX2_readQuestions_81 rfl rfl ?_
        refine r_aload_n (pc := 82) (j := 1) dX2_readQuestions_82 rfl rfl ?_
        refine r_iload_n (pc := 83) (j := 2) dX2_readQuestions_83 rfl rfl ?_
        obtain ⟨b16, σ18, eσ18, hr⟩ := bnd_inv hr
        refine kX2_readWorth (pc := 84) eσ18 hs1_ tw_4_53 ⟨nle rfl, nle rfl⟩ (nle rfl) dX2_readQuestions_84 fun hσ18 => ?_
        refine r_ifB_eq (pc := 87) (tgt := 98) dX2_readQuestions_87 rfl (fun hc => ?_) (fun hc => ?_)
        · replace hr := ite_f hc hr
          refine r_iconst (pc := 98) (v := (0 : Int32)) dX2_readQuestions_98 rfl ?_
          exact l_osz hr (r_zret (pc := 99) (v := b2i false) (ty := .boolean) rfl (b2i_nar _) rfl ⟨Nat.le_refl _, Nat.le_refl _⟩ dX2_readQuestions_99)
        replace hr := ite_t hc hr
        refine r_aload_n (pc := 90) (j := 0) dX2_readQuestions_90 rfl rfl ?_
        refine r_iconst (pc := 91) (v := (4 : Int32)) dX2_readQuestions_91 rfl ?_
        obtain ⟨b20, σ22, eσ22, hr⟩ := bnd_inv hr
        refine kX2_takeSign (pc := 92) eσ22 tw_4_10 ⟨nle rfl, nle rfl⟩ (nle rfl) dX2_readQuestions_92 fun hσ22 => ?_
        refine r_ifB_ne (pc := 95) (tgt := 100) dX2_readQuestions_95 rfl (fun hc => ?_) (fun hc => ?_)
        · replace hr := ite_t hc hr
          refine r_iinc (pc := 100) (j := 2) (v := (v2_ + (1 : Int32))) (ls1 := [(2, .int (v2_ + (1 : Int32))), (0, .ref (ad g 26)), (1, .ref (ad g o1_)), (3, .int (b2i b2))]) dX2_readQuestions_100 rfl rfl (nle rfl) rfl ?_
          refine r_goto (pc := 103) (tgt := 2) dX2_readQuestions_103 rfl ?_
          exact r_pick (ls1 := [(0, .ref (ad g 26)), (1, .ref (ad g o1_)), (2, .int (v2_ + (1 : Int32)))]) [1, 2, 0] rfl (ih (v2_ + (1 : Int32)) σ22 hr hσ22)
        replace hr := ite_f hc hr
        refine r_iconst (pc := 98) (v := (0 : Int32)) dX2_readQuestions_98 rfl ?_
        exact l_osz hr (r_zret (pc := 99) (v := b2i false) (ty := .boolean) rfl (b2i_nar _) rfl ⟨Nat.le_refl _, Nat.le_refl _⟩ dX2_readQuestions_99)
      replace hr := ite_t hc hr
      refine r_aload_n (pc := 49) (j := 0) dX2_readQuestions_49 rfl rfl ?_
      refine r_iconst (pc := 50) (v := (3 : Int32)) dX2_readQuestions_50 rfl ?_
      obtain ⟨b24, σ26, eσ26, hr⟩ := bnd_inv hr
      refine kX2_refuse (pc := 51) eσ26 tw_3_238 ⟨nle rfl, nle rfl⟩ (nle rfl) dX2_readQuestions_51 fun hσ26 => ?_
      exact l_osz hr (r_zret (pc := 54) (v := b2i b24) (ty := .boolean) rfl (b2i_nar _) rfl ⟨Nat.le_refl _, Nat.le_refl _⟩ dX2_readQuestions_54)
    refine r_ifB_ne (pc := 25) (tgt := 43) dX2_readQuestions_25 rfl (fun hc => ?_) (fun hc => ?_)
    · replace hr := ite_t hc hr
      exact r_pick (ls1 := [(0, .ref (ad g 26)), (1, .ref (ad g o1_)), (2, .int v2_), (3, .int (b2i b2))]) [1, 2, 3, 0] rfl (hj43 σ_ hr hw_)
    replace hr := ite_f hc hr
    refine r_aload_n (pc := 28) (j := 1) dX2_readQuestions_28 rfl rfl ?_
    refine r_ldcs (pc := 29) 3 (by decide) rfl dX2_readQuestions_29 ?_
    obtain ⟨b28, hb28, hr⟩ := bnd1_inv hr
    refine kX2_isWord (pc := 31) hb28 (by decide) tw_3_186 ⟨nle rfl, nle rfl⟩ (nle rfl) dX2_readQuestions_31 ?_
    refine r_ifB_ne (pc := 34) (tgt := 43) dX2_readQuestions_34 rfl (fun hc => ?_) (fun hc => ?_)
    · replace hr := ite_t hc hr
      exact r_pick (ls1 := [(0, .ref (ad g 26)), (1, .ref (ad g o1_)), (2, .int v2_), (3, .int (b2i b2))]) [1, 2, 3, 0] rfl (hj43 σ_ hr hw_)
    replace hr := ite_f hc hr
    refine r_aload_n (pc := 37) (j := 1) dX2_readQuestions_37 rfl rfl ?_
    refine r_iconst (pc := 38) (v := (1 : Int32)) dX2_readQuestions_38 rfl ?_
    obtain ⟨b31, σ33, eσ33, hr⟩ := bnd_inv hr
    refine kX2_refuse (pc := 39) eσ33 tw_3_238 ⟨nle rfl, nle rfl⟩ (nle rfl) dX2_readQuestions_39 fun hσ33 => ?_
    exact l_osz hr (r_zret (pc := 42) (v := b2i b31) (ty := .boolean) rfl (b2i_nar _) rfl ⟨Nat.le_refl _, Nat.le_refl _⟩ dX2_readQuestions_42)
  replace hr := ite_t hc hr
  refine r_iconst (pc := 15) (v := (1 : Int32)) dX2_readQuestions_15 rfl ?_
  exact l_osz hr (r_zret (pc := 16) (v := b2i true) (ty := .boolean) rfl (b2i_nar _) rfl ⟨Nat.le_refl _, Nat.le_refl _⟩ dX2_readQuestions_16)

set_option maxRecDepth 20000 in
theorem sX2_readQuestions {g : GG} {σ : SS} {a1 : Nat} {r : Bool × SS} (hr : fX2_readQuestions σ a1 = some r) (hs1 : shp a1 = (1, 0)) : Ct g mX2_readQuestions [.ref (ad g 26), .ref (ad g a1)] NF σ (some (.int (b2i r.1))) NF r.2 := by
  refine Ct.of (by decide +kernel) (nle rfl) fun hw0 => ?_
  have hw := hw0 rfl
  unfold fX2_readQuestions at hr
  change RR g mX2_readQuestions (FinR g mX2_readQuestions (some (.int (b2i r.1))) NF r.2) zF 0 [(0, .ref (ad g 26)), (1, .ref (ad g a1))] [] σ
  refine r_iconst (pc := 0) (v := (0 : Int32)) dX2_readQuestions_0 rfl ?_
  refine r_istore_n (pc := 1) (ls1 := [(2, .int (0 : Int32)), (0, .ref (ad g 26)), (1, .ref (ad g a1))]) dX2_readQuestions_1 rfl (nle rfl) rfl ?_
  refine r_pick (ls1 := [(0, .ref (ad g 26)), (1, .ref (ad g a1)), (2, .int (0 : Int32))]) [1, 2, 0] rfl ?_
  refine sX2_readQuestions_L2 hs1    fuel (0 : Int32) σ hr hw

theorem kX2_readQuestions {g : GG} {σ : SS} {a1 : Nat} {v : Bool} {σ2 : SS} {M : MM} {F : State → Array Value → List Frame → State → Prop} {pc index : Nat} {ls : List (Nat × Value)} {rest : List Value} (hf : fX2_readQuestions σ a1 = some (v, σ2)) (hs1 : shp a1 = (1, 0)) (hl : Cond.methodLink M.1.cls index yX2_readQuestions ∈ lw_gt) (hR : mX2_readQuestions.2.2.2.2.frames + 1 ≤ M.2.2.2.2.frames ∧ 8 + (mX2_readQuestions.2.2.1 + 11) + mX2_readQuestions.2.2.2.2.locals ≤ M.2.2.2.2.locals) (hrest : (rest.map fun v => v.category).sum ≤ 8) (hd : decode M.2.1 pc = .ok (.invokevirtual index, 3)) (k : WT σ2 → RR g M F zF (pc + 3) ls (.int (b2i v) :: rest) σ2) : RR g M F zF pc ls (.ref (ad g a1) :: .ref (ad g 26) :: rest) σ :=
  r_callV (z := zF) (N := mX2_readQuestions) (nn := 1) (o1 := some (.int (b2i v))) (sX2_readQuestions hf hs1) (rfl : shp 26 = (2, 0)) (by decide) (shp_le (rfl : shp 26 = (2, 0)) (nle rfl)) (ci := 2) rfl rfl tw_4_18 tw_1_4 hl tw_4_17 tp_22 ⟨by decide, by decide, rfl⟩ hR rfl hrest hd ⟨Nat.zero_le _, Nat.zero_le _⟩ rfl (fun h => k (h rfl))

theorem dX2_read_0 : decode cX2_read 0 = .ok (.aload_n 0, 1) := by decide +kernel
theorem dX2_read_1 : decode cX2_read 1 = .ok (.iload_n 2, 1) := by decide +kernel
theorem dX2_read_2 : decode cX2_read 2 = .ok (.sipush 400, 3) := by decide +kernel
theorem dX2_read_5 : decode cX2_read 5 = .ok (.invokestatic 15, 3) := by decide +kernel
theorem dX2_read_8 : decode cX2_read 8 = .ok (.putfield 21, 3) := by decide +kernel
theorem dX2_read_11 : decode cX2_read 11 = .ok (.aload_n 1, 1) := by decide +kernel
theorem dX2_read_12 : decode cX2_read 12 = .ok (.iconst 0, 1) := by decide +kernel
theorem dX2_read_13 : decode cX2_read 13 = .ok (.aload_n 0, 1) := by decide +kernel
theorem dX2_read_14 : decode cX2_read 14 = .ok (.getfield 9, 3) := by decide +kernel
theorem dX2_read_17 : decode cX2_read 17 = .ok (.iconst 0, 1) := by decide +kernel
theorem dX2_read_18 : decode cX2_read 18 = .ok (.aload_n 0, 1) := by decide +kernel
theorem dX2_read_19 : decode cX2_read 19 = .ok (.getfield 21, 3) := by decide +kernel
theorem dX2_read_22 : decode cX2_read 22 = .ok (.invokestatic 25, 3) := by decide +kernel
theorem dX2_read_25 : decode cX2_read 25 = .ok (.aload_n 0, 1) := by decide +kernel
theorem dX2_read_26 : decode cX2_read 26 = .ok (.iconst 0, 1) := by decide +kernel
theorem dX2_read_27 : decode cX2_read 27 = .ok (.putfield 31, 3) := by decide +kernel
theorem dX2_read_30 : decode cX2_read 30 = .ok (.aload_n 0, 1) := by decide +kernel
theorem dX2_read_31 : decode cX2_read 31 = .ok (.iconst 0, 1) := by decide +kernel
theorem dX2_read_32 : decode cX2_read 32 = .ok (.putfield 34, 3) := by decide +kernel
theorem dX2_read_35 : decode cX2_read 35 = .ok (.aload_n 3, 1) := by decide +kernel
theorem dX2_read_36 : decode cX2_read 36 = .ok (.invokevirtual 37, 3) := by decide +kernel
theorem dX2_read_39 : decode cX2_read 39 = .ok (.aload_n 0, 1) := by decide +kernel
theorem dX2_read_40 : decode cX2_read 40 = .ok (.invokevirtual 42, 3) := by decide +kernel
theorem dX2_read_43 : decode cX2_read 43 = .ok (.aload_n 0, 1) := by decide +kernel
theorem dX2_read_44 : decode cX2_read 44 = .ok (.aload_n 3, 1) := by decide +kernel
theorem dX2_read_45 : decode cX2_read 45 = .ok (.invokevirtual 45, 3) := by decide +kernel
theorem dX2_read_48 : decode cX2_read 48 = .ok (.ifCond .eq 16, 3) := by decide +kernel
theorem dX2_read_51 : decode cX2_read 51 = .ok (.aload_n 0, 1) := by decide +kernel
theorem dX2_read_52 : decode cX2_read 52 = .ok (.aload_n 3, 1) := by decide +kernel
theorem dX2_read_53 : decode cX2_read 53 = .ok (.invokevirtual 49, 3) := by decide +kernel
theorem dX2_read_56 : decode cX2_read 56 = .ok (.ifCond .eq 8, 3) := by decide +kernel
theorem dX2_read_59 : decode cX2_read 59 = .ok (.aload_n 3, 1) := by decide +kernel
theorem dX2_read_60 : decode cX2_read 60 = .ok (.iconst 1, 1) := by decide +kernel
theorem dX2_read_61 : decode cX2_read 61 = .ok (.putfield 52, 3) := by decide +kernel
theorem dX2_read_64 : decode cX2_read 64 = .ok (.aload_n 0, 1) := by decide +kernel
theorem dX2_read_65 : decode cX2_read 65 = .ok (.getfield 34, 3) := by decide +kernel
theorem dX2_read_68 : decode cX2_read 68 = .ok (.ireturn, 1) := by decide +kernel
def mX2_read : MM := (yX2_read, cX2_read, 4, Option.some Jvm.ClassFile.FieldType.int, { frames := 8, cells := 0, slots := 0, locals := 219 })
def fX2_read (σ : SS) (a2 : Int32) (a3 : Nat) : Option (Int32 × SS) :=
  vthen (sI σ 26 1 (fJ9_min_7cf53 σ a2 (400 : Int32))) fun σ1 =>
  grd (cpOK (0 : Int32) (0 : Int32) (gI σ1 26 1) 480 400) <|
  vthen (cpA σ1 2 (0 : Int32) 27 (0 : Int32) (gI σ1 26 1)) fun σ2 =>
  vthen (sI σ2 26 3 (0 : Int32)) fun σ4 =>
  vthen (sI σ4 26 7 (0 : Int32)) fun σ5 =>
  bnd1 (fX1_empty σ5 a3) fun σ6 =>
  bnd1 (fX2_advance σ6) fun σ7 =>
  bnd (fX2_readHead σ7 a3) fun b9 σ11 =>
  if b9 = true then (
    bnd (fX2_readQuestions σ11 a3) fun b13 σ15 =>
    if b13 = true then (
      vthen (sI σ15 a3 0 (1 : Int32)) fun σ16 =>
      some ((gI σ16 26 7), σ16)
      ) else (
      some ((gI σ15 26 7), σ15)
      )
    ) else (
    some ((gI σ11 26 7), σ11)
    )

set_option maxRecDepth 20000 in
theorem sX2_read {g : GG} {σ : SS} {a2 : Int32} {a3 : Nat} {r : Int32 × SS} (hr : fX2_read σ a2 a3 = some r) (hs3 : shp a3 = (1, 0)) : Ct g mX2_read [.ref (ad g 26), .ref (ad g 2), .int a2, .ref (ad g a3)] NF σ (some (.int r.1)) NF r.2 := by
  refine Ct.of (by decide +kernel) (nle rfl) fun hw0 => ?_
  have hw := hw0 rfl
  unfold fX2_read at hr
  change RR g mX2_read (FinR g mX2_read (some (.int r.1)) NF r.2) zF 0 [(0, .ref (ad g 26)), (1, .ref (ad g 2)), (2, .int a2), (3, .ref (ad g a3))] [] σ
  refine r_aload_n (pc := 0) (j := 0) dX2_read_0 rfl rfl ?_
  refine r_iload_n (pc := 1) (j := 2) dX2_read_1 rfl rfl ?_
  refine r_sipush (pc := 2) (v := (400 : Int32)) dX2_read_2 rfl ?_
  refine kJ9_min_7cf53 (pc := 5) (hf := rfl) tw_3_160 ⟨nle rfl, nle rfl⟩ (nle rfl) dX2_read_5 ?_
  refine pf2_1 (pc := 8) tw_1_145 rfl dX2_read_8 fun σ1 eσ1 => ?_
  replace hr := vthen_inv hr σ1 eσ1
  have hσ1 := wtI eσ1 hw
  refine r_aload_n (pc := 11) (j := 1) dX2_read_11 rfl rfl ?_
  refine r_iconst (pc := 12) (v := (0 : Int32)) dX2_read_12 rfl ?_
  refine r_aload_n (pc := 13) (j := 0) dX2_read_13 rfl rfl ?_
  refine gf2_0 (pc := 14) tw_1_144 hσ1 dX2_read_14 ?_
  refine r_iconst (pc := 17) (v := (0 : Int32)) dX2_read_17 rfl ?_
  refine r_aload_n (pc := 18) (j := 0) dX2_read_18 rfl rfl ?_
  refine gf2_1 (pc := 19) tw_1_145 rfl dX2_read_19 ?_
  obtain ⟨h3, hr⟩ := grd_inv hr
  refine x_cpy (pc := 22) rfl rfl h3 tw_3_161 ⟨nle rfl, nle rfl⟩ (nle rfl) dX2_read_22 fun σ2 eσ2 => ?_
  replace hr := vthen_inv hr σ2 eσ2
  have hσ2 := wtA eσ2 hσ1
  refine r_aload_n (pc := 25) (j := 0) dX2_read_25 rfl rfl ?_
  refine r_iconst (pc := 26) (v := (0 : Int32)) dX2_read_26 rfl ?_
  refine pf2_3 (pc := 27) tw_1_147 rfl dX2_read_27 fun σ4 eσ4 => ?_
  replace hr := vthen_inv hr σ4 eσ4
  have hσ4 := wtI eσ4 hσ2
  refine r_aload_n (pc := 30) (j := 0) dX2_read_30 rfl rfl ?_
  refine r_iconst (pc := 31) (v := (0 : Int32)) dX2_read_31 rfl ?_
  refine pf2_7 (pc := 32) tw_1_151 rfl dX2_read_32 fun σ5 eσ5 => ?_
  replace hr := vthen_inv hr σ5 eσ5
  have hσ5 := wtI eσ5 hσ4
  refine r_aload_n (pc := 35) (j := 3) dX2_read_35 rfl rfl ?_
  obtain ⟨σ6, eσ6, hr⟩ := bnd1_inv hr
  refine kX1_empty (pc := 36) eσ6 hs3 tw_3_162 ⟨nle rfl, nle rfl⟩ (nle rfl) dX2_read_36 fun hσ6 => ?_
  refine r_aload_n (pc := 39) (j := 0) dX2_read_39 rfl rfl ?_
  obtain ⟨σ7, eσ7, hr⟩ := bnd1_inv hr
  refine kX2_advance (pc := 40) eσ7 tw_3_166 ⟨nle rfl, nle rfl⟩ (nle rfl) dX2_read_40 fun hσ7 => ?_
  refine r_aload_n (pc := 43) (j := 0) dX2_read_43 rfl rfl ?_
  refine r_aload_n (pc := 44) (j := 3) dX2_read_44 rfl rfl ?_
  obtain ⟨b9, σ11, eσ11, hr⟩ := bnd_inv hr
  refine kX2_readHead (pc := 45) eσ11 hs3 tw_3_177 ⟨nle rfl, nle rfl⟩ (nle rfl) dX2_read_45 fun hσ11 => ?_
  refine r_ifB_eq (pc := 48) (tgt := 64) dX2_read_48 rfl (fun hc => ?_) (fun hc => ?_)
  · replace hr := ite_f hc hr
    refine r_aload_n (pc := 64) (j := 0) dX2_read_64 rfl rfl ?_
    refine gf2_7 (pc := 65) tw_1_151 rfl dX2_read_65 ?_
    exact l_osi hr (r_iret (pc := 68) (v := (gI σ11 26 7)) rfl rfl ⟨Nat.le_refl _, Nat.le_refl _⟩ dX2_read_68)
  replace hr := ite_t hc hr
  refine r_aload_n (pc := 51) (j := 0) dX2_read_51 rfl rfl ?_
  refine r_aload_n (pc := 52) (j := 3) dX2_read_52 rfl rfl ?_
  obtain ⟨b13, σ15, eσ15, hr⟩ := bnd_inv hr
  refine kX2_readQuestions (pc := 53) eσ15 hs3 tw_4_15 ⟨nle rfl, nle rfl⟩ (nle rfl) dX2_read_53 fun hσ15 => ?_
  refine r_ifB_eq (pc := 56) (tgt := 64) dX2_read_56 rfl (fun hc => ?_) (fun hc => ?_)
  · replace hr := ite_f hc hr
    refine r_aload_n (pc := 64) (j := 0) dX2_read_64 rfl rfl ?_
    refine gf2_7 (pc := 65) tw_1_151 rfl dX2_read_65 ?_
    exact l_osi hr (r_iret (pc := 68) (v := (gI σ15 26 7)) rfl rfl ⟨Nat.le_refl _, Nat.le_refl _⟩ dX2_read_68)
  replace hr := ite_t hc hr
  refine r_aload_n (pc := 59) (j := 3) dX2_read_59 rfl rfl ?_
  refine r_iconst (pc := 60) (v := (1 : Int32)) dX2_read_60 rfl ?_
  refine pf1_0 (pc := 61) tw_1_59 hs3 rfl dX2_read_61 fun σ16 eσ16 => ?_
  replace hr := vthen_inv hr σ16 eσ16
  have hσ16 := wtI eσ16 hσ15
  refine r_aload_n (pc := 64) (j := 0) dX2_read_64 rfl rfl ?_
  refine gf2_7 (pc := 65) tw_1_151 rfl dX2_read_65 ?_
  exact l_osi hr (r_iret (pc := 68) (v := (gI σ16 26 7)) rfl rfl ⟨Nat.le_refl _, Nat.le_refl _⟩ dX2_read_68)

theorem kX2_read {g : GG} {σ : SS} {a2 : Int32} {a3 : Nat} {v : Int32} {σ2 : SS} {M : MM} {F : State → Array Value → List Frame → State → Prop} {pc index : Nat} {ls : List (Nat × Value)} {rest : List Value} (hf : fX2_read σ a2 a3 = some (v, σ2)) (hs3 : shp a3 = (1, 0)) (hl : Cond.methodLink M.1.cls index yX2_read ∈ lw_gt) (hR : mX2_read.2.2.2.2.frames + 1 ≤ M.2.2.2.2.frames ∧ 8 + (mX2_read.2.2.1 + 11) + mX2_read.2.2.2.2.locals ≤ M.2.2.2.2.locals) (hrest : (rest.map fun v => v.category).sum ≤ 8) (hd : decode M.2.1 pc = .ok (.invokevirtual index, 3)) (k : WT σ2 → RR g M F zF (pc + 3) ls (.int v :: rest) σ2) : RR g M F zF pc ls (.ref (ad g a3) :: .int a2 :: .ref (ad g 2) :: .ref (ad g 26) :: rest) σ :=
  r_callV (z := zF) (N := mX2_read) (nn := 3) (o1 := some (.int v)) (sX2_read hf hs3) (rfl : shp 26 = (2, 0)) (by decide) (shp_le (rfl : shp 26 = (2, 0)) (nle rfl)) (ci := 2) rfl rfl tw_3_159 tw_1_4 hl tw_3_157 tw_3_158 ⟨by decide, by decide, rfl⟩ hR rfl hrest hd ⟨Nat.zero_le _, Nat.zero_le _⟩ rfl (fun h => k (h rfl))

theorem dX7_form_0 : decode cX7_form 0 = .ok (.iload_n 1, 1) := by decide +kernel
theorem dX7_form_1 : decode cX7_form 1 = .ok (.iconst 1, 1) := by decide +kernel
theorem dX7_form_2 : decode cX7_form 2 = .ok (.if_icmp .lt 18, 3) := by decide +kernel
theorem dX7_form_5 : decode cX7_form 5 = .ok (.iload_n 1, 1) := by decide +kernel
theorem dX7_form_6 : decode cX7_form 6 = .ok (.sipush 400, 3) := by decide +kernel
theorem dX7_form_9 : decode cX7_form 9 = .ok (.if_icmp .gt 11, 3) := by decide +kernel
theorem dX7_form_12 : decode cX7_form 12 = .ok (.iload_n 1, 1) := by decide +kernel
theorem dX7_form_13 : decode cX7_form 13 = .ok (.aload_n 0, 1) := by decide +kernel
theorem dX7_form_14 : decode cX7_form 14 = .ok (.getfield 77, 3) := by decide +kernel
theorem dX7_form_17 : decode cX7_form 17 = .ok (.if_icmp .le 5, 3) := by decide +kernel
theorem dX7_form_20 : decode cX7_form 20 = .ok (.iconst (-1), 1) := by decide +kernel
theorem dX7_form_21 : decode cX7_form 21 = .ok (.ireturn, 1) := by decide +kernel
theorem dX7_form_22 : decode cX7_form 22 = .ok (.aload_n 0, 1) := by decide +kernel
theorem dX7_form_23 : decode cX7_form 23 = .ok (.iconst 0, 1) := by decide +kernel
theorem dX7_form_24 : decode cX7_form 24 = .ok (.putfield 77, 3) := by decide +kernel
theorem dX7_form_27 : decode cX7_form 27 = .ok (.aload_n 0, 1) := by decide +kernel
theorem dX7_form_28 : decode cX7_form 28 = .ok (.getfield 42, 3) := by decide +kernel
theorem dX7_form_31 : decode cX7_form 31 = .ok (.aload_n 0, 1) := by decide +kernel
theorem dX7_form_32 : decode cX7_form 32 = .ok (.getfield 11, 3) := by decide +kernel
theorem dX7_form_35 : decode cX7_form 35 = .ok (.iload_n 1, 1) := by decide +kernel
theorem dX7_form_36 : decode cX7_form 36 = .ok (.aload_n 0, 1) := by decide +kernel
theorem dX7_form_37 : decode cX7_form 37 = .ok (.getfield 36, 3) := by decide +kernel
theorem dX7_form_40 : decode cX7_form 40 = .ok (.invokevirtual 84, 3) := by decide +kernel
theorem dX7_form_43 : decode cX7_form 43 = .ok (.istore_n 2, 1) := by decide +kernel
theorem dX7_form_44 : decode cX7_form 44 = .ok (.iload_n 2, 1) := by decide +kernel
theorem dX7_form_45 : decode cX7_form 45 = .ok (.ifCond .eq 5, 3) := by decide +kernel
theorem dX7_form_48 : decode cX7_form 48 = .ok (.iload_n 2, 1) := by decide +kernel
theorem dX7_form_49 : decode cX7_form 49 = .ok (.ireturn, 1) := by decide +kernel
theorem dX7_form_50 : decode cX7_form 50 = .ok (.aload_n 0, 1) := by decide +kernel
theorem dX7_form_51 : decode cX7_form 51 = .ok (.getfield 32, 3) := by decide +kernel
theorem dX7_form_54 : decode cX7_form 54 = .ok (.astore_n 3, 1) := by decide +kernel
theorem dX7_form_55 : decode cX7_form 55 = .ok (.aload_n 0, 1) := by decide +kernel
theorem dX7_form_56 : decode cX7_form 56 = .ok (.aload_n 0, 1) := by decide +kernel
theorem dX7_form_57 : decode cX7_form 57 = .ok (.getfield 36, 3) := by decide +kernel
theorem dX7_form_60 : decode cX7_form 60 = .ok (.putfield 32, 3) := by decide +kernel
theorem dX7_form_63 : decode cX7_form 63 = .ok (.aload_n 0, 1) := by decide +kernel
theorem dX7_form_64 : decode cX7_form 64 = .ok (.aload_n 3, 1) := by decide +kernel
theorem dX7_form_65 : decode cX7_form 65 = .ok (.putfield 36, 3) := by decide +kernel
theorem dX7_form_68 : decode cX7_form 68 = .ok (.aload_n 0, 1) := by decide +kernel
theorem dX7_form_69 : decode cX7_form 69 = .ok (.getfield 56, 3) := by decide +kernel
theorem dX7_form_72 : decode cX7_form 72 = .ok (.iconst 0, 1) := by decide +kernel
theorem dX7_form_73 : decode cX7_form 73 = .ok (.invokestatic 88, 3) := by decide +kernel
theorem dX7_form_76 : decode cX7_form 76 = .ok (.aload_n 0, 1) := by decide +kernel
theorem dX7_form_77 : decode cX7_form 77 = .ok (.getfield 69, 3) := by decide +kernel
theorem dX7_form_80 : decode cX7_form 80 = .ok (.iconst 0, 1) := by decide +kernel
theorem dX7_form_81 : decode cX7_form 81 = .ok (.putfield 94, 3) := by decide +kernel
theorem dX7_form_84 : decode cX7_form 84 = .ok (.aload_n 0, 1) := by decide +kernel
theorem dX7_form_85 : decode cX7_form 85 = .ok (.getfield 32, 3) := by decide +kernel
theorem dX7_form_88 : decode cX7_form 88 = .ok (.getfield 97, 3) := by decide +kernel
theorem dX7_form_91 : decode cX7_form 91 = .ok (.ireturn, 1) := by decide +kernel
def mX7_form : MM := (yX7_form, cX7_form, 4, Option.some Jvm.ClassFile.FieldType.int, { frames := 9, cells := 0, slots := 0, locals := 242 })
def fX7_form (σ : SS) (a1 : Int32) : Option (Int32 × SS) :=
  if a1 < (1 : Int32) then (
    some ((-1 : Int32), σ)
    ) else (
    if (400 : Int32) < a1 then (
      some ((-1 : Int32), σ)
      ) else (
      if a1 ≤ (gI σ 1 1) then (
        vthen (sI σ 1 1 (0 : Int32)) fun σ1 =>
        bnd (fX2_read σ1 a1 (gR σ1 1 6)) fun v2 σ5 =>
        if v2 = 0 then (
          vthen (sR σ5 1 5 (gR σ5 1 6)) fun σ6 =>
          vthen (sR σ6 1 6 (gR σ5 1 5)) fun σ7 =>
          vthen (flI σ7 30 12 (0 : Int32)) fun σ8 =>
          vthen (sI σ8 58 0 (0 : Int32)) fun σ9 =>
          some ((gI σ9 (gR σ9 1 5) 5), σ9)
          ) else (
          some (v2, σ5)
          )
        ) else (
        some ((-1 : Int32), σ)
        )
      )
    )

set_option maxRecDepth 20000 in
theorem sX7_form {g : GG} {σ : SS} {a1 : Int32} {r : Int32 × SS} (hr : fX7_form σ a1 = some r)  : Ct g mX7_form [.ref (ad g 1), .int a1] NF σ (some (.int r.1)) NF r.2 := by
  refine Ct.of (by decide +kernel) (nle rfl) fun hw0 => ?_
  have hw := hw0 rfl
  unfold fX7_form at hr
  change RR g mX7_form (FinR g mX7_form (some (.int r.1)) NF r.2) zF 0 [(0, .ref (ad g 1)), (1, .int a1)] [] σ
  refine r_iload_n (pc := 0) (j := 1) dX7_form_0 rfl rfl ?_
  refine r_iconst (pc := 1) (v := (1 : Int32)) dX7_form_1 rfl ?_
  refine r_icmp_lt (pc := 2) (tgt := 20) dX7_form_2 rfl (fun hc => ?_) (fun hc => ?_)
  · replace hr := ite_t hc hr
    refine r_iconst (pc := 20) (v := (-1 : Int32)) dX7_form_20 rfl ?_
    exact l_osi hr (r_iret (pc := 21) (v := (-1 : Int32)) rfl rfl ⟨Nat.le_refl _, Nat.le_refl _⟩ dX7_form_21)
  replace hr := ite_f hc hr
  refine r_iload_n (pc := 5) (j := 1) dX7_form_5 rfl rfl ?_
  refine r_sipush (pc := 6) (v := (400 : Int32)) dX7_form_6 rfl ?_
  refine r_icmp_gt (pc := 9) (tgt := 20) dX7_form_9 rfl (fun hc => ?_) (fun hc => ?_)
  · replace hr := ite_t hc hr
    refine r_iconst (pc := 20) (v := (-1 : Int32)) dX7_form_20 rfl ?_
    exact l_osi hr (r_iret (pc := 21) (v := (-1 : Int32)) rfl rfl ⟨Nat.le_refl _, Nat.le_refl _⟩ dX7_form_21)
  replace hr := ite_f hc hr
  refine r_iload_n (pc := 12) (j := 1) dX7_form_12 rfl rfl ?_
  refine r_aload_n (pc := 13) (j := 0) dX7_form_13 rfl rfl ?_
  refine gf7_1 (pc := 14) tw_2_104 rfl dX7_form_14 ?_
  refine r_icmp_le (pc := 17) (tgt := 22) dX7_form_17 rfl (fun hc => ?_) (fun hc => ?_)
  · replace hr := ite_t hc hr
    refine r_aload_n (pc := 22) (j := 0) dX7_form_22 rfl rfl ?_
    refine r_iconst (pc := 23) (v := (0 : Int32)) dX7_form_23 rfl ?_
    refine pf7_1 (pc := 24) tw_2_104 rfl dX7_form_24 fun σ1 eσ1 => ?_
    replace hr := vthen_inv hr σ1 eσ1
    have hσ1 := wtI eσ1 hw
    refine r_aload_n (pc := 27) (j := 0) dX7_form_27 rfl rfl ?_
    refine gf7_7 (pc := 28) tw_2_110 hσ1 dX7_form_28 ?_
    refine r_aload_n (pc := 31) (j := 0) dX7_form_31 rfl rfl ?_
    refine gf7_0 (pc := 32) tw_2_103 hσ1 dX7_form_32 ?_
    refine r_iload_n (pc := 35) (j := 1) dX7_form_35 rfl rfl ?_
    refine r_aload_n (pc := 36) (j := 0) dX7_form_36 rfl rfl ?_
    refine gf7_6 (pc := 37) tw_2_109 hσ1 dX7_form_37 ?_
    obtain ⟨v2, σ5, eσ5, hr⟩ := bnd_inv hr
    refine kX2_read (pc := 40) eσ5 (wt_dr hσ1).1 tw_3_156 ⟨nle rfl, nle rfl⟩ (nle rfl) dX7_form_40 fun hσ5 => ?_
    refine r_istore_n (pc := 43) (ls1 := [(2, .int v2), (0, .ref (ad g 1)), (1, .int a1)]) dX7_form_43 rfl (nle rfl) rfl ?_
    refine r_iload_n (pc := 44) (j := 0) dX7_form_44 rfl rfl ?_
    refine r_if_eq (pc := 45) (tgt := 50) dX7_form_45 rfl (fun hc => ?_) (fun hc => ?_)
    · replace hr := ite_t hc hr
      refine r_aload_n (pc := 50) (j := 1) dX7_form_50 rfl rfl ?_
      refine gf7_5 (pc := 51) tw_2_108 hσ5 dX7_form_51 ?_
      refine r_astore_n (pc := 54) (ls1 := [(3, .ref (ad g (gR σ5 1 5))), (2, .int v2), (0, .ref (ad g 1)), (1, .int a1)]) dX7_form_54 rfl (nle rfl) rfl ?_
      refine r_aload_n (pc := 55) (j := 2) dX7_form_55 rfl rfl ?_
      refine r_aload_n (pc := 56) (j := 2) dX7_form_56 rfl rfl ?_
      refine gf7_6 (pc := 57) tw_2_109 hσ5 dX7_form_57 ?_
      refine pr7_5 (pc := 60) (wq_dr hσ5) tw_2_108 dX7_form_60 fun σ6 eσ6 => ?_
      replace hr := vthen_inv hr σ6 eσ6
      have hσ6 := wtR eσ6 hσ5 (Or.inr (Or.inr (Or.inl ⟨rfl, (wq_dr hσ5)⟩)))
      refine r_aload_n (pc := 63) (j := 2) dX7_form_63 rfl rfl ?_
      refine r_aload_n (pc := 64) (j := 0) dX7_form_64 rfl rfl ?_
      refine pr7_6 (pc := 65) (wq_fo hσ5) tw_2_109 dX7_form_65 fun σ7 eσ7 => ?_
      replace hr := vthen_inv hr σ7 eσ7
      have hσ7 := wtR eσ7 hσ6 (Or.inr (Or.inr (Or.inr ⟨rfl, (wq_fo hσ5)⟩)))
      refine r_aload_n (pc := 68) (j := 2) dX7_form_68 rfl rfl ?_
      refine gf7_11 (pc := 69) tw_2_114 hσ7 dX7_form_69 ?_
      refine r_iconst (pc := 72) (v := (0 : Int32)) dX7_form_72 rfl ?_
      refine x_flI (pc := 73) (σ := σ7) (c0 := 30) (n := 12) (v := (0 : Int32)) rfl tw_4_58 ⟨nle rfl, nle rfl⟩ (nle rfl) dX7_form_73 fun σ8 eσ8 => ?_
      replace hr := vthen_inv hr σ8 eσ8
      have hσ8 := wtFI eσ8 hσ7
      refine r_aload_n (pc := 76) (j := 2) dX7_form_76 rfl rfl ?_
      refine gf7_13 (pc := 77) tw_2_116 hσ8 dX7_form_77 ?_
      refine r_iconst (pc := 80) (v := (0 : Int32)) dX7_form_80 rfl ?_
      refine pf4_0 (pc := 81) tw_2_76 rfl dX7_form_81 fun σ9 eσ9 => ?_
      replace hr := vthen_inv hr σ9 eσ9
      have hσ9 := wtI eσ9 hσ8
      refine r_aload_n (pc := 84) (j := 2) dX7_form_84 rfl rfl ?_
      refine gf7_5 (pc := 85) tw_2_108 hσ9 dX7_form_85 ?_
      refine gf1_5 (pc := 88) tw_1_78 (wt_fo hσ9).1 dX7_form_88 ?_
      exact l_osi hr (r_iret (pc := 91) (v := (gI σ9 (gR σ9 1 5) 5)) rfl rfl ⟨Nat.le_refl _, Nat.le_refl _⟩ dX7_form_91)
    replace hr := ite_f hc hr
    refine r_iload_n (pc := 48) (j := 0) dX7_form_48 rfl rfl ?_
    exact l_osi hr (r_iret (pc := 49) (v := v2) rfl rfl ⟨Nat.le_refl _, Nat.le_refl _⟩ dX7_form_49)
  replace hr := ite_f hc hr
  refine r_iconst (pc := 20) (v := (-1 : Int32)) dX7_form_20 rfl ?_
  exact l_osi hr (r_iret (pc := 21) (v := (-1 : Int32)) rfl rfl ⟨Nat.le_refl _, Nat.le_refl _⟩ dX7_form_21)

theorem kX7_form {g : GG} {σ : SS} {a1 : Int32} {v : Int32} {σ2 : SS} {M : MM} {F : State → Array Value → List Frame → State → Prop} {pc index : Nat} {ls : List (Nat × Value)} {rest : List Value} (hf : fX7_form σ a1 = some (v, σ2))  (hl : Cond.methodLink M.1.cls index yX7_form ∈ lw_gt) (hR : mX7_form.2.2.2.2.frames + 1 ≤ M.2.2.2.2.frames ∧ 8 + (mX7_form.2.2.1 + 11) + mX7_form.2.2.2.2.locals ≤ M.2.2.2.2.locals) (hrest : (rest.map fun v => v.category).sum ≤ 8) (hd : decode M.2.1 pc = .ok (.invokevirtual index, 3)) (k : WT σ2 → RR g M F zF (pc + 3) ls (.int v :: rest) σ2) : RR g M F zF pc ls (.int a1 :: .ref (ad g 1) :: rest) σ :=
  r_callV (z := zF) (N := mX7_form) (nn := 1) (o1 := some (.int v)) (sX7_form hf ) (rfl : shp 1 = (7, 0)) (by decide) (shp_le (rfl : shp 1 = (7, 0)) (nle rfl)) (ci := 7) rfl rfl tw_3_155 tw_1_1 hl tw_3_153 tw_3_154 ⟨by decide, by decide, rfl⟩ hR rfl hrest hd ⟨Nat.zero_le _, Nat.zero_le _⟩ rfl (fun h => k (h rfl))

theorem dX7_blank_0 : decode cX7_blank 0 = .ok (.iload_n 1, 1) := by decide +kernel
theorem dX7_blank_1 : decode cX7_blank 1 = .ok (.bipush 8, 2) := by decide +kernel
theorem dX7_blank_3 : decode cX7_blank 3 = .ok (.if_icmp .lt 21, 3) := by decide +kernel
theorem dX7_blank_6 : decode cX7_blank 6 = .ok (.iload_n 1, 1) := by decide +kernel
theorem dX7_blank_7 : decode cX7_blank 7 = .ok (.bipush 40, 2) := by decide +kernel
theorem dX7_blank_9 : decode cX7_blank 9 = .ok (.if_icmp .gt 15, 3) := by decide +kernel
theorem dX7_blank_12 : decode cX7_blank 12 = .ok (.iload_n 2, 1) := by decide +kernel
theorem dX7_blank_13 : decode cX7_blank 13 = .ok (.bipush 8, 2) := by decide +kernel
theorem dX7_blank_15 : decode cX7_blank 15 = .ok (.if_icmp .lt 9, 3) := by decide +kernel
theorem dX7_blank_18 : decode cX7_blank 18 = .ok (.iload_n 2, 1) := by decide +kernel
theorem dX7_blank_19 : decode cX7_blank 19 = .ok (.bipush 40, 2) := by decide +kernel
theorem dX7_blank_21 : decode cX7_blank 21 = .ok (.if_icmp .le 5, 3) := by decide +kernel
theorem dX7_blank_24 : decode cX7_blank 24 = .ok (.iconst 0, 1) := by decide +kernel
theorem dX7_blank_25 : decode cX7_blank 25 = .ok (.ireturn, 1) := by decide +kernel
theorem dX7_blank_26 : decode cX7_blank 26 = .ok (.aload_n 0, 1) := by decide +kernel
theorem dX7_blank_27 : decode cX7_blank 27 = .ok (.getfield 18, 3) := by decide +kernel
theorem dX7_blank_30 : decode cX7_blank 30 = .ok (.iload_n 1, 1) := by decide +kernel
theorem dX7_blank_31 : decode cX7_blank 31 = .ok (.iload_n 2, 1) := by decide +kernel
theorem dX7_blank_32 : decode cX7_blank 32 = .ok (.invokevirtual 73, 3) := by decide +kernel
theorem dX7_blank_35 : decode cX7_blank 35 = .ok (.iconst 1, 1) := by decide +kernel
theorem dX7_blank_36 : decode cX7_blank 36 = .ok (.ireturn, 1) := by decide +kernel
def mX7_blank : MM := (yX7_blank, cX7_blank, 3, Option.some Jvm.ClassFile.FieldType.boolean, { frames := 2, cells := 0, slots := 0, locals := 45 })
def fX7_blank (σ : SS) (a1 : Int32) (a2 : Int32) : Option (Bool × SS) :=
  if a1 < (8 : Int32) then (
    some (false, σ)
    ) else (
    if (40 : Int32) < a1 then (
      some (false, σ)
      ) else (
      if a2 < (8 : Int32) then (
        some (false, σ)
        ) else (
        if a2 ≤ (40 : Int32) then (
          bnd1 (fX6_empty σ (gR σ 1 2) a1 a2) fun σ1 =>
          some (true, σ1)
          ) else (
          some (false, σ)
          )
        )
      )
    )

set_option maxRecDepth 20000 in
theorem sX7_blank {g : GG} {σ : SS} {a1 : Int32} {a2 : Int32} {r : Bool × SS} (hr : fX7_blank σ a1 a2 = some r)  : Ct g mX7_blank [.ref (ad g 1), .int a1, .int a2] NF σ (some (.int (b2i r.1))) NF r.2 := by
  refine Ct.of (by decide +kernel) (nle rfl) fun hw0 => ?_
  have hw := hw0 rfl
  unfold fX7_blank at hr
  change RR g mX7_blank (FinR g mX7_blank (some (.int (b2i r.1))) NF r.2) zF 0 [(0, .ref (ad g 1)), (1, .int a1), (2, .int a2)] [] σ
  refine r_iload_n (pc := 0) (j := 1) dX7_blank_0 rfl rfl ?_
  refine r_bipush (pc := 1) (v := (8 : Int32)) dX7_blank_1 rfl ?_
  refine r_icmp_lt (pc := 3) (tgt := 24) dX7_blank_3 rfl (fun hc => ?_) (fun hc => ?_)
  · replace hr := ite_t hc hr
    refine r_iconst (pc := 24) (v := (0 : Int32)) dX7_blank_24 rfl ?_
    exact l_osz hr (r_zret (pc := 25) (v := b2i false) (ty := .boolean) rfl (b2i_nar _) rfl ⟨Nat.le_refl _, Nat.le_refl _⟩ dX7_blank_25)
  replace hr := ite_f hc hr
  refine r_iload_n (pc := 6) (j := 1) dX7_blank_6 rfl rfl ?_
  refine r_bipush (pc := 7) (v := (40 : Int32)) dX7_blank_7 rfl ?_
  refine r_icmp_gt (pc := 9) (tgt := 24) dX7_blank_9 rfl (fun hc => ?_) (fun hc => ?_)
  · replace hr := ite_t hc hr
    refine r_iconst (pc := 24) (v := (0 : Int32)) dX7_blank_24 rfl ?_
    exact l_osz hr (r_zret (pc := 25) (v := b2i false) (ty := .boolean) rfl (b2i_nar _) rfl ⟨Nat.le_refl _, Nat.le_refl _⟩ dX7_blank_25)
  replace hr := ite_f hc hr
  refine r_iload_n (pc := 12) (j := 2) dX7_blank_12 rfl rfl ?_
  refine r_bipush (pc := 13) (v := (8 : Int32)) dX7_blank_13 rfl ?_
  refine r_icmp_lt (pc := 15) (tgt := 24) dX7_blank_15 rfl (fun hc => ?_) (fun hc => ?_)
  · replace hr := ite_t hc hr
    refine r_iconst (pc := 24) (v := (0 : Int32)) dX7_blank_24 rfl ?_
    exact l_osz hr (r_zret (pc := 25) (v := b2i false) (ty := .boolean) rfl (b2i_nar _) rfl ⟨Nat.le_refl _, Nat.le_refl _⟩ dX7_blank_25)
  replace hr := ite_f hc hr
  refine r_iload_n (pc := 18) (j := 2) dX7_blank_18 rfl rfl ?_
  refine r_bipush (pc := 19) (v := (40 : Int32)) dX7_blank_19 rfl ?_
  refine r_icmp_le (pc := 21) (tgt := 26) dX7_blank_21 rfl (fun hc => ?_) (fun hc => ?_)
  · replace hr := ite_t hc hr
    refine r_aload_n (pc := 26) (j := 0) dX7_blank_26 rfl rfl ?_
    refine gf7_2 (pc := 27) tw_2_105 hw dX7_blank_27 ?_
    refine r_iload_n (pc := 30) (j := 1) dX7_blank_30 rfl rfl ?_
    refine r_iload_n (pc := 31) (j := 2) dX7_blank_31 rfl rfl ?_
    obtain ⟨σ1, eσ1, hr⟩ := bnd1_inv hr
    refine kX6_empty (pc := 32) eσ1 (wt_sc hw).1 tw_2_96 ⟨nle rfl, nle rfl⟩ (nle rfl) dX7_blank_32 fun hσ1 => ?_
    refine r_iconst (pc := 35) (v := (1 : Int32)) dX7_blank_35 rfl ?_
    exact l_osz hr (r_zret (pc := 36) (v := b2i true) (ty := .boolean) rfl (b2i_nar _) rfl ⟨Nat.le_refl _, Nat.le_refl _⟩ dX7_blank_36)
  replace hr := ite_f hc hr
  refine r_iconst (pc := 24) (v := (0 : Int32)) dX7_blank_24 rfl ?_
  exact l_osz hr (r_zret (pc := 25) (v := b2i false) (ty := .boolean) rfl (b2i_nar _) rfl ⟨Nat.le_refl _, Nat.le_refl _⟩ dX7_blank_25)

theorem kX7_blank {g : GG} {σ : SS} {a1 : Int32} {a2 : Int32} {v : Bool} {σ2 : SS} {M : MM} {F : State → Array Value → List Frame → State → Prop} {pc index : Nat} {ls : List (Nat × Value)} {rest : List Value} (hf : fX7_blank σ a1 a2 = some (v, σ2))  (hl : Cond.methodLink M.1.cls index yX7_blank ∈ lw_gt) (hR : mX7_blank.2.2.2.2.frames + 1 ≤ M.2.2.2.2.frames ∧ 8 + (mX7_blank.2.2.1 + 11) + mX7_blank.2.2.2.2.locals ≤ M.2.2.2.2.locals) (hrest : (rest.map fun v => v.category).sum ≤ 8) (hd : decode M.2.1 pc = .ok (.invokevirtual index, 3)) (k : WT σ2 → RR g M F zF (pc + 3) ls (.int (b2i v) :: rest) σ2) : RR g M F zF pc ls (.int a2 :: .int a1 :: .ref (ad g 1) :: rest) σ :=
  r_callV (z := zF) (N := mX7_blank) (nn := 2) (o1 := some (.int (b2i v))) (sX7_blank hf ) (rfl : shp 1 = (7, 0)) (by decide) (shp_le (rfl : shp 1 = (7, 0)) (nle rfl)) (ci := 7) rfl rfl tw_4_65 tw_1_1 hl tw_4_63 tw_4_64 ⟨by decide, by decide, rfl⟩ hR rfl hrest hd ⟨Nat.zero_le _, Nat.zero_le _⟩ rfl (fun h => k (h rfl))

theorem dX7_set_0 : decode cX7_set 0 = .ok (.iload_n 1, 1) := by decide +kernel
theorem dX7_set_1 : decode cX7_set 1 = .ok (.ifCond .lt 27, 3) := by decide +kernel
theorem dX7_set_4 : decode cX7_set 4 = .ok (.iload_n 1, 1) := by decide +kernel
theorem dX7_set_5 : decode cX7_set 5 = .ok (.bipush 7, 2) := by decide +kernel
theorem dX7_set_7 : decode cX7_set 7 = .ok (.if_icmp .ge 21, 3) := by decide +kernel
theorem dX7_set_10 : decode cX7_set 10 = .ok (.iload_n 2, 1) := by decide +kernel
theorem dX7_set_11 : decode cX7_set 11 = .ok (.getstatic 151, 3) := by decide +kernel
theorem dX7_set_14 : decode cX7_set 14 = .ok (.iload_n 1, 1) := by decide +kernel
theorem dX7_set_15 : decode cX7_set 15 = .ok (.iaload, 1) := by decide +kernel
theorem dX7_set_16 : decode cX7_set 16 = .ok (.if_icmp .lt 12, 3) := by decide +kernel
theorem dX7_set_19 : decode cX7_set 19 = .ok (.iload_n 2, 1) := by decide +kernel
theorem dX7_set_20 : decode cX7_set 20 = .ok (.getstatic 154, 3) := by decide +kernel
theorem dX7_set_23 : decode cX7_set 23 = .ok (.iload_n 1, 1) := by decide +kernel
theorem dX7_set_24 : decode cX7_set 24 = .ok (.iaload, 1) := by decide +kernel
theorem dX7_set_25 : decode cX7_set 25 = .ok (.if_icmp .le 5, 3) := by decide +kernel
theorem dX7_set_28 : decode cX7_set 28 = .ok (.iconst (-1), 1) := by decide +kernel
theorem dX7_set_29 : decode cX7_set 29 = .ok (.ireturn, 1) := by decide +kernel
theorem dX7_set_30 : decode cX7_set 30 = .ok (.aload_n 0, 1) := by decide +kernel
theorem dX7_set_31 : decode cX7_set 31 = .ok (.getfield 62, 3) := by decide +kernel
theorem dX7_set_34 : decode cX7_set 34 = .ok (.getfield 111, 3) := by decide +kernel
theorem dX7_set_37 : decode cX7_set 37 = .ok (.iload_n 1, 1) := by decide +kernel
theorem dX7_set_38 : decode cX7_set 38 = .ok (.iaload, 1) := by decide +kernel
theorem dX7_set_39 : decode cX7_set 39 = .ok (.istore_n 3, 1) := by decide +kernel
theorem dX7_set_40 : decode cX7_set 40 = .ok (.aload_n 0, 1) := by decide +kernel
theorem dX7_set_41 : decode cX7_set 41 = .ok (.getfield 62, 3) := by decide +kernel
theorem dX7_set_44 : decode cX7_set 44 = .ok (.getfield 111, 3) := by decide +kernel
theorem dX7_set_47 : decode cX7_set 47 = .ok (.iload_n 1, 1) := by decide +kernel
theorem dX7_set_48 : decode cX7_set 48 = .ok (.iload_n 2, 1) := by decide +kernel
theorem dX7_set_49 : decode cX7_set 49 = .ok (.iastore, 1) := by decide +kernel
theorem dX7_set_50 : decode cX7_set 50 = .ok (.iload_n 3, 1) := by decide +kernel
theorem dX7_set_51 : decode cX7_set 51 = .ok (.ireturn, 1) := by decide +kernel
def mX7_set : MM := (yX7_set, cX7_set, 4, Option.some Jvm.ClassFile.FieldType.int, { frames := 0, cells := 0, slots := 0, locals := 0 })
def fX7_set (σ : SS) (a1 : Int32) (a2 : Int32) : Option (Int32 × SS) :=
  if a1 < 0 then (
    some ((-1 : Int32), σ)
    ) else (
    if (7 : Int32) ≤ a1 then (
      some ((-1 : Int32), σ)
      ) else (
      grd (inb a1 7) <|
      if a2 < (roV 1001 (Int32.toNatClampNeg a1)) then (
        some ((-1 : Int32), σ)
        ) else (
        if a2 ≤ (roV 1002 (Int32.toNatClampNeg a1)) then (
          vthen (gI σ 32 (Int32.toNatClampNeg a1)) fun v2 =>
          vthen (sI σ 32 (Int32.toNatClampNeg a1) a2) fun σ3 =>
          some (v2, σ3)
          ) else (
          some ((-1 : Int32), σ)
          )
        )
      )
    )

set_option maxRecDepth 20000 in
theorem sX7_set {g : GG} {σ : SS} {a1 : Int32} {a2 : Int32} {r : Int32 × SS} (hr : fX7_set σ a1 a2 = some r)  : Ct g mX7_set [.ref (ad g 1), .int a1, .int a2] NF σ (some (.int r.1)) NF r.2 := by
  refine Ct.of (by decide +kernel) (nle rfl) fun hw0 => ?_
  have hw := hw0 rfl
  unfold fX7_set at hr
  change RR g mX7_set (FinR g mX7_set (some (.int r.1)) NF r.2) zF 0 [(0, .ref (ad g 1)), (1, .int a1), (2, .int a2)] [] σ
  refine r_iload_n (pc := 0) (j := 1) dX7_set_0 rfl rfl ?_
  refine r_if_lt (pc := 1) (tgt := 28) dX7_set_1 rfl (fun hc => ?_) (fun hc => ?_)
  · replace hr := ite_t hc hr
    refine r_iconst (pc := 28) (v := (-1 : Int32)) dX7_set_28 rfl ?_
    exact l_osi hr (r_iret (pc := 29) (v := (-1 : Int32)) rfl rfl ⟨Nat.le_refl _, Nat.le_refl _⟩ dX7_set_29)
  replace hr := ite_f hc hr
  refine r_iload_n (pc := 4) (j := 1) dX7_set_4 rfl rfl ?_
  refine r_bipush (pc := 5) (v := (7 : Int32)) dX7_set_5 rfl ?_
  refine r_icmp_ge (pc := 7) (tgt := 28) dX7_set_7 rfl (fun hc => ?_) (fun hc => ?_)
  · replace hr := ite_t hc hr
    refine r_iconst (pc := 28) (v := (-1 : Int32)) dX7_set_28 rfl ?_
    exact l_osi hr (r_iret (pc := 29) (v := (-1 : Int32)) rfl rfl ⟨Nat.le_refl _, Nat.le_refl _⟩ dX7_set_29)
  replace hr := ite_f hc hr
  refine r_iload_n (pc := 10) (j := 2) dX7_set_10 rfl rfl ?_
  refine r_gets (pc := 11) z_1001 tw_4_70 dX7_set_11 ?_
  refine r_iload_n (pc := 14) (j := 1) dX7_set_14 rfl rfl ?_
  obtain ⟨h1, hr⟩ := grd_inv hr
  refine x_ti (pc := 15) (j := (Int32.toNatClampNeg a1)) t_1001 h1 rfl dX7_set_15 ?_
  refine r_icmp_lt (pc := 16) (tgt := 28) dX7_set_16 rfl (fun hc => ?_) (fun hc => ?_)
  · replace hr := ite_t hc hr
    refine r_iconst (pc := 28) (v := (-1 : Int32)) dX7_set_28 rfl ?_
    exact l_osi hr (r_iret (pc := 29) (v := (-1 : Int32)) rfl rfl ⟨Nat.le_refl _, Nat.le_refl _⟩ dX7_set_29)
  replace hr := ite_f hc hr
  refine r_iload_n (pc := 19) (j := 2) dX7_set_19 rfl rfl ?_
  refine r_gets (pc := 20) z_1002 tw_4_72 dX7_set_20 ?_
  refine r_iload_n (pc := 23) (j := 1) dX7_set_23 rfl rfl ?_
  refine x_ti (pc := 24) (j := (Int32.toNatClampNeg a1)) t_1002 h1 rfl dX7_set_24 ?_
  refine r_icmp_le (pc := 25) (tgt := 30) dX7_set_25 rfl (fun hc => ?_) (fun hc => ?_)
  · replace hr := ite_t hc hr
    refine r_aload_n (pc := 30) (j := 0) dX7_set_30 rfl rfl ?_
    refine gf7_12 (pc := 31) tw_2_115 hw dX7_set_31 ?_
    refine gf3_0 (pc := 34) tw_2_21 hw dX7_set_34 ?_
    refine r_iload_n (pc := 37) (j := 1) dX7_set_37 rfl rfl ?_
    refine x_iald (pc := 38) (k := (Int32.toNatClampNeg a1)) rfl h1 rfl dX7_set_38 ?_
    refine r_topi fun v2 ev2 => ?_
    replace hr := vthen_inv hr v2 ev2
    refine r_istore_n (pc := 39) (ls1 := [(3, .int v2), (0, .ref (ad g 1)), (1, .int a1), (2, .int a2)]) dX7_set_39 rfl (nle rfl) rfl ?_
    refine r_aload_n (pc := 40) (j := 1) dX7_set_40 rfl rfl ?_
    refine gf7_12 (pc := 41) tw_2_115 hw dX7_set_41 ?_
    refine gf3_0 (pc := 44) tw_2_21 hw dX7_set_44 ?_
    refine r_iload_n (pc := 47) (j := 2) dX7_set_47 rfl rfl ?_
    refine r_iload_n (pc := 48) (j := 3) dX7_set_48 rfl rfl ?_
    refine x_iast (pc := 49) (j := (Int32.toNatClampNeg a1)) rfl h1 rfl dX7_set_49 fun σ3 eσ3 => ?_
    replace hr := vthen_inv hr σ3 eσ3
    have hσ3 := wtI eσ3 hw
    refine r_iload_n (pc := 50) (j := 0) dX7_set_50 rfl rfl ?_
    exact l_osi hr (r_iret (pc := 51) (v := v2) rfl rfl ⟨Nat.le_refl _, Nat.le_refl _⟩ dX7_set_51)
  replace hr := ite_f hc hr
  refine r_iconst (pc := 28) (v := (-1 : Int32)) dX7_set_28 rfl ?_
  exact l_osi hr (r_iret (pc := 29) (v := (-1 : Int32)) rfl rfl ⟨Nat.le_refl _, Nat.le_refl _⟩ dX7_set_29)

theorem kX7_set {g : GG} {σ : SS} {a1 : Int32} {a2 : Int32} {v : Int32} {σ2 : SS} {M : MM} {F : State → Array Value → List Frame → State → Prop} {pc index : Nat} {ls : List (Nat × Value)} {rest : List Value} (hf : fX7_set σ a1 a2 = some (v, σ2))  (hl : Cond.methodLink M.1.cls index yX7_set ∈ lw_gt) (hR : mX7_set.2.2.2.2.frames + 1 ≤ M.2.2.2.2.frames ∧ 8 + (mX7_set.2.2.1 + 11) + mX7_set.2.2.2.2.locals ≤ M.2.2.2.2.locals) (hrest : (rest.map fun v => v.category).sum ≤ 8) (hd : decode M.2.1 pc = .ok (.invokevirtual index, 3)) (k : WT σ2 → RR g M F zF (pc + 3) ls (.int v :: rest) σ2) : RR g M F zF pc ls (.int a2 :: .int a1 :: .ref (ad g 1) :: rest) σ :=
  r_callV (z := zF) (N := mX7_set) (nn := 2) (o1 := some (.int v)) (sX7_set hf ) (rfl : shp 1 = (7, 0)) (by decide) (shp_le (rfl : shp 1 = (7, 0)) (nle rfl)) (ci := 7) rfl rfl tw_4_69 tw_1_1 hl tw_4_67 tw_4_68 ⟨by decide, by decide, rfl⟩ hR rfl hrest hd ⟨Nat.zero_le _, Nat.zero_le _⟩ rfl (fun h => k (h rfl))

theorem dX7_corner_0 : decode cX7_corner 0 = .ok (.iload_n 1, 1) := by decide +kernel
theorem dX7_corner_1 : decode cX7_corner 1 = .ok (.ifCond .lt 28, 3) := by decide +kernel
theorem dX7_corner_4 : decode cX7_corner 4 = .ok (.iload_n 1, 1) := by decide +kernel
theorem dX7_corner_5 : decode cX7_corner 5 = .ok (.iconst 4, 1) := by decide +kernel
theorem dX7_corner_6 : decode cX7_corner 6 = .ok (.if_icmp .ge 23, 3) := by decide +kernel
theorem dX7_corner_9 : decode cX7_corner 9 = .ok (.iload_n 2, 1) := by decide +kernel
theorem dX7_corner_10 : decode cX7_corner 10 = .ok (.ifCond .lt 19, 3) := by decide +kernel
theorem dX7_corner_13 : decode cX7_corner 13 = .ok (.iload_n 2, 1) := by decide +kernel
theorem dX7_corner_14 : decode cX7_corner 14 = .ok (.bipush 40, 2) := by decide +kernel
theorem dX7_corner_16 : decode cX7_corner 16 = .ok (.if_icmp .ge 13, 3) := by decide +kernel
theorem dX7_corner_19 : decode cX7_corner 19 = .ok (.iload_n 3, 1) := by decide +kernel
theorem dX7_corner_20 : decode cX7_corner 20 = .ok (.ifCond .lt 9, 3) := by decide +kernel
theorem dX7_corner_23 : decode cX7_corner 23 = .ok (.iload_n 3, 1) := by decide +kernel
theorem dX7_corner_24 : decode cX7_corner 24 = .ok (.bipush 40, 2) := by decide +kernel
theorem dX7_corner_26 : decode cX7_corner 26 = .ok (.if_icmp .lt 5, 3) := by decide +kernel
theorem dX7_corner_29 : decode cX7_corner 29 = .ok (.iconst 0, 1) := by decide +kernel
theorem dX7_corner_30 : decode cX7_corner 30 = .ok (.ireturn, 1) := by decide +kernel
theorem dX7_corner_31 : decode cX7_corner 31 = .ok (.aload_n 0, 1) := by decide +kernel
theorem dX7_corner_32 : decode cX7_corner 32 = .ok (.getfield 50, 3) := by decide +kernel
theorem dX7_corner_35 : decode cX7_corner 35 = .ok (.iload_n 1, 1) := by decide +kernel
theorem dX7_corner_36 : decode cX7_corner 36 = .ok (.iload_n 2, 1) := by decide +kernel
theorem dX7_corner_37 : decode cX7_corner 37 = .ok (.iastore, 1) := by decide +kernel
theorem dX7_corner_38 : decode cX7_corner 38 = .ok (.aload_n 0, 1) := by decide +kernel
theorem dX7_corner_39 : decode cX7_corner 39 = .ok (.getfield 53, 3) := by decide +kernel
theorem dX7_corner_42 : decode cX7_corner 42 = .ok (.iload_n 1, 1) := by decide +kernel
theorem dX7_corner_43 : decode cX7_corner 43 = .ok (.iload_n 3, 1) := by decide +kernel
theorem dX7_corner_44 : decode cX7_corner 44 = .ok (.iastore, 1) := by decide +kernel
theorem dX7_corner_45 : decode cX7_corner 45 = .ok (.iconst 1, 1) := by decide +kernel
theorem dX7_corner_46 : decode cX7_corner 46 = .ok (.ireturn, 1) := by decide +kernel
def mX7_corner : MM := (yX7_corner, cX7_corner, 4, Option.some Jvm.ClassFile.FieldType.boolean, { frames := 0, cells := 0, slots := 0, locals := 0 })
def fX7_corner (σ : SS) (a1 : Int32) (a2 : Int32) (a3 : Int32) : Option (Bool × SS) :=
  if a1 < 0 then (
    some (false, σ)
    ) else (
    if (4 : Int32) ≤ a1 then (
      some (false, σ)
      ) else (
      if a2 < 0 then (
        some (false, σ)
        ) else (
        if (40 : Int32) ≤ a2 then (
          some (false, σ)
          ) else (
          if a3 < 0 then (
            some (false, σ)
            ) else (
            if a3 < (40 : Int32) then (
              grd (inb a1 4) <|
              vthen (sI σ 28 (Int32.toNatClampNeg a1) a2) fun σ2 =>
              vthen (sI σ2 29 (Int32.toNatClampNeg a1) a3) fun σ3 =>
              some (true, σ3)
              ) else (
              some (false, σ)
              )
            )
          )
        )
      )
    )

set_option maxRecDepth 20000 in
theorem sX7_corner {g : GG} {σ : SS} {a1 : Int32} {a2 : Int32} {a3 : Int32} {r : Bool × SS} (hr : fX7_corner σ a1 a2 a3 = some r)  : Ct g mX7_corner [.ref (ad g 1), .int a1, .int a2, .int a3] NF σ (some (.int (b2i r.1))) NF r.2 := by
  refine Ct.of (by decide +kernel) (nle rfl) fun hw0 => ?_
  have hw := hw0 rfl
  unfold fX7_corner at hr
  change RR g mX7_corner (FinR g mX7_corner (some (.int (b2i r.1))) NF r.2) zF 0 [(0, .ref (ad g 1)), (1, .int a1), (2, .int a2), (3, .int a3)] [] σ
  refine r_iload_n (pc := 0) (j := 1) dX7_corner_0 rfl rfl ?_
  refine r_if_lt (pc := 1) (tgt := 29) dX7_corner_1 rfl (fun hc => ?_) (fun hc => ?_)
  · replace hr := ite_t hc hr
    refine r_iconst (pc := 29) (v := (0 : Int32)) dX7_corner_29 rfl ?_
    exact l_osz hr (r_zret (pc := 30) (v := b2i false) (ty := .boolean) rfl (b2i_nar _) rfl ⟨Nat.le_refl _, Nat.le_refl _⟩ dX7_corner_30)
  replace hr := ite_f hc hr
  refine r_iload_n (pc := 4) (j := 1) dX7_corner_4 rfl rfl ?_
  refine r_iconst (pc := 5) (v := (4 : Int32)) dX7_corner_5 rfl ?_
  refine r_icmp_ge (pc := 6) (tgt := 29) dX7_corner_6 rfl (fun hc => ?_) (fun hc => ?_)
  · replace hr := ite_t hc hr
    refine r_iconst (pc := 29) (v := (0 : Int32)) dX7_corner_29 rfl ?_
    exact l_osz hr (r_zret (pc := 30) (v := b2i false) (ty := .boolean) rfl (b2i_nar _) rfl ⟨Nat.le_refl _, Nat.le_refl _⟩ dX7_corner_30)
  replace hr := ite_f hc hr
  refine r_iload_n (pc := 9) (j := 2) dX7_corner_9 rfl rfl ?_
  refine r_if_lt (pc := 10) (tgt := 29) dX7_corner_10 rfl (fun hc => ?_) (fun hc => ?_)
  · replace hr := ite_t hc hr
    refine r_iconst (pc := 29) (v := (0 : Int32)) dX7_corner_29 rfl ?_
    exact l_osz hr (r_zret (pc := 30) (v := b2i false) (ty := .boolean) rfl (b2i_nar _) rfl ⟨Nat.le_refl _, Nat.le_refl _⟩ dX7_corner_30)
  replace hr := ite_f hc hr
  refine r_iload_n (pc := 13) (j := 2) dX7_corner_13 rfl rfl ?_
  refine r_bipush (pc := 14) (v := (40 : Int32)) dX7_corner_14 rfl ?_
  refine r_icmp_ge (pc := 16) (tgt := 29) dX7_corner_16 rfl (fun hc => ?_) (fun hc => ?_)
  · replace hr := ite_t hc hr
    refine r_iconst (pc := 29) (v := (0 : Int32)) dX7_corner_29 rfl ?_
    exact l_osz hr (r_zret (pc := 30) (v := b2i false) (ty := .boolean) rfl (b2i_nar _) rfl ⟨Nat.le_refl _, Nat.le_refl _⟩ dX7_corner_30)
  replace hr := ite_f hc hr
  refine r_iload_n (pc := 19) (j := 3) dX7_corner_19 rfl rfl ?_
  refine r_if_lt (pc := 20) (tgt := 29) dX7_corner_20 rfl (fun hc => ?_) (fun hc => ?_)
  · replace hr := ite_t hc hr
    refine r_iconst (pc := 29) (v := (0 : Int32)) dX7_corner_29 rfl ?_
    exact l_osz hr (r_zret (pc := 30) (v := b2i false) (ty := .boolean) rfl (b2i_nar _) rfl ⟨Nat.le_refl _, Nat.le_refl _⟩ dX7_corner_30)
  replace hr := ite_f hc hr
  refine r_iload_n (pc := 23) (j := 3) dX7_corner_23 rfl rfl ?_
  refine r_bipush (pc := 24) (v := (40 : Int32)) dX7_corner_24 rfl ?_
  refine r_icmp_lt (pc := 26) (tgt := 31) dX7_corner_26 rfl (fun hc => ?_) (fun hc => ?_)
  · replace hr := ite_t hc hr
    refine r_aload_n (pc := 31) (j := 0) dX7_corner_31 rfl rfl ?_
    refine gf7_9 (pc := 32) tw_2_112 hw dX7_corner_32 ?_
    refine r_iload_n (pc := 35) (j := 1) dX7_corner_35 rfl rfl ?_
    refine r_iload_n (pc := 36) (j := 2) dX7_corner_36 rfl rfl ?_
    obtain ⟨h1, hr⟩ := grd_inv hr
    refine x_iast (pc := 37) (j := (Int32.toNatClampNeg a1)) rfl h1 rfl dX7_corner_37 fun σ2 eσ2 => ?_
    replace hr := vthen_inv hr σ2 eσ2
    have hσ2 := wtI eσ2 hw
    refine r_aload_n (pc := 38) (j := 0) dX7_corner_38 rfl rfl ?_
    refine gf7_10 (pc := 39) tw_2_113 hσ2 dX7_corner_39 ?_
    refine r_iload_n (pc := 42) (j := 1) dX7_corner_42 rfl rfl ?_
    refine r_iload_n (pc := 43) (j := 3) dX7_corner_43 rfl rfl ?_
    refine x_iast (pc := 44) (j := (Int32.toNatClampNeg a1)) rfl h1 rfl dX7_corner_44 fun σ3 eσ3 => ?_
    replace hr := vthen_inv hr σ3 eσ3
    have hσ3 := wtI eσ3 hσ2
    refine r_iconst (pc := 45) (v := (1 : Int32)) dX7_corner_45 rfl ?_
    exact l_osz hr (r_zret (pc := 46) (v := b2i true) (ty := .boolean) rfl (b2i_nar _) rfl ⟨Nat.le_refl _, Nat.le_refl _⟩ dX7_corner_46)
  replace hr := ite_f hc hr
  refine r_iconst (pc := 29) (v := (0 : Int32)) dX7_corner_29 rfl ?_
  exact l_osz hr (r_zret (pc := 30) (v := b2i false) (ty := .boolean) rfl (b2i_nar _) rfl ⟨Nat.le_refl _, Nat.le_refl _⟩ dX7_corner_30)

theorem kX7_corner {g : GG} {σ : SS} {a1 : Int32} {a2 : Int32} {a3 : Int32} {v : Bool} {σ2 : SS} {M : MM} {F : State → Array Value → List Frame → State → Prop} {pc index : Nat} {ls : List (Nat × Value)} {rest : List Value} (hf : fX7_corner σ a1 a2 a3 = some (v, σ2))  (hl : Cond.methodLink M.1.cls index yX7_corner ∈ lw_gt) (hR : mX7_corner.2.2.2.2.frames + 1 ≤ M.2.2.2.2.frames ∧ 8 + (mX7_corner.2.2.1 + 11) + mX7_corner.2.2.2.2.locals ≤ M.2.2.2.2.locals) (hrest : (rest.map fun v => v.category).sum ≤ 8) (hd : decode M.2.1 pc = .ok (.invokevirtual index, 3)) (k : WT σ2 → RR g M F zF (pc + 3) ls (.int (b2i v) :: rest) σ2) : RR g M F zF pc ls (.int a3 :: .int a2 :: .int a1 :: .ref (ad g 1) :: rest) σ :=
  r_callV (z := zF) (N := mX7_corner) (nn := 3) (o1 := some (.int (b2i v))) (sX7_corner hf ) (rfl : shp 1 = (7, 0)) (by decide) (shp_le (rfl : shp 1 = (7, 0)) (nle rfl)) (ci := 7) rfl rfl tw_4_77 tw_1_1 hl tw_4_75 tw_4_76 ⟨by decide, by decide, rfl⟩ hR rfl hrest hd ⟨Nat.zero_le _, Nat.zero_le _⟩ rfl (fun h => k (h rfl))

theorem dX1_hasQuestion_0 : decode cX1_hasQuestion 0 = .ok (.iload_n 1, 1) := by decide +kernel
theorem dX1_hasQuestion_1 : decode cX1_hasQuestion 1 = .ok (.ifCond .lt 15, 3) := by decide +kernel
theorem dX1_hasQuestion_4 : decode cX1_hasQuestion 4 = .ok (.iload_n 1, 1) := by decide +kernel
theorem dX1_hasQuestion_5 : decode cX1_hasQuestion 5 = .ok (.aload_n 0, 1) := by decide +kernel
theorem dX1_hasQuestion_6 : decode cX1_hasQuestion 6 = .ok (.getfield 51, 3) := by decide +kernel
theorem dX1_hasQuestion_9 : decode cX1_hasQuestion 9 = .ok (.if_icmp .ge 7, 3) := by decide +kernel
theorem dX1_hasQuestion_12 : decode cX1_hasQuestion 12 = .ok (.iconst 1, 1) := by decide +kernel
theorem dX1_hasQuestion_13 : decode cX1_hasQuestion 13 = .ok (.goto 4, 3) := by decide +kernel
theorem dX1_hasQuestion_16 : decode cX1_hasQuestion 16 = .ok (.iconst 0, 1) := by decide +kernel
theorem dX1_hasQuestion_17 : decode cX1_hasQuestion 17 = .ok (.ireturn, 1) := by decide +kernel
def mX1_hasQuestion : MM := (yX1_hasQuestion, cX1_hasQuestion, 2, Option.some Jvm.ClassFile.FieldType.boolean, { frames := 0, cells := 0, slots := 0, locals := 0 })
def fX1_hasQuestion (σ0 : SS) (a0 : Nat) (a1 : Int32) : Bool :=
  vthen (fun (_u : Unit) =>
    false
    ) fun j16 =>
  if a1 < 0 then (
    j16 ()
    ) else (
    if (gI σ0 a0 5) ≤ a1 then (
      j16 ()
      ) else (
      true
      )
    )

set_option maxRecDepth 20000 in
theorem sX1_hasQuestion {g : GG} {σ0 : SS} {a0 : Nat} {a1 : Int32} {r : Bool} (hr : fX1_hasQuestion σ0 a0 a1 = r) (hs0 : shp a0 = (1, 0)) : Ct g mX1_hasQuestion [.ref (ad g a0), .int a1] NF σ0 (some (.int (b2i r))) NF σ0 := by
  refine Ct.of (by decide +kernel) (nle rfl) fun hw0 => ?_
  have hw := hw0 rfl
  unfold fX1_hasQuestion at hr
  change RR g mX1_hasQuestion (FinR g mX1_hasQuestion (some (.int (b2i r))) NF σ0) zF 0 [(0, .ref (ad g a0)), (1, .int a1)] [] σ0
  refine r_iload_n (pc := 0) (j := 1) dX1_hasQuestion_0 rfl rfl ?_
  obtain ⟨j16, ej16, hr⟩ := vth_ex hr
  have hj16 : j16 () = r → RR g mX1_hasQuestion (FinR g mX1_hasQuestion (some (.int (b2i r))) NF σ0) zF 16 [] [] σ0 := by
    intro  hr
    replace hr := (congrFun ej16 ()).symm.trans hr
    refine r_iconst (pc := 16) (v := (0 : Int32)) dX1_hasQuestion_16 rfl ?_
    exact l_pz hr (r_zret (pc := 17) (v := b2i false) (ty := .boolean) rfl (b2i_nar _) rfl ⟨Nat.le_refl _, Nat.le_refl _⟩ dX1_hasQuestion_17)
  refine r_if_lt (pc := 1) (tgt := 16) dX1_hasQuestion_1 rfl (fun hc => ?_) (fun hc => ?_)
  · replace hr := ite_t hc hr
    exact r_pick (ls1 := []) [] rfl (hj16  hr)
  replace hr := ite_f hc hr
  refine r_iload_n (pc := 4) (j := 1) dX1_hasQuestion_4 rfl rfl ?_
  refine r_aload_n (pc := 5) (j := 0) dX1_hasQuestion_5 rfl rfl ?_
  refine gf1_5 (pc := 6) tw_1_77 hs0 dX1_hasQuestion_6 ?_
  refine r_icmp_ge (pc := 9) (tgt := 16) dX1_hasQuestion_9 rfl (fun hc => ?_) (fun hc => ?_)
  · replace hr := ite_t hc hr
    exact r_pick (ls1 := []) [] rfl (hj16  hr)
  replace hr := ite_f hc hr
  refine r_iconst (pc := 12) (v := (1 : Int32)) dX1_hasQuestion_12 rfl ?_
  refine r_goto (pc := 13) (tgt := 17) dX1_hasQuestion_13 rfl ?_
  exact l_pz hr (r_zret (pc := 17) (v := b2i true) (ty := .boolean) rfl (b2i_nar _) rfl ⟨Nat.le_refl _, Nat.le_refl _⟩ dX1_hasQuestion_17)

theorem kX1_hasQuestion {g : GG} {σ0 : SS} {a0 : Nat} {a1 : Int32} {v : Bool} {M : MM} {F : State → Array Value → List Frame → State → Prop} {pc index : Nat} {ls : List (Nat × Value)} {rest : List Value} (hf : fX1_hasQuestion σ0 a0 a1 = v) (hs0 : shp a0 = (1, 0)) (hl : Cond.methodLink M.1.cls index yX1_hasQuestion ∈ lw_gt) (hR : mX1_hasQuestion.2.2.2.2.frames + 1 ≤ M.2.2.2.2.frames ∧ 8 + (mX1_hasQuestion.2.2.1 + 11) + mX1_hasQuestion.2.2.2.2.locals ≤ M.2.2.2.2.locals) (hrest : (rest.map fun v => v.category).sum ≤ 8) (hd : decode M.2.1 pc = .ok (.invokevirtual index, 3)) (k : RR g M F zF (pc + 3) ls (.int (b2i v) :: rest) σ0) : RR g M F zF pc ls (.int a1 :: .ref (ad g a0) :: rest) σ0 :=
  r_callV (z := zF) (N := mX1_hasQuestion) (nn := 1) (o1 := some (.int (b2i v))) (sX1_hasQuestion hf hs0) hs0 (by decide) (shp_le hs0 (nle rfl)) (ci := 1) rfl rfl tw_4_85 tw_1_3 hl tw_4_83 tw_4_84 ⟨by decide, by decide, rfl⟩ hR rfl hrest hd ⟨Nat.zero_le _, Nat.zero_le _⟩ rfl (fun h => k)

theorem dX7_tick_0 : decode cX7_tick 0 = .ok (.aload_n 0, 1) := by decide +kernel
theorem dX7_tick_1 : decode cX7_tick 1 = .ok (.getfield 32, 3) := by decide +kernel
theorem dX7_tick_4 : decode cX7_tick 4 = .ok (.iload_n 1, 1) := by decide +kernel
theorem dX7_tick_5 : decode cX7_tick 5 = .ok (.invokevirtual 121, 3) := by decide +kernel
theorem dX7_tick_8 : decode cX7_tick 8 = .ok (.ifCond .eq 22, 3) := by decide +kernel
theorem dX7_tick_11 : decode cX7_tick 11 = .ok (.iload_n 2, 1) := by decide +kernel
theorem dX7_tick_12 : decode cX7_tick 12 = .ok (.ifCond .lt 18, 3) := by decide +kernel
theorem dX7_tick_15 : decode cX7_tick 15 = .ok (.iload_n 2, 1) := by decide +kernel
theorem dX7_tick_16 : decode cX7_tick 16 = .ok (.iconst 1, 1) := by decide +kernel
theorem dX7_tick_17 : decode cX7_tick 17 = .ok (.aload_n 0, 1) := by decide +kernel
theorem dX7_tick_18 : decode cX7_tick 18 = .ok (.getfield 32, 3) := by decide +kernel
theorem dX7_tick_21 : decode cX7_tick 21 = .ok (.getfield 129, 3) := by decide +kernel
theorem dX7_tick_24 : decode cX7_tick 24 = .ok (.iload_n 1, 1) := by decide +kernel
theorem dX7_tick_25 : decode cX7_tick 25 = .ok (.iaload, 1) := by decide +kernel
theorem dX7_tick_26 : decode cX7_tick 26 = .ok (.ishl, 1) := by decide +kernel
theorem dX7_tick_27 : decode cX7_tick 27 = .ok (.if_icmp .lt 5, 3) := by decide +kernel
theorem dX7_tick_30 : decode cX7_tick 30 = .ok (.iconst (-1), 1) := by decide +kernel
theorem dX7_tick_31 : decode cX7_tick 31 = .ok (.ireturn, 1) := by decide +kernel
theorem dX7_tick_32 : decode cX7_tick 32 = .ok (.aload_n 0, 1) := by decide +kernel
theorem dX7_tick_33 : decode cX7_tick 33 = .ok (.getfield 56, 3) := by decide +kernel
theorem dX7_tick_36 : decode cX7_tick 36 = .ok (.iload_n 1, 1) := by decide +kernel
theorem dX7_tick_37 : decode cX7_tick 37 = .ok (.iaload, 1) := by decide +kernel
theorem dX7_tick_38 : decode cX7_tick 38 = .ok (.istore_n 3, 1) := by decide +kernel
theorem dX7_tick_39 : decode cX7_tick 39 = .ok (.aload_n 0, 1) := by decide +kernel
theorem dX7_tick_40 : decode cX7_tick 40 = .ok (.getfield 56, 3) := by decide +kernel
theorem dX7_tick_43 : decode cX7_tick 43 = .ok (.iload_n 1, 1) := by decide +kernel
theorem dX7_tick_44 : decode cX7_tick 44 = .ok (.iload_n 2, 1) := by decide +kernel
theorem dX7_tick_45 : decode cX7_tick 45 = .ok (.iastore, 1) := by decide +kernel
theorem dX7_tick_46 : decode cX7_tick 46 = .ok (.iload_n 3, 1) := by decide +kernel
theorem dX7_tick_47 : decode cX7_tick 47 = .ok (.ireturn, 1) := by decide +kernel
def mX7_tick : MM := (yX7_tick, cX7_tick, 4, Option.some Jvm.ClassFile.FieldType.int, { frames := 1, cells := 0, slots := 0, locals := 21 })
def fX7_tick (σ : SS) (a1 : Int32) (a2 : Int32) : Option (Int32 × SS) :=
  if (fX1_hasQuestion σ (gR σ 1 5) a1) = true then (
    if a2 < 0 then (
      some ((-1 : Int32), σ)
      ) else (
      grd (inb a1 12) <|
      if a2 < ((1 : Int32) <<< ((gI σ ((gR σ 1 5) + 3) (Int32.toNatClampNeg a1)) &&& 31)) then (
        vthen (gI σ 30 (Int32.toNatClampNeg a1)) fun v2 =>
        vthen (sI σ 30 (Int32.toNatClampNeg a1) a2) fun σ3 =>
        some (v2, σ3)
        ) else (
        some ((-1 : Int32), σ)
        )
      )
    ) else (
    some ((-1 : Int32), σ)
    )

set_option maxRecDepth 20000 in
theorem sX7_tick {g : GG} {σ : SS} {a1 : Int32} {a2 : Int32} {r : Int32 × SS} (hr : fX7_tick σ a1 a2 = some r)  : Ct g mX7_tick [.ref (ad g 1), .int a1, .int a2] NF σ (some (.int r.1)) NF r.2 := by
  refine Ct.of (by decide +kernel) (nle rfl) fun hw0 => ?_
  have hw := hw0 rfl
  unfold fX7_tick at hr
  change RR g mX7_tick (FinR g mX7_tick (some (.int r.1)) NF r.2) zF 0 [(0, .ref (ad g 1)), (1, .int a1), (2, .int a2)] [] σ
  refine r_aload_n (pc := 0) (j := 0) dX7_tick_0 rfl rfl ?_
  refine gf7_5 (pc := 1) tw_2_108 hw dX7_tick_1 ?_
  refine r_iload_n (pc := 4) (j := 1) dX7_tick_4 rfl rfl ?_
  refine kX1_hasQuestion (pc := 5) (hf := rfl) (wt_fo hw).1 tw_4_82 ⟨nle rfl, nle rfl⟩ (nle rfl) dX7_tick_5 ?_
  refine r_ifB_eq (pc := 8) (tgt := 30) dX7_tick_8 rfl (fun hc => ?_) (fun hc => ?_)
  · replace hr := ite_f hc hr
    refine r_iconst (pc := 30) (v := (-1 : Int32)) dX7_tick_30 rfl ?_
    exact l_osi hr (r_iret (pc := 31) (v := (-1 : Int32)) rfl rfl ⟨Nat.le_refl _, Nat.le_refl _⟩ dX7_tick_31)
  replace hr := ite_t hc hr
  refine r_iload_n (pc := 11) (j := 2) dX7_tick_11 rfl rfl ?_
  refine r_if_lt (pc := 12) (tgt := 30) dX7_tick_12 rfl (fun hc => ?_) (fun hc => ?_)
  · replace hr := ite_t hc hr
    refine r_iconst (pc := 30) (v := (-1 : Int32)) dX7_tick_30 rfl ?_
    exact l_osi hr (r_iret (pc := 31) (v := (-1 : Int32)) rfl rfl ⟨Nat.le_refl _, Nat.le_refl _⟩ dX7_tick_31)
  replace hr := ite_f hc hr
  refine r_iload_n (pc := 15) (j := 2) dX7_tick_15 rfl rfl ?_
  refine r_iconst (pc := 16) (v := (1 : Int32)) dX7_tick_16 rfl ?_
  refine r_aload_n (pc := 17) (j := 0) dX7_tick_17 rfl rfl ?_
  refine gf7_5 (pc := 18) tw_2_108 hw dX7_tick_18 ?_
  refine gf1_9 (pc := 21) tw_1_91 hw (wt_fo hw).1 dX7_tick_21 ?_
  refine r_iload_n (pc := 24) (j := 1) dX7_tick_24 rfl rfl ?_
  obtain ⟨h1, hr⟩ := grd_inv hr
  refine x_iald (pc := 25) (k := (Int32.toNatClampNeg a1)) (sh1_9 (wt_fo hw).1) h1 rfl dX7_tick_25 ?_
  refine r_ishl (pc := 26) dX7_tick_26 ?_
  refine r_icmp_lt (pc := 27) (tgt := 32) dX7_tick_27 rfl (fun hc => ?_) (fun hc => ?_)
  · replace hr := ite_t hc hr
    refine r_aload_n (pc := 32) (j := 0) dX7_tick_32 rfl rfl ?_
    refine gf7_11 (pc := 33) tw_2_114 hw dX7_tick_33 ?_
    refine r_iload_n (pc := 36) (j := 1) dX7_tick_36 rfl rfl ?_
    refine x_iald (pc := 37) (k := (Int32.toNatClampNeg a1)) rfl h1 rfl dX7_tick_37 ?_
    refine r_topi fun v2 ev2 => ?_
    replace hr := vthen_inv hr v2 ev2
    refine r_istore_n (pc := 38) (ls1 := [(3, .int v2), (0, .ref (ad g 1)), (1, .int a1), (2, .int a2)]) dX7_tick_38 rfl (nle rfl) rfl ?_
    refine r_aload_n (pc := 39) (j := 1) dX7_tick_39 rfl rfl ?_
    refine gf7_11 (pc := 40) tw_2_114 hw dX7_tick_40 ?_
    refine r_iload_n (pc := 43) (j := 2) dX7_tick_43 rfl rfl ?_
    refine r_iload_n (pc := 44) (j := 3) dX7_tick_44 rfl rfl ?_
    refine x_iast (pc := 45) (j := (Int32.toNatClampNeg a1)) rfl h1 rfl dX7_tick_45 fun σ3 eσ3 => ?_
    replace hr := vthen_inv hr σ3 eσ3
    have hσ3 := wtI eσ3 hw
    refine r_iload_n (pc := 46) (j := 0) dX7_tick_46 rfl rfl ?_
    exact l_osi hr (r_iret (pc := 47) (v := v2) rfl rfl ⟨Nat.le_refl _, Nat.le_refl _⟩ dX7_tick_47)
  replace hr := ite_f hc hr
  refine r_iconst (pc := 30) (v := (-1 : Int32)) dX7_tick_30 rfl ?_
  exact l_osi hr (r_iret (pc := 31) (v := (-1 : Int32)) rfl rfl ⟨Nat.le_refl _, Nat.le_refl _⟩ dX7_tick_31)

theorem kX7_tick {g : GG} {σ : SS} {a1 : Int32} {a2 : Int32} {v : Int32} {σ2 : SS} {M : MM} {F : State → Array Value → List Frame → State → Prop} {pc index : Nat} {ls : List (Nat × Value)} {rest : List Value} (hf : fX7_tick σ a1 a2 = some (v, σ2))  (hl : Cond.methodLink M.1.cls index yX7_tick ∈ lw_gt) (hR : mX7_tick.2.2.2.2.frames + 1 ≤ M.2.2.2.2.frames ∧ 8 + (mX7_tick.2.2.1 + 11) + mX7_tick.2.2.2.2.locals ≤ M.2.2.2.2.locals) (hrest : (rest.map fun v => v.category).sum ≤ 8) (hd : decode M.2.1 pc = .ok (.invokevirtual index, 3)) (k : WT σ2 → RR g M F zF (pc + 3) ls (.int v :: rest) σ2) : RR g M F zF pc ls (.int a2 :: .int a1 :: .ref (ad g 1) :: rest) σ :=
  r_callV (z := zF) (N := mX7_tick) (nn := 2) (o1 := some (.int v)) (sX7_tick hf ) (rfl : shp 1 = (7, 0)) (by decide) (shp_le (rfl : shp 1 = (7, 0)) (nle rfl)) (ci := 7) rfl rfl tw_4_81 tw_1_1 hl tw_4_79 tw_4_80 ⟨by decide, by decide, rfl⟩ hR rfl hrest hd ⟨Nat.zero_le _, Nat.zero_le _⟩ rfl (fun h => k (h rfl))

theorem dX7_judged_0 : decode cX7_judged 0 = .ok (.aload_n 0, 1) := by decide +kernel
theorem dX7_judged_1 : decode cX7_judged 1 = .ok (.getfield 32, 3) := by decide +kernel
theorem dX7_judged_4 : decode cX7_judged 4 = .ok (.iload_n 1, 1) := by decide +kernel
theorem dX7_judged_5 : decode cX7_judged 5 = .ok (.invokevirtual 121, 3) := by decide +kernel
theorem dX7_judged_8 : decode cX7_judged 8 = .ok (.ifCond .eq 12, 3) := by decide +kernel
theorem dX7_judged_11 : decode cX7_judged 11 = .ok (.iload_n 2, 1) := by decide +kernel
theorem dX7_judged_12 : decode cX7_judged 12 = .ok (.ifCond .lt 8, 3) := by decide +kernel
theorem dX7_judged_15 : decode cX7_judged 15 = .ok (.iload_n 2, 1) := by decide +kernel
theorem dX7_judged_16 : decode cX7_judged 16 = .ok (.iconst 4, 1) := by decide +kernel
theorem dX7_judged_17 : decode cX7_judged 17 = .ok (.if_icmp .le 7, 3) := by decide +kernel
theorem dX7_judged_20 : decode cX7_judged 20 = .ok (.ldc_w 302, 3) := by decide +kernel
theorem dX7_judged_23 : decode cX7_judged 23 = .ok (.ireturn, 1) := by decide +kernel
theorem dX7_judged_24 : decode cX7_judged 24 = .ok (.aload_n 0, 1) := by decide +kernel
theorem dX7_judged_25 : decode cX7_judged 25 = .ok (.getfield 62, 3) := by decide +kernel
theorem dX7_judged_28 : decode cX7_judged 28 = .ok (.aload_n 0, 1) := by decide +kernel
theorem dX7_judged_29 : decode cX7_judged 29 = .ok (.getfield 18, 3) := by decide +kernel
theorem dX7_judged_32 : decode cX7_judged 32 = .ok (.aload_n 0, 1) := by decide +kernel
theorem dX7_judged_33 : decode cX7_judged 33 = .ok (.getfield 32, 3) := by decide +kernel
theorem dX7_judged_36 : decode cX7_judged 36 = .ok (.invokevirtual 303, 3) := by decide +kernel
theorem dX7_judged_39 : decode cX7_judged 39 = .ok (.ifCond .ne 7, 3) := by decide +kernel
theorem dX7_judged_42 : decode cX7_judged 42 = .ok (.sipush (-1000), 3) := by decide +kernel
theorem dX7_judged_45 : decode cX7_judged 45 = .ok (.ireturn, 1) := by decide +kernel
theorem dX7_judged_46 : decode cX7_judged 46 = .ok (.iload_n 2, 1) := by decide +kernel
theorem dX7_judged_47 : decode cX7_judged 47 = .ok (.tableswitch 69 0 3 #[29, 39, 49, 59], 29) := by decide +kernel
theorem dX7_judged_76 : decode cX7_judged 76 = .ok (.aload_n 0, 1) := by decide +kernel
theorem dX7_judged_77 : decode cX7_judged 77 = .ok (.getfield 62, 3) := by decide +kernel
theorem dX7_judged_80 : decode cX7_judged 80 = .ok (.getfield 305, 3) := by decide +kernel
theorem dX7_judged_83 : decode cX7_judged 83 = .ok (.iload_n 1, 1) := by decide +kernel
theorem dX7_judged_84 : decode cX7_judged 84 = .ok (.iaload, 1) := by decide +kernel
theorem dX7_judged_85 : decode cX7_judged 85 = .ok (.ireturn, 1) := by decide +kernel
theorem dX7_judged_86 : decode cX7_judged 86 = .ok (.aload_n 0, 1) := by decide +kernel
theorem dX7_judged_87 : decode cX7_judged 87 = .ok (.getfield 62, 3) := by decide +kernel
theorem dX7_judged_90 : decode cX7_judged 90 = .ok (.getfield 308, 3) := by decide +kernel
theorem dX7_judged_93 : decode cX7_judged 93 = .ok (.iload_n 1, 1) := by decide +kernel
theorem dX7_judged_94 : decode cX7_judged 94 = .ok (.iaload, 1) := by decide +kernel
theorem dX7_judged_95 : decode cX7_judged 95 = .ok (.ireturn, 1) := by decide +kernel
theorem dX7_judged_96 : decode cX7_judged 96 = .ok (.aload_n 0, 1) := by decide +kernel
theorem dX7_judged_97 : decode cX7_judged 97 = .ok (.getfield 62, 3) := by decide +kernel
theorem dX7_judged_100 : decode cX7_judged 100 = .ok (.getfield 311, 3) := by decide +kernel
theorem dX7_judged_103 : decode cX7_judged 103 = .ok (.iload_n 1, 1) := by decide +kernel
theorem dX7_judged_104 : decode cX7_judged 104 = .ok (.iaload, 1) := by decide +kernel
theorem dX7_judged_105 : decode cX7_judged 105 = .ok (.ireturn, 1) := by decide +kernel
theorem dX7_judged_106 : decode cX7_judged 106 = .ok (.aload_n 0, 1) := by decide +kernel
theorem dX7_judged_107 : decode cX7_judged 107 = .ok (.getfield 62, 3) := by decide +kernel
theorem dX7_judged_110 : decode cX7_judged 110 = .ok (.getfield 314, 3) := by decide +kernel
theorem dX7_judged_113 : decode cX7_judged 113 = .ok (.iload_n 1, 1) := by decide +kernel
theorem dX7_judged_114 : decode cX7_judged 114 = .ok (.iaload, 1) := by decide +kernel
theorem dX7_judged_115 : decode cX7_judged 115 = .ok (.ireturn, 1) := by decide +kernel
theorem dX7_judged_116 : decode cX7_judged 116 = .ok (.aload_n 0, 1) := by decide +kernel
theorem dX7_judged_117 : decode cX7_judged 117 = .ok (.getfield 62, 3) := by decide +kernel
theorem dX7_judged_120 : decode cX7_judged 120 = .ok (.getfield 317, 3) := by decide +kernel
theorem dX7_judged_123 : decode cX7_judged 123 = .ok (.iload_n 1, 1) := by decide +kernel
theorem dX7_judged_124 : decode cX7_judged 124 = .ok (.iaload, 1) := by decide +kernel
theorem dX7_judged_125 : decode cX7_judged 125 = .ok (.ireturn, 1) := by decide +kernel
def mX7_judged : MM := (yX7_judged, cX7_judged, 3, Option.some Jvm.ClassFile.FieldType.int, { frames := 6, cells := 0, slots := 0, locals := 148 })
def fX7_judged (σ : SS) (a1 : Int32) (a2 : Int32) : Option (Int32 × SS) :=
  if (fX1_hasQuestion σ (gR σ 1 5) a1) = true then (
    if a2 < 0 then (
      some ((-2147483648 : Int32), σ)
      ) else (
      if a2 ≤ (4 : Int32) then (
        bnd (fX3_read σ (gR σ 1 2) (gR σ 1 5)) fun b2 σ4 =>
        if b2 = true then (
          if a2 = (0 : Int32) then (
            grd (inb a1 12) <|
            some ((gI σ4 53 (Int32.toNatClampNeg a1)), σ4)
            ) else
          if a2 = (1 : Int32) then (
            grd (inb a1 12) <|
            some ((gI σ4 54 (Int32.toNatClampNeg a1)), σ4)
            ) else
          if a2 = (2 : Int32) then (
            grd (inb a1 12) <|
            some ((gI σ4 55 (Int32.toNatClampNeg a1)), σ4)
            ) else
          if a2 = (3 : Int32) then (
            grd (inb a1 12) <|
            some ((gI σ4 56 (Int32.toNatClampNeg a1)), σ4)
            ) else
          grd (inb a1 12) <|
          some ((gI σ4 57 (Int32.toNatClampNeg a1)), σ4)
          ) else (
          some ((-1000 : Int32), σ4)
          )
        ) else (
        some ((-2147483648 : Int32), σ)
        )
      )
    ) else (
    some ((-2147483648 : Int32), σ)
    )

set_option maxRecDepth 20000 in
theorem sX7_judged {g : GG} {σ : SS} {a1 : Int32} {a2 : Int32} {r : Int32 × SS} (hr : fX7_judged σ a1 a2 = some r)  : Ct g mX7_judged [.ref (ad g 1), .int a1, .int a2] NF σ (some (.int r.1)) NF r.2 := by
  refine Ct.of (by decide +kernel) (nle rfl) fun hw0 => ?_
  have hw := hw0 rfl
  unfold fX7_judged at hr
  change RR g mX7_judged (FinR g mX7_judged (some (.int r.1)) NF r.2) zF 0 [(0, .ref (ad g 1)), (1, .int a1), (2, .int a2)] [] σ
  refine r_aload_n (pc := 0) (j := 0) dX7_judged_0 rfl rfl ?_
  refine gf7_5 (pc := 1) tw_2_108 hw dX7_judged_1 ?_
  refine r_iload_n (pc := 4) (j := 1) dX7_judged_4 rfl rfl ?_
  refine kX1_hasQuestion (pc := 5) (hf := rfl) (wt_fo hw).1 tw_4_82 ⟨nle rfl, nle rfl⟩ (nle rfl) dX7_judged_5 ?_
  refine r_ifB_eq (pc := 8) (tgt := 20) dX7_judged_8 rfl (fun hc => ?_) (fun hc => ?_)
  · replace hr := ite_f hc hr
    refine r_ldcw (pc := 20) (v := (-2147483648 : Int32)) dX7_judged_20 tw_3_9 ?_
    exact l_osi hr (r_iret (pc := 23) (v := (-2147483648 : Int32)) rfl rfl ⟨Nat.le_refl _, Nat.le_refl _⟩ dX7_judged_23)
  replace hr := ite_t hc hr
  refine r_iload_n (pc := 11) (j := 2) dX7_judged_11 rfl rfl ?_
  refine r_if_lt (pc := 12) (tgt := 20) dX7_judged_12 rfl (fun hc => ?_) (fun hc => ?_)
  · replace hr := ite_t hc hr
    refine r_ldcw (pc := 20) (v := (-2147483648 : Int32)) dX7_judged_20 tw_3_9 ?_
    exact l_osi hr (r_iret (pc := 23) (v := (-2147483648 : Int32)) rfl rfl ⟨Nat.le_refl _, Nat.le_refl _⟩ dX7_judged_23)
  replace hr := ite_f hc hr
  refine r_iload_n (pc := 15) (j := 2) dX7_judged_15 rfl rfl ?_
  refine r_iconst (pc := 16) (v := (4 : Int32)) dX7_judged_16 rfl ?_
  refine r_icmp_le (pc := 17) (tgt := 24) dX7_judged_17 rfl (fun hc => ?_) (fun hc => ?_)
  · replace hr := ite_t hc hr
    refine r_aload_n (pc := 24) (j := 0) dX7_judged_24 rfl rfl ?_
    refine gf7_12 (pc := 25) tw_2_115 hw dX7_judged_25 ?_
    refine r_aload_n (pc := 28) (j := 0) dX7_judged_28 rfl rfl ?_
    refine gf7_2 (pc := 29) tw_2_105 hw dX7_judged_29 ?_
    refine r_aload_n (pc := 32) (j := 0) dX7_judged_32 rfl rfl ?_
    refine gf7_5 (pc := 33) tw_2_108 hw dX7_judged_33 ?_
    obtain ⟨b2, σ4, eσ4, hr⟩ := bnd_inv hr
    refine kX3_read (pc := 36) eσ4 (wt_sc hw).1 (wt_fo hw).1 tw_3_10 ⟨nle rfl, nle rfl⟩ (nle rfl) dX7_judged_36 fun hσ4 => ?_
    refine r_ifB_ne (pc := 39) (tgt := 46) dX7_judged_39 rfl (fun hc => ?_) (fun hc => ?_)
    · replace hr := ite_t hc hr
      refine r_iload_n (pc := 46) (j := 2) dX7_judged_46 rfl rfl ?_
      by_cases hc0 : a2 = (0 : Int32)
      · replace hr := ite_t hc0 hr
        refine r_tabIn (pc := 47) (off := 29) (tgt := 76) dX7_judged_47 (by rw [hc0]; decide) (by rw [hc0]; decide) (by rw [hc0]; rfl) rfl ?_
        refine r_aload_n (pc := 76) (j := 0) dX7_judged_76 rfl rfl ?_
        refine gf7_12 (pc := 77) tw_2_115 hσ4 dX7_judged_77 ?_
        refine gf3_7 (pc := 80) tw_2_35 hσ4 dX7_judged_80 ?_
        refine r_iload_n (pc := 83) (j := 1) dX7_judged_83 rfl rfl ?_
        obtain ⟨h5, hr⟩ := grd_inv hr
        refine x_iald (pc := 84) (k := (Int32.toNatClampNeg a1)) rfl h5 rfl dX7_judged_84 ?_
        exact l_osi hr (r_iret (pc := 85) (v := (gI σ4 53 (Int32.toNatClampNeg a1))) rfl rfl ⟨Nat.le_refl _, Nat.le_refl _⟩ dX7_judged_85)
      replace hr := ite_f hc0 hr
      by_cases hc1 : a2 = (1 : Int32)
      · replace hr := ite_t hc1 hr
        refine r_tabIn (pc := 47) (off := 39) (tgt := 86) dX7_judged_47 (by rw [hc1]; decide) (by rw [hc1]; decide) (by rw [hc1]; rfl) rfl ?_
        refine r_aload_n (pc := 86) (j := 0) dX7_judged_86 rfl rfl ?_
        refine gf7_12 (pc := 87) tw_2_115 hσ4 dX7_judged_87 ?_
        refine gf3_8 (pc := 90) tw_2_38 hσ4 dX7_judged_90 ?_
        refine r_iload_n (pc := 93) (j := 1) dX7_judged_93 rfl rfl ?_
        obtain ⟨h6, hr⟩ := grd_inv hr
        refine x_iald (pc := 94) (k := (Int32.toNatClampNeg a1)) rfl h6 rfl dX7_judged_94 ?_
        exact l_osi hr (r_iret (pc := 95) (v := (gI σ4 54 (Int32.toNatClampNeg a1))) rfl rfl ⟨Nat.le_refl _, Nat.le_refl _⟩ dX7_judged_95)
      replace hr := ite_f hc1 hr
      by_cases hc2 : a2 = (2 : Int32)
      · replace hr := ite_t hc2 hr
        refine r_tabIn (pc := 47) (off := 49) (tgt := 96) dX7_judged_47 (by rw [hc2]; decide) (by rw [hc2]; decide) (by rw [hc2]; rfl) rfl ?_
        refine r_aload_n (pc := 96) (j := 0) dX7_judged_96 rfl rfl ?_
        refine gf7_12 (pc := 97) tw_2_115 hσ4 dX7_judged_97 ?_
        refine gf3_9 (pc := 100) tw_2_40 hσ4 dX7_judged_100 ?_
        refine r_iload_n (pc := 103) (j := 1) dX7_judged_103 rfl rfl ?_
        obtain ⟨h7, hr⟩ := grd_inv hr
        refine x_iald (pc := 104) (k := (Int32.toNatClampNeg a1)) rfl h7 rfl dX7_judged_104 ?_
        exact l_osi hr (r_iret (pc := 105) (v := (gI σ4 55 (Int32.toNatClampNeg a1))) rfl rfl ⟨Nat.le_refl _, Nat.le_refl _⟩ dX7_judged_105)
      replace hr := ite_f hc2 hr
      by_cases hc3 : a2 = (3 : Int32)
      · replace hr := ite_t hc3 hr
        refine r_tabIn (pc := 47) (off := 59) (tgt := 106) dX7_judged_47 (by rw [hc3]; decide) (by rw [hc3]; decide) (by rw [hc3]; rfl) rfl ?_
        refine r_aload_n (pc := 106) (j := 0) dX7_judged_106 rfl rfl ?_
        refine gf7_12 (pc := 107) tw_2_115 hσ4 dX7_judged_107 ?_
        refine gf3_10 (pc := 110) tw_2_42 hσ4 dX7_judged_110 ?_
        refine r_iload_n (pc := 113) (j := 1) dX7_judged_113 rfl rfl ?_
        obtain ⟨h8, hr⟩ := grd_inv hr
        refine x_iald (pc := 114) (k := (Int32.toNatClampNeg a1)) rfl h8 rfl dX7_judged_114 ?_
        exact l_osi hr (r_iret (pc := 115) (v := (gI σ4 56 (Int32.toNatClampNeg a1))) rfl rfl ⟨Nat.le_refl _, Nat.le_refl _⟩ dX7_judged_115)
      replace hr := ite_f hc3 hr
      refine r_tabOut (pc := 47) (tgt := 116) dX7_judged_47 (tab_out (by decide) (by decide) fun k h1 h2 => ?_) rfl ?_
      · rcases (show k = 0 ∨ k = 1 ∨ k = 2 ∨ k = 3 by omega) with rfl | rfl | rfl | rfl
        · exact hc0
        · exact hc1
        · exact hc2
        · exact hc3
      refine r_aload_n (pc := 116) (j := 0) dX7_judged_116 rfl rfl ?_
      refine gf7_12 (pc := 117) tw_2_115 hσ4 dX7_judged_117 ?_
      refine gf3_11 (pc := 120) tw_2_44 hσ4 dX7_judged_120 ?_
      refine r_iload_n (pc := 123) (j := 1) dX7_judged_123 rfl rfl ?_
      obtain ⟨h9, hr⟩ := grd_inv hr
      refine x_iald (pc := 124) (k := (Int32.toNatClampNeg a1)) rfl h9 rfl dX7_judged_124 ?_
      exact l_osi hr (r_iret (pc := 125) (v := (gI σ4 57 (Int32.toNatClampNeg a1))) rfl rfl ⟨Nat.le_refl _, Nat.le_refl _⟩ dX7_judged_125)
    replace hr := ite_f hc hr
    refine r_sipush (pc := 42) (v := (-1000 : Int32)) dX7_judged_42 rfl ?_
    exact l_osi hr (r_iret (pc := 45) (v := (-1000 : Int32)) rfl rfl ⟨Nat.le_refl _, Nat.le_refl _⟩ dX7_judged_45)
  replace hr := ite_f hc hr
  refine r_ldcw (pc := 20) (v := (-2147483648 : Int32)) dX7_judged_20 tw_3_9 ?_
  exact l_osi hr (r_iret (pc := 23) (v := (-2147483648 : Int32)) rfl rfl ⟨Nat.le_refl _, Nat.le_refl _⟩ dX7_judged_23)

theorem kX7_judged {g : GG} {σ : SS} {a1 : Int32} {a2 : Int32} {v : Int32} {σ2 : SS} {M : MM} {F : State → Array Value → List Frame → State → Prop} {pc index : Nat} {ls : List (Nat × Value)} {rest : List Value} (hf : fX7_judged σ a1 a2 = some (v, σ2))  (hl : Cond.methodLink M.1.cls index yX7_judged ∈ lw_gt) (hR : mX7_judged.2.2.2.2.frames + 1 ≤ M.2.2.2.2.frames ∧ 8 + (mX7_judged.2.2.1 + 11) + mX7_judged.2.2.2.2.locals ≤ M.2.2.2.2.locals) (hrest : (rest.map fun v => v.category).sum ≤ 8) (hd : decode M.2.1 pc = .ok (.invokevirtual index, 3)) (k : WT σ2 → RR g M F zF (pc + 3) ls (.int v :: rest) σ2) : RR g M F zF pc ls (.int a2 :: .int a1 :: .ref (ad g 1) :: rest) σ :=
  r_callV (z := zF) (N := mX7_judged) (nn := 2) (o1 := some (.int v)) (sX7_judged hf ) (rfl : shp 1 = (7, 0)) (by decide) (shp_le (rfl : shp 1 = (7, 0)) (nle rfl)) (ci := 7) rfl rfl tw_4_90 tw_1_1 hl tw_4_88 tw_4_89 ⟨by decide, by decide, rfl⟩ hR rfl hrest hd ⟨Nat.zero_le _, Nat.zero_le _⟩ rfl (fun h => k (h rfl))

theorem dX1_hasBox_0 : decode cX1_hasBox 0 = .ok (.aload_n 0, 1) := by decide +kernel
theorem dX1_hasBox_1 : decode cX1_hasBox 1 = .ok (.iload_n 1, 1) := by decide +kernel
theorem dX1_hasBox_2 : decode cX1_hasBox 2 = .ok (.invokevirtual 57, 3) := by decide +kernel
theorem dX1_hasBox_5 : decode cX1_hasBox 5 = .ok (.ifCond .eq 21, 3) := by decide +kernel
theorem dX1_hasBox_8 : decode cX1_hasBox 8 = .ok (.iload_n 2, 1) := by decide +kernel
theorem dX1_hasBox_9 : decode cX1_hasBox 9 = .ok (.ifCond .lt 17, 3) := by decide +kernel
theorem dX1_hasBox_12 : decode cX1_hasBox 12 = .ok (.iload_n 2, 1) := by decide +kernel
theorem dX1_hasBox_13 : decode cX1_hasBox 13 = .ok (.aload_n 0, 1) := by decide +kernel
theorem dX1_hasBox_14 : decode cX1_hasBox 14 = .ok (.getfield 19, 3) := by decide +kernel
theorem dX1_hasBox_17 : decode cX1_hasBox 17 = .ok (.iload_n 1, 1) := by decide +kernel
theorem dX1_hasBox_18 : decode cX1_hasBox 18 = .ok (.iaload, 1) := by decide +kernel
theorem dX1_hasBox_19 : decode cX1_hasBox 19 = .ok (.if_icmp .ge 7, 3) := by decide +kernel
theorem dX1_hasBox_22 : decode cX1_hasBox 22 = .ok (.iconst 1, 1) := by decide +kernel
theorem dX1_hasBox_23 : decode cX1_hasBox 23 = .ok (.goto 4, 3) := by decide +kernel
theorem dX1_hasBox_26 : decode cX1_hasBox 26 = .ok (.iconst 0, 1) := by decide +kernel
theorem dX1_hasBox_27 : decode cX1_hasBox 27 = .ok (.ireturn, 1) := by decide +kernel
def mX1_hasBox : MM := (yX1_hasBox, cX1_hasBox, 3, Option.some Jvm.ClassFile.FieldType.boolean, { frames := 1, cells := 0, slots := 0, locals := 21 })
def fX1_hasBox (σ0 : SS) (a0 : Nat) (a1 : Int32) (a2 : Int32) : Option Bool :=
  vthen (fun (_u : Unit) =>
    some false
    ) fun j26 =>
  if (fX1_hasQuestion σ0 a0 a1) = true then (
    if a2 < 0 then (
      j26 ()
      ) else (
      grd (inb a1 12) <|
      if (gI σ0 (a0 + 3) (Int32.toNatClampNeg a1)) ≤ a2 then (
        j26 ()
        ) else (
        some true
        )
      )
    ) else (
    j26 ()
    )

set_option maxRecDepth 20000 in
theorem sX1_hasBox {g : GG} {σ0 : SS} {a0 : Nat} {a1 : Int32} {a2 : Int32} {r : Bool} (hr : fX1_hasBox σ0 a0 a1 a2 = some r) (hs0 : shp a0 = (1, 0)) : Ct g mX1_hasBox [.ref (ad g a0), .int a1, .int a2] NF σ0 (some (.int (b2i r))) NF σ0 := by
  refine Ct.of (by decide +kernel) (nle rfl) fun hw0 => ?_
  have hw := hw0 rfl
  unfold fX1_hasBox at hr
  change RR g mX1_hasBox (FinR g mX1_hasBox (some (.int (b2i r))) NF σ0) zF 0 [(0, .ref (ad g a0)), (1, .int a1), (2, .int a2)] [] σ0
  refine r_aload_n (pc := 0) (j := 0) dX1_hasBox_0 rfl rfl ?_
  refine r_iload_n (pc := 1) (j := 1) dX1_hasBox_1 rfl rfl ?_
  refine kX1_hasQuestion (pc := 2) (hf := rfl) hs0 tw_4_99 ⟨nle rfl, nle rfl⟩ (nle rfl) dX1_hasBox_2 ?_
  obtain ⟨j26, ej26, hr⟩ := vth_ex hr
  have hj26 : j26 () = some r → RR g mX1_hasBox (FinR g mX1_hasBox (some (.int (b2i r))) NF σ0) zF 26 [] [] σ0 := by
    intro  hr
    replace hr := (congrFun ej26 ()).symm.trans hr
    refine r_iconst (pc := 26) (v := (0 : Int32)) dX1_hasBox_26 rfl ?_
    exact l_opz hr (r_zret (pc := 27) (v := b2i false) (ty := .boolean) rfl (b2i_nar _) rfl ⟨Nat.le_refl _, Nat.le_refl _⟩ dX1_hasBox_27)
  refine r_ifB_eq (pc := 5) (tgt := 26) dX1_hasBox_5 rfl (fun hc => ?_) (fun hc => ?_)
  · replace hr := ite_f hc hr
    exact r_pick (ls1 := []) [] rfl (hj26  hr)
  replace hr := ite_t hc hr
  refine r_iload_n (pc := 8) (j := 2) dX1_hasBox_8 rfl rfl ?_
  refine r_if_lt (pc := 9) (tgt := 26) dX1_hasBox_9 rfl (fun hc => ?_) (fun hc => ?_)
  · replace hr := ite_t hc hr
    exact r_pick (ls1 := []) [] rfl (hj26  hr)
  replace hr := ite_f hc hr
  refine r_iload_n (pc := 12) (j := 2) dX1_hasBox_12 rfl rfl ?_
  refine r_aload_n (pc := 13) (j := 0) dX1_hasBox_13 rfl rfl ?_
  refine gf1_9 (pc := 14) tw_1_90 hw hs0 dX1_hasBox_14 ?_
  refine r_iload_n (pc := 17) (j := 1) dX1_hasBox_17 rfl rfl ?_
  obtain ⟨h1, hr⟩ := grd_inv hr
  refine x_iald (pc := 18) (k := (Int32.toNatClampNeg a1)) (sh1_9 hs0) h1 rfl dX1_hasBox_18 ?_
  refine r_icmp_ge (pc := 19) (tgt := 26) dX1_hasBox_19 rfl (fun hc => ?_) (fun hc => ?_)
  · replace hr := ite_t hc hr
    exact r_pick (ls1 := []) [] rfl (hj26  hr)
  replace hr := ite_f hc hr
  refine r_iconst (pc := 22) (v := (1 : Int32)) dX1_hasBox_22 rfl ?_
  refine r_goto (pc := 23) (tgt := 27) dX1_hasBox_23 rfl ?_
  exact l_opz hr (r_zret (pc := 27) (v := b2i true) (ty := .boolean) rfl (b2i_nar _) rfl ⟨Nat.le_refl _, Nat.le_refl _⟩ dX1_hasBox_27)

theorem kX1_hasBox {g : GG} {σ0 : SS} {a0 : Nat} {a1 : Int32} {a2 : Int32} {v : Bool} {M : MM} {F : State → Array Value → List Frame → State → Prop} {pc index : Nat} {ls : List (Nat × Value)} {rest : List Value} (hf : fX1_hasBox σ0 a0 a1 a2 = some v) (hs0 : shp a0 = (1, 0)) (hl : Cond.methodLink M.1.cls index yX1_hasBox ∈ lw_gt) (hR : mX1_hasBox.2.2.2.2.frames + 1 ≤ M.2.2.2.2.frames ∧ 8 + (mX1_hasBox.2.2.1 + 11) + mX1_hasBox.2.2.2.2.locals ≤ M.2.2.2.2.locals) (hrest : (rest.map fun v => v.category).sum ≤ 8) (hd : decode M.2.1 pc = .ok (.invokevirtual index, 3)) (k : RR g M F zF (pc + 3) ls (.int (b2i v) :: rest) σ0) : RR g M F zF pc ls (.int a2 :: .int a1 :: .ref (ad g a0) :: rest) σ0 :=
  r_callV (z := zF) (N := mX1_hasBox) (nn := 2) (o1 := some (.int (b2i v))) (sX1_hasBox hf hs0) hs0 (by decide) (shp_le hs0 (nle rfl)) (ci := 1) rfl rfl tw_4_98 tw_1_3 hl tw_4_96 tw_4_97 ⟨by decide, by decide, rfl⟩ hR rfl hrest hd ⟨Nat.zero_le _, Nat.zero_le _⟩ rfl (fun h => k)

theorem dX7_dark_0 : decode cX7_dark 0 = .ok (.aload_n 0, 1) := by decide +kernel
theorem dX7_dark_1 : decode cX7_dark 1 = .ok (.getfield 32, 3) := by decide +kernel
theorem dX7_dark_4 : decode cX7_dark 4 = .ok (.iload_n 1, 1) := by decide +kernel
theorem dX7_dark_5 : decode cX7_dark 5 = .ok (.invokevirtual 121, 3) := by decide +kernel
theorem dX7_dark_8 : decode cX7_dark 8 = .ok (.ifCond .eq 20, 3) := by decide +kernel
theorem dX7_dark_11 : decode cX7_dark 11 = .ok (.iload_n 2, 1) := by decide +kernel
theorem dX7_dark_12 : decode cX7_dark 12 = .ok (.iconst (-1), 1) := by decide +kernel
theorem dX7_dark_13 : decode cX7_dark 13 = .ok (.if_icmp .eq 17, 3) := by decide +kernel
theorem dX7_dark_16 : decode cX7_dark 16 = .ok (.aload_n 0, 1) := by decide +kernel
theorem dX7_dark_17 : decode cX7_dark 17 = .ok (.getfield 32, 3) := by decide +kernel
theorem dX7_dark_20 : decode cX7_dark 20 = .ok (.iload_n 1, 1) := by decide +kernel
theorem dX7_dark_21 : decode cX7_dark 21 = .ok (.iload_n 2, 1) := by decide +kernel
theorem dX7_dark_22 : decode cX7_dark 22 = .ok (.invokevirtual 138, 3) := by decide +kernel
theorem dX7_dark_25 : decode cX7_dark 25 = .ok (.ifCond .ne 5, 3) := by decide +kernel
theorem dX7_dark_28 : decode cX7_dark 28 = .ok (.iconst (-1), 1) := by decide +kernel
theorem dX7_dark_29 : decode cX7_dark 29 = .ok (.ireturn, 1) := by decide +kernel
theorem dX7_dark_30 : decode cX7_dark 30 = .ok (.aload_n 0, 1) := by decide +kernel
theorem dX7_dark_31 : decode cX7_dark 31 = .ok (.getfield 62, 3) := by decide +kernel
theorem dX7_dark_34 : decode cX7_dark 34 = .ok (.aload_n 0, 1) := by decide +kernel
theorem dX7_dark_35 : decode cX7_dark 35 = .ok (.getfield 18, 3) := by decide +kernel
theorem dX7_dark_38 : decode cX7_dark 38 = .ok (.aload_n 0, 1) := by decide +kernel
theorem dX7_dark_39 : decode cX7_dark 39 = .ok (.getfield 32, 3) := by decide +kernel
theorem dX7_dark_42 : decode cX7_dark 42 = .ok (.invokevirtual 292, 3) := by decide +kernel
theorem dX7_dark_45 : decode cX7_dark 45 = .ok (.ifCond .ne 6, 3) := by decide +kernel
theorem dX7_dark_48 : decode cX7_dark 48 = .ok (.bipush (-2), 2) := by decide +kernel
theorem dX7_dark_50 : decode cX7_dark 50 = .ok (.ireturn, 1) := by decide +kernel
theorem dX7_dark_51 : decode cX7_dark 51 = .ok (.iload_n 2, 1) := by decide +kernel
theorem dX7_dark_52 : decode cX7_dark 52 = .ok (.iconst (-1), 1) := by decide +kernel
theorem dX7_dark_53 : decode cX7_dark 53 = .ok (.if_icmp .ne 13, 3) := by decide +kernel
theorem dX7_dark_56 : decode cX7_dark 56 = .ok (.aload_n 0, 1) := by decide +kernel
theorem dX7_dark_57 : decode cX7_dark 57 = .ok (.getfield 62, 3) := by decide +kernel
theorem dX7_dark_60 : decode cX7_dark 60 = .ok (.getfield 296, 3) := by decide +kernel
theorem dX7_dark_63 : decode cX7_dark 63 = .ok (.goto 22, 3) := by decide +kernel
theorem dX7_dark_66 : decode cX7_dark 66 = .ok (.aload_n 0, 1) := by decide +kernel
theorem dX7_dark_67 : decode cX7_dark 67 = .ok (.getfield 62, 3) := by decide +kernel
theorem dX7_dark_70 : decode cX7_dark 70 = .ok (.getfield 299, 3) := by decide +kernel
theorem dX7_dark_73 : decode cX7_dark 73 = .ok (.aload_n 0, 1) := by decide +kernel
theorem dX7_dark_74 : decode cX7_dark 74 = .ok (.getfield 32, 3) := by decide +kernel
theorem dX7_dark_77 : decode cX7_dark 77 = .ok (.getfield 145, 3) := by decide +kernel
theorem dX7_dark_80 : decode cX7_dark 80 = .ok (.iload_n 1, 1) := by decide +kernel
theorem dX7_dark_81 : decode cX7_dark 81 = .ok (.iaload, 1) := by decide +kernel
theorem dX7_dark_82 : decode cX7_dark 82 = .ok (.iload_n 2, 1) := by decide +kernel
theorem dX7_dark_83 : decode cX7_dark 83 = .ok (.iadd, 1) := by decide +kernel
theorem dX7_dark_84 : decode cX7_dark 84 = .ok (.iaload, 1) := by decide +kernel
theorem dX7_dark_85 : decode cX7_dark 85 = .ok (.ireturn, 1) := by decide +kernel
def mX7_dark : MM := (yX7_dark, cX7_dark, 3, Option.some Jvm.ClassFile.FieldType.int, { frames := 5, cells := 0, slots := 0, locals := 125 })
def fX7_dark (σ : SS) (a1 : Int32) (a2 : Int32) : Option (Int32 × SS) :=
  if (fX1_hasQuestion σ (gR σ 1 5) a1) = true then (
    vthen (fun (_u : Unit) =>
      bnd (fX3_measure σ (gR σ 1 2) (gR σ 1 5)) fun b2 σ4 =>
      if b2 = true then (
        if a2 = (-1 : Int32) then (
          some ((gI σ4 31 6), σ4)
          ) else (
          grd (inb a1 12) <|
          grd (inb ((gI σ4 ((gR σ4 1 5) + 2) (Int32.toNatClampNeg a1)) + a2) 72) <|
          some ((gI σ4 51 (Int32.toNatClampNeg ((gI σ4 ((gR σ4 1 5) + 2) (Int32.toNatClampNeg a1)) + a2))), σ4)
          )
        ) else (
        some ((-2 : Int32), σ4)
        )
      ) fun j30 =>
    if a2 = (-1 : Int32) then (
      j30 ()
      ) else (
      bnd1 (fX1_hasBox σ (gR σ 1 5) a1 a2) fun b8 =>
      if b8 = true then (
        j30 ()
        ) else (
        some ((-1 : Int32), σ)
        )
      )
    ) else (
    some ((-1 : Int32), σ)
    )

set_option maxRecDepth 20000 in
theorem sX7_dark {g : GG} {σ : SS} {a1 : Int32} {a2 : Int32} {r : Int32 × SS} (hr : fX7_dark σ a1 a2 = some r)  : Ct g mX7_dark [.ref (ad g 1), .int a1, .int a2] NF σ (some (.int r.1)) NF r.2 := by
  refine Ct.of (by decide +kernel) (nle rfl) fun hw0 => ?_
  have hw := hw0 rfl
  unfold fX7_dark at hr
  change RR g mX7_dark (FinR g mX7_dark (some (.int r.1)) NF r.2) zF 0 [(0, .ref (ad g 1)), (1, .int a1), (2, .int a2)] [] σ
  refine r_aload_n (pc := 0) (j := 0) dX7_dark_0 rfl rfl ?_
  refine gf7_5 (pc := 1) tw_2_108 hw dX7_dark_1 ?_
  refine r_iload_n (pc := 4) (j := 1) dX7_dark_4 rfl rfl ?_
  refine kX1_hasQuestion (pc := 5) (hf := rfl) (wt_fo hw).1 tw_4_82 ⟨nle rfl, nle rfl⟩ (nle rfl) dX7_dark_5 ?_
  refine r_ifB_eq (pc := 8) (tgt := 28) dX7_dark_8 rfl (fun hc => ?_) (fun hc => ?_)
  · replace hr := ite_f hc hr
    refine r_iconst (pc := 28) (v := (-1 : Int32)) dX7_dark_28 rfl ?_
    exact l_osi hr (r_iret (pc := 29) (v := (-1 : Int32)) rfl rfl ⟨Nat.le_refl _, Nat.le_refl _⟩ dX7_dark_29)
  replace hr := ite_t hc hr
  refine r_iload_n (pc := 11) (j := 2) dX7_dark_11 rfl rfl ?_
  refine r_iconst (pc := 12) (v := (-1 : Int32)) dX7_dark_12 rfl ?_
  obtain ⟨j30, ej30, hr⟩ := vth_ex hr
  have hj30 : j30 () = some r → RR g mX7_dark (FinR g mX7_dark (some (.int r.1)) NF r.2) zF 30 [(0, .ref (ad g 1)), (1, .int a1), (2, .int a2)] [] σ := by
    intro  hr
    replace hr := (congrFun ej30 ()).symm.trans hr
    refine r_aload_n (pc := 30) (j := 0) dX7_dark_30 rfl rfl ?_
    refine gf7_12 (pc := 31) tw_2_115 hw dX7_dark_31 ?_
    refine r_aload_n (pc := 34) (j := 0) dX7_dark_34 rfl rfl ?_
    refine gf7_2 (pc := 35) tw_2_105 hw dX7_dark_35 ?_
    refine r_aload_n (pc := 38) (j := 0) dX7_dark_38 rfl rfl ?_
    refine gf7_5 (pc := 39) tw_2_108 hw dX7_dark_39 ?_
    obtain ⟨b2, σ4, eσ4, hr⟩ := bnd_inv hr
    refine kX3_measure (pc := 42) eσ4 (wt_sc hw).1 (wt_fo hw).1 tw_4_100 ⟨nle rfl, nle rfl⟩ (nle rfl) dX7_dark_42 fun hσ4 => ?_
    refine r_ifB_ne (pc := 45) (tgt := 51) dX7_dark_45 rfl (fun hc => ?_) (fun hc => ?_)
    · replace hr := ite_t hc hr
      refine r_iload_n (pc := 51) (j := 2) dX7_dark_51 rfl rfl ?_
      refine r_iconst (pc := 52) (v := (-1 : Int32)) dX7_dark_52 rfl ?_
      refine r_icmp_ne (pc := 53) (tgt := 66) dX7_dark_53 rfl (fun hc => ?_) (fun hc => ?_)
      · replace hr := ite_f hc hr
        refine r_aload_n (pc := 66) (j := 0) dX7_dark_66 rfl rfl ?_
        refine gf7_12 (pc := 67) tw_2_115 hσ4 dX7_dark_67 ?_
        refine gf3_4 (pc := 70) tw_2_29 hσ4 dX7_dark_70 ?_
        refine r_aload_n (pc := 73) (j := 0) dX7_dark_73 rfl rfl ?_
        refine gf7_5 (pc := 74) tw_2_108 hσ4 dX7_dark_74 ?_
        refine gf1_8 (pc := 77) tw_1_88 hσ4 (wt_fo hσ4).1 dX7_dark_77 ?_
        refine r_iload_n (pc := 80) (j := 1) dX7_dark_80 rfl rfl ?_
        obtain ⟨h5, hr⟩ := grd_inv hr
        refine x_iald (pc := 81) (k := (Int32.toNatClampNeg a1)) (sh1_8 (wt_fo hσ4).1) h5 rfl dX7_dark_81 ?_
        refine r_iload_n (pc := 82) (j := 2) dX7_dark_82 rfl rfl ?_
        refine r_iadd (pc := 83) dX7_dark_83 ?_
        obtain ⟨h6, hr⟩ := grd_inv hr
        refine x_iald (pc := 84) (k := (Int32.toNatClampNeg ((gI σ4 ((gR σ4 1 5) + 2) (Int32.toNatClampNeg a1)) + a2))) rfl h6 rfl dX7_dark_84 ?_
        exact l_osi hr (r_iret (pc := 85) (v := (gI σ4 51 (Int32.toNatClampNeg ((gI σ4 ((gR σ4 1 5) + 2) (Int32.toNatClampNeg a1)) + a2)))) rfl rfl ⟨Nat.le_refl _, Nat.le_refl _⟩ dX7_dark_85)
      replace hr := ite_t hc hr
      refine r_aload_n (pc := 56) (j := 0) dX7_dark_56 rfl rfl ?_
      refine gf7_12 (pc := 57) tw_2_115 hσ4 dX7_dark_57 ?_
      refine gf3_6 (pc := 60) tw_2_32 rfl dX7_dark_60 ?_
      refine r_goto (pc := 63) (tgt := 85) dX7_dark_63 rfl ?_
      exact l_osi hr (r_iret (pc := 85) (v := (gI σ4 31 6)) rfl rfl ⟨Nat.le_refl _, Nat.le_refl _⟩ dX7_dark_85)
    replace hr := ite_f hc hr
    refine r_bipush (pc := 48) (v := (-2 : Int32)) dX7_dark_48 rfl ?_
    exact l_osi hr (r_iret (pc := 50) (v := (-2 : Int32)) rfl rfl ⟨Nat.le_refl _, Nat.le_refl _⟩ dX7_dark_50)
  refine r_icmp_eq (pc := 13) (tgt := 30) dX7_dark_13 rfl (fun hc => ?_) (fun hc => ?_)
  · replace hr := ite_t hc hr
    exact r_pick (ls1 := [(0, .ref (ad g 1)), (1, .int a1), (2, .int a2)]) [0, 1, 2] rfl (hj30  hr)
  replace hr := ite_f hc hr
  refine r_aload_n (pc := 16) (j := 0) dX7_dark_16 rfl rfl ?_
  refine gf7_5 (pc := 17) tw_2_108 hw dX7_dark_17 ?_
  refine r_iload_n (pc := 20) (j := 1) dX7_dark_20 rfl rfl ?_
  refine r_iload_n (pc := 21) (j := 2) dX7_dark_21 rfl rfl ?_
  obtain ⟨b8, hb8, hr⟩ := bnd1_inv hr
  refine kX1_hasBox (pc := 22) hb8 (wt_fo hw).1 tw_4_95 ⟨nle rfl, nle rfl⟩ (nle rfl) dX7_dark_22 ?_
  refine r_ifB_ne (pc := 25) (tgt := 30) dX7_dark_25 rfl (fun hc => ?_) (fun hc => ?_)
  · replace hr := ite_t hc hr
    exact r_pick (ls1 := [(0, .ref (ad g 1)), (1, .int a1), (2, .int a2)]) [0, 1, 2] rfl (hj30  hr)
  replace hr := ite_f hc hr
  refine r_iconst (pc := 28) (v := (-1 : Int32)) dX7_dark_28 rfl ?_
  exact l_osi hr (r_iret (pc := 29) (v := (-1 : Int32)) rfl rfl ⟨Nat.le_refl _, Nat.le_refl _⟩ dX7_dark_29)

theorem kX7_dark {g : GG} {σ : SS} {a1 : Int32} {a2 : Int32} {v : Int32} {σ2 : SS} {M : MM} {F : State → Array Value → List Frame → State → Prop} {pc index : Nat} {ls : List (Nat × Value)} {rest : List Value} (hf : fX7_dark σ a1 a2 = some (v, σ2))  (hl : Cond.methodLink M.1.cls index yX7_dark ∈ lw_gt) (hR : mX7_dark.2.2.2.2.frames + 1 ≤ M.2.2.2.2.frames ∧ 8 + (mX7_dark.2.2.1 + 11) + mX7_dark.2.2.2.2.locals ≤ M.2.2.2.2.locals) (hrest : (rest.map fun v => v.category).sum ≤ 8) (hd : decode M.2.1 pc = .ok (.invokevirtual index, 3)) (k : WT σ2 → RR g M F zF (pc + 3) ls (.int v :: rest) σ2) : RR g M F zF pc ls (.int a2 :: .int a1 :: .ref (ad g 1) :: rest) σ :=
  r_callV (z := zF) (N := mX7_dark) (nn := 2) (o1 := some (.int v)) (sX7_dark hf ) (rfl : shp 1 = (7, 0)) (by decide) (shp_le (rfl : shp 1 = (7, 0)) (nle rfl)) (ci := 7) rfl rfl tw_4_94 tw_1_1 hl tw_4_92 tw_4_93 ⟨by decide, by decide, rfl⟩ hR rfl hrest hd ⟨Nat.zero_le _, Nat.zero_le _⟩ rfl (fun h => k (h rfl))

theorem dX3_rankOf_0 : decode cX3_rankOf 0 = .ok (.iconst 1, 1) := by decide +kernel
theorem dX3_rankOf_1 : decode cX3_rankOf 1 = .ok (.istore_n 3, 1) := by decide +kernel
theorem dX3_rankOf_2 : decode cX3_rankOf 2 = .ok (.iconst 0, 1) := by decide +kernel
theorem dX3_rankOf_3 : decode cX3_rankOf 3 = .ok (.istore 4, 2) := by decide +kernel
theorem dX3_rankOf_5 : decode cX3_rankOf 5 = .ok (.iload 4, 2) := by decide +kernel
theorem dX3_rankOf_7 : decode cX3_rankOf 7 = .ok (.aload_n 1, 1) := by decide +kernel
theorem dX3_rankOf_8 : decode cX3_rankOf 8 = .ok (.getfield 99, 3) := by decide +kernel
theorem dX3_rankOf_11 : decode cX3_rankOf 11 = .ok (.if_icmp .ge 28, 3) := by decide +kernel
theorem dX3_rankOf_14 : decode cX3_rankOf 14 = .ok (.aload_n 0, 1) := by decide +kernel
theorem dX3_rankOf_15 : decode cX3_rankOf 15 = .ok (.getfield 32, 3) := by decide +kernel
theorem dX3_rankOf_18 : decode cX3_rankOf 18 = .ok (.iload 4, 2) := by decide +kernel
theorem dX3_rankOf_20 : decode cX3_rankOf 20 = .ok (.iaload, 1) := by decide +kernel
theorem dX3_rankOf_21 : decode cX3_rankOf 21 = .ok (.aload_n 0, 1) := by decide +kernel
theorem dX3_rankOf_22 : decode cX3_rankOf 22 = .ok (.getfield 32, 3) := by decide +kernel
theorem dX3_rankOf_25 : decode cX3_rankOf 25 = .ok (.iload_n 2, 1) := by decide +kernel
theorem dX3_rankOf_26 : decode cX3_rankOf 26 = .ok (.iaload, 1) := by decide +kernel
theorem dX3_rankOf_27 : decode cX3_rankOf 27 = .ok (.if_icmp .le 6, 3) := by decide +kernel
theorem dX3_rankOf_30 : decode cX3_rankOf 30 = .ok (.iinc 3 1, 3) := by decide +kernel
theorem dX3_rankOf_33 : decode cX3_rankOf 33 = .ok (.iinc 4 1, 3) := by decide +kernel
theorem dX3_rankOf_36 : decode cX3_rankOf 36 = .ok (.goto (-31), 3) := by decide +kernel
theorem dX3_rankOf_39 : decode cX3_rankOf 39 = .ok (.iload_n 3, 1) := by decide +kernel
theorem dX3_rankOf_40 : decode cX3_rankOf 40 = .ok (.ireturn, 1) := by decide +kernel
def mX3_rankOf : MM := (yX3_rankOf, cX3_rankOf, 5, Option.some Jvm.ClassFile.FieldType.int, { frames := 0, cells := 0, slots := 0, locals := 0 })
def X3_rankOf_L5 (σ_ : SS) (o1_ : Nat) (u2_ : Int32)  : Nat → Int32 → Int32 → Option Int32 :=
  lp (fun _ _ => none) fun rec v3_ v4_ =>
    if (gI σ_ o1_ 6) ≤ v4_ then (
      some v3_
      ) else (
      grd (inb v4_ 72) <|
      grd (inb u2_ 72) <|
      if (gI σ_ 51 (Int32.toNatClampNeg v4_)) ≤ (gI σ_ 51 (Int32.toNatClampNeg u2_)) then (
        rec v3_ (v4_ + (1 : Int32))
        ) else (
        rec (v3_ + (1 : Int32)) (v4_ + (1 : Int32))
        )
      )

def fX3_rankOf (σ0 : SS) (a1 : Nat) (a2 : Int32) : Option Int32 :=
  X3_rankOf_L5 σ0 a1 a2
  fuel (1 : Int32) (0 : Int32)

set_option maxRecDepth 20000 in
theorem sX3_rankOf_L5 {g : GG} {r : Int32} {σ_ : SS} {σ0 : SS} {o1_ : Nat} {u2_ : Int32}  (hs1_ : shp o1_ = (1, 0))
    (hw_ : WT σ_)
    (h0_ : σ_ = σ0)
    (n : Nat) : ∀ (v3_ : Int32) (v4_ : Int32), X3_rankOf_L5 σ_ o1_ u2_ n v3_ v4_ = some r → RR g mX3_rankOf (FinR g mX3_rankOf (some (.int r)) NF σ0) zF 5 [(0, .ref (ad g 31)), (1, .ref (ad g o1_)), (2, .int u2_), (3, .int v3_), (4, .int v4_)] [] σ_ := by
  unfold X3_rankOf_L5
  refine lp_ind (P := fun (rec : Int32 → Int32 → Option Int32) => ∀ (v3_ : Int32) (v4_ : Int32), rec v3_ v4_ = some r → RR g mX3_rankOf (FinR g mX3_rankOf (some (.int r)) NF σ0) zF 5 [(0, .ref (ad g 31)), (1, .ref (ad g o1_)), (2, .int u2_), (3, .int v3_), (4, .int v4_)] [] σ_) ?_ ?_ n
  · intro v3_ v4_ hr; cases hr
  intro rec ih v3_ v4_ hr
  subst h0_
  refine r_iload (pc := 5) (j := 4) dX3_rankOf_5 rfl ?_
  refine r_aload_n (pc := 7) (j := 1) dX3_rankOf_7 rfl rfl ?_
  refine gf1_6 (pc := 8) tw_1_82 hs1_ dX3_rankOf_8 ?_
  refine r_icmp_ge (pc := 11) (tgt := 39) dX3_rankOf_11 rfl (fun hc => ?_) (fun hc => ?_)
  · replace hr := ite_t hc hr
    refine r_iload_n (pc := 39) (j := 3) dX3_rankOf_39 rfl rfl ?_
    exact l_opi hr (r_iret (pc := 40) (v := v3_) rfl rfl ⟨Nat.le_refl _, Nat.le_refl _⟩ dX3_rankOf_40)
  replace hr := ite_f hc hr
  refine r_aload_n (pc := 14) (j := 0) dX3_rankOf_14 rfl rfl ?_
  refine gf3_4 (pc := 15) tw_2_28 hw_ dX3_rankOf_15 ?_
  refine r_iload (pc := 18) (j := 4) dX3_rankOf_18 rfl ?_
  obtain ⟨h1, hr⟩ := grd_inv hr
  refine x_iald (pc := 20) (k := (Int32.toNatClampNeg v4_)) rfl h1 rfl dX3_rankOf_20 ?_
  refine r_aload_n (pc := 21) (j := 0) dX3_rankOf_21 rfl rfl ?_
  refine gf3_4 (pc := 22) tw_2_28 hw_ dX3_rankOf_22 ?_
  refine r_iload_n (pc := 25) (j := 2) dX3_rankOf_25 rfl rfl ?_
  obtain ⟨h2, hr⟩ := grd_inv hr
  refine x_iald (pc := 26) (k := (Int32.toNatClampNeg u2_)) rfl h2 rfl dX3_rankOf_26 ?_
  refine r_icmp_le (pc := 27) (tgt := 33) dX3_rankOf_27 rfl (fun hc => ?_) (fun hc => ?_)
  · replace hr := ite_t hc hr
    refine r_iinc (pc := 33) (j := 4) (v := (v4_ + (1 : Int32))) (ls1 := [(4, .int (v4_ + (1 : Int32))), (0, .ref (ad g 31)), (1, .ref (ad g o1_)), (2, .int u2_), (3, .int v3_)]) dX3_rankOf_33 rfl rfl (nle rfl) rfl ?_
    refine r_goto (pc := 36) (tgt := 5) dX3_rankOf_36 rfl ?_
    exact r_pick (ls1 := [(0, .ref (ad g 31)), (1, .ref (ad g o1_)), (2, .int u2_), (3, .int v3_), (4, .int (v4_ + (1 : Int32)))]) [1, 2, 3, 4, 0] rfl (ih v3_ (v4_ + (1 : Int32)) hr)
  replace hr := ite_f hc hr
  refine r_iinc (pc := 30) (j := 3) (v := (v3_ + (1 : Int32))) (ls1 := [(3, .int (v3_ + (1 : Int32))), (0, .ref (ad g 31)), (1, .ref (ad g o1_)), (2, .int u2_), (4, .int v4_)]) dX3_rankOf_30 rfl rfl (nle rfl) rfl ?_
  refine r_iinc (pc := 33) (j := 4) (v := (v4_ + (1 : Int32))) (ls1 := [(4, .int (v4_ + (1 : Int32))), (3, .int (v3_ + (1 : Int32))), (0, .ref (ad g 31)), (1, .ref (ad g o1_)), (2, .int u2_)]) dX3_rankOf_33 rfl rfl (nle rfl) rfl ?_
  refine r_goto (pc := 36) (tgt := 5) dX3_rankOf_36 rfl ?_
  exact r_pick (ls1 := [(0, .ref (ad g 31)), (1, .ref (ad g o1_)), (2, .int u2_), (3, .int (v3_ + (1 : Int32))), (4, .int (v4_ + (1 : Int32)))]) [2, 3, 4, 1, 0] rfl (ih (v3_ + (1 : Int32)) (v4_ + (1 : Int32)) hr)

set_option maxRecDepth 20000 in
theorem sX3_rankOf {g : GG} {σ0 : SS} {a1 : Nat} {a2 : Int32} {r : Int32} (hr : fX3_rankOf σ0 a1 a2 = some r) (hs1 : shp a1 = (1, 0)) : Ct g mX3_rankOf [.ref (ad g 31), .ref (ad g a1), .int a2] NF σ0 (some (.int r)) NF σ0 := by
  refine Ct.of (by decide +kernel) (nle rfl) fun hw0 => ?_
  have hw := hw0 rfl
  unfold fX3_rankOf at hr
  change RR g mX3_rankOf (FinR g mX3_rankOf (some (.int r)) NF σ0) zF 0 [(0, .ref (ad g 31)), (1, .ref (ad g a1)), (2, .int a2)] [] σ0
  refine r_iconst (pc := 0) (v := (1 : Int32)) dX3_rankOf_0 rfl ?_
  refine r_istore_n (pc := 1) (ls1 := [(3, .int (1 : Int32)), (0, .ref (ad g 31)), (1, .ref (ad g a1)), (2, .int a2)]) dX3_rankOf_1 rfl (nle rfl) rfl ?_
  refine r_iconst (pc := 2) (v := (0 : Int32)) dX3_rankOf_2 rfl ?_
  refine r_istore (pc := 3) (ls1 := [(4, .int (0 : Int32)), (3, .int (1 : Int32)), (0, .ref (ad g 31)), (1, .ref (ad g a1)), (2, .int a2)]) dX3_rankOf_3 (nle rfl) rfl ?_
  refine r_pick (ls1 := [(0, .ref (ad g 31)), (1, .ref (ad g a1)), (2, .int a2), (3, .int (1 : Int32)), (4, .int (0 : Int32))]) [2, 3, 4, 1, 0] rfl ?_
  refine sX3_rankOf_L5 hs1 hw rfl  fuel (1 : Int32) (0 : Int32) hr

theorem kX3_rankOf {g : GG} {σ0 : SS} {a1 : Nat} {a2 : Int32} {v : Int32} {M : MM} {F : State → Array Value → List Frame → State → Prop} {pc index : Nat} {ls : List (Nat × Value)} {rest : List Value} (hf : fX3_rankOf σ0 a1 a2 = some v) (hs1 : shp a1 = (1, 0)) (hl : Cond.methodLink M.1.cls index yX3_rankOf ∈ lw_gt) (hR : mX3_rankOf.2.2.2.2.frames + 1 ≤ M.2.2.2.2.frames ∧ 8 + (mX3_rankOf.2.2.1 + 11) + mX3_rankOf.2.2.2.2.locals ≤ M.2.2.2.2.locals) (hrest : (rest.map fun v => v.category).sum ≤ 8) (hd : decode M.2.1 pc = .ok (.invokevirtual index, 3)) (k : RR g M F zF (pc + 3) ls (.int v :: rest) σ0) : RR g M F zF pc ls (.int a2 :: .ref (ad g a1) :: .ref (ad g 31) :: rest) σ0 :=
  r_callV (z := zF) (N := mX3_rankOf) (nn := 2) (o1 := some (.int v)) (sX3_rankOf hf hs1) (rfl : shp 31 = (3, 0)) (by decide) (shp_le (rfl : shp 31 = (3, 0)) (nle rfl)) (ci := 3) rfl rfl tw_4_108 tw_1_5 hl tw_4_106 tw_4_107 ⟨by decide, by decide, rfl⟩ hR rfl hrest hd ⟨Nat.zero_le _, Nat.zero_le _⟩ rfl (fun h => k)

theorem dX7_rank_0 : decode cX7_rank 0 = .ok (.aload_n 0, 1) := by decide +kernel
theorem dX7_rank_1 : decode cX7_rank 1 = .ok (.getfield 32, 3) := by decide +kernel
theorem dX7_rank_4 : decode cX7_rank 4 = .ok (.iload_n 1, 1) := by decide +kernel
theorem dX7_rank_5 : decode cX7_rank 5 = .ok (.iload_n 2, 1) := by decide +kernel
theorem dX7_rank_6 : decode cX7_rank 6 = .ok (.invokevirtual 138, 3) := by decide +kernel
theorem dX7_rank_9 : decode cX7_rank 9 = .ok (.ifCond .ne 5, 3) := by decide +kernel
theorem dX7_rank_12 : decode cX7_rank 12 = .ok (.iconst (-1), 1) := by decide +kernel
theorem dX7_rank_13 : decode cX7_rank 13 = .ok (.ireturn, 1) := by decide +kernel
theorem dX7_rank_14 : decode cX7_rank 14 = .ok (.aload_n 0, 1) := by decide +kernel
theorem dX7_rank_15 : decode cX7_rank 15 = .ok (.getfield 62, 3) := by decide +kernel
theorem dX7_rank_18 : decode cX7_rank 18 = .ok (.aload_n 0, 1) := by decide +kernel
theorem dX7_rank_19 : decode cX7_rank 19 = .ok (.getfield 18, 3) := by decide +kernel
theorem dX7_rank_22 : decode cX7_rank 22 = .ok (.aload_n 0, 1) := by decide +kernel
theorem dX7_rank_23 : decode cX7_rank 23 = .ok (.getfield 32, 3) := by decide +kernel
theorem dX7_rank_26 : decode cX7_rank 26 = .ok (.invokevirtual 292, 3) := by decide +kernel
theorem dX7_rank_29 : decode cX7_rank 29 = .ok (.ifCond .ne 6, 3) := by decide +kernel
theorem dX7_rank_32 : decode cX7_rank 32 = .ok (.bipush (-2), 2) := by decide +kernel
theorem dX7_rank_34 : decode cX7_rank 34 = .ok (.ireturn, 1) := by decide +kernel
theorem dX7_rank_35 : decode cX7_rank 35 = .ok (.aload_n 0, 1) := by decide +kernel
theorem dX7_rank_36 : decode cX7_rank 36 = .ok (.getfield 62, 3) := by decide +kernel
theorem dX7_rank_39 : decode cX7_rank 39 = .ok (.aload_n 0, 1) := by decide +kernel
theorem dX7_rank_40 : decode cX7_rank 40 = .ok (.getfield 32, 3) := by decide +kernel
theorem dX7_rank_43 : decode cX7_rank 43 = .ok (.aload_n 0, 1) := by decide +kernel
theorem dX7_rank_44 : decode cX7_rank 44 = .ok (.getfield 32, 3) := by decide +kernel
theorem dX7_rank_47 : decode cX7_rank 47 = .ok (.getfield 145, 3) := by decide +kernel
theorem dX7_rank_50 : decode cX7_rank 50 = .ok (.iload_n 1, 1) := by decide +kernel
theorem dX7_rank_51 : decode cX7_rank 51 = .ok (.iaload, 1) := by decide +kernel
theorem dX7_rank_52 : decode cX7_rank 52 = .ok (.iload_n 2, 1) := by decide +kernel
theorem dX7_rank_53 : decode cX7_rank 53 = .ok (.iadd, 1) := by decide +kernel
theorem dX7_rank_54 : decode cX7_rank 54 = .ok (.invokevirtual 335, 3) := by decide +kernel
theorem dX7_rank_57 : decode cX7_rank 57 = .ok (.ireturn, 1) := by decide +kernel
def mX7_rank : MM := (yX7_rank, cX7_rank, 3, Option.some Jvm.ClassFile.FieldType.int, { frames := 5, cells := 0, slots := 0, locals := 125 })
def fX7_rank (σ : SS) (a1 : Int32) (a2 : Int32) : Option (Int32 × SS) :=
  bnd1 (fX1_hasBox σ (gR σ 1 5) a1 a2) fun b2 =>
  if b2 = true then (
    bnd (fX3_measure σ (gR σ 1 2) (gR σ 1 5)) fun b5 σ7 =>
    if b5 = true then (
      grd (inb a1 12) <|
      bnd1 (fX3_rankOf σ7 (gR σ7 1 5) ((gI σ7 ((gR σ7 1 5) + 2) (Int32.toNatClampNeg a1)) + a2)) fun v9 =>
      some (v9, σ7)
      ) else (
      some ((-2 : Int32), σ7)
      )
    ) else (
    some ((-1 : Int32), σ)
    )

set_option maxRecDepth 20000 in
theorem sX7_rank {g : GG} {σ : SS} {a1 : Int32} {a2 : Int32} {r : Int32 × SS} (hr : fX7_rank σ a1 a2 = some r)  : Ct g mX7_rank [.ref (ad g 1), .int a1, .int a2] NF σ (some (.int r.1)) NF r.2 := by
  refine Ct.of (by decide +kernel) (nle rfl) fun hw0 => ?_
  have hw := hw0 rfl
  unfold fX7_rank at hr
  change RR g mX7_rank (FinR g mX7_rank (some (.int r.1)) NF r.2) zF 0 [(0, .ref (ad g 1)), (1, .int a1), (2, .int a2)] [] σ
  refine r_aload_n (pc := 0) (j := 0) dX7_rank_0 rfl rfl ?_
  refine gf7_5 (pc := 1) tw_2_108 hw dX7_rank_1 ?_
  refine r_iload_n (pc := 4) (j := 1) dX7_rank_4 rfl rfl ?_
  refine r_iload_n (pc := 5) (j := 2) dX7_rank_5 rfl rfl ?_
  obtain ⟨b2, hb2, hr⟩ := bnd1_inv hr
  refine kX1_hasBox (pc := 6) hb2 (wt_fo hw).1 tw_4_95 ⟨nle rfl, nle rfl⟩ (nle rfl) dX7_rank_6 ?_
  refine r_ifB_ne (pc := 9) (tgt := 14) dX7_rank_9 rfl (fun hc => ?_) (fun hc => ?_)
  · replace hr := ite_t hc hr
    refine r_aload_n (pc := 14) (j := 0) dX7_rank_14 rfl rfl ?_
    refine gf7_12 (pc := 15) tw_2_115 hw dX7_rank_15 ?_
    refine r_aload_n (pc := 18) (j := 0) dX7_rank_18 rfl rfl ?_
    refine gf7_2 (pc := 19) tw_2_105 hw dX7_rank_19 ?_
    refine r_aload_n (pc := 22) (j := 0) dX7_rank_22 rfl rfl ?_
    refine gf7_5 (pc := 23) tw_2_108 hw dX7_rank_23 ?_
    obtain ⟨b5, σ7, eσ7, hr⟩ := bnd_inv hr
    refine kX3_measure (pc := 26) eσ7 (wt_sc hw).1 (wt_fo hw).1 tw_4_100 ⟨nle rfl, nle rfl⟩ (nle rfl) dX7_rank_26 fun hσ7 => ?_
    refine r_ifB_ne (pc := 29) (tgt := 35) dX7_rank_29 rfl (fun hc => ?_) (fun hc => ?_)
    · replace hr := ite_t hc hr
      refine r_aload_n (pc := 35) (j := 0) dX7_rank_35 rfl rfl ?_
      refine gf7_12 (pc := 36) tw_2_115 hσ7 dX7_rank_36 ?_
      refine r_aload_n (pc := 39) (j := 0) dX7_rank_39 rfl rfl ?_
      refine gf7_5 (pc := 40) tw_2_108 hσ7 dX7_rank_40 ?_
      refine r_aload_n (pc := 43) (j := 0) dX7_rank_43 rfl rfl ?_
      refine gf7_5 (pc := 44) tw_2_108 hσ7 dX7_rank_44 ?_
      refine gf1_8 (pc := 47) tw_1_88 hσ7 (wt_fo hσ7).1 dX7_rank_47 ?_
      refine r_iload_n (pc := 50) (j := 1) dX7_rank_50 rfl rfl ?_
      obtain ⟨h8, hr⟩ := grd_inv hr
      refine x_iald (pc := 51) (k := (Int32.toNatClampNeg a1)) (sh1_8 (wt_fo hσ7).1) h8 rfl dX7_rank_51 ?_
      refine r_iload_n (pc := 52) (j := 2) dX7_rank_52 rfl rfl ?_
      refine r_iadd (pc := 53) dX7_rank_53 ?_
      obtain ⟨v9, hv9, hr⟩ := bnd1_inv hr
      refine kX3_rankOf (pc := 54) hv9 (wt_fo hσ7).1 tw_4_105 ⟨nle rfl, nle rfl⟩ (nle rfl) dX7_rank_54 ?_
      exact l_osi hr (r_iret (pc := 57) (v := v9) rfl rfl ⟨Nat.le_refl _, Nat.le_refl _⟩ dX7_rank_57)
    replace hr := ite_f hc hr
    refine r_bipush (pc := 32) (v := (-2 : Int32)) dX7_rank_32 rfl ?_
    exact l_osi hr (r_iret (pc := 34) (v := (-2 : Int32)) rfl rfl ⟨Nat.le_refl _, Nat.le_refl _⟩ dX7_rank_34)
  replace hr := ite_f hc hr
  refine r_iconst (pc := 12) (v := (-1 : Int32)) dX7_rank_12 rfl ?_
  exact l_osi hr (r_iret (pc := 13) (v := (-1 : Int32)) rfl rfl ⟨Nat.le_refl _, Nat.le_refl _⟩ dX7_rank_13)

theorem kX7_rank {g : GG} {σ : SS} {a1 : Int32} {a2 : Int32} {v : Int32} {σ2 : SS} {M : MM} {F : State → Array Value → List Frame → State → Prop} {pc index : Nat} {ls : List (Nat × Value)} {rest : List Value} (hf : fX7_rank σ a1 a2 = some (v, σ2))  (hl : Cond.methodLink M.1.cls index yX7_rank ∈ lw_gt) (hR : mX7_rank.2.2.2.2.frames + 1 ≤ M.2.2.2.2.frames ∧ 8 + (mX7_rank.2.2.1 + 11) + mX7_rank.2.2.2.2.locals ≤ M.2.2.2.2.locals) (hrest : (rest.map fun v => v.category).sum ≤ 8) (hd : decode M.2.1 pc = .ok (.invokevirtual index, 3)) (k : WT σ2 → RR g M F zF (pc + 3) ls (.int v :: rest) σ2) : RR g M F zF pc ls (.int a2 :: .int a1 :: .ref (ad g 1) :: rest) σ :=
  r_callV (z := zF) (N := mX7_rank) (nn := 2) (o1 := some (.int v)) (sX7_rank hf ) (rfl : shp 1 = (7, 0)) (by decide) (shp_le (rfl : shp 1 = (7, 0)) (nle rfl)) (ci := 7) rfl rfl tw_4_104 tw_1_1 hl tw_4_102 tw_4_103 ⟨by decide, by decide, rfl⟩ hR rfl hrest hd ⟨Nat.zero_le _, Nat.zero_le _⟩ rfl (fun h => k (h rfl))

theorem dX7_unlike_0 : decode cX7_unlike 0 = .ok (.aload_n 0, 1) := by decide +kernel
theorem dX7_unlike_1 : decode cX7_unlike 1 = .ok (.getfield 32, 3) := by decide +kernel
theorem dX7_unlike_4 : decode cX7_unlike 4 = .ok (.getfield 274, 3) := by decide +kernel
theorem dX7_unlike_7 : decode cX7_unlike 7 = .ok (.ifCond .ne 5, 3) := by decide +kernel
theorem dX7_unlike_10 : decode cX7_unlike 10 = .ok (.iconst (-1), 1) := by decide +kernel
theorem dX7_unlike_11 : decode cX7_unlike 11 = .ok (.ireturn, 1) := by decide +kernel
theorem dX7_unlike_12 : decode cX7_unlike 12 = .ok (.aload_n 0, 1) := by decide +kernel
theorem dX7_unlike_13 : decode cX7_unlike 13 = .ok (.getfield 62, 3) := by decide +kernel
theorem dX7_unlike_16 : decode cX7_unlike 16 = .ok (.aload_n 0, 1) := by decide +kernel
theorem dX7_unlike_17 : decode cX7_unlike 17 = .ok (.getfield 18, 3) := by decide +kernel
theorem dX7_unlike_20 : decode cX7_unlike 20 = .ok (.aload_n 0, 1) := by decide +kernel
theorem dX7_unlike_21 : decode cX7_unlike 21 = .ok (.getfield 32, 3) := by decide +kernel
theorem dX7_unlike_24 : decode cX7_unlike 24 = .ok (.invokevirtual 303, 3) := by decide +kernel
theorem dX7_unlike_27 : decode cX7_unlike 27 = .ok (.ifCond .ne 6, 3) := by decide +kernel
theorem dX7_unlike_30 : decode cX7_unlike 30 = .ok (.bipush (-2), 2) := by decide +kernel
theorem dX7_unlike_32 : decode cX7_unlike 32 = .ok (.ireturn, 1) := by decide +kernel
theorem dX7_unlike_33 : decode cX7_unlike 33 = .ok (.iconst 0, 1) := by decide +kernel
theorem dX7_unlike_34 : decode cX7_unlike 34 = .ok (.istore_n 1, 1) := by decide +kernel
theorem dX7_unlike_35 : decode cX7_unlike 35 = .ok (.iconst 0, 1) := by decide +kernel
theorem dX7_unlike_36 : decode cX7_unlike 36 = .ok (.istore_n 2, 1) := by decide +kernel
theorem dX7_unlike_37 : decode cX7_unlike 37 = .ok (.iload_n 2, 1) := by decide +kernel
theorem dX7_unlike_38 : decode cX7_unlike 38 = .ok (.aload_n 0, 1) := by decide +kernel
theorem dX7_unlike_39 : decode cX7_unlike 39 = .ok (.getfield 32, 3) := by decide +kernel
theorem dX7_unlike_42 : decode cX7_unlike 42 = .ok (.getfield 97, 3) := by decide +kernel
theorem dX7_unlike_45 : decode cX7_unlike 45 = .ok (.if_icmp .ge 30, 3) := by decide +kernel
theorem dX7_unlike_48 : decode cX7_unlike 48 = .ok (.aload_n 0, 1) := by decide +kernel
theorem dX7_unlike_49 : decode cX7_unlike 49 = .ok (.getfield 62, 3) := by decide +kernel
theorem dX7_unlike_52 : decode cX7_unlike 52 = .ok (.getfield 305, 3) := by decide +kernel
theorem dX7_unlike_55 : decode cX7_unlike 55 = .ok (.iload_n 2, 1) := by decide +kernel
theorem dX7_unlike_56 : decode cX7_unlike 56 = .ok (.iaload, 1) := by decide +kernel
theorem dX7_unlike_57 : decode cX7_unlike 57 = .ok (.aload_n 0, 1) := by decide +kernel
theorem dX7_unlike_58 : decode cX7_unlike 58 = .ok (.getfield 56, 3) := by decide +kernel
theorem dX7_unlike_61 : decode cX7_unlike 61 = .ok (.iload_n 2, 1) := by decide +kernel
theorem dX7_unlike_62 : decode cX7_unlike 62 = .ok (.iaload, 1) := by decide +kernel
theorem dX7_unlike_63 : decode cX7_unlike 63 = .ok (.if_icmp .eq 6, 3) := by decide +kernel
theorem dX7_unlike_66 : decode cX7_unlike 66 = .ok (.iinc 1 1, 3) := by decide +kernel
theorem dX7_unlike_69 : decode cX7_unlike 69 = .ok (.iinc 2 1, 3) := by decide +kernel
theorem dX7_unlike_72 : decode cX7_unlike 72 = .ok (.goto (-35), 3) := by decide +kernel
theorem dX7_unlike_75 : decode cX7_unlike 75 = .ok (.iload_n 1, 1) := by decide +kernel
theorem dX7_unlike_76 : decode cX7_unlike 76 = .ok (.ireturn, 1) := by decide +kernel
def mX7_unlike : MM := (yX7_unlike, cX7_unlike, 3, Option.some Jvm.ClassFile.FieldType.int, { frames := 6, cells := 0, slots := 0, locals := 148 })
def X7_unlike_L37 (σ_ : SS)   : Nat → Int32 → Int32 → Option (Int32 × SS) :=
  lp (fun _ _ => none) fun rec v1_ v2_ =>
    if (gI σ_ (gR σ_ 1 5) 5) ≤ v2_ then (
      some (v1_, σ_)
      ) else (
      grd (inb v2_ 12) <|
      if (gI σ_ 53 (Int32.toNatClampNeg v2_)) = (gI σ_ 30 (Int32.toNatClampNeg v2_)) then (
        rec v1_ (v2_ + (1 : Int32))
        ) else (
        rec (v1_ + (1 : Int32)) (v2_ + (1 : Int32))
        )
      )

def fX7_unlike (σ : SS)  : Option (Int32 × SS) :=
  if (gI σ (gR σ 1 5) 0) = 0 then (
    some ((-1 : Int32), σ)
    ) else (
    bnd (fX3_read σ (gR σ 1 2) (gR σ 1 5)) fun b2 σ4 =>
    if b2 = true then (
      X7_unlike_L37 σ4
      fuel (0 : Int32) (0 : Int32)
      ) else (
      some ((-2 : Int32), σ4)
      )
    )

set_option maxRecDepth 20000 in
theorem sX7_unlike_L37 {g : GG} {r : Int32 × SS} {σ_ : SS}   
    (hw_ : WT σ_)
    (n : Nat) : ∀ (v1_ : Int32) (v2_ : Int32), X7_unlike_L37 σ_ n v1_ v2_ = some r → RR g mX7_unlike (FinR g mX7_unlike (some (.int r.1)) NF r.2) zF 37 [(0, .ref (ad g 1)), (1, .int v1_), (2, .int v2_)] [] σ_ := by
  unfold X7_unlike_L37
  refine lp_ind (P := fun (rec : Int32 → Int32 → Option (Int32 × SS)) => ∀ (v1_ : Int32) (v2_ : Int32), rec v1_ v2_ = some r → RR g mX7_unlike (FinR g mX7_unlike (some (.int r.1)) NF r.2) zF 37 [(0, .ref (ad g 1)), (1, .int v1_), (2, .int v2_)] [] σ_) ?_ ?_ n
  · intro v1_ v2_ hr; cases hr
  intro rec ih v1_ v2_ hr
  refine r_iload_n (pc := 37) (j := 2) dX7_unlike_37 rfl rfl ?_
  refine r_aload_n (pc := 38) (j := 0) dX7_unlike_38 rfl rfl ?_
  refine gf7_5 (pc := 39) tw_2_108 hw_ dX7_unlike_39 ?_
  refine gf1_5 (pc := 42) tw_1_78 (wt_fo hw_).1 dX7_unlike_42 ?_
  refine r_icmp_ge (pc := 45) (tgt := 75) dX7_unlike_45 rfl (fun hc => ?_) (fun hc => ?_)
  · replace hr := ite_t hc hr
    refine r_iload_n (pc := 75) (j := 1) dX7_unlike_75 rfl rfl ?_
    exact l_osi hr (r_iret (pc := 76) (v := v1_) rfl rfl ⟨Nat.le_refl _, Nat.le_refl _⟩ dX7_unlike_76)
  replace hr := ite_f hc hr
  refine r_aload_n (pc := 48) (j := 0) dX7_unlike_48 rfl rfl ?_
  refine gf7_12 (pc := 49) tw_2_115 hw_ dX7_unlike_49 ?_
  refine gf3_7 (pc := 52) tw_2_35 hw_ dX7_unlike_52 ?_
  refine r_iload_n (pc := 55) (j := 2) dX7_unlike_55 rfl rfl ?_
  obtain ⟨h5, hr⟩ := grd_inv hr
  refine x_iald (pc := 56) (k := (Int32.toNatClampNeg v2_)) rfl h5 rfl dX7_unlike_56 ?_
  refine r_aload_n (pc := 57) (j := 0) dX7_unlike_57 rfl rfl ?_
  refine gf7_11 (pc := 58) tw_2_114 hw_ dX7_unlike_58 ?_
  refine r_iload_n (pc := 61) (j := 2) dX7_unlike_61 rfl rfl ?_
  refine x_iald (pc := 62) (k := (Int32.toNatClampNeg v2_)) rfl h5 rfl dX7_unlike_62 ?_
  refine r_icmp_eq (pc := 63) (tgt := 69) dX7_unlike_63 rfl (fun hc => ?_) (fun hc => ?_)
  · replace hr := ite_t hc hr
    refine r_iinc (pc := 69) (j := 2) (v := (v2_ + (1 : Int32))) (ls1 := [(2, .int (v2_ + (1 : Int32))), (0, .ref (ad g 1)), (1, .int v1_)]) dX7_unlike_69 rfl rfl (nle rfl) rfl ?_
    refine r_goto (pc := 72) (tgt := 37) dX7_unlike_72 rfl ?_
    exact r_pick (ls1 := [(0, .ref (ad g 1)), (1, .int v1_), (2, .int (v2_ + (1 : Int32)))]) [1, 2, 0] rfl (ih v1_ (v2_ + (1 : Int32)) hr)
  replace hr := ite_f hc hr
  refine r_iinc (pc := 66) (j := 1) (v := (v1_ + (1 : Int32))) (ls1 := [(1, .int (v1_ + (1 : Int32))), (0, .ref (ad g 1)), (2, .int v2_)]) dX7_unlike_66 rfl rfl (nle rfl) rfl ?_
  refine r_iinc (pc := 69) (j := 2) (v := (v2_ + (1 : Int32))) (ls1 := [(2, .int (v2_ + (1 : Int32))), (1, .int (v1_ + (1 : Int32))), (0, .ref (ad g 1))]) dX7_unlike_69 rfl rfl (nle rfl) rfl ?_
  refine r_goto (pc := 72) (tgt := 37) dX7_unlike_72 rfl ?_
  exact r_pick (ls1 := [(0, .ref (ad g 1)), (1, .int (v1_ + (1 : Int32))), (2, .int (v2_ + (1 : Int32)))]) [2, 1, 0] rfl (ih (v1_ + (1 : Int32)) (v2_ + (1 : Int32)) hr)

set_option maxRecDepth 20000 in
theorem sX7_unlike {g : GG} {σ : SS}  {r : Int32 × SS} (hr : fX7_unlike σ = some r)  : Ct g mX7_unlike [.ref (ad g 1)] NF σ (some (.int r.1)) NF r.2 := by
  refine Ct.of (by decide +kernel) (nle rfl) fun hw0 => ?_
  have hw := hw0 rfl
  unfold fX7_unlike at hr
  change RR g mX7_unlike (FinR g mX7_unlike (some (.int r.1)) NF r.2) zF 0 [(0, .ref (ad g 1))] [] σ
  refine r_aload_n (pc := 0) (j := 0) dX7_unlike_0 rfl rfl ?_
  refine gf7_5 (pc := 1) tw_2_108 hw dX7_unlike_1 ?_
  refine gf1_0 (pc := 4) tw_1_60 (wt_fo hw).1 dX7_unlike_4 ?_
  refine r_if_ne (pc := 7) (tgt := 12) dX7_unlike_7 rfl (fun hc => ?_) (fun hc => ?_)
  · replace hr := ite_f hc hr
    refine r_aload_n (pc := 12) (j := 0) dX7_unlike_12 rfl rfl ?_
    refine gf7_12 (pc := 13) tw_2_115 hw dX7_unlike_13 ?_
    refine r_aload_n (pc := 16) (j := 0) dX7_unlike_16 rfl rfl ?_
    refine gf7_2 (pc := 17) tw_2_105 hw dX7_unlike_17 ?_
    refine r_aload_n (pc := 20) (j := 0) dX7_unlike_20 rfl rfl ?_
    refine gf7_5 (pc := 21) tw_2_108 hw dX7_unlike_21 ?_
    obtain ⟨b2, σ4, eσ4, hr⟩ := bnd_inv hr
    refine kX3_read (pc := 24) eσ4 (wt_sc hw).1 (wt_fo hw).1 tw_3_10 ⟨nle rfl, nle rfl⟩ (nle rfl) dX7_unlike_24 fun hσ4 => ?_
    refine r_ifB_ne (pc := 27) (tgt := 33) dX7_unlike_27 rfl (fun hc => ?_) (fun hc => ?_)
    · replace hr := ite_t hc hr
      refine r_iconst (pc := 33) (v := (0 : Int32)) dX7_unlike_33 rfl ?_
      refine r_istore_n (pc := 34) (ls1 := [(1, .int (0 : Int32)), (0, .ref (ad g 1))]) dX7_unlike_34 rfl (nle rfl) rfl ?_
      refine r_iconst (pc := 35) (v := (0 : Int32)) dX7_unlike_35 rfl ?_
      refine r_istore_n (pc := 36) (ls1 := [(2, .int (0 : Int32)), (1, .int (0 : Int32)), (0, .ref (ad g 1))]) dX7_unlike_36 rfl (nle rfl) rfl ?_
      refine r_pick (ls1 := [(0, .ref (ad g 1)), (1, .int (0 : Int32)), (2, .int (0 : Int32))]) [2, 1, 0] rfl ?_
      refine sX7_unlike_L37  hσ4   fuel (0 : Int32) (0 : Int32) hr
    replace hr := ite_f hc hr
    refine r_bipush (pc := 30) (v := (-2 : Int32)) dX7_unlike_30 rfl ?_
    exact l_osi hr (r_iret (pc := 32) (v := (-2 : Int32)) rfl rfl ⟨Nat.le_refl _, Nat.le_refl _⟩ dX7_unlike_32)
  replace hr := ite_t hc hr
  refine r_iconst (pc := 10) (v := (-1 : Int32)) dX7_unlike_10 rfl ?_
  exact l_osi hr (r_iret (pc := 11) (v := (-1 : Int32)) rfl rfl ⟨Nat.le_refl _, Nat.le_refl _⟩ dX7_unlike_11)

theorem kX7_unlike {g : GG} {σ : SS}  {v : Int32} {σ2 : SS} {M : MM} {F : State → Array Value → List Frame → State → Prop} {pc index : Nat} {ls : List (Nat × Value)} {rest : List Value} (hf : fX7_unlike σ = some (v, σ2))  (hl : Cond.methodLink M.1.cls index yX7_unlike ∈ lw_gt) (hR : mX7_unlike.2.2.2.2.frames + 1 ≤ M.2.2.2.2.frames ∧ 8 + (mX7_unlike.2.2.1 + 11) + mX7_unlike.2.2.2.2.locals ≤ M.2.2.2.2.locals) (hrest : (rest.map fun v => v.category).sum ≤ 8) (hd : decode M.2.1 pc = .ok (.invokevirtual index, 3)) (k : WT σ2 → RR g M F zF (pc + 3) ls (.int v :: rest) σ2) : RR g M F zF pc ls (.ref (ad g 1) :: rest) σ :=
  r_callV (z := zF) (N := mX7_unlike) (nn := 0) (o1 := some (.int v)) (sX7_unlike hf ) (rfl : shp 1 = (7, 0)) (by decide) (shp_le (rfl : shp 1 = (7, 0)) (nle rfl)) (ci := 7) rfl rfl tw_4_112 tw_1_1 hl tw_4_110 tw_4_111 ⟨by decide, by decide, rfl⟩ hR rfl hrest hd ⟨Nat.zero_le _, Nat.zero_le _⟩ rfl (fun h => k (h rfl))

theorem dX3_judgedElse_0 : decode cX3_judgedElse 0 = .ok (.iconst 0, 1) := by decide +kernel
theorem dX3_judgedElse_1 : decode cX3_judgedElse 1 = .ok (.istore_n 3, 1) := by decide +kernel
theorem dX3_judgedElse_2 : decode cX3_judgedElse 2 = .ok (.iconst 0, 1) := by decide +kernel
theorem dX3_judgedElse_3 : decode cX3_judgedElse 3 = .ok (.istore 4, 2) := by decide +kernel
theorem dX3_judgedElse_5 : decode cX3_judgedElse 5 = .ok (.iload 4, 2) := by decide +kernel
theorem dX3_judgedElse_7 : decode cX3_judgedElse 7 = .ok (.aload_n 1, 1) := by decide +kernel
theorem dX3_judgedElse_8 : decode cX3_judgedElse 8 = .ok (.getfield 140, 3) := by decide +kernel
theorem dX3_judgedElse_11 : decode cX3_judgedElse 11 = .ok (.if_icmp .ge 105, 3) := by decide +kernel
theorem dX3_judgedElse_14 : decode cX3_judgedElse 14 = .ok (.iconst 0, 1) := by decide +kernel
theorem dX3_judgedElse_15 : decode cX3_judgedElse 15 = .ok (.istore 5, 2) := by decide +kernel
theorem dX3_judgedElse_17 : decode cX3_judgedElse 17 = .ok (.iload 5, 2) := by decide +kernel
theorem dX3_judgedElse_19 : decode cX3_judgedElse 19 = .ok (.aload_n 1, 1) := by decide +kernel
theorem dX3_judgedElse_20 : decode cX3_judgedElse 20 = .ok (.getfield 154, 3) := by decide +kernel
theorem dX3_judgedElse_23 : decode cX3_judgedElse 23 = .ok (.iload 4, 2) := by decide +kernel
theorem dX3_judgedElse_25 : decode cX3_judgedElse 25 = .ok (.iaload, 1) := by decide +kernel
theorem dX3_judgedElse_26 : decode cX3_judgedElse 26 = .ok (.if_icmp .ge 84, 3) := by decide +kernel
theorem dX3_judgedElse_29 : decode cX3_judgedElse 29 = .ok (.aload_n 0, 1) := by decide +kernel
theorem dX3_judgedElse_30 : decode cX3_judgedElse 30 = .ok (.getfield 38, 3) := by decide +kernel
theorem dX3_judgedElse_33 : decode cX3_judgedElse 33 = .ok (.iload 4, 2) := by decide +kernel
theorem dX3_judgedElse_35 : decode cX3_judgedElse 35 = .ok (.iaload, 1) := by decide +kernel
theorem dX3_judgedElse_36 : decode cX3_judgedElse 36 = .ok (.iload 5, 2) := by decide +kernel
theorem dX3_judgedElse_38 : decode cX3_judgedElse 38 = .ok (.ishr, 1) := by decide +kernel
theorem dX3_judgedElse_39 : decode cX3_judgedElse 39 = .ok (.iconst 1, 1) := by decide +kernel
theorem dX3_judgedElse_40 : decode cX3_judgedElse 40 = .ok (.iand, 1) := by decide +kernel
theorem dX3_judgedElse_41 : decode cX3_judgedElse 41 = .ok (.iconst 1, 1) := by decide +kernel
theorem dX3_judgedElse_42 : decode cX3_judgedElse 42 = .ok (.if_icmp .ne 7, 3) := by decide +kernel
theorem dX3_judgedElse_45 : decode cX3_judgedElse 45 = .ok (.iconst 1, 1) := by decide +kernel
theorem dX3_judgedElse_46 : decode cX3_judgedElse 46 = .ok (.goto 4, 3) := by decide +kernel
theorem dX3_judgedElse_49 : decode cX3_judgedElse 49 = .ok (.iconst 0, 1) := by decide +kernel
theorem dX3_judgedElse_50 : decode cX3_judgedElse 50 = .ok (.istore 6, 2) := by decide +kernel
theorem dX3_judgedElse_52 : decode cX3_judgedElse 52 = .ok (.iload_n 2, 1) := by decide +kernel
theorem dX3_judgedElse_53 : decode cX3_judgedElse 53 = .ok (.ifCond .le 38, 3) := by decide +kernel
theorem dX3_judgedElse_56 : decode cX3_judgedElse 56 = .ok (.aload_n 0, 1) := by decide +kernel
theorem dX3_judgedElse_57 : decode cX3_judgedElse 57 = .ok (.getfield 32, 3) := by decide +kernel
theorem dX3_judgedElse_60 : decode cX3_judgedElse 60 = .ok (.aload_n 1, 1) := by decide +kernel
theorem dX3_judgedElse_61 : decode cX3_judgedElse 61 = .ok (.getfield 151, 3) := by decide +kernel
theorem dX3_judgedElse_64 : decode cX3_judgedElse 64 = .ok (.iload 4, 2) := by decide +kernel
theorem dX3_judgedElse_66 : decode cX3_judgedElse 66 = .ok (.iaload, 1) := by decide +kernel
theorem dX3_judgedElse_67 : decode cX3_judgedElse 67 = .ok (.iload 5, 2) := by decide +kernel
theorem dX3_judgedElse_69 : decode cX3_judgedElse 69 = .ok (.iadd, 1) := by decide +kernel
theorem dX3_judgedElse_70 : decode cX3_judgedElse 70 = .ok (.iaload, 1) := by decide +kernel
theorem dX3_judgedElse_71 : decode cX3_judgedElse 71 = .ok (.aload_n 0, 1) := by decide +kernel
theorem dX3_judgedElse_72 : decode cX3_judgedElse 72 = .ok (.getfield 32, 3) := by decide +kernel
theorem dX3_judgedElse_75 : decode cX3_judgedElse 75 = .ok (.aload_n 0, 1) := by decide +kernel
theorem dX3_judgedElse_76 : decode cX3_judgedElse 76 = .ok (.getfield 35, 3) := by decide +kernel
theorem dX3_judgedElse_79 : decode cX3_judgedElse 79 = .ok (.iload_n 2, 1) := by decide +kernel
theorem dX3_judgedElse_80 : decode cX3_judgedElse 80 = .ok (.iconst 1, 1) := by decide +kernel
theorem dX3_judgedElse_81 : decode cX3_judgedElse 81 = .ok (.isub, 1) := by decide +kernel
theorem dX3_judgedElse_82 : decode cX3_judgedElse 82 = .ok (.iaload, 1) := by decide +kernel
theorem dX3_judgedElse_83 : decode cX3_judgedElse 83 = .ok (.iaload, 1) := by decide +kernel
theorem dX3_judgedElse_84 : decode cX3_judgedElse 84 = .ok (.if_icmp .lt 7, 3) := by decide +kernel
theorem dX3_judgedElse_87 : decode cX3_judgedElse 87 = .ok (.iconst 1, 1) := by decide +kernel
theorem dX3_judgedElse_88 : decode cX3_judgedElse 88 = .ok (.goto 4, 3) := by decide +kernel
theorem dX3_judgedElse_91 : decode cX3_judgedElse 91 = .ok (.iconst 0, 1) := by decide +kernel
theorem dX3_judgedElse_92 : decode cX3_judgedElse 92 = .ok (.istore 7, 2) := by decide +kernel
theorem dX3_judgedElse_94 : decode cX3_judgedElse 94 = .ok (.iload 6, 2) := by decide +kernel
theorem dX3_judgedElse_96 : decode cX3_judgedElse 96 = .ok (.iload 7, 2) := by decide +kernel
theorem dX3_judgedElse_98 : decode cX3_judgedElse 98 = .ok (.if_icmp .eq 6, 3) := by decide +kernel
theorem dX3_judgedElse_101 : decode cX3_judgedElse 101 = .ok (.iinc 3 1, 3) := by decide +kernel
theorem dX3_judgedElse_104 : decode cX3_judgedElse 104 = .ok (.iinc 5 1, 3) := by decide +kernel
theorem dX3_judgedElse_107 : decode cX3_judgedElse 107 = .ok (.goto (-90), 3) := by decide +kernel
theorem dX3_judgedElse_110 : decode cX3_judgedElse 110 = .ok (.iinc 4 1, 3) := by decide +kernel
theorem dX3_judgedElse_113 : decode cX3_judgedElse 113 = .ok (.goto (-108), 3) := by decide +kernel
theorem dX3_judgedElse_116 : decode cX3_judgedElse 116 = .ok (.iload_n 3, 1) := by decide +kernel
theorem dX3_judgedElse_117 : decode cX3_judgedElse 117 = .ok (.ireturn, 1) := by decide +kernel
def mX3_judgedElse : MM := (yX3_judgedElse, cX3_judgedElse, 8, Option.some Jvm.ClassFile.FieldType.int, { frames := 0, cells := 0, slots := 0, locals := 0 })
def X3_judgedElse_L17 (σ_ : SS) (o1_ : Nat) (u2_ : Int32) (u4_ : Int32) (k110 : Int32 → Option Int32) : Nat → Int32 → Int32 → Option Int32 :=
  lp (fun _ _ => none) fun rec v3_ v5_ =>
    grd (inb u4_ 12) <|
    if (gI σ_ (o1_ + 3) (Int32.toNatClampNeg u4_)) ≤ v5_ then (
      k110 v3_
      ) else (
      vthen (fun (s2 : Int32) =>
        vthen (fun (s3 : Int32) =>
          if s2 = s3 then (
            rec v3_ (v5_ + (1 : Int32))
            ) else (
            rec (v3_ + (1 : Int32)) (v5_ + (1 : Int32))
            )
          ) fun j92 =>
        vthen (fun (_u : Unit) =>
          j92 (0 : Int32)
          ) fun j91 =>
        if u2_ ≤ 0 then (
          j91 ()
          ) else (
          grd (inb ((gI σ_ (o1_ + 2) (Int32.toNatClampNeg u4_)) + v5_) 72) <|
          grd (inb (u2_ - (1 : Int32)) 72) <|
          grd (inb (gI σ_ 52 (Int32.toNatClampNeg (u2_ - (1 : Int32)))) 72) <|
          if (gI σ_ 51 (Int32.toNatClampNeg ((gI σ_ (o1_ + 2) (Int32.toNatClampNeg u4_)) + v5_))) < (gI σ_ 51 (Int32.toNatClampNeg (gI σ_ 52 (Int32.toNatClampNeg (u2_ - (1 : Int32)))))) then (
            j91 ()
            ) else (
            j92 (1 : Int32)
            )
          )
        ) fun j50 =>
      if (((gI σ_ 53 (Int32.toNatClampNeg u4_)) >>> (v5_ &&& 31)) &&& (1 : Int32)) = (1 : Int32) then (
        j50 (1 : Int32)
        ) else (
        j50 (0 : Int32)
        )
      )

def X3_judgedElse_L5 (σ_ : SS) (o1_ : Nat) (u2_ : Int32)  : Nat → Int32 → Int32 → Option Int32 :=
  lp (fun _ _ => none) fun rec v3_ v4_ =>
    if (gI σ_ o1_ 5) ≤ v4_ then (
      some v3_
      ) else (
      X3_judgedElse_L17 σ_ o1_ u2_ v4_
      (fun v7 =>
        rec v7 (v4_ + (1 : Int32))
        )
      fuel v3_ (0 : Int32)
      )

def fX3_judgedElse (σ0 : SS) (a1 : Nat) (a2 : Int32) : Option Int32 :=
  X3_judgedElse_L5 σ0 a1 a2
  fuel (0 : Int32) (0 : Int32)

set_option maxRecDepth 20000 in
theorem sX3_judgedElse_L17 {g : GG} {r : Int32} {σ_ : SS} {σ0 : SS} {o1_ : Nat} {u2_ : Int32} {u4_ : Int32} {k110 : Int32 → Option Int32} (hs1_ : shp o1_ = (1, 0))
    (hw_ : WT σ_)
    (h0_ : σ_ = σ0)
    (hk110 : ∀ (y3 : Int32), k110 y3 = some r → RR g mX3_judgedElse (FinR g mX3_judgedElse (some (.int r)) NF σ0) zF 110 [(0, .ref (ad g 31)), (1, .ref (ad g o1_)), (2, .int u2_), (3, .int y3), (4, .int u4_)] [] σ_)
    (n : Nat) : ∀ (v3_ : Int32) (v5_ : Int32), X3_judgedElse_L17 σ_ o1_ u2_ u4_ k110 n v3_ v5_ = some r → RR g mX3_judgedElse (FinR g mX3_judgedElse (some (.int r)) NF σ0) zF 17 [(0, .ref (ad g 31)), (1, .ref (ad g o1_)), (2, .int u2_), (3, .int v3_), (4, .int u4_), (5, .int v5_)] [] σ_ := by
  unfold X3_judgedElse_L17
  refine lp_ind (P := fun (rec : Int32 → Int32 → Option Int32) => ∀ (v3_ : Int32) (v5_ : Int32), rec v3_ v5_ = some r → RR g mX3_judgedElse (FinR g mX3_judgedElse (some (.int r)) NF σ0) zF 17 [(0, .ref (ad g 31)), (1, .ref (ad g o1_)), (2, .int u2_), (3, .int v3_), (4, .int u4_), (5, .int v5_)] [] σ_) ?_ ?_ n
  · intro v3_ v5_ hr; cases hr
  intro rec ih v3_ v5_ hr
  subst h0_
  refine r_iload (pc := 17) (j := 5) dX3_judgedElse_17 rfl ?_
  refine r_aload_n (pc := 19) (j := 1) dX3_judgedElse_19 rfl rfl ?_
  refine gf1_9 (pc := 20) tw_1_92 hw_ hs1_ dX3_judgedElse_20 ?_
  refine r_iload (pc := 23) (j := 4) dX3_judgedElse_23 rfl ?_
  obtain ⟨h1, hr⟩ := grd_inv hr
  refine x_iald (pc := 25) (k := (Int32.toNatClampNeg u4_)) (sh1_9 hs1_) h1 rfl dX3_judgedElse_25 ?_
  refine r_icmp_ge (pc := 26) (tgt := 110) dX3_judgedElse_26 rfl (fun hc => ?_) (fun hc => ?_)
  · replace hr := ite_t hc hr
    exact r_pick (ls1 := [(0, .ref (ad g 31)), (1, .ref (ad g o1_)), (2, .int u2_), (3, .int v3_), (4, .int u4_)]) [0, 1, 2, 3, 4] rfl (hk110 v3_ hr)
  replace hr := ite_f hc hr
  refine r_aload_n (pc := 29) (j := 0) dX3_judgedElse_29 rfl rfl ?_
  refine gf3_7 (pc := 30) tw_2_33 hw_ dX3_judgedElse_30 ?_
  refine r_iload (pc := 33) (j := 4) dX3_judgedElse_33 rfl ?_
  refine x_iald (pc := 35) (k := (Int32.toNatClampNeg u4_)) rfl h1 rfl dX3_judgedElse_35 ?_
  refine r_iload (pc := 36) (j := 5) dX3_judgedElse_36 rfl ?_
  refine r_ishr (pc := 38) dX3_judgedElse_38 ?_
  refine r_iconst (pc := 39) (v := (1 : Int32)) dX3_judgedElse_39 rfl ?_
  refine r_iand (pc := 40) dX3_judgedElse_40 ?_
  refine r_iconst (pc := 41) (v := (1 : Int32)) dX3_judgedElse_41 rfl ?_
  obtain ⟨j50, ej50, hr⟩ := vth_ex hr
  have hj50 : ∀ (s2 : Int32), j50 s2 = some r → RR g mX3_judgedElse (FinR g mX3_judgedElse (some (.int r)) NF σ_) zF 50 [(0, .ref (ad g 31)), (1, .ref (ad g o1_)), (2, .int u2_), (3, .int v3_), (4, .int u4_), (5, .int v5_)] [.int s2] σ_ := by
    intro s2 hr
    replace hr := (congrFun ej50 s2).symm.trans hr
    refine r_istore (pc := 50) (ls1 := [(6, .int s2), (0, .ref (ad g 31)), (1, .ref (ad g o1_)), (2, .int u2_), (3, .int v3_), (4, .int u4_), (5, .int v5_)]) dX3_judgedElse_50 (nle rfl) rfl ?_
    refine r_iload_n (pc := 52) (j := 3) dX3_judgedElse_52 rfl rfl ?_
    obtain ⟨j92, ej92, hr⟩ := vth_ex hr
    have hj92 : ∀ (s3 : Int32), j92 s3 = some r → RR g mX3_judgedElse (FinR g mX3_judgedElse (some (.int r)) NF σ_) zF 92 [(0, .ref (ad g 31)), (1, .ref (ad g o1_)), (2, .int u2_), (3, .int v3_), (4, .int u4_), (5, .int v5_), (6, .int s2)] [.int s3] σ_ := by
      intro s3 hr
      replace hr := (congrFun ej92 s3).symm.trans hr
      refine r_istore (pc := 92) (ls1 := [(7, .int s3), (0, .ref (ad g 31)), (1, .ref (ad g o1_)), (2, .int u2_), (3, .int v3_), (4, .int u4_), (5, .int v5_), (6, .int s2)]) dX3_judgedElse_92 (nle rfl) rfl ?_
      refine r_iload (pc := 94) (j := 7) dX3_judgedElse_94 rfl ?_
      refine r_iload (pc := 96) (j := 0) dX3_judgedElse_96 rfl ?_
      refine r_icmp_eq (pc := 98) (tgt := 104) dX3_judgedElse_98 rfl (fun hc => ?_) (fun hc => ?_)
      · replace hr := ite_t hc hr
        refine r_iinc (pc := 104) (j := 6) (v := (v5_ + (1 : Int32))) (ls1 := [(5, .int (v5_ + (1 : Int32))), (7, .int s3), (0, .ref (ad g 31)), (1, .ref (ad g o1_)), (2, .int u2_), (3, .int v3_), (4, .int u4_), (6, .int s2)]) dX3_judgedElse_104 rfl rfl (nle rfl) rfl ?_
        refine r_goto (pc := 107) (tgt := 17) dX3_judgedElse_107 rfl ?_
        exact r_pick (ls1 := [(0, .ref (ad g 31)), (1, .ref (ad g o1_)), (2, .int u2_), (3, .int v3_), (4, .int u4_), (5, .int (v5_ + (1 : Int32)))]) [2, 3, 4, 5, 6, 0] rfl (ih v3_ (v5_ + (1 : Int32)) hr)
      replace hr := ite_f hc hr
      refine r_iinc (pc := 101) (j := 4) (v := (v3_ + (1 : Int32))) (ls1 := [(3, .int (v3_ + (1 : Int32))), (7, .int s3), (0, .ref (ad g 31)), (1, .ref (ad g o1_)), (2, .int u2_), (4, .int u4_), (5, .int v5_), (6, .int s2)]) dX3_judgedElse_101 rfl rfl (nle rfl) rfl ?_
      refine r_iinc (pc := 104) (j := 6) (v := (v5_ + (1 : Int32))) (ls1 := [(5, .int (v5_ + (1 : Int32))), (3, .int (v3_ + (1 : Int32))), (7, .int s3), (0, .ref (ad g 31)), (1, .ref (ad g o1_)), (2, .int u2_), (4, .int u4_), (6, .int s2)]) dX3_judgedElse_104 rfl rfl (nle rfl) rfl ?_
      refine r_goto (pc := 107) (tgt := 17) dX3_judgedElse_107 rfl ?_
      exact r_pick (ls1 := [(0, .ref (ad g 31)), (1, .ref (ad g o1_)), (2, .int u2_), (3, .int (v3_ + (1 : Int32))), (4, .int u4_), (5, .int (v5_ + (1 : Int32)))]) [3, 4, 5, 1, 6, 0] rfl (ih (v3_ + (1 : Int32)) (v5_ + (1 : Int32)) hr)
    obtain ⟨j91, ej91, hr⟩ := vth_ex hr
    have hj91 : j91 () = some r → RR g mX3_judgedElse (FinR g mX3_judgedElse (some (.int r)) NF σ_) zF 91 [(0, .ref (ad g 31)), (1, .ref (ad g o1_)), (2, .int u2_), (3, .int v3_), (4, .int u4_), (5, .int v5_), (6, .int s2)] [] σ_ := by
      intro  hr
      replace hr := (congrFun ej91 ()).symm.trans hr
      refine r_iconst (pc := 91) (v := (0 : Int32)) dX3_judgedElse_91 rfl ?_
      exact r_pick (ls1 := [(0, .ref (ad g 31)), (1, .ref (ad g o1_)), (2, .int u2_), (3, .int v3_), (4, .int u4_), (5, .int v5_), (6, .int s2)]) [0, 1, 2, 3, 4, 5, 6] rfl (hj92 (0 : Int32) hr)
    refine r_if_le (pc := 53) (tgt := 91) dX3_judgedElse_53 rfl (fun hc => ?_) (fun hc => ?_)
    · replace hr := ite_t hc hr
      exact r_pick (ls1 := [(0, .ref (ad g 31)), (1, .ref (ad g o1_)), (2, .int u2_), (3, .int v3_), (4, .int u4_), (5, .int v5_), (6, .int s2)]) [1, 2, 3, 4, 5, 6, 0] rfl (hj91  hr)
    replace hr := ite_f hc hr
    refine r_aload_n (pc := 56) (j := 1) dX3_judgedElse_56 rfl rfl ?_
    refine gf3_4 (pc := 57) tw_2_28 hw_ dX3_judgedElse_57 ?_
    refine r_aload_n (pc := 60) (j := 2) dX3_judgedElse_60 rfl rfl ?_
    refine gf1_8 (pc := 61) tw_1_89 hw_ hs1_ dX3_judgedElse_61 ?_
    refine r_iload (pc := 64) (j := 5) dX3_judgedElse_64 rfl ?_
    refine x_iald (pc := 66) (k := (Int32.toNatClampNeg u4_)) (sh1_8 hs1_) h1 rfl dX3_judgedElse_66 ?_
    refine r_iload (pc := 67) (j := 6) dX3_judgedElse_67 rfl ?_
    refine r_iadd (pc := 69) dX3_judgedElse_69 ?_
    obtain ⟨h4, hr⟩ := grd_inv hr
    refine x_iald (pc := 70) (k := (Int32.toNatClampNeg ((gI σ_ (o1_ + 2) (Int32.toNatClampNeg u4_)) + v5_))) rfl h4 rfl dX3_judgedElse_70 ?_
    refine r_aload_n (pc := 71) (j := 1) dX3_judgedElse_71 rfl rfl ?_
    refine gf3_4 (pc := 72) tw_2_28 hw_ dX3_judgedElse_72 ?_
    refine r_aload_n (pc := 75) (j := 1) dX3_judgedElse_75 rfl rfl ?_
    refine gf3_5 (pc := 76) tw_2_30 hw_ dX3_judgedElse_76 ?_
    refine r_iload_n (pc := 79) (j := 3) dX3_judgedElse_79 rfl rfl ?_
    refine r_iconst (pc := 80) (v := (1 : Int32)) dX3_judgedElse_80 rfl ?_
    refine r_isub (pc := 81) dX3_judgedElse_81 ?_
    obtain ⟨h5, hr⟩ := grd_inv hr
    refine x_iald (pc := 82) (k := (Int32.toNatClampNeg (u2_ - (1 : Int32)))) rfl h5 rfl dX3_judgedElse_82 ?_
    obtain ⟨h6, hr⟩ := grd_inv hr
    refine x_iald (pc := 83) (k := (Int32.toNatClampNeg (gI σ_ 52 (Int32.toNatClampNeg (u2_ - (1 : Int32)))))) rfl h6 rfl dX3_judgedElse_83 ?_
    refine r_icmp_lt (pc := 84) (tgt := 91) dX3_judgedElse_84 rfl (fun hc => ?_) (fun hc => ?_)
    · replace hr := ite_t hc hr
      exact r_pick (ls1 := [(0, .ref (ad g 31)), (1, .ref (ad g o1_)), (2, .int u2_), (3, .int v3_), (4, .int u4_), (5, .int v5_), (6, .int s2)]) [1, 2, 3, 4, 5, 6, 0] rfl (hj91  hr)
    replace hr := ite_f hc hr
    refine r_iconst (pc := 87) (v := (1 : Int32)) dX3_judgedElse_87 rfl ?_
    refine r_goto (pc := 88) (tgt := 92) dX3_judgedElse_88 rfl ?_
    exact r_pick (ls1 := [(0, .ref (ad g 31)), (1, .ref (ad g o1_)), (2, .int u2_), (3, .int v3_), (4, .int u4_), (5, .int v5_), (6, .int s2)]) [1, 2, 3, 4, 5, 6, 0] rfl (hj92 (1 : Int32) hr)
  refine r_icmp_ne (pc := 42) (tgt := 49) dX3_judgedElse_42 rfl (fun hc => ?_) (fun hc => ?_)
  · replace hr := ite_f hc hr
    refine r_iconst (pc := 49) (v := (0 : Int32)) dX3_judgedElse_49 rfl ?_
    exact r_pick (ls1 := [(0, .ref (ad g 31)), (1, .ref (ad g o1_)), (2, .int u2_), (3, .int v3_), (4, .int u4_), (5, .int v5_)]) [0, 1, 2, 3, 4, 5] rfl (hj50 (0 : Int32) hr)
  replace hr := ite_t hc hr
  refine r_iconst (pc := 45) (v := (1 : Int32)) dX3_judgedElse_45 rfl ?_
  refine r_goto (pc := 46) (tgt := 50) dX3_judgedElse_46 rfl ?_
  exact r_pick (ls1 := [(0, .ref (ad g 31)), (1, .ref (ad g o1_)), (2, .int u2_), (3, .int v3_), (4, .int u4_), (5, .int v5_)]) [0, 1, 2, 3, 4, 5] rfl (hj50 (1 : Int32) hr)

set_option maxRecDepth 20000 in
theorem sX3_judgedElse_L5 {g : GG} {r : Int32} {σ_ : SS} {σ0 : SS} {o1_ : Nat} {u2_ : Int32}  (hs1_ : shp o1_ = (1, 0))
    (hw_ : WT σ_)
    (h0_ : σ_ = σ0)
    (n : Nat) : ∀ (v3_ : Int32) (v4_ : Int32), X3_judgedElse_L5 σ_ o1_ u2_ n v3_ v4_ = some r → RR g mX3_judgedElse (FinR g mX3_judgedElse (some (.int r)) NF σ0) zF 5 [(0, .ref (ad g 31)), (1, .ref (ad g o1_)), (2, .int u2_), (3, .int v3_), (4, .int v4_)] [] σ_ := by
  unfold X3_judgedElse_L5
  refine lp_ind (P := fun (rec : Int32 → Int32 → Option Int32) => ∀ (v3_ : Int32) (v4_ : Int32), rec v3_ v4_ = some r → RR g mX3_judgedElse (FinR g mX3_judgedElse (some (.int r)) NF σ0) zF 5 [(0, .ref (ad g 31)), (1, .ref (ad g o1_)), (2, .int u2_), (3, .int v3_), (4, .int v4_)] [] σ_) ?_ ?_ n
  · intro v3_ v4_ hr; cases hr
  intro rec ih v3_ v4_ hr
  subst h0_
  refine r_iload (pc := 5) (j := 4) dX3_judgedElse_5 rfl ?_
  refine r_aload_n (pc := 7) (j := 1) dX3_judgedElse_7 rfl rfl ?_
  refine gf1_5 (pc := 8) tw_1_80 hs1_ dX3_judgedElse_8 ?_
  refine r_icmp_ge (pc := 11) (tgt := 116) dX3_judgedElse_11 rfl (fun hc => ?_) (fun hc => ?_)
  · replace hr := ite_t hc hr
    refine r_iload_n (pc := 116) (j := 3) dX3_judgedElse_116 rfl rfl ?_
    exact l_opi hr (r_iret (pc := 117) (v := v3_) rfl rfl ⟨Nat.le_refl _, Nat.le_refl _⟩ dX3_judgedElse_117)
  replace hr := ite_f hc hr
  refine r_iconst (pc := 14) (v := (0 : Int32)) dX3_judgedElse_14 rfl ?_
  refine r_istore (pc := 15) (ls1 := [(5, .int (0 : Int32)), (0, .ref (ad g 31)), (1, .ref (ad g o1_)), (2, .int u2_), (3, .int v3_), (4, .int v4_)]) dX3_judgedElse_15 (nle rfl) rfl ?_
  refine r_pick (ls1 := [(0, .ref (ad g 31)), (1, .ref (ad g o1_)), (2, .int u2_), (3, .int v3_), (4, .int v4_), (5, .int (0 : Int32))]) [1, 2, 3, 4, 5, 0] rfl ?_
  refine sX3_judgedElse_L17 hs1_ hw_ rfl (fun v7 hr => ?_) fuel v3_ (0 : Int32) hr
  refine r_iinc (pc := 110) (j := 4) (v := (v4_ + (1 : Int32))) (ls1 := [(4, .int (v4_ + (1 : Int32))), (0, .ref (ad g 31)), (1, .ref (ad g o1_)), (2, .int u2_), (3, .int v7)]) dX3_judgedElse_110 rfl rfl (nle rfl) rfl ?_
  refine r_goto (pc := 113) (tgt := 5) dX3_judgedElse_113 rfl ?_
  exact r_pick (ls1 := [(0, .ref (ad g 31)), (1, .ref (ad g o1_)), (2, .int u2_), (3, .int v7), (4, .int (v4_ + (1 : Int32)))]) [1, 2, 3, 4, 0] rfl (ih v7 (v4_ + (1 : Int32)) hr)

set_option maxRecDepth 20000 in
theorem sX3_judgedElse {g : GG} {σ0 : SS} {a1 : Nat} {a2 : Int32} {r : Int32} (hr : fX3_judgedElse σ0 a1 a2 = some r) (hs1 : shp a1 = (1, 0)) : Ct g mX3_judgedElse [.ref (ad g 31), .ref (ad g a1), .int a2] NF σ0 (some (.int r)) NF σ0 := by
  refine Ct.of (by decide +kernel) (nle rfl) fun hw0 => ?_
  have hw := hw0 rfl
  unfold fX3_judgedElse at hr
  change RR g mX3_judgedElse (FinR g mX3_judgedElse (some (.int r)) NF σ0) zF 0 [(0, .ref (ad g 31)), (1, .ref (ad g a1)), (2, .int a2)] [] σ0
  refine r_iconst (pc := 0) (v := (0 : Int32)) dX3_judgedElse_0 rfl ?_
  refine r_istore_n (pc := 1) (ls1 := [(3, .int (0 : Int32)), (0, .ref (ad g 31)), (1, .ref (ad g a1)), (2, .int a2)]) dX3_judgedElse_1 rfl (nle rfl) rfl ?_
  refine r_iconst (pc := 2) (v := (0 : Int32)) dX3_judgedElse_2 rfl ?_
  refine r_istore (pc := 3) (ls1 := [(4, .int (0 : Int32)), (3, .int (0 : Int32)), (0, .ref (ad g 31)), (1, .ref (ad g a1)), (2, .int a2)]) dX3_judgedElse_3 (nle rfl) rfl ?_
  refine r_pick (ls1 := [(0, .ref (ad g 31)), (1, .ref (ad g a1)), (2, .int a2), (3, .int (0 : Int32)), (4, .int (0 : Int32))]) [2, 3, 4, 1, 0] rfl ?_
  refine sX3_judgedElse_L5 hs1 hw rfl  fuel (0 : Int32) (0 : Int32) hr

theorem kX3_judgedElse {g : GG} {σ0 : SS} {a1 : Nat} {a2 : Int32} {v : Int32} {M : MM} {F : State → Array Value → List Frame → State → Prop} {pc index : Nat} {ls : List (Nat × Value)} {rest : List Value} (hf : fX3_judgedElse σ0 a1 a2 = some v) (hs1 : shp a1 = (1, 0)) (hl : Cond.methodLink M.1.cls index yX3_judgedElse ∈ lw_gt) (hR : mX3_judgedElse.2.2.2.2.frames + 1 ≤ M.2.2.2.2.frames ∧ 8 + (mX3_judgedElse.2.2.1 + 11) + mX3_judgedElse.2.2.2.2.locals ≤ M.2.2.2.2.locals) (hrest : (rest.map fun v => v.category).sum ≤ 8) (hd : decode M.2.1 pc = .ok (.invokevirtual index, 3)) (k : RR g M F zF (pc + 3) ls (.int v :: rest) σ0) : RR g M F zF pc ls (.int a2 :: .ref (ad g a1) :: .ref (ad g 31) :: rest) σ0 :=
  r_callV (z := zF) (N := mX3_judgedElse) (nn := 2) (o1 := some (.int v)) (sX3_judgedElse hf hs1) (rfl : shp 31 = (3, 0)) (by decide) (shp_le (rfl : shp 31 = (3, 0)) (nle rfl)) (ci := 3) rfl rfl tw_4_124 tw_1_5 hl tw_4_123 tp_28 ⟨by decide, by decide, rfl⟩ hR rfl hrest hd ⟨Nat.zero_le _, Nat.zero_le _⟩ rfl (fun h => k)

theorem dX3_partedBy_0 : decode cX3_partedBy 0 = .ok (.aload_n 0, 1) := by decide +kernel
theorem dX3_partedBy_1 : decode cX3_partedBy 1 = .ok (.iconst 0, 1) := by decide +kernel
theorem dX3_partedBy_2 : decode cX3_partedBy 2 = .ok (.aload_n 1, 1) := by decide +kernel
theorem dX3_partedBy_3 : decode cX3_partedBy 3 = .ok (.getfield 99, 3) := by decide +kernel
theorem dX3_partedBy_6 : decode cX3_partedBy 6 = .ok (.invokevirtual 157, 3) := by decide +kernel
theorem dX3_partedBy_9 : decode cX3_partedBy 9 = .ok (.iconst 0, 1) := by decide +kernel
theorem dX3_partedBy_10 : decode cX3_partedBy 10 = .ok (.istore_n 3, 1) := by decide +kernel
theorem dX3_partedBy_11 : decode cX3_partedBy 11 = .ok (.iconst 0, 1) := by decide +kernel
theorem dX3_partedBy_12 : decode cX3_partedBy 12 = .ok (.istore 4, 2) := by decide +kernel
theorem dX3_partedBy_14 : decode cX3_partedBy 14 = .ok (.iconst 0, 1) := by decide +kernel
theorem dX3_partedBy_15 : decode cX3_partedBy 15 = .ok (.istore 5, 2) := by decide +kernel
theorem dX3_partedBy_17 : decode cX3_partedBy 17 = .ok (.iload 5, 2) := by decide +kernel
theorem dX3_partedBy_19 : decode cX3_partedBy 19 = .ok (.iconst 1, 1) := by decide +kernel
theorem dX3_partedBy_20 : decode cX3_partedBy 20 = .ok (.iadd, 1) := by decide +kernel
theorem dX3_partedBy_21 : decode cX3_partedBy 21 = .ok (.aload_n 1, 1) := by decide +kernel
theorem dX3_partedBy_22 : decode cX3_partedBy 22 = .ok (.getfield 99, 3) := by decide +kernel
theorem dX3_partedBy_25 : decode cX3_partedBy 25 = .ok (.if_icmp .ge 75, 3) := by decide +kernel
theorem dX3_partedBy_28 : decode cX3_partedBy 28 = .ok (.aload_n 0, 1) := by decide +kernel
theorem dX3_partedBy_29 : decode cX3_partedBy 29 = .ok (.getfield 32, 3) := by decide +kernel
theorem dX3_partedBy_32 : decode cX3_partedBy 32 = .ok (.aload_n 0, 1) := by decide +kernel
theorem dX3_partedBy_33 : decode cX3_partedBy 33 = .ok (.getfield 35, 3) := by decide +kernel
theorem dX3_partedBy_36 : decode cX3_partedBy 36 = .ok (.iload 5, 2) := by decide +kernel
theorem dX3_partedBy_38 : decode cX3_partedBy 38 = .ok (.iaload, 1) := by decide +kernel
theorem dX3_partedBy_39 : decode cX3_partedBy 39 = .ok (.iaload, 1) := by decide +kernel
theorem dX3_partedBy_40 : decode cX3_partedBy 40 = .ok (.aload_n 0, 1) := by decide +kernel
theorem dX3_partedBy_41 : decode cX3_partedBy 41 = .ok (.getfield 32, 3) := by decide +kernel
theorem dX3_partedBy_44 : decode cX3_partedBy 44 = .ok (.aload_n 0, 1) := by decide +kernel
theorem dX3_partedBy_45 : decode cX3_partedBy 45 = .ok (.getfield 35, 3) := by decide +kernel
theorem dX3_partedBy_48 : decode cX3_partedBy 48 = .ok (.iload 5, 2) := by decide +kernel
theorem dX3_partedBy_50 : decode cX3_partedBy 50 = .ok (.iconst 1, 1) := by decide +kernel
theorem dX3_partedBy_51 : decode cX3_partedBy 51 = .ok (.iadd, 1) := by decide +kernel
theorem dX3_partedBy_52 : decode cX3_partedBy 52 = .ok (.iaload, 1) := by decide +kernel
theorem dX3_partedBy_53 : decode cX3_partedBy 53 = .ok (.iaload, 1) := by decide +kernel
theorem dX3_partedBy_54 : decode cX3_partedBy 54 = .ok (.isub, 1) := by decide +kernel
theorem dX3_partedBy_55 : decode cX3_partedBy 55 = .ok (.iload 4, 2) := by decide +kernel
theorem dX3_partedBy_57 : decode cX3_partedBy 57 = .ok (.if_icmp .le 37, 3) := by decide +kernel
theorem dX3_partedBy_60 : decode cX3_partedBy 60 = .ok (.aload_n 0, 1) := by decide +kernel
theorem dX3_partedBy_61 : decode cX3_partedBy 61 = .ok (.getfield 32, 3) := by decide +kernel
theorem dX3_partedBy_64 : decode cX3_partedBy 64 = .ok (.aload_n 0, 1) := by decide +kernel
theorem dX3_partedBy_65 : decode cX3_partedBy 65 = .ok (.getfield 35, 3) := by decide +kernel
theorem dX3_partedBy_68 : decode cX3_partedBy 68 = .ok (.iload 5, 2) := by decide +kernel
theorem dX3_partedBy_70 : decode cX3_partedBy 70 = .ok (.iaload, 1) := by decide +kernel
theorem dX3_partedBy_71 : decode cX3_partedBy 71 = .ok (.iaload, 1) := by decide +kernel
theorem dX3_partedBy_72 : decode cX3_partedBy 72 = .ok (.aload_n 0, 1) := by decide +kernel
theorem dX3_partedBy_73 : decode cX3_partedBy 73 = .ok (.getfield 32, 3) := by decide +kernel
theorem dX3_partedBy_76 : decode cX3_partedBy 76 = .ok (.aload_n 0, 1) := by decide +kernel
theorem dX3_partedBy_77 : decode cX3_partedBy 77 = .ok (.getfield 35, 3) := by decide +kernel
theorem dX3_partedBy_80 : decode cX3_partedBy 80 = .ok (.iload 5, 2) := by decide +kernel
theorem dX3_partedBy_82 : decode cX3_partedBy 82 = .ok (.iconst 1, 1) := by decide +kernel
theorem dX3_partedBy_83 : decode cX3_partedBy 83 = .ok (.iadd, 1) := by decide +kernel
theorem dX3_partedBy_84 : decode cX3_partedBy 84 = .ok (.iaload, 1) := by decide +kernel
theorem dX3_partedBy_85 : decode cX3_partedBy 85 = .ok (.iaload, 1) := by decide +kernel
theorem dX3_partedBy_86 : decode cX3_partedBy 86 = .ok (.isub, 1) := by decide +kernel
theorem dX3_partedBy_87 : decode cX3_partedBy 87 = .ok (.istore 4, 2) := by decide +kernel
theorem dX3_partedBy_89 : decode cX3_partedBy 89 = .ok (.iload 5, 2) := by decide +kernel
theorem dX3_partedBy_91 : decode cX3_partedBy 91 = .ok (.iconst 1, 1) := by decide +kernel
theorem dX3_partedBy_92 : decode cX3_partedBy 92 = .ok (.iadd, 1) := by decide +kernel
theorem dX3_partedBy_93 : decode cX3_partedBy 93 = .ok (.istore_n 3, 1) := by decide +kernel
theorem dX3_partedBy_94 : decode cX3_partedBy 94 = .ok (.iinc 5 1, 3) := by decide +kernel
theorem dX3_partedBy_97 : decode cX3_partedBy 97 = .ok (.goto (-80), 3) := by decide +kernel
theorem dX3_partedBy_100 : decode cX3_partedBy 100 = .ok (.iload_n 2, 1) := by decide +kernel
theorem dX3_partedBy_101 : decode cX3_partedBy 101 = .ok (.ifCond .ne 6, 3) := by decide +kernel
theorem dX3_partedBy_104 : decode cX3_partedBy 104 = .ok (.iload 4, 2) := by decide +kernel
theorem dX3_partedBy_106 : decode cX3_partedBy 106 = .ok (.ireturn, 1) := by decide +kernel
theorem dX3_partedBy_107 : decode cX3_partedBy 107 = .ok (.iload_n 2, 1) := by decide +kernel
theorem dX3_partedBy_108 : decode cX3_partedBy 108 = .ok (.iconst 1, 1) := by decide +kernel
theorem dX3_partedBy_109 : decode cX3_partedBy 109 = .ok (.if_icmp .ne 7, 3) := by decide +kernel
theorem dX3_partedBy_112 : decode cX3_partedBy 112 = .ok (.iload_n 3, 1) := by decide +kernel
theorem dX3_partedBy_113 : decode cX3_partedBy 113 = .ok (.goto 9, 3) := by decide +kernel
theorem dX3_partedBy_116 : decode cX3_partedBy 116 = .ok (.aload_n 0, 1) := by decide +kernel
theorem dX3_partedBy_117 : decode cX3_partedBy 117 = .ok (.aload_n 1, 1) := by decide +kernel
theorem dX3_partedBy_118 : decode cX3_partedBy 118 = .ok (.iload_n 3, 1) := by decide +kernel
theorem dX3_partedBy_119 : decode cX3_partedBy 119 = .ok (.invokevirtual 176, 3) := by decide +kernel
theorem dX3_partedBy_122 : decode cX3_partedBy 122 = .ok (.ireturn, 1) := by decide +kernel
def mX3_partedBy : MM := (yX3_partedBy, cX3_partedBy, 6, Option.some Jvm.ClassFile.FieldType.int, { frames := 1, cells := 0, slots := 0, locals := 27 })
def X3_partedBy_L17 (σ_ : SS) (o1_ : Nat) (k100 : Int32 → Int32 → Option (Int32 × SS)) : Nat → Int32 → Int32 → Int32 → Option (Int32 × SS) :=
  lp (fun _ _ _ => none) fun rec v3_ v4_ v5_ =>
    if (gI σ_ o1_ 6) ≤ (v5_ + (1 : Int32)) then (
      k100 v3_ v4_
      ) else (
      grd (inb v5_ 72) <|
      grd (inb (gI σ_ 52 (Int32.toNatClampNeg v5_)) 72) <|
      grd (inb (v5_ + (1 : Int32)) 72) <|
      grd (inb (gI σ_ 52 (Int32.toNatClampNeg (v5_ + (1 : Int32)))) 72) <|
      if ((gI σ_ 51 (Int32.toNatClampNeg (gI σ_ 52 (Int32.toNatClampNeg v5_)))) - (gI σ_ 51 (Int32.toNatClampNeg (gI σ_ 52 (Int32.toNatClampNeg (v5_ + (1 : Int32))))))) ≤ v4_ then (
        rec v3_ v4_ (v5_ + (1 : Int32))
        ) else (
        vthen ((gI σ_ 51 (Int32.toNatClampNeg (gI σ_ 52 (Int32.toNatClampNeg v5_)))) - (gI σ_ 51 (Int32.toNatClampNeg (gI σ_ 52 (Int32.toNatClampNeg (v5_ + (1 : Int32))))))) fun v6 =>
        vthen (v5_ + (1 : Int32)) fun v7 =>
        rec v7 v6 (v5_ + (1 : Int32))
        )
      )

def fX3_partedBy (σ : SS) (a1 : Nat) (a2 : Int32) : Option (Int32 × SS) :=
  bnd1 (fX3_sortByDark σ (0 : Int32) (gI σ a1 6)) fun σ1 =>
  X3_partedBy_L17 σ1 a1
  (fun v8 v9 =>
    if a2 = 0 then (
      some (v9, σ1)
      ) else (
      if a2 = (1 : Int32) then (
        some (v8, σ1)
        ) else (
        bnd1 (fX3_judgedElse σ1 a1 v8) fun v10 =>
        some (v10, σ1)
        )
      )
    )
  fuel (0 : Int32) (0 : Int32) (0 : Int32)

set_option maxRecDepth 20000 in
theorem sX3_partedBy_L17 {g : GG} {r : Int32 × SS} {σ_ : SS} {o1_ : Nat} {x2_ : Int32} {k100 : Int32 → Int32 → Option (Int32 × SS)} (hs1_ : shp o1_ = (1, 0))
    (hw_ : WT σ_)
    (hk100 : ∀ (y3 : Int32) (y4 : Int32), k100 y3 y4 = some r → RR g mX3_partedBy (FinR g mX3_partedBy (some (.int r.1)) NF r.2) zF 100 [(0, .ref (ad g 31)), (1, .ref (ad g o1_)), (2, .int x2_), (3, .int y3), (4, .int y4)] [] σ_)
    (n : Nat) : ∀ (v3_ : Int32) (v4_ : Int32) (v5_ : Int32), X3_partedBy_L17 σ_ o1_ k100 n v3_ v4_ v5_ = some r → RR g mX3_partedBy (FinR g mX3_partedBy (some (.int r.1)) NF r.2) zF 17 [(0, .ref (ad g 31)), (1, .ref (ad g o1_)), (2, .int x2_), (3, .int v3_), (4, .int v4_), (5, .int v5_)] [] σ_ := by
  unfold X3_partedBy_L17
  refine lp_ind (P := fun (rec : Int32 → Int32 → Int32 → Option (Int32 × SS)) => ∀ (v3_ : Int32) (v4_ : Int32) (v5_ : Int32), rec v3_ v4_ v5_ = some r → RR g mX3_partedBy (FinR g mX3_partedBy (some (.int r.1)) NF r.2) zF 17 [(0, .ref (ad g 31)), (1, .ref (ad g o1_)), (2, .int x2_), (3, .int v3_), (4, .int v4_), (5, .int v5_)] [] σ_) ?_ ?_ n
  · intro v3_ v4_ v5_ hr; cases hr
  intro rec ih v3_ v4_ v5_ hr
  refine r_iload (pc := 17) (j := 5) dX3_partedBy_17 rfl ?_
  refine r_iconst (pc := 19) (v := (1 : Int32)) dX3_partedBy_19 rfl ?_
  refine r_iadd (pc := 20) dX3_partedBy_20 ?_
  refine r_aload_n (pc := 21) (j := 1) dX3_partedBy_21 rfl rfl ?_
  refine gf1_6 (pc := 22) tw_1_82 hs1_ dX3_partedBy_22 ?_
  refine r_icmp_ge (pc := 25) (tgt := 100) dX3_partedBy_25 rfl (fun hc => ?_) (fun hc => ?_)
  · replace hr := ite_t hc hr
    exact r_pick (ls1 := [(0, .ref (ad g 31)), (1, .ref (ad g o1_)), (2, .int x2_), (3, .int v3_), (4, .int v4_)]) [0, 1, 2, 3, 4] rfl (hk100 v3_ v4_ hr)
  replace hr := ite_f hc hr
  refine r_aload_n (pc := 28) (j := 0) dX3_partedBy_28 rfl rfl ?_
  refine gf3_4 (pc := 29) tw_2_28 hw_ dX3_partedBy_29 ?_
  refine r_aload_n (pc := 32) (j := 0) dX3_partedBy_32 rfl rfl ?_
  refine gf3_5 (pc := 33) tw_2_30 hw_ dX3_partedBy_33 ?_
  refine r_iload (pc := 36) (j := 5) dX3_partedBy_36 rfl ?_
  obtain ⟨h2, hr⟩ := grd_inv hr
  refine x_iald (pc := 38) (k := (Int32.toNatClampNeg v5_)) rfl h2 rfl dX3_partedBy_38 ?_
  obtain ⟨h3, hr⟩ := grd_inv hr
  refine x_iald (pc := 39) (k := (Int32.toNatClampNeg (gI σ_ 52 (Int32.toNatClampNeg v5_)))) rfl h3 rfl dX3_partedBy_39 ?_
  refine r_aload_n (pc := 40) (j := 0) dX3_partedBy_40 rfl rfl ?_
  refine gf3_4 (pc := 41) tw_2_28 hw_ dX3_partedBy_41 ?_
  refine r_aload_n (pc := 44) (j := 0) dX3_partedBy_44 rfl rfl ?_
  refine gf3_5 (pc := 45) tw_2_30 hw_ dX3_partedBy_45 ?_
  refine r_iload (pc := 48) (j := 5) dX3_partedBy_48 rfl ?_
  refine r_iconst (pc := 50) (v := (1 : Int32)) dX3_partedBy_50 rfl ?_
  refine r_iadd (pc := 51) dX3_partedBy_51 ?_
  obtain ⟨h4, hr⟩ := grd_inv hr
  refine x_iald (pc := 52) (k := (Int32.toNatClampNeg (v5_ + (1 : Int32)))) rfl h4 rfl dX3_partedBy_52 ?_
  obtain ⟨h5, hr⟩ := grd_inv hr
  refine x_iald (pc := 53) (k := (Int32.toNatClampNeg (gI σ_ 52 (Int32.toNatClampNeg (v5_ + (1 : Int32)))))) rfl h5 rfl dX3_partedBy_53 ?_
  refine r_isub (pc := 54) dX3_partedBy_54 ?_
  refine r_iload (pc := 55) (j := 4) dX3_partedBy_55 rfl ?_
  refine r_icmp_le (pc := 57) (tgt := 94) dX3_partedBy_57 rfl (fun hc => ?_) (fun hc => ?_)
  · replace hr := ite_t hc hr
    refine r_iinc (pc := 94) (j := 5) (v := (v5_ + (1 : Int32))) (ls1 := [(5, .int (v5_ + (1 : Int32))), (0, .ref (ad g 31)), (1, .ref (ad g o1_)), (2, .int x2_), (3, .int v3_), (4, .int v4_)]) dX3_partedBy_94 rfl rfl (nle rfl) rfl ?_
    refine r_goto (pc := 97) (tgt := 17) dX3_partedBy_97 rfl ?_
    exact r_pick (ls1 := [(0, .ref (ad g 31)), (1, .ref (ad g o1_)), (2, .int x2_), (3, .int v3_), (4, .int v4_), (5, .int (v5_ + (1 : Int32)))]) [1, 2, 3, 4, 5, 0] rfl (ih v3_ v4_ (v5_ + (1 : Int32)) hr)
  replace hr := ite_f hc hr
  refine r_aload_n (pc := 60) (j := 0) dX3_partedBy_60 rfl rfl ?_
  refine gf3_4 (pc := 61) tw_2_28 hw_ dX3_partedBy_61 ?_
  refine r_aload_n (pc := 64) (j := 0) dX3_partedBy_64 rfl rfl ?_
  refine gf3_5 (pc := 65) tw_2_30 hw_ dX3_partedBy_65 ?_
  refine r_iload (pc := 68) (j := 5) dX3_partedBy_68 rfl ?_
  refine x_iald (pc := 70) (k := (Int32.toNatClampNeg v5_)) rfl h2 rfl dX3_partedBy_70 ?_
  refine x_iald (pc := 71) (k := (Int32.toNatClampNeg (gI σ_ 52 (Int32.toNatClampNeg v5_)))) rfl h3 rfl dX3_partedBy_71 ?_
  refine r_aload_n (pc := 72) (j := 0) dX3_partedBy_72 rfl rfl ?_
  refine gf3_4 (pc := 73) tw_2_28 hw_ dX3_partedBy_73 ?_
  refine r_aload_n (pc := 76) (j := 0) dX3_partedBy_76 rfl rfl ?_
  refine gf3_5 (pc := 77) tw_2_30 hw_ dX3_partedBy_77 ?_
  refine r_iload (pc := 80) (j := 5) dX3_partedBy_80 rfl ?_
  refine r_iconst (pc := 82) (v := (1 : Int32)) dX3_partedBy_82 rfl ?_
  refine r_iadd (pc := 83) dX3_partedBy_83 ?_
  refine x_iald (pc := 84) (k := (Int32.toNatClampNeg (v5_ + (1 : Int32)))) rfl h4 rfl dX3_partedBy_84 ?_
  refine x_iald (pc := 85) (k := (Int32.toNatClampNeg (gI σ_ 52 (Int32.toNatClampNeg (v5_ + (1 : Int32)))))) rfl h5 rfl dX3_partedBy_85 ?_
  refine r_isub (pc := 86) dX3_partedBy_86 ?_
  refine r_topi fun v6 ev6 => ?_
  replace hr := vthen_inv hr v6 ev6
  refine r_istore (pc := 87) (ls1 := [(4, .int v6), (0, .ref (ad g 31)), (1, .ref (ad g o1_)), (2, .int x2_), (3, .int v3_), (5, .int v5_)]) dX3_partedBy_87 (nle rfl) rfl ?_
  refine r_iload (pc := 89) (j := 5) dX3_partedBy_89 rfl ?_
  refine r_iconst (pc := 91) (v := (1 : Int32)) dX3_partedBy_91 rfl ?_
  refine r_iadd (pc := 92) dX3_partedBy_92 ?_
  refine r_topi fun v7 ev7 => ?_
  replace hr := vthen_inv hr v7 ev7
  refine r_istore_n (pc := 93) (ls1 := [(3, .int v7), (4, .int v6), (0, .ref (ad g 31)), (1, .ref (ad g o1_)), (2, .int x2_), (5, .int v5_)]) dX3_partedBy_93 rfl (nle rfl) rfl ?_
  refine r_iinc (pc := 94) (j := 5) (v := (v5_ + (1 : Int32))) (ls1 := [(5, .int (v5_ + (1 : Int32))), (3, .int v7), (4, .int v6), (0, .ref (ad g 31)), (1, .ref (ad g o1_)), (2, .int x2_)]) dX3_partedBy_94 rfl rfl (nle rfl) rfl ?_
  refine r_goto (pc := 97) (tgt := 17) dX3_partedBy_97 rfl ?_
  exact r_pick (ls1 := [(0, .ref (ad g 31)), (1, .ref (ad g o1_)), (2, .int x2_), (3, .int v7), (4, .int v6), (5, .int (v5_ + (1 : Int32)))]) [3, 4, 5, 1, 2, 0] rfl (ih v7 v6 (v5_ + (1 : Int32)) hr)

set_option maxRecDepth 20000 in
theorem sX3_partedBy {g : GG} {σ : SS} {a1 : Nat} {a2 : Int32} {r : Int32 × SS} (hr : fX3_partedBy σ a1 a2 = some r) (hs1 : shp a1 = (1, 0)) : Ct g mX3_partedBy [.ref (ad g 31), .ref (ad g a1), .int a2] NF σ (some (.int r.1)) NF r.2 := by
  refine Ct.of (by decide +kernel) (nle rfl) fun hw0 => ?_
  have hw := hw0 rfl
  unfold fX3_partedBy at hr
  change RR g mX3_partedBy (FinR g mX3_partedBy (some (.int r.1)) NF r.2) zF 0 [(0, .ref (ad g 31)), (1, .ref (ad g a1)), (2, .int a2)] [] σ
  refine r_aload_n (pc := 0) (j := 0) dX3_partedBy_0 rfl rfl ?_
  refine r_iconst (pc := 1) (v := (0 : Int32)) dX3_partedBy_1 rfl ?_
  refine r_aload_n (pc := 2) (j := 1) dX3_partedBy_2 rfl rfl ?_
  refine gf1_6 (pc := 3) tw_1_82 hs1 dX3_partedBy_3 ?_
  obtain ⟨σ1, eσ1, hr⟩ := bnd1_inv hr
  refine kX3_sortByDark (pc := 6) eσ1 tw_3_50 ⟨nle rfl, nle rfl⟩ (nle rfl) dX3_partedBy_6 fun hσ1 => ?_
  refine r_iconst (pc := 9) (v := (0 : Int32)) dX3_partedBy_9 rfl ?_
  refine r_istore_n (pc := 10) (ls1 := [(3, .int (0 : Int32)), (0, .ref (ad g 31)), (1, .ref (ad g a1)), (2, .int a2)]) dX3_partedBy_10 rfl (nle rfl) rfl ?_
  refine r_iconst (pc := 11) (v := (0 : Int32)) dX3_partedBy_11 rfl ?_
  refine r_istore (pc := 12) (ls1 := [(4, .int (0 : Int32)), (3, .int (0 : Int32)), (0, .ref (ad g 31)), (1, .ref (ad g a1)), (2, .int a2)]) dX3_partedBy_12 (nle rfl) rfl ?_
  refine r_iconst (pc := 14) (v := (0 : Int32)) dX3_partedBy_14 rfl ?_
  refine r_istore (pc := 15) (ls1 := [(5, .int (0 : Int32)), (4, .int (0 : Int32)), (3, .int (0 : Int32)), (0, .ref (ad g 31)), (1, .ref (ad g a1)), (2, .int a2)]) dX3_partedBy_15 (nle rfl) rfl ?_
  refine r_pick (ls1 := [(0, .ref (ad g 31)), (1, .ref (ad g a1)), (2, .int a2), (3, .int (0 : Int32)), (4, .int (0 : Int32)), (5, .int (0 : Int32))]) [3, 4, 5, 2, 1, 0] rfl ?_
  refine sX3_partedBy_L17 hs1 hσ1  (fun v8 v9 hr => ?_) fuel (0 : Int32) (0 : Int32) (0 : Int32) hr
  refine r_iload_n (pc := 100) (j := 2) dX3_partedBy_100 rfl rfl ?_
  refine r_if_ne (pc := 101) (tgt := 107) dX3_partedBy_101 rfl (fun hc => ?_) (fun hc => ?_)
  · replace hr := ite_f hc hr
    refine r_iload_n (pc := 107) (j := 2) dX3_partedBy_107 rfl rfl ?_
    refine r_iconst (pc := 108) (v := (1 : Int32)) dX3_partedBy_108 rfl ?_
    refine r_icmp_ne (pc := 109) (tgt := 116) dX3_partedBy_109 rfl (fun hc => ?_) (fun hc => ?_)
    · replace hr := ite_f hc hr
      refine r_aload_n (pc := 116) (j := 0) dX3_partedBy_116 rfl rfl ?_
      refine r_aload_n (pc := 117) (j := 1) dX3_partedBy_117 rfl rfl ?_
      refine r_iload_n (pc := 118) (j := 3) dX3_partedBy_118 rfl rfl ?_
      obtain ⟨v10, hv10, hr⟩ := bnd1_inv hr
      refine kX3_judgedElse (pc := 119) hv10 hs1 tw_4_121 ⟨nle rfl, nle rfl⟩ (nle rfl) dX3_partedBy_119 ?_
      exact l_osi hr (r_iret (pc := 122) (v := v10) rfl rfl ⟨Nat.le_refl _, Nat.le_refl _⟩ dX3_partedBy_122)
    replace hr := ite_t hc hr
    refine r_iload_n (pc := 112) (j := 3) dX3_partedBy_112 rfl rfl ?_
    refine r_goto (pc := 113) (tgt := 122) dX3_partedBy_113 rfl ?_
    exact l_osi hr (r_iret (pc := 122) (v := v8) rfl rfl ⟨Nat.le_refl _, Nat.le_refl _⟩ dX3_partedBy_122)
  replace hr := ite_t hc hr
  refine r_iload (pc := 104) (j := 4) dX3_partedBy_104 rfl ?_
  exact l_osi hr (r_iret (pc := 106) (v := v9) rfl rfl ⟨Nat.le_refl _, Nat.le_refl _⟩ dX3_partedBy_106)

theorem kX3_partedBy {g : GG} {σ : SS} {a1 : Nat} {a2 : Int32} {v : Int32} {σ2 : SS} {M : MM} {F : State → Array Value → List Frame → State → Prop} {pc index : Nat} {ls : List (Nat × Value)} {rest : List Value} (hf : fX3_partedBy σ a1 a2 = some (v, σ2)) (hs1 : shp a1 = (1, 0)) (hl : Cond.methodLink M.1.cls index yX3_partedBy ∈ lw_gt) (hR : mX3_partedBy.2.2.2.2.frames + 1 ≤ M.2.2.2.2.frames ∧ 8 + (mX3_partedBy.2.2.1 + 11) + mX3_partedBy.2.2.2.2.locals ≤ M.2.2.2.2.locals) (hrest : (rest.map fun v => v.category).sum ≤ 8) (hd : decode M.2.1 pc = .ok (.invokevirtual index, 3)) (k : WT σ2 → RR g M F zF (pc + 3) ls (.int v :: rest) σ2) : RR g M F zF pc ls (.int a2 :: .ref (ad g a1) :: .ref (ad g 31) :: rest) σ :=
  r_callV (z := zF) (N := mX3_partedBy) (nn := 2) (o1 := some (.int v)) (sX3_partedBy hf hs1) (rfl : shp 31 = (3, 0)) (by decide) (shp_le (rfl : shp 31 = (3, 0)) (nle rfl)) (ci := 3) rfl rfl tw_4_120 tw_1_5 hl tw_4_118 tw_4_119 ⟨by decide, by decide, rfl⟩ hR rfl hrest hd ⟨Nat.zero_le _, Nat.zero_le _⟩ rfl (fun h => k (h rfl))

theorem dX7_apart_0 : decode cX7_apart 0 = .ok (.aload_n 0, 1) := by decide +kernel
theorem dX7_apart_1 : decode cX7_apart 1 = .ok (.getfield 32, 3) := by decide +kernel
theorem dX7_apart_4 : decode cX7_apart 4 = .ok (.getfield 274, 3) := by decide +kernel
theorem dX7_apart_7 : decode cX7_apart 7 = .ok (.ifCond .eq 12, 3) := by decide +kernel
theorem dX7_apart_10 : decode cX7_apart 10 = .ok (.iload_n 1, 1) := by decide +kernel
theorem dX7_apart_11 : decode cX7_apart 11 = .ok (.ifCond .lt 8, 3) := by decide +kernel
theorem dX7_apart_14 : decode cX7_apart 14 = .ok (.iload_n 1, 1) := by decide +kernel
theorem dX7_apart_15 : decode cX7_apart 15 = .ok (.iconst 2, 1) := by decide +kernel
theorem dX7_apart_16 : decode cX7_apart 16 = .ok (.if_icmp .le 5, 3) := by decide +kernel
theorem dX7_apart_19 : decode cX7_apart 19 = .ok (.iconst (-1), 1) := by decide +kernel
theorem dX7_apart_20 : decode cX7_apart 20 = .ok (.ireturn, 1) := by decide +kernel
theorem dX7_apart_21 : decode cX7_apart 21 = .ok (.aload_n 0, 1) := by decide +kernel
theorem dX7_apart_22 : decode cX7_apart 22 = .ok (.getfield 62, 3) := by decide +kernel
theorem dX7_apart_25 : decode cX7_apart 25 = .ok (.aload_n 0, 1) := by decide +kernel
theorem dX7_apart_26 : decode cX7_apart 26 = .ok (.getfield 18, 3) := by decide +kernel
theorem dX7_apart_29 : decode cX7_apart 29 = .ok (.aload_n 0, 1) := by decide +kernel
theorem dX7_apart_30 : decode cX7_apart 30 = .ok (.getfield 32, 3) := by decide +kernel
theorem dX7_apart_33 : decode cX7_apart 33 = .ok (.invokevirtual 303, 3) := by decide +kernel
theorem dX7_apart_36 : decode cX7_apart 36 = .ok (.ifCond .ne 6, 3) := by decide +kernel
theorem dX7_apart_39 : decode cX7_apart 39 = .ok (.bipush (-2), 2) := by decide +kernel
theorem dX7_apart_41 : decode cX7_apart 41 = .ok (.ireturn, 1) := by decide +kernel
theorem dX7_apart_42 : decode cX7_apart 42 = .ok (.aload_n 0, 1) := by decide +kernel
theorem dX7_apart_43 : decode cX7_apart 43 = .ok (.getfield 62, 3) := by decide +kernel
theorem dX7_apart_46 : decode cX7_apart 46 = .ok (.aload_n 0, 1) := by decide +kernel
theorem dX7_apart_47 : decode cX7_apart 47 = .ok (.getfield 32, 3) := by decide +kernel
theorem dX7_apart_50 : decode cX7_apart 50 = .ok (.iload_n 1, 1) := by decide +kernel
theorem dX7_apart_51 : decode cX7_apart 51 = .ok (.invokevirtual 338, 3) := by decide +kernel
theorem dX7_apart_54 : decode cX7_apart 54 = .ok (.ireturn, 1) := by decide +kernel
def mX7_apart : MM := (yX7_apart, cX7_apart, 2, Option.some Jvm.ClassFile.FieldType.int, { frames := 6, cells := 0, slots := 0, locals := 148 })
def fX7_apart (σ : SS) (a1 : Int32) : Option (Int32 × SS) :=
  if (gI σ (gR σ 1 5) 0) = 0 then (
    some ((-1 : Int32), σ)
    ) else (
    if a1 < 0 then (
      some ((-1 : Int32), σ)
      ) else (
      if a1 ≤ (2 : Int32) then (
        bnd (fX3_read σ (gR σ 1 2) (gR σ 1 5)) fun b2 σ4 =>
        if b2 = true then (
          bnd (fX3_partedBy σ4 (gR σ4 1 5) a1) fun v5 σ8 =>
          some (v5, σ8)
          ) else (
          some ((-2 : Int32), σ4)
          )
        ) else (
        some ((-1 : Int32), σ)
        )
      )
    )

set_option maxRecDepth 20000 in
theorem sX7_apart {g : GG} {σ : SS} {a1 : Int32} {r : Int32 × SS} (hr : fX7_apart σ a1 = some r)  : Ct g mX7_apart [.ref (ad g 1), .int a1] NF σ (some (.int r.1)) NF r.2 := by
  refine Ct.of (by decide +kernel) (nle rfl) fun hw0 => ?_
  have hw := hw0 rfl
  unfold fX7_apart at hr
  change RR g mX7_apart (FinR g mX7_apart (some (.int r.1)) NF r.2) zF 0 [(0, .ref (ad g 1)), (1, .int a1)] [] σ
  refine r_aload_n (pc := 0) (j := 0) dX7_apart_0 rfl rfl ?_
  refine gf7_5 (pc := 1) tw_2_108 hw dX7_apart_1 ?_
  refine gf1_0 (pc := 4) tw_1_60 (wt_fo hw).1 dX7_apart_4 ?_
  refine r_if_eq (pc := 7) (tgt := 19) dX7_apart_7 rfl (fun hc => ?_) (fun hc => ?_)
  · replace hr := ite_t hc hr
    refine r_iconst (pc := 19) (v := (-1 : Int32)) dX7_apart_19 rfl ?_
    exact l_osi hr (r_iret (pc := 20) (v := (-1 : Int32)) rfl rfl ⟨Nat.le_refl _, Nat.le_refl _⟩ dX7_apart_20)
  replace hr := ite_f hc hr
  refine r_iload_n (pc := 10) (j := 1) dX7_apart_10 rfl rfl ?_
  refine r_if_lt (pc := 11) (tgt := 19) dX7_apart_11 rfl (fun hc => ?_) (fun hc => ?_)
  · replace hr := ite_t hc hr
    refine r_iconst (pc := 19) (v := (-1 : Int32)) dX7_apart_19 rfl ?_
    exact l_osi hr (r_iret (pc := 20) (v := (-1 : Int32)) rfl rfl ⟨Nat.le_refl _, Nat.le_refl _⟩ dX7_apart_20)
  replace hr := ite_f hc hr
  refine r_iload_n (pc := 14) (j := 1) dX7_apart_14 rfl rfl ?_
  refine r_iconst (pc := 15) (v := (2 : Int32)) dX7_apart_15 rfl ?_
  refine r_icmp_le (pc := 16) (tgt := 21) dX7_apart_16 rfl (fun hc => ?_) (fun hc => ?_)
  · replace hr := ite_t hc hr
    refine r_aload_n (pc := 21) (j := 0) dX7_apart_21 rfl rfl ?_
    refine gf7_12 (pc := 22) tw_2_115 hw dX7_apart_22 ?_
    refine r_aload_n (pc := 25) (j := 0) dX7_apart_25 rfl rfl ?_
    refine gf7_2 (pc := 26) tw_2_105 hw dX7_apart_26 ?_
    refine r_aload_n (pc := 29) (j := 0) dX7_apart_29 rfl rfl ?_
    refine gf7_5 (pc := 30) tw_2_108 hw dX7_apart_30 ?_
    obtain ⟨b2, σ4, eσ4, hr⟩ := bnd_inv hr
    refine kX3_read (pc := 33) eσ4 (wt_sc hw).1 (wt_fo hw).1 tw_3_10 ⟨nle rfl, nle rfl⟩ (nle rfl) dX7_apart_33 fun hσ4 => ?_
    refine r_ifB_ne (pc := 36) (tgt := 42) dX7_apart_36 rfl (fun hc => ?_) (fun hc => ?_)
    · replace hr := ite_t hc hr
      refine r_aload_n (pc := 42) (j := 0) dX7_apart_42 rfl rfl ?_
      refine gf7_12 (pc := 43) tw_2_115 hσ4 dX7_apart_43 ?_
      refine r_aload_n (pc := 46) (j := 0) dX7_apart_46 rfl rfl ?_
      refine gf7_5 (pc := 47) tw_2_108 hσ4 dX7_apart_47 ?_
      refine r_iload_n (pc := 50) (j := 1) dX7_apart_50 rfl rfl ?_
      obtain ⟨v5, σ8, eσ8, hr⟩ := bnd_inv hr
      refine kX3_partedBy (pc := 51) eσ8 (wt_fo hσ4).1 tw_4_117 ⟨nle rfl, nle rfl⟩ (nle rfl) dX7_apart_51 fun hσ8 => ?_
      exact l_osi hr (r_iret (pc := 54) (v := v5) rfl rfl ⟨Nat.le_refl _, Nat.le_refl _⟩ dX7_apart_54)
    replace hr := ite_f hc hr
    refine r_bipush (pc := 39) (v := (-2 : Int32)) dX7_apart_39 rfl ?_
    exact l_osi hr (r_iret (pc := 41) (v := (-2 : Int32)) rfl rfl ⟨Nat.le_refl _, Nat.le_refl _⟩ dX7_apart_41)
  replace hr := ite_f hc hr
  refine r_iconst (pc := 19) (v := (-1 : Int32)) dX7_apart_19 rfl ?_
  exact l_osi hr (r_iret (pc := 20) (v := (-1 : Int32)) rfl rfl ⟨Nat.le_refl _, Nat.le_refl _⟩ dX7_apart_20)

theorem kX7_apart {g : GG} {σ : SS} {a1 : Int32} {v : Int32} {σ2 : SS} {M : MM} {F : State → Array Value → List Frame → State → Prop} {pc index : Nat} {ls : List (Nat × Value)} {rest : List Value} (hf : fX7_apart σ a1 = some (v, σ2))  (hl : Cond.methodLink M.1.cls index yX7_apart ∈ lw_gt) (hR : mX7_apart.2.2.2.2.frames + 1 ≤ M.2.2.2.2.frames ∧ 8 + (mX7_apart.2.2.1 + 11) + mX7_apart.2.2.2.2.locals ≤ M.2.2.2.2.locals) (hrest : (rest.map fun v => v.category).sum ≤ 8) (hd : decode M.2.1 pc = .ok (.invokevirtual index, 3)) (k : WT σ2 → RR g M F zF (pc + 3) ls (.int v :: rest) σ2) : RR g M F zF pc ls (.int a1 :: .ref (ad g 1) :: rest) σ :=
  r_callV (z := zF) (N := mX7_apart) (nn := 1) (o1 := some (.int v)) (sX7_apart hf ) (rfl : shp 1 = (7, 0)) (by decide) (shp_le (rfl : shp 1 = (7, 0)) (nle rfl)) (ci := 7) rfl rfl tw_4_116 tw_1_1 hl tw_4_114 tw_4_115 ⟨by decide, by decide, rfl⟩ hR rfl hrest hd ⟨Nat.zero_le _, Nat.zero_le _⟩ rfl (fun h => k (h rfl))

theorem dX7_mark_0 : decode cX7_mark 0 = .ok (.iload_n 1, 1) := by decide +kernel
theorem dX7_mark_1 : decode cX7_mark 1 = .ok (.ifCond .lt 8, 3) := by decide +kernel
theorem dX7_mark_4 : decode cX7_mark 4 = .ok (.iload_n 1, 1) := by decide +kernel
theorem dX7_mark_5 : decode cX7_mark 5 = .ok (.iconst 4, 1) := by decide +kernel
theorem dX7_mark_6 : decode cX7_mark 6 = .ok (.if_icmp .lt 5, 3) := by decide +kernel
theorem dX7_mark_9 : decode cX7_mark 9 = .ok (.iconst (-1), 1) := by decide +kernel
theorem dX7_mark_10 : decode cX7_mark 10 = .ok (.ireturn, 1) := by decide +kernel
theorem dX7_mark_11 : decode cX7_mark 11 = .ok (.aload_n 0, 1) := by decide +kernel
theorem dX7_mark_12 : decode cX7_mark 12 = .ok (.getfield 62, 3) := by decide +kernel
theorem dX7_mark_15 : decode cX7_mark 15 = .ok (.aload_n 0, 1) := by decide +kernel
theorem dX7_mark_16 : decode cX7_mark 16 = .ok (.getfield 18, 3) := by decide +kernel
theorem dX7_mark_19 : decode cX7_mark 19 = .ok (.invokevirtual 252, 3) := by decide +kernel
theorem dX7_mark_22 : decode cX7_mark 22 = .ok (.pop, 1) := by decide +kernel
theorem dX7_mark_23 : decode cX7_mark 23 = .ok (.aload_n 0, 1) := by decide +kernel
theorem dX7_mark_24 : decode cX7_mark 24 = .ok (.getfield 62, 3) := by decide +kernel
theorem dX7_mark_27 : decode cX7_mark 27 = .ok (.getfield 256, 3) := by decide +kernel
theorem dX7_mark_30 : decode cX7_mark 30 = .ok (.iload_n 1, 1) := by decide +kernel
theorem dX7_mark_31 : decode cX7_mark 31 = .ok (.iaload, 1) := by decide +kernel
theorem dX7_mark_32 : decode cX7_mark 32 = .ok (.ifCond .ge 8, 3) := by decide +kernel
theorem dX7_mark_35 : decode cX7_mark 35 = .ok (.bipush (-2), 2) := by decide +kernel
theorem dX7_mark_37 : decode cX7_mark 37 = .ok (.goto 12, 3) := by decide +kernel
theorem dX7_mark_40 : decode cX7_mark 40 = .ok (.aload_n 0, 1) := by decide +kernel
theorem dX7_mark_41 : decode cX7_mark 41 = .ok (.getfield 62, 3) := by decide +kernel
theorem dX7_mark_44 : decode cX7_mark 44 = .ok (.getfield 256, 3) := by decide +kernel
theorem dX7_mark_47 : decode cX7_mark 47 = .ok (.iload_n 1, 1) := by decide +kernel
theorem dX7_mark_48 : decode cX7_mark 48 = .ok (.iaload, 1) := by decide +kernel
theorem dX7_mark_49 : decode cX7_mark 49 = .ok (.ireturn, 1) := by decide +kernel
def mX7_mark : MM := (yX7_mark, cX7_mark, 2, Option.some Jvm.ClassFile.FieldType.int, { frames := 4, cells := 0, slots := 0, locals := 102 })
def fX7_mark (σ : SS) (a1 : Int32) : Option (Int32 × SS) :=
  if a1 < 0 then (
    some ((-1 : Int32), σ)
    ) else (
    if a1 < (4 : Int32) then (
      bnd (fX3_locate σ (gR σ 1 2)) fun b2 σ4 =>
      grd (inb a1 4) <|
      if 0 ≤ (gI σ4 44 (Int32.toNatClampNeg a1)) then (
        some ((gI σ4 44 (Int32.toNatClampNeg a1)), σ4)
        ) else (
        some ((-2 : Int32), σ4)
        )
      ) else (
      some ((-1 : Int32), σ)
      )
    )

set_option maxRecDepth 20000 in
theorem sX7_mark {g : GG} {σ : SS} {a1 : Int32} {r : Int32 × SS} (hr : fX7_mark σ a1 = some r)  : Ct g mX7_mark [.ref (ad g 1), .int a1] NF σ (some (.int r.1)) NF r.2 := by
  refine Ct.of (by decide +kernel) (nle rfl) fun hw0 => ?_
  have hw := hw0 rfl
  unfold fX7_mark at hr
  change RR g mX7_mark (FinR g mX7_mark (some (.int r.1)) NF r.2) zF 0 [(0, .ref (ad g 1)), (1, .int a1)] [] σ
  refine r_iload_n (pc := 0) (j := 1) dX7_mark_0 rfl rfl ?_
  refine r_if_lt (pc := 1) (tgt := 9) dX7_mark_1 rfl (fun hc => ?_) (fun hc => ?_)
  · replace hr := ite_t hc hr
    refine r_iconst (pc := 9) (v := (-1 : Int32)) dX7_mark_9 rfl ?_
    exact l_osi hr (r_iret (pc := 10) (v := (-1 : Int32)) rfl rfl ⟨Nat.le_refl _, Nat.le_refl _⟩ dX7_mark_10)
  replace hr := ite_f hc hr
  refine r_iload_n (pc := 4) (j := 1) dX7_mark_4 rfl rfl ?_
  refine r_iconst (pc := 5) (v := (4 : Int32)) dX7_mark_5 rfl ?_
  refine r_icmp_lt (pc := 6) (tgt := 11) dX7_mark_6 rfl (fun hc => ?_) (fun hc => ?_)
  · replace hr := ite_t hc hr
    refine r_aload_n (pc := 11) (j := 0) dX7_mark_11 rfl rfl ?_
    refine gf7_12 (pc := 12) tw_2_115 hw dX7_mark_12 ?_
    refine r_aload_n (pc := 15) (j := 0) dX7_mark_15 rfl rfl ?_
    refine gf7_2 (pc := 16) tw_2_105 hw dX7_mark_16 ?_
    obtain ⟨b2, σ4, eσ4, hr⟩ := bnd_inv hr
    refine kX3_locate (pc := 19) eσ4 (wt_sc hw).1 tw_2_204 ⟨nle rfl, nle rfl⟩ (nle rfl) dX7_mark_19 fun hσ4 => ?_
    refine r_pop (pc := 22) dX7_mark_22 rfl ?_
    refine r_aload_n (pc := 23) (j := 0) dX7_mark_23 rfl rfl ?_
    refine gf7_12 (pc := 24) tw_2_115 hσ4 dX7_mark_24 ?_
    refine gf3_2 (pc := 27) tw_2_25 hσ4 dX7_mark_27 ?_
    refine r_iload_n (pc := 30) (j := 1) dX7_mark_30 rfl rfl ?_
    obtain ⟨h5, hr⟩ := grd_inv hr
    refine x_iald (pc := 31) (k := (Int32.toNatClampNeg a1)) rfl h5 rfl dX7_mark_31 ?_
    refine r_if_ge (pc := 32) (tgt := 40) dX7_mark_32 rfl (fun hc => ?_) (fun hc => ?_)
    · replace hr := ite_t hc hr
      refine r_aload_n (pc := 40) (j := 0) dX7_mark_40 rfl rfl ?_
      refine gf7_12 (pc := 41) tw_2_115 hσ4 dX7_mark_41 ?_
      refine gf3_2 (pc := 44) tw_2_25 hσ4 dX7_mark_44 ?_
      refine r_iload_n (pc := 47) (j := 1) dX7_mark_47 rfl rfl ?_
      refine x_iald (pc := 48) (k := (Int32.toNatClampNeg a1)) rfl h5 rfl dX7_mark_48 ?_
      exact l_osi hr (r_iret (pc := 49) (v := (gI σ4 44 (Int32.toNatClampNeg a1))) rfl rfl ⟨Nat.le_refl _, Nat.le_refl _⟩ dX7_mark_49)
    replace hr := ite_f hc hr
    refine r_bipush (pc := 35) (v := (-2 : Int32)) dX7_mark_35 rfl ?_
    refine r_goto (pc := 37) (tgt := 49) dX7_mark_37 rfl ?_
    exact l_osi hr (r_iret (pc := 49) (v := (-2 : Int32)) rfl rfl ⟨Nat.le_refl _, Nat.le_refl _⟩ dX7_mark_49)
  replace hr := ite_f hc hr
  refine r_iconst (pc := 9) (v := (-1 : Int32)) dX7_mark_9 rfl ?_
  exact l_osi hr (r_iret (pc := 10) (v := (-1 : Int32)) rfl rfl ⟨Nat.le_refl _, Nat.le_refl _⟩ dX7_mark_10)

theorem kX7_mark {g : GG} {σ : SS} {a1 : Int32} {v : Int32} {σ2 : SS} {M : MM} {F : State → Array Value → List Frame → State → Prop} {pc index : Nat} {ls : List (Nat × Value)} {rest : List Value} (hf : fX7_mark σ a1 = some (v, σ2))  (hl : Cond.methodLink M.1.cls index yX7_mark ∈ lw_gt) (hR : mX7_mark.2.2.2.2.frames + 1 ≤ M.2.2.2.2.frames ∧ 8 + (mX7_mark.2.2.1 + 11) + mX7_mark.2.2.2.2.locals ≤ M.2.2.2.2.locals) (hrest : (rest.map fun v => v.category).sum ≤ 8) (hd : decode M.2.1 pc = .ok (.invokevirtual index, 3)) (k : WT σ2 → RR g M F zF (pc + 3) ls (.int v :: rest) σ2) : RR g M F zF pc ls (.int a1 :: .ref (ad g 1) :: rest) σ :=
  r_callV (z := zF) (N := mX7_mark) (nn := 1) (o1 := some (.int v)) (sX7_mark hf ) (rfl : shp 1 = (7, 0)) (by decide) (shp_le (rfl : shp 1 = (7, 0)) (nle rfl)) (ci := 7) rfl rfl tw_4_131 tw_1_1 hl tw_4_129 tw_4_130 ⟨by decide, by decide, rfl⟩ hR rfl hrest hd ⟨Nat.zero_le _, Nat.zero_le _⟩ rfl (fun h => k (h rfl))

theorem dX5_hundredths_0 : decode cX5_hundredths 0 = .ok (.aload_n 0, 1) := by decide +kernel
theorem dX5_hundredths_1 : decode cX5_hundredths 1 = .ok (.getfield 34, 3) := by decide +kernel
theorem dX5_hundredths_4 : decode cX5_hundredths 4 = .ok (.lconst 0, 1) := by decide +kernel
theorem dX5_hundredths_5 : decode cX5_hundredths 5 = .ok (.lcmp, 1) := by decide +kernel
theorem dX5_hundredths_6 : decode cX5_hundredths 6 = .ok (.ifCond .le 17, 3) := by decide +kernel
theorem dX5_hundredths_9 : decode cX5_hundredths 9 = .ok (.ldc2_w 40, 3) := by decide +kernel
theorem dX5_hundredths_12 : decode cX5_hundredths 12 = .ok (.lload_n 1, 1) := by decide +kernel
theorem dX5_hundredths_13 : decode cX5_hundredths 13 = .ok (.lmul, 1) := by decide +kernel
theorem dX5_hundredths_14 : decode cX5_hundredths 14 = .ok (.aload_n 0, 1) := by decide +kernel
theorem dX5_hundredths_15 : decode cX5_hundredths 15 = .ok (.getfield 34, 3) := by decide +kernel
theorem dX5_hundredths_18 : decode cX5_hundredths 18 = .ok (.ldiv, 1) := by decide +kernel
theorem dX5_hundredths_19 : decode cX5_hundredths 19 = .ok (.l2i, 1) := by decide +kernel
theorem dX5_hundredths_20 : decode cX5_hundredths 20 = .ok (.goto 4, 3) := by decide +kernel
theorem dX5_hundredths_23 : decode cX5_hundredths 23 = .ok (.iconst 0, 1) := by decide +kernel
theorem dX5_hundredths_24 : decode cX5_hundredths 24 = .ok (.ireturn, 1) := by decide +kernel
def mX5_hundredths : MM := (yX5_hundredths, cX5_hundredths, 3, Option.some Jvm.ClassFile.FieldType.int, { frames := 0, cells := 0, slots := 0, locals := 0 })
def fX5_hundredths (σ0 : SS) (a1 : Int64) : Option Int32 :=
  if (lg_cmp (gL σ0 45 5) (0 : Int64)) ≤ 0 then (
    some (0 : Int32)
    ) else (
    grd (nzl (gL σ0 45 5)) <|
    some (Int64.toInt32 (((100 : Int64) * a1) / (gL σ0 45 5)))
    )

set_option maxRecDepth 20000 in
theorem sX5_hundredths {g : GG} {σ0 : SS} {a1 : Int64} {r : Int32} (hr : fX5_hundredths σ0 a1 = some r)  : Ct g mX5_hundredths [.ref (ad g 45), .long a1] NF σ0 (some (.int r)) NF σ0 := by
  refine Ct.of (by decide +kernel) (nle rfl) fun hw0 => ?_
  have hw := hw0 rfl
  unfold fX5_hundredths at hr
  change RR g mX5_hundredths (FinR g mX5_hundredths (some (.int r)) NF σ0) zF 0 [(0, .ref (ad g 45)), (1, .long a1)] [] σ0
  refine r_aload_n (pc := 0) (j := 0) dX5_hundredths_0 rfl rfl ?_
  refine gf5_5 (pc := 1) tw_1_239 rfl dX5_hundredths_1 ?_
  refine r_lconst (pc := 4) (v := (0 : Int64)) dX5_hundredths_4 rfl ?_
  refine r_lcmp (pc := 5) dX5_hundredths_5 ?_
  refine r_if_le (pc := 6) (tgt := 23) dX5_hundredths_6 rfl (fun hc => ?_) (fun hc => ?_)
  · replace hr := ite_t hc hr
    refine r_iconst (pc := 23) (v := (0 : Int32)) dX5_hundredths_23 rfl ?_
    exact l_opi hr (r_iret (pc := 24) (v := (0 : Int32)) rfl rfl ⟨Nat.le_refl _, Nat.le_refl _⟩ dX5_hundredths_24)
  replace hr := ite_f hc hr
  refine r_ldc2 (pc := 9) (v := (100 : Int64)) dX5_hundredths_9 tw_4_144 ?_
  refine r_lload_n (pc := 12) (j := 1) dX5_hundredths_12 rfl rfl ?_
  refine r_lmul (pc := 13) dX5_hundredths_13 ?_
  refine r_aload_n (pc := 14) (j := 0) dX5_hundredths_14 rfl rfl ?_
  refine gf5_5 (pc := 15) tw_1_239 rfl dX5_hundredths_15 ?_
  obtain ⟨h1, hr⟩ := grd_inv hr
  refine r_ldiv (pc := 18) dX5_hundredths_18 (nzl_ne h1) ?_
  refine r_l2i (pc := 19) dX5_hundredths_19 ?_
  refine r_goto (pc := 20) (tgt := 24) dX5_hundredths_20 rfl ?_
  exact l_opi hr (r_iret (pc := 24) (v := (Int64.toInt32 (((100 : Int64) * a1) / (gL σ0 45 5)))) rfl rfl ⟨Nat.le_refl _, Nat.le_refl _⟩ dX5_hundredths_24)

theorem kX5_hundredths {g : GG} {σ0 : SS} {a1 : Int64} {v : Int32} {M : MM} {F : State → Array Value → List Frame → State → Prop} {pc index : Nat} {ls : List (Nat × Value)} {rest : List Value} (hf : fX5_hundredths σ0 a1 = some v)  (hl : Cond.methodLink M.1.cls index yX5_hundredths ∈ lw_gt) (hR : mX5_hundredths.2.2.2.2.frames + 1 ≤ M.2.2.2.2.frames ∧ 8 + (mX5_hundredths.2.2.1 + 11) + mX5_hundredths.2.2.2.2.locals ≤ M.2.2.2.2.locals) (hrest : (rest.map fun v => v.category).sum ≤ 8) (hd : decode M.2.1 pc = .ok (.invokevirtual index, 3)) (k : RR g M F zF (pc + 3) ls (.int v :: rest) σ0) : RR g M F zF pc ls (.long a1 :: .ref (ad g 45) :: rest) σ0 :=
  r_callV (z := zF) (N := mX5_hundredths) (nn := 1) (o1 := some (.int v)) (sX5_hundredths hf ) (rfl : shp 45 = (5, 0)) (by decide) (shp_le (rfl : shp 45 = (5, 0)) (nle rfl)) (ci := 5) rfl rfl tw_4_143 tw_1_7 hl tw_4_142 tp_29 ⟨by decide, by decide, rfl⟩ hR rfl hrest hd ⟨Nat.zero_le _, Nat.zero_le _⟩ rfl (fun h => k)

theorem dX5_hundredthsX_0 : decode cX5_hundredthsX 0 = .ok (.aload_n 0, 1) := by decide +kernel
theorem dX5_hundredthsX_1 : decode cX5_hundredthsX 1 = .ok (.aload_n 0, 1) := by decide +kernel
theorem dX5_hundredthsX_2 : decode cX5_hundredthsX 2 = .ok (.aload_n 0, 1) := by decide +kernel
theorem dX5_hundredthsX_3 : decode cX5_hundredthsX 3 = .ok (.getfield 21, 3) := by decide +kernel
theorem dX5_hundredthsX_6 : decode cX5_hundredthsX 6 = .ok (.iload_n 1, 1) := by decide +kernel
theorem dX5_hundredthsX_7 : decode cX5_hundredthsX 7 = .ok (.iload_n 2, 1) := by decide +kernel
theorem dX5_hundredthsX_8 : decode cX5_hundredthsX 8 = .ok (.invokevirtual 42, 3) := by decide +kernel
theorem dX5_hundredthsX_11 : decode cX5_hundredthsX 11 = .ok (.invokevirtual 50, 3) := by decide +kernel
theorem dX5_hundredthsX_14 : decode cX5_hundredthsX 14 = .ok (.ireturn, 1) := by decide +kernel
def mX5_hundredthsX : MM := (yX5_hundredthsX, cX5_hundredthsX, 3, Option.some Jvm.ClassFile.FieldType.int, { frames := 1, cells := 0, slots := 0, locals := 23 })
def fX5_hundredthsX (σ0 : SS) (a1 : Int32) (a2 : Int32) : Option Int32 :=
  bnd1 (fX5_weighed σ0 49 a1 a2) fun w3 =>
  bnd1 (fX5_hundredths σ0 w3) fun v4 =>
  some v4

set_option maxRecDepth 20000 in
theorem sX5_hundredthsX {g : GG} {σ0 : SS} {a1 : Int32} {a2 : Int32} {r : Int32} (hr : fX5_hundredthsX σ0 a1 a2 = some r)  : Ct g mX5_hundredthsX [.ref (ad g 45), .int a1, .int a2] NF σ0 (some (.int r)) NF σ0 := by
  refine Ct.of (by decide +kernel) (nle rfl) fun hw0 => ?_
  have hw := hw0 rfl
  unfold fX5_hundredthsX at hr
  change RR g mX5_hundredthsX (FinR g mX5_hundredthsX (some (.int r)) NF σ0) zF 0 [(0, .ref (ad g 45)), (1, .int a1), (2, .int a2)] [] σ0
  refine r_aload_n (pc := 0) (j := 0) dX5_hundredthsX_0 rfl rfl ?_
  refine r_aload_n (pc := 1) (j := 0) dX5_hundredthsX_1 rfl rfl ?_
  refine r_aload_n (pc := 2) (j := 0) dX5_hundredthsX_2 rfl rfl ?_
  refine gf5_3 (pc := 3) tw_1_237 hw dX5_hundredthsX_3 ?_
  refine r_iload_n (pc := 6) (j := 1) dX5_hundredthsX_6 rfl rfl ?_
  refine r_iload_n (pc := 7) (j := 2) dX5_hundredthsX_7 rfl rfl ?_
  obtain ⟨w3, hw3, hr⟩ := bnd1_inv hr
  refine kX5_weighed (pc := 8) hw3 rfl tw_3_31 ⟨nle rfl, nle rfl⟩ (nle rfl) dX5_hundredthsX_8 ?_
  obtain ⟨v4, hv4, hr⟩ := bnd1_inv hr
  refine kX5_hundredths (pc := 11) hv4 tw_4_140 ⟨nle rfl, nle rfl⟩ (nle rfl) dX5_hundredthsX_11 ?_
  exact l_opi hr (r_iret (pc := 14) (v := v4) rfl rfl ⟨Nat.le_refl _, Nat.le_refl _⟩ dX5_hundredthsX_14)

theorem kX5_hundredthsX {g : GG} {σ0 : SS} {a1 : Int32} {a2 : Int32} {v : Int32} {M : MM} {F : State → Array Value → List Frame → State → Prop} {pc index : Nat} {ls : List (Nat × Value)} {rest : List Value} (hf : fX5_hundredthsX σ0 a1 a2 = some v)  (hl : Cond.methodLink M.1.cls index yX5_hundredthsX ∈ lw_gt) (hR : mX5_hundredthsX.2.2.2.2.frames + 1 ≤ M.2.2.2.2.frames ∧ 8 + (mX5_hundredthsX.2.2.1 + 11) + mX5_hundredthsX.2.2.2.2.locals ≤ M.2.2.2.2.locals) (hrest : (rest.map fun v => v.category).sum ≤ 8) (hd : decode M.2.1 pc = .ok (.invokevirtual index, 3)) (k : RR g M F zF (pc + 3) ls (.int v :: rest) σ0) : RR g M F zF pc ls (.int a2 :: .int a1 :: .ref (ad g 45) :: rest) σ0 :=
  r_callV (z := zF) (N := mX5_hundredthsX) (nn := 2) (o1 := some (.int v)) (sX5_hundredthsX hf ) (rfl : shp 45 = (5, 0)) (by decide) (shp_le (rfl : shp 45 = (5, 0)) (nle rfl)) (ci := 5) rfl rfl tw_4_139 tw_1_7 hl tw_4_137 tw_4_138 ⟨by decide, by decide, rfl⟩ hR rfl hrest hd ⟨Nat.zero_le _, Nat.zero_le _⟩ rfl (fun h => k)

theorem dX5_hundredthsY_0 : decode cX5_hundredthsY 0 = .ok (.aload_n 0, 1) := by decide +kernel
theorem dX5_hundredthsY_1 : decode cX5_hundredthsY 1 = .ok (.aload_n 0, 1) := by decide +kernel
theorem dX5_hundredthsY_2 : decode cX5_hundredthsY 2 = .ok (.aload_n 0, 1) := by decide +kernel
theorem dX5_hundredthsY_3 : decode cX5_hundredthsY 3 = .ok (.getfield 24, 3) := by decide +kernel
theorem dX5_hundredthsY_6 : decode cX5_hundredthsY 6 = .ok (.iload_n 1, 1) := by decide +kernel
theorem dX5_hundredthsY_7 : decode cX5_hundredthsY 7 = .ok (.iload_n 2, 1) := by decide +kernel
theorem dX5_hundredthsY_8 : decode cX5_hundredthsY 8 = .ok (.invokevirtual 42, 3) := by decide +kernel
theorem dX5_hundredthsY_11 : decode cX5_hundredthsY 11 = .ok (.invokevirtual 50, 3) := by decide +kernel
theorem dX5_hundredthsY_14 : decode cX5_hundredthsY 14 = .ok (.ireturn, 1) := by decide +kernel
def mX5_hundredthsY : MM := (yX5_hundredthsY, cX5_hundredthsY, 3, Option.some Jvm.ClassFile.FieldType.int, { frames := 1, cells := 0, slots := 0, locals := 23 })
def fX5_hundredthsY (σ0 : SS) (a1 : Int32) (a2 : Int32) : Option Int32 :=
  bnd1 (fX5_weighed σ0 50 a1 a2) fun w3 =>
  bnd1 (fX5_hundredths σ0 w3) fun v4 =>
  some v4

set_option maxRecDepth 20000 in
theorem sX5_hundredthsY {g : GG} {σ0 : SS} {a1 : Int32} {a2 : Int32} {r : Int32} (hr : fX5_hundredthsY σ0 a1 a2 = some r)  : Ct g mX5_hundredthsY [.ref (ad g 45), .int a1, .int a2] NF σ0 (some (.int r)) NF σ0 := by
  refine Ct.of (by decide +kernel) (nle rfl) fun hw0 => ?_
  have hw := hw0 rfl
  unfold fX5_hundredthsY at hr
  change RR g mX5_hundredthsY (FinR g mX5_hundredthsY (some (.int r)) NF σ0) zF 0 [(0, .ref (ad g 45)), (1, .int a1), (2, .int a2)] [] σ0
  refine r_aload_n (pc := 0) (j := 0) dX5_hundredthsY_0 rfl rfl ?_
  refine r_aload_n (pc := 1) (j := 0) dX5_hundredthsY_1 rfl rfl ?_
  refine r_aload_n (pc := 2) (j := 0) dX5_hundredthsY_2 rfl rfl ?_
  refine gf5_4 (pc := 3) tw_1_238 hw dX5_hundredthsY_3 ?_
  refine r_iload_n (pc := 6) (j := 1) dX5_hundredthsY_6 rfl rfl ?_
  refine r_iload_n (pc := 7) (j := 2) dX5_hundredthsY_7 rfl rfl ?_
  obtain ⟨w3, hw3, hr⟩ := bnd1_inv hr
  refine kX5_weighed (pc := 8) hw3 rfl tw_3_31 ⟨nle rfl, nle rfl⟩ (nle rfl) dX5_hundredthsY_8 ?_
  obtain ⟨v4, hv4, hr⟩ := bnd1_inv hr
  refine kX5_hundredths (pc := 11) hv4 tw_4_140 ⟨nle rfl, nle rfl⟩ (nle rfl) dX5_hundredthsY_11 ?_
  exact l_opi hr (r_iret (pc := 14) (v := v4) rfl rfl ⟨Nat.le_refl _, Nat.le_refl _⟩ dX5_hundredthsY_14)

theorem kX5_hundredthsY {g : GG} {σ0 : SS} {a1 : Int32} {a2 : Int32} {v : Int32} {M : MM} {F : State → Array Value → List Frame → State → Prop} {pc index : Nat} {ls : List (Nat × Value)} {rest : List Value} (hf : fX5_hundredthsY σ0 a1 a2 = some v)  (hl : Cond.methodLink M.1.cls index yX5_hundredthsY ∈ lw_gt) (hR : mX5_hundredthsY.2.2.2.2.frames + 1 ≤ M.2.2.2.2.frames ∧ 8 + (mX5_hundredthsY.2.2.1 + 11) + mX5_hundredthsY.2.2.2.2.locals ≤ M.2.2.2.2.locals) (hrest : (rest.map fun v => v.category).sum ≤ 8) (hd : decode M.2.1 pc = .ok (.invokevirtual index, 3)) (k : RR g M F zF (pc + 3) ls (.int v :: rest) σ0) : RR g M F zF pc ls (.int a2 :: .int a1 :: .ref (ad g 45) :: rest) σ0 :=
  r_callV (z := zF) (N := mX5_hundredthsY) (nn := 2) (o1 := some (.int v)) (sX5_hundredthsY hf ) (rfl : shp 45 = (5, 0)) (by decide) (shp_le (rfl : shp 45 = (5, 0)) (nle rfl)) (ci := 5) rfl rfl tw_4_148 tw_1_7 hl tw_4_146 tw_4_147 ⟨by decide, by decide, rfl⟩ hR rfl hrest hd ⟨Nat.zero_le _, Nat.zero_le _⟩ rfl (fun h => k)

theorem dX7_map_0 : decode cX7_map 0 = .ok (.aload_n 0, 1) := by decide +kernel
theorem dX7_map_1 : decode cX7_map 1 = .ok (.getfield 32, 3) := by decide +kernel
theorem dX7_map_4 : decode cX7_map 4 = .ok (.getfield 274, 3) := by decide +kernel
theorem dX7_map_7 : decode cX7_map 7 = .ok (.ifCond .eq 12, 3) := by decide +kernel
theorem dX7_map_10 : decode cX7_map 10 = .ok (.iload_n 3, 1) := by decide +kernel
theorem dX7_map_11 : decode cX7_map 11 = .ok (.ifCond .lt 8, 3) := by decide +kernel
theorem dX7_map_14 : decode cX7_map 14 = .ok (.iload_n 3, 1) := by decide +kernel
theorem dX7_map_15 : decode cX7_map 15 = .ok (.iconst 3, 1) := by decide +kernel
theorem dX7_map_16 : decode cX7_map 16 = .ok (.if_icmp .le 5, 3) := by decide +kernel
theorem dX7_map_19 : decode cX7_map 19 = .ok (.iconst (-1), 1) := by decide +kernel
theorem dX7_map_20 : decode cX7_map 20 = .ok (.ireturn, 1) := by decide +kernel
theorem dX7_map_21 : decode cX7_map 21 = .ok (.iload_n 1, 1) := by decide +kernel
theorem dX7_map_22 : decode cX7_map 22 = .ok (.ifCond .lt 33, 3) := by decide +kernel
theorem dX7_map_25 : decode cX7_map 25 = .ok (.iload_n 1, 1) := by decide +kernel
theorem dX7_map_26 : decode cX7_map 26 = .ok (.iconst 2, 1) := by decide +kernel
theorem dX7_map_27 : decode cX7_map 27 = .ok (.aload_n 0, 1) := by decide +kernel
theorem dX7_map_28 : decode cX7_map 28 = .ok (.getfield 32, 3) := by decide +kernel
theorem dX7_map_31 : decode cX7_map 31 = .ok (.getfield 109, 3) := by decide +kernel
theorem dX7_map_34 : decode cX7_map 34 = .ok (.imul, 1) := by decide +kernel
theorem dX7_map_35 : decode cX7_map 35 = .ok (.if_icmp .gt 20, 3) := by decide +kernel
theorem dX7_map_38 : decode cX7_map 38 = .ok (.iload_n 2, 1) := by decide +kernel
theorem dX7_map_39 : decode cX7_map 39 = .ok (.ifCond .lt 16, 3) := by decide +kernel
theorem dX7_map_42 : decode cX7_map 42 = .ok (.iload_n 2, 1) := by decide +kernel
theorem dX7_map_43 : decode cX7_map 43 = .ok (.iconst 2, 1) := by decide +kernel
theorem dX7_map_44 : decode cX7_map 44 = .ok (.aload_n 0, 1) := by decide +kernel
theorem dX7_map_45 : decode cX7_map 45 = .ok (.getfield 32, 3) := by decide +kernel
theorem dX7_map_48 : decode cX7_map 48 = .ok (.getfield 110, 3) := by decide +kernel
theorem dX7_map_51 : decode cX7_map 51 = .ok (.imul, 1) := by decide +kernel
theorem dX7_map_52 : decode cX7_map 52 = .ok (.if_icmp .le 5, 3) := by decide +kernel
theorem dX7_map_55 : decode cX7_map 55 = .ok (.iconst (-1), 1) := by decide +kernel
theorem dX7_map_56 : decode cX7_map 56 = .ok (.ireturn, 1) := by decide +kernel
theorem dX7_map_57 : decode cX7_map 57 = .ok (.aload_n 0, 1) := by decide +kernel
theorem dX7_map_58 : decode cX7_map 58 = .ok (.getfield 62, 3) := by decide +kernel
theorem dX7_map_61 : decode cX7_map 61 = .ok (.aload_n 0, 1) := by decide +kernel
theorem dX7_map_62 : decode cX7_map 62 = .ok (.getfield 18, 3) := by decide +kernel
theorem dX7_map_65 : decode cX7_map 65 = .ok (.invokevirtual 252, 3) := by decide +kernel
theorem dX7_map_68 : decode cX7_map 68 = .ok (.ifCond .ne 6, 3) := by decide +kernel
theorem dX7_map_71 : decode cX7_map 71 = .ok (.bipush (-2), 2) := by decide +kernel
theorem dX7_map_73 : decode cX7_map 73 = .ok (.ireturn, 1) := by decide +kernel
theorem dX7_map_74 : decode cX7_map 74 = .ok (.aload_n 0, 1) := by decide +kernel
theorem dX7_map_75 : decode cX7_map 75 = .ok (.getfield 62, 3) := by decide +kernel
theorem dX7_map_78 : decode cX7_map 78 = .ok (.getfield 259, 3) := by decide +kernel
theorem dX7_map_81 : decode cX7_map 81 = .ok (.astore 4, 2) := by decide +kernel
theorem dX7_map_83 : decode cX7_map 83 = .ok (.aload 4, 2) := by decide +kernel
theorem dX7_map_85 : decode cX7_map 85 = .ok (.aload_n 0, 1) := by decide +kernel
theorem dX7_map_86 : decode cX7_map 86 = .ok (.getfield 32, 3) := by decide +kernel
theorem dX7_map_89 : decode cX7_map 89 = .ok (.getfield 109, 3) := by decide +kernel
theorem dX7_map_92 : decode cX7_map 92 = .ok (.aload_n 0, 1) := by decide +kernel
theorem dX7_map_93 : decode cX7_map 93 = .ok (.getfield 32, 3) := by decide +kernel
theorem dX7_map_96 : decode cX7_map 96 = .ok (.getfield 110, 3) := by decide +kernel
theorem dX7_map_99 : decode cX7_map 99 = .ok (.invokevirtual 277, 3) := by decide +kernel
theorem dX7_map_102 : decode cX7_map 102 = .ok (.iload_n 3, 1) := by decide +kernel
theorem dX7_map_103 : decode cX7_map 103 = .ok (.tableswitch 49 0 2 #[25, 33, 41], 25) := by decide +kernel
theorem dX7_map_128 : decode cX7_map 128 = .ok (.aload 4, 2) := by decide +kernel
theorem dX7_map_130 : decode cX7_map 130 = .ok (.iload_n 1, 1) := by decide +kernel
theorem dX7_map_131 : decode cX7_map 131 = .ok (.iload_n 2, 1) := by decide +kernel
theorem dX7_map_132 : decode cX7_map 132 = .ok (.invokevirtual 280, 3) := by decide +kernel
theorem dX7_map_135 : decode cX7_map 135 = .ok (.ireturn, 1) := by decide +kernel
theorem dX7_map_136 : decode cX7_map 136 = .ok (.aload 4, 2) := by decide +kernel
theorem dX7_map_138 : decode cX7_map 138 = .ok (.iload_n 1, 1) := by decide +kernel
theorem dX7_map_139 : decode cX7_map 139 = .ok (.iload_n 2, 1) := by decide +kernel
theorem dX7_map_140 : decode cX7_map 140 = .ok (.invokevirtual 283, 3) := by decide +kernel
theorem dX7_map_143 : decode cX7_map 143 = .ok (.ireturn, 1) := by decide +kernel
theorem dX7_map_144 : decode cX7_map 144 = .ok (.aload 4, 2) := by decide +kernel
theorem dX7_map_146 : decode cX7_map 146 = .ok (.iload_n 1, 1) := by decide +kernel
theorem dX7_map_147 : decode cX7_map 147 = .ok (.iload_n 2, 1) := by decide +kernel
theorem dX7_map_148 : decode cX7_map 148 = .ok (.invokevirtual 286, 3) := by decide +kernel
theorem dX7_map_151 : decode cX7_map 151 = .ok (.ireturn, 1) := by decide +kernel
theorem dX7_map_152 : decode cX7_map 152 = .ok (.aload 4, 2) := by decide +kernel
theorem dX7_map_154 : decode cX7_map 154 = .ok (.iload_n 1, 1) := by decide +kernel
theorem dX7_map_155 : decode cX7_map 155 = .ok (.iload_n 2, 1) := by decide +kernel
theorem dX7_map_156 : decode cX7_map 156 = .ok (.invokevirtual 289, 3) := by decide +kernel
theorem dX7_map_159 : decode cX7_map 159 = .ok (.ireturn, 1) := by decide +kernel
def mX7_map : MM := (yX7_map, cX7_map, 5, Option.some Jvm.ClassFile.FieldType.int, { frames := 4, cells := 0, slots := 0, locals := 102 })
def fX7_map (σ : SS) (a1 : Int32) (a2 : Int32) (a3 : Int32) : Option (Int32 × SS) :=
  if (gI σ (gR σ 1 5) 0) = 0 then (
    some ((-1 : Int32), σ)
    ) else (
    if a3 < 0 then (
      some ((-1 : Int32), σ)
      ) else (
      if a3 ≤ (3 : Int32) then (
        if a1 < 0 then (
          some ((-1 : Int32), σ)
          ) else (
          if ((2 : Int32) * (gI σ (gR σ 1 5) 1)) < a1 then (
            some ((-1 : Int32), σ)
            ) else (
            if a2 < 0 then (
              some ((-1 : Int32), σ)
              ) else (
              if a2 ≤ ((2 : Int32) * (gI σ (gR σ 1 5) 2)) then (
                bnd (fX3_locate σ (gR σ 1 2)) fun b2 σ4 =>
                if b2 = true then (
                  bnd1 (fX5_spread σ4 (gI σ4 (gR σ4 1 5) 1) (gI σ4 (gR σ4 1 5) 2)) fun σ5 =>
                  if a3 = (0 : Int32) then (
                    bnd1 (fX5_dotX σ5 a1 a2) fun v6 =>
                    some (v6, σ5)
                    ) else
                  if a3 = (1 : Int32) then (
                    bnd1 (fX5_dotY σ5 a1 a2) fun v9 =>
                    some (v9, σ5)
                    ) else
                  if a3 = (2 : Int32) then (
                    bnd1 (fX5_hundredthsX σ5 a1 a2) fun v12 =>
                    some (v12, σ5)
                    ) else
                  bnd1 (fX5_hundredthsY σ5 a1 a2) fun v15 =>
                  some (v15, σ5)
                  ) else (
                  some ((-2 : Int32), σ4)
                  )
                ) else (
                some ((-1 : Int32), σ)
                )
              )
            )
          )
        ) else (
        some ((-1 : Int32), σ)
        )
      )
    )

set_option maxRecDepth 20000 in
theorem sX7_map {g : GG} {σ : SS} {a1 : Int32} {a2 : Int32} {a3 : Int32} {r : Int32 × SS} (hr : fX7_map σ a1 a2 a3 = some r)  : Ct g mX7_map [.ref (ad g 1), .int a1, .int a2, .int a3] NF σ (some (.int r.1)) NF r.2 := by
  refine Ct.of (by decide +kernel) (nle rfl) fun hw0 => ?_
  have hw := hw0 rfl
  unfold fX7_map at hr
  change RR g mX7_map (FinR g mX7_map (some (.int r.1)) NF r.2) zF 0 [(0, .ref (ad g 1)), (1, .int a1), (2, .int a2), (3, .int a3)] [] σ
  refine r_aload_n (pc := 0) (j := 0) dX7_map_0 rfl rfl ?_
  refine gf7_5 (pc := 1) tw_2_108 hw dX7_map_1 ?_
  refine gf1_0 (pc := 4) tw_1_60 (wt_fo hw).1 dX7_map_4 ?_
  refine r_if_eq (pc := 7) (tgt := 19) dX7_map_7 rfl (fun hc => ?_) (fun hc => ?_)
  · replace hr := ite_t hc hr
    refine r_iconst (pc := 19) (v := (-1 : Int32)) dX7_map_19 rfl ?_
    exact l_osi hr (r_iret (pc := 20) (v := (-1 : Int32)) rfl rfl ⟨Nat.le_refl _, Nat.le_refl _⟩ dX7_map_20)
  replace hr := ite_f hc hr
  refine r_iload_n (pc := 10) (j := 3) dX7_map_10 rfl rfl ?_
  refine r_if_lt (pc := 11) (tgt := 19) dX7_map_11 rfl (fun hc => ?_) (fun hc => ?_)
  · replace hr := ite_t hc hr
    refine r_iconst (pc := 19) (v := (-1 : Int32)) dX7_map_19 rfl ?_
    exact l_osi hr (r_iret (pc := 20) (v := (-1 : Int32)) rfl rfl ⟨Nat.le_refl _, Nat.le_refl _⟩ dX7_map_20)
  replace hr := ite_f hc hr
  refine r_iload_n (pc := 14) (j := 3) dX7_map_14 rfl rfl ?_
  refine r_iconst (pc := 15) (v := (3 : Int32)) dX7_map_15 rfl ?_
  refine r_icmp_le (pc := 16) (tgt := 21) dX7_map_16 rfl (fun hc => ?_) (fun hc => ?_)
  · replace hr := ite_t hc hr
    refine r_iload_n (pc := 21) (j := 1) dX7_map_21 rfl rfl ?_
    refine r_if_lt (pc := 22) (tgt := 55) dX7_map_22 rfl (fun hc => ?_) (fun hc => ?_)
    · replace hr := ite_t hc hr
      refine r_iconst (pc := 55) (v := (-1 : Int32)) dX7_map_55 rfl ?_
      exact l_osi hr (r_iret (pc := 56) (v := (-1 : Int32)) rfl rfl ⟨Nat.le_refl _, Nat.le_refl _⟩ dX7_map_56)
    replace hr := ite_f hc hr
    refine r_iload_n (pc := 25) (j := 1) dX7_map_25 rfl rfl ?_
    refine r_iconst (pc := 26) (v := (2 : Int32)) dX7_map_26 rfl ?_
    refine r_aload_n (pc := 27) (j := 0) dX7_map_27 rfl rfl ?_
    refine gf7_5 (pc := 28) tw_2_108 hw dX7_map_28 ?_
    refine gf1_1 (pc := 31) tw_1_64 (wt_fo hw).1 dX7_map_31 ?_
    refine r_imul (pc := 34) dX7_map_34 ?_
    refine r_icmp_gt (pc := 35) (tgt := 55) dX7_map_35 rfl (fun hc => ?_) (fun hc => ?_)
    · replace hr := ite_t hc hr
      refine r_iconst (pc := 55) (v := (-1 : Int32)) dX7_map_55 rfl ?_
      exact l_osi hr (r_iret (pc := 56) (v := (-1 : Int32)) rfl rfl ⟨Nat.le_refl _, Nat.le_refl _⟩ dX7_map_56)
    replace hr := ite_f hc hr
    refine r_iload_n (pc := 38) (j := 2) dX7_map_38 rfl rfl ?_
    refine r_if_lt (pc := 39) (tgt := 55) dX7_map_39 rfl (fun hc => ?_) (fun hc => ?_)
    · replace hr := ite_t hc hr
      refine r_iconst (pc := 55) (v := (-1 : Int32)) dX7_map_55 rfl ?_
      exact l_osi hr (r_iret (pc := 56) (v := (-1 : Int32)) rfl rfl ⟨Nat.le_refl _, Nat.le_refl _⟩ dX7_map_56)
    replace hr := ite_f hc hr
    refine r_iload_n (pc := 42) (j := 2) dX7_map_42 rfl rfl ?_
    refine r_iconst (pc := 43) (v := (2 : Int32)) dX7_map_43 rfl ?_
    refine r_aload_n (pc := 44) (j := 0) dX7_map_44 rfl rfl ?_
    refine gf7_5 (pc := 45) tw_2_108 hw dX7_map_45 ?_
    refine gf1_2 (pc := 48) tw_1_68 (wt_fo hw).1 dX7_map_48 ?_
    refine r_imul (pc := 51) dX7_map_51 ?_
    refine r_icmp_le (pc := 52) (tgt := 57) dX7_map_52 rfl (fun hc => ?_) (fun hc => ?_)
    · replace hr := ite_t hc hr
      refine r_aload_n (pc := 57) (j := 0) dX7_map_57 rfl rfl ?_
      refine gf7_12 (pc := 58) tw_2_115 hw dX7_map_58 ?_
      refine r_aload_n (pc := 61) (j := 0) dX7_map_61 rfl rfl ?_
      refine gf7_2 (pc := 62) tw_2_105 hw dX7_map_62 ?_
      obtain ⟨b2, σ4, eσ4, hr⟩ := bnd_inv hr
      refine kX3_locate (pc := 65) eσ4 (wt_sc hw).1 tw_2_204 ⟨nle rfl, nle rfl⟩ (nle rfl) dX7_map_65 fun hσ4 => ?_
      refine r_ifB_ne (pc := 68) (tgt := 74) dX7_map_68 rfl (fun hc => ?_) (fun hc => ?_)
      · replace hr := ite_t hc hr
        refine r_aload_n (pc := 74) (j := 0) dX7_map_74 rfl rfl ?_
        refine gf7_12 (pc := 75) tw_2_115 hσ4 dX7_map_75 ?_
        refine gf3_3 (pc := 78) tw_2_27 hσ4 dX7_map_78 ?_
        refine r_astore (pc := 81) (ls1 := [(4, .ref (ad g 45)), (0, .ref (ad g 1)), (1, .int a1), (2, .int a2), (3, .int a3)]) dX7_map_81 (nle rfl) rfl ?_
        refine r_aload (pc := 83) (j := 0) dX7_map_83 rfl ?_
        refine r_aload_n (pc := 85) (j := 1) dX7_map_85 rfl rfl ?_
        refine gf7_5 (pc := 86) tw_2_108 hσ4 dX7_map_86 ?_
        refine gf1_1 (pc := 89) tw_1_64 (wt_fo hσ4).1 dX7_map_89 ?_
        refine r_aload_n (pc := 92) (j := 1) dX7_map_92 rfl rfl ?_
        refine gf7_5 (pc := 93) tw_2_108 hσ4 dX7_map_93 ?_
        refine gf1_2 (pc := 96) tw_1_68 (wt_fo hσ4).1 dX7_map_96 ?_
        obtain ⟨σ5, eσ5, hr⟩ := bnd1_inv hr
        refine kX5_spread (pc := 99) eσ5 tw_3_95 ⟨nle rfl, nle rfl⟩ (nle rfl) dX7_map_99 fun hσ5 => ?_
        refine r_iload_n (pc := 102) (j := 4) dX7_map_102 rfl rfl ?_
        by_cases hc0 : a3 = (0 : Int32)
        · replace hr := ite_t hc0 hr
          refine r_tabIn (pc := 103) (off := 25) (tgt := 128) dX7_map_103 (by rw [hc0]; decide) (by rw [hc0]; decide) (by rw [hc0]; rfl) rfl ?_
          refine r_aload (pc := 128) (j := 0) dX7_map_128 rfl ?_
          refine r_iload_n (pc := 130) (j := 2) dX7_map_130 rfl rfl ?_
          refine r_iload_n (pc := 131) (j := 3) dX7_map_131 rfl rfl ?_
          obtain ⟨v6, hv6, hr⟩ := bnd1_inv hr
          refine kX5_dotX (pc := 132) hv6 tw_3_100 ⟨nle rfl, nle rfl⟩ (nle rfl) dX7_map_132 ?_
          exact l_osi hr (r_iret (pc := 135) (v := v6) rfl rfl ⟨Nat.le_refl _, Nat.le_refl _⟩ dX7_map_135)
        replace hr := ite_f hc0 hr
        by_cases hc1 : a3 = (1 : Int32)
        · replace hr := ite_t hc1 hr
          refine r_tabIn (pc := 103) (off := 33) (tgt := 136) dX7_map_103 (by rw [hc1]; decide) (by rw [hc1]; decide) (by rw [hc1]; rfl) rfl ?_
          refine r_aload (pc := 136) (j := 0) dX7_map_136 rfl ?_
          refine r_iload_n (pc := 138) (j := 2) dX7_map_138 rfl rfl ?_
          refine r_iload_n (pc := 139) (j := 3) dX7_map_139 rfl rfl ?_
          obtain ⟨v9, hv9, hr⟩ := bnd1_inv hr
          refine kX5_dotY (pc := 140) hv9 tw_3_101 ⟨nle rfl, nle rfl⟩ (nle rfl) dX7_map_140 ?_
          exact l_osi hr (r_iret (pc := 143) (v := v9) rfl rfl ⟨Nat.le_refl _, Nat.le_refl _⟩ dX7_map_143)
        replace hr := ite_f hc1 hr
        by_cases hc2 : a3 = (2 : Int32)
        · replace hr := ite_t hc2 hr
          refine r_tabIn (pc := 103) (off := 41) (tgt := 144) dX7_map_103 (by rw [hc2]; decide) (by rw [hc2]; decide) (by rw [hc2]; rfl) rfl ?_
          refine r_aload (pc := 144) (j := 0) dX7_map_144 rfl ?_
          refine r_iload_n (pc := 146) (j := 2) dX7_map_146 rfl rfl ?_
          refine r_iload_n (pc := 147) (j := 3) dX7_map_147 rfl rfl ?_
          obtain ⟨v12, hv12, hr⟩ := bnd1_inv hr
          refine kX5_hundredthsX (pc := 148) hv12 tw_4_136 ⟨nle rfl, nle rfl⟩ (nle rfl) dX7_map_148 ?_
          exact l_osi hr (r_iret (pc := 151) (v := v12) rfl rfl ⟨Nat.le_refl _, Nat.le_refl _⟩ dX7_map_151)
        replace hr := ite_f hc2 hr
        refine r_tabOut (pc := 103) (tgt := 152) dX7_map_103 (tab_out (by decide) (by decide) fun k h1 h2 => ?_) rfl ?_
        · rcases (show k = 0 ∨ k = 1 ∨ k = 2 by omega) with rfl | rfl | rfl
          · exact hc0
          · exact hc1
          · exact hc2
        refine r_aload (pc := 152) (j := 0) dX7_map_152 rfl ?_
        refine r_iload_n (pc := 154) (j := 2) dX7_map_154 rfl rfl ?_
        refine r_iload_n (pc := 155) (j := 3) dX7_map_155 rfl rfl ?_
        obtain ⟨v15, hv15, hr⟩ := bnd1_inv hr
        refine kX5_hundredthsY (pc := 156) hv15 tw_4_145 ⟨nle rfl, nle rfl⟩ (nle rfl) dX7_map_156 ?_
        exact l_osi hr (r_iret (pc := 159) (v := v15) rfl rfl ⟨Nat.le_refl _, Nat.le_refl _⟩ dX7_map_159)
      replace hr := ite_f hc hr
      refine r_bipush (pc := 71) (v := (-2 : Int32)) dX7_map_71 rfl ?_
      exact l_osi hr (r_iret (pc := 73) (v := (-2 : Int32)) rfl rfl ⟨Nat.le_refl _, Nat.le_refl _⟩ dX7_map_73)
    replace hr := ite_f hc hr
    refine r_iconst (pc := 55) (v := (-1 : Int32)) dX7_map_55 rfl ?_
    exact l_osi hr (r_iret (pc := 56) (v := (-1 : Int32)) rfl rfl ⟨Nat.le_refl _, Nat.le_refl _⟩ dX7_map_56)
  replace hr := ite_f hc hr
  refine r_iconst (pc := 19) (v := (-1 : Int32)) dX7_map_19 rfl ?_
  exact l_osi hr (r_iret (pc := 20) (v := (-1 : Int32)) rfl rfl ⟨Nat.le_refl _, Nat.le_refl _⟩ dX7_map_20)

theorem kX7_map {g : GG} {σ : SS} {a1 : Int32} {a2 : Int32} {a3 : Int32} {v : Int32} {σ2 : SS} {M : MM} {F : State → Array Value → List Frame → State → Prop} {pc index : Nat} {ls : List (Nat × Value)} {rest : List Value} (hf : fX7_map σ a1 a2 a3 = some (v, σ2))  (hl : Cond.methodLink M.1.cls index yX7_map ∈ lw_gt) (hR : mX7_map.2.2.2.2.frames + 1 ≤ M.2.2.2.2.frames ∧ 8 + (mX7_map.2.2.1 + 11) + mX7_map.2.2.2.2.locals ≤ M.2.2.2.2.locals) (hrest : (rest.map fun v => v.category).sum ≤ 8) (hd : decode M.2.1 pc = .ok (.invokevirtual index, 3)) (k : WT σ2 → RR g M F zF (pc + 3) ls (.int v :: rest) σ2) : RR g M F zF pc ls (.int a3 :: .int a2 :: .int a1 :: .ref (ad g 1) :: rest) σ :=
  r_callV (z := zF) (N := mX7_map) (nn := 3) (o1 := some (.int v)) (sX7_map hf ) (rfl : shp 1 = (7, 0)) (by decide) (shp_le (rfl : shp 1 = (7, 0)) (nle rfl)) (ci := 7) rfl rfl tw_4_135 tw_1_1 hl tw_4_133 tw_4_134 ⟨by decide, by decide, rfl⟩ hR rfl hrest hd ⟨Nat.zero_le _, Nat.zero_le _⟩ rfl (fun h => k (h rfl))

