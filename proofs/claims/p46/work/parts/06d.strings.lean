/-! The six words of the form's text, as String constants that nobody writes. -/
def stLen (i : Nat) : Int32 := nI (stL.getD i 0)
def stCh (i j : Nat) : Int32 := (stB.getD i []).getD j 0
theorem kS {g : GG} {s : State} (o : Ko g s) : vk_S 6 stL stB (fun i => ad g (1010 + i)) (fun i => ad g (1020 + i)) (AA g) s s.heap := o.2.2.2.2.1
section ROWS8
variable {g : GG} {M : MM} {F : State → Array Value → List Frame → State → Prop} {z : Nat × Nat × Nat} {pc index : Nat} {ls : List (Nat × Value)} {rest : List Value} {σ : SS} {i : Nat}
theorem r_sval (hi : i < 6) (hl : Cond.fieldLink M.1.cls index "java/lang/String" "value" "[B" ∈ lw_gt) (hd : decode M.2.1 pc = .ok (.getfield index, 3)) (k : RR g M F z (pc + 3) ls (.ref (ad g (1020 + i)) :: rest) σ) : RR g M F z pc ls (.ref (ad g (1010 + i)) :: rest) σ :=
  fun _ _ _ _ _ _ _ _ _ _ _ C w o v a l => vk_getf C.1 C.2.1 ((kS o).1 i hi).2.2.1 v C.2.2.2.1 (C.2.2.2.2.1 _ hl) (fun _ h => h) hd (k _ _ _ _ _ _ _ _ _ _ _ C w o v a l)
theorem r_scod (hi : i < 6) (hl : Cond.fieldLink M.1.cls index "java/lang/String" "coder" "B" ∈ lw_gt) (hd : decode M.2.1 pc = .ok (.getfield index, 3)) (k : RR g M F z (pc + 3) ls (.int 0 :: rest) σ) : RR g M F z pc ls (.ref (ad g (1010 + i)) :: rest) σ :=
  fun _ _ _ _ _ _ _ _ _ _ _ C w o v a l => vk_getf C.1 C.2.1 ((kS o).1 i hi).2.1 v C.2.2.2.1 (C.2.2.2.2.1 _ hl) (fun _ h => h) hd (k _ _ _ _ _ _ _ _ _ _ _ C w o v a l)
theorem r_sarl (hi : i < 6) (hd : decode M.2.1 pc = .ok (.arraylength, 1)) (k : RR g M F z (pc + 1) ls (.int (stLen i) :: rest) σ) : RR g M F z pc ls (.ref (ad g (1020 + i)) :: rest) σ :=
  fun _ _ _ _ _ _ _ _ _ _ _ C w o v a l => va_tlen C.1 C.2.1 ((kS o).1 i hi).2.2.2 v rfl hd (k _ _ _ _ _ _ _ _ _ _ _ C w o v a l)
theorem r_sbald {j : Int32} (hi : i < 6) (hj : inb j (stL.getD i 0) = true) (hd : decode M.2.1 pc = .ok (.baload, 1)) (k : RR g M F z (pc + 1) ls (.int (stCh i j.toNatClampNeg) :: rest) σ) : RR g M F z pc ls (.int j :: .ref (ad g (1020 + i)) :: rest) σ :=
  fun _ _ _ _ _ _ _ _ _ _ _ C w o v a l => va_tb C.1 C.2.1 ((kS o).1 i hi).2.2.2 v (inb_vp hj) rfl hd (k _ _ _ _ _ _ _ _ _ _ _ C w o v a l)
theorem r_getcs (hl : Cond.fieldLink M.1.cls index "java/lang/String" "COMPACT_STRINGS" "Z" ∈ lw_gt) (hd : decode M.2.1 pc = .ok (.getstatic index, 3)) (k : RR g M F z (pc + 3) ls (.int 1 :: rest) σ) : RR g M F z pc ls rest σ :=
  r_gets (fun _ o => o.2.2.2.2.2.2.1) hl hd k
theorem r_getsf (hl : Cond.fieldLink M.1.cls index "jdk/internal/util/Preconditions" "SIOOBE_FORMATTER" "Ljava/util/function/BiFunction;" ∈ lw_gt) (hd : decode M.2.1 pc = .ok (.getstatic index, 3)) (k : ∀ v : Value, v.category = 1 → RR g M F z (pc + 3) ls (v :: rest) σ) : RR g M F z pc ls rest σ := by
  intro p e s m args below meth c H locs lsA C w o v a l
  rcases o.2.2.2.2.2.2.2.1 with h | ⟨t, h⟩
  · exact va_gets C.1 C.2.1 h v C.2.2.2.1 (C.2.2.2.2.1 _ hl) (fun _ h => h) hd (k _ rfl _ _ _ _ _ _ _ _ _ _ _ C w o v a l)
  · exact va_gets C.1 C.2.1 h v C.2.2.2.1 (C.2.2.2.2.1 _ hl) (fun _ h => h) hd (k _ rfl _ _ _ _ _ _ _ _ _ _ _ C w o v a l)
theorem r_ldcs (i : Nat) (hi : i < 6) (ho : M.1.cls = "SheetReader$FormText") (hd : decode M.2.1 pc = .ok (.ldc (stK i), 2)) (k : RR g M F z (pc + 2) ls (.ref (ad g (1010 + i)) :: rest) σ) : RR g M F z pc ls rest σ :=
  fun _ _ _ _ _ _ _ _ _ _ _ C w o v a l => va_ldcS C.1 C.2.1 (own := "SheetReader$FormText") (by rw [← ho]; exact C.2.2.2.1) (o.2.2.2.2.2.1 i hi) hd (k _ _ _ _ _ _ _ _ _ _ _ C w o v a l)
theorem r_i2c {x v : Int32} (hd : decode M.2.1 pc = .ok (.i2c, 1)) (hv : (x.toUInt32 % 65536).toInt32 = v) (k : RR g M F z (pc + 1) ls (.int v :: rest) σ) : RR g M F z pc ls (.int x :: rest) σ := fun _ _ _ _ _ _ _ _ _ _ _ C w o v a l => lv_i2c C.1 C.2.1 hd hv (k _ _ _ _ _ _ _ _ _ _ _ C w o v a l)
/-- a method of a String constant -/
theorem r_callO {N : MM} {As : List Value} {nn n1 : Nat} {o1 : Option Value} {σ1 : SS} (hM : Ct g N (.ref (ad g (1010 + i)) :: As) z.1 σ o1 n1 σ1) (hi : i < 6) (hC : N.1.cls = "java/lang/String")
    (hcode : Cond.code N.1 N.2.1 N.2.2.1 N.2.2.2.1 ∈ lw_gt) (hini : Cond.initialized N.1.cls ∈ lw_gt) (hl : Cond.methodLink M.1.cls index N.1 ∈ lw_gt) (hin : Cond.instanceMethod N.1 ∈ lw_gt) (hse : Cond.selects N.1.cls N.1 N.1 ∈ lw_gt)
    (hd0 : N.1.cls ≠ "java/lang/invoke/MethodHandle" ∧ N.1.cls ≠ "java/lang/invoke/VarHandle" ∧ (parseMethodDescriptor N.1.desc).map (fun d => d.parameters.length) = some nn) (hR : N.2.2.2.2.frames + 1 ≤ M.2.2.2.2.frames ∧ 8 + (N.2.2.1 + 11) + N.2.2.2.2.locals ≤ M.2.2.2.2.locals)
    (hnn : As.length = nn) (hrest : (rest.map fun v => v.category).sum ≤ 8) (hd : decode M.2.1 pc = .ok (.invokevirtual index, 3)) (hf : z.2.1 + N.2.2.2.2.cells ≤ M.2.2.2.2.cells ∧ z.2.2 + N.2.2.2.2.slots ≤ M.2.2.2.2.slots) {st0 : List Value} (hst : st0 = As.reverse ++ .ref (ad g (1010 + i)) :: rest)
    (k : (n1 = NF → WT σ1) → RR g M F (n1, z.2.1 + N.2.2.2.2.cells, z.2.2 + N.2.2.2.2.slots) (pc + 3) ls (o1.toList ++ rest) σ1) : RR g M F z pc ls st0 σ := by
  subst hst
  intro p e s m args below meth c H locs lsA C w o v a l
  refine r_after (N := N) (rest := rest) (a := (Value.ref (ad g (1010 + i)) :: As).toArray) (va_runV (As := As) (b := ad g (1010 + i)) (C := N.1.cls) (nL := M.2.2.1) (rest := rest) (⟨C.1, C.2.1, C.2.2.1, C.2.2.2.1, C.2.2.2.2.1⟩ : CallFix p m c M.2.1 M.2.2.1 s args lw_gt M.1.cls) hM ⟨call_b C.2.2.2.2.1 hcode hini hl hd0 hR, C.2.2.2.2.1 _ hin, C.2.2.2.2.1 _ hse⟩ ⟨ct_blind, ?_, fun U hU hW => ⟨rfl, ct_pre w o v a U hU hW⟩⟩ rfl hnn l.1 rfl ?_ hd hf) C o v a l k
  · rw [hC]; exact vk_recv (i := i) (kS o) hi v
  · exact (Nat.zero_add _).symm ▸ hrest
end ROWS8
def mJ0_coder_7d493 : MM := (yJ0_coder_7d493, cJ0_coder_7d493, 1, some .byte, { frames := 0, cells := 0, slots := 0, locals := 0 })
def mJ0_isLatin1_aae02 : MM := (yJ0_isLatin1_aae02, cJ0_isLatin1_aae02, 1, some .boolean, { frames := 0, cells := 0, slots := 0, locals := 0 })
def mJ0_length_8abf5 : MM := (yJ0_length_8abf5, cJ0_length_8abf5, 1, some .int, { frames := 1, cells := 0, slots := 0, locals := 20 })
def mJ3_checkIndex_8e157 : MM := (yJ3_checkIndex_8e157, cJ3_checkIndex_8e157, 3, some .int, { frames := 0, cells := 0, slots := 0, locals := 0 })
def mJ0_checkIndex_df160 : MM := (yJ0_checkIndex_df160, cJ0_checkIndex_df160, 2, none, { frames := 1, cells := 0, slots := 0, locals := 22 })
def mJ1_charAt_3b067 : MM := (yJ1_charAt_3b067, cJ1_charAt_3b067, 2, some .char, { frames := 2, cells := 0, slots := 0, locals := 43 })
def mJ0_charAt_5068e : MM := (yJ0_charAt_5068e, cJ0_charAt_5068e, 2, some .char, { frames := 3, cells := 0, slots := 0, locals := 64 })
theorem dJ0_coder_7d493_0 : decode cJ0_coder_7d493 0 = .ok (.getstatic 38, 3) := by decide +kernel
theorem dJ0_coder_7d493_3 : decode cJ0_coder_7d493 3 = .ok (.ifCond .eq 10, 3) := by decide +kernel
theorem dJ0_coder_7d493_6 : decode cJ0_coder_7d493 6 = .ok (.aload_n 0, 1) := by decide +kernel
theorem dJ0_coder_7d493_7 : decode cJ0_coder_7d493 7 = .ok (.getfield 15, 3) := by decide +kernel
theorem dJ0_coder_7d493_10 : decode cJ0_coder_7d493 10 = .ok (.goto 4, 3) := by decide +kernel
theorem dJ0_coder_7d493_13 : decode cJ0_coder_7d493 13 = .ok (.iconst 1, 1) := by decide +kernel
theorem dJ0_coder_7d493_14 : decode cJ0_coder_7d493 14 = .ok (.ireturn, 1) := by decide +kernel
theorem dJ0_isLatin1_aae02_0 : decode cJ0_isLatin1_aae02 0 = .ok (.getstatic 38, 3) := by decide +kernel
theorem dJ0_isLatin1_aae02_3 : decode cJ0_isLatin1_aae02 3 = .ok (.ifCond .eq 14, 3) := by decide +kernel
theorem dJ0_isLatin1_aae02_6 : decode cJ0_isLatin1_aae02 6 = .ok (.aload_n 0, 1) := by decide +kernel
theorem dJ0_isLatin1_aae02_7 : decode cJ0_isLatin1_aae02 7 = .ok (.getfield 15, 3) := by decide +kernel
theorem dJ0_isLatin1_aae02_10 : decode cJ0_isLatin1_aae02 10 = .ok (.ifCond .ne 7, 3) := by decide +kernel
theorem dJ0_isLatin1_aae02_13 : decode cJ0_isLatin1_aae02 13 = .ok (.iconst 1, 1) := by decide +kernel
theorem dJ0_isLatin1_aae02_14 : decode cJ0_isLatin1_aae02 14 = .ok (.goto 4, 3) := by decide +kernel
theorem dJ0_isLatin1_aae02_17 : decode cJ0_isLatin1_aae02 17 = .ok (.iconst 0, 1) := by decide +kernel
theorem dJ0_isLatin1_aae02_18 : decode cJ0_isLatin1_aae02 18 = .ok (.ireturn, 1) := by decide +kernel
theorem dJ0_length_8abf5_0 : decode cJ0_length_8abf5 0 = .ok (.aload_n 0, 1) := by decide +kernel
theorem dJ0_length_8abf5_1 : decode cJ0_length_8abf5 1 = .ok (.getfield 9, 3) := by decide +kernel
theorem dJ0_length_8abf5_4 : decode cJ0_length_8abf5 4 = .ok (.arraylength, 1) := by decide +kernel
theorem dJ0_length_8abf5_5 : decode cJ0_length_8abf5 5 = .ok (.aload_n 0, 1) := by decide +kernel
theorem dJ0_length_8abf5_6 : decode cJ0_length_8abf5 6 = .ok (.invokevirtual 335, 3) := by decide +kernel
theorem dJ0_length_8abf5_9 : decode cJ0_length_8abf5 9 = .ok (.ishr, 1) := by decide +kernel
theorem dJ0_length_8abf5_10 : decode cJ0_length_8abf5 10 = .ok (.ireturn, 1) := by decide +kernel
theorem dJ3_checkIndex_8e157_0 : decode cJ3_checkIndex_8e157 0 = .ok (.iload_n 0, 1) := by decide +kernel
theorem dJ3_checkIndex_8e157_1 : decode cJ3_checkIndex_8e157 1 = .ok (.ifCond .lt 8, 3) := by decide +kernel
theorem dJ3_checkIndex_8e157_4 : decode cJ3_checkIndex_8e157 4 = .ok (.iload_n 0, 1) := by decide +kernel
theorem dJ3_checkIndex_8e157_5 : decode cJ3_checkIndex_8e157 5 = .ok (.iload_n 1, 1) := by decide +kernel
theorem dJ3_checkIndex_8e157_6 : decode cJ3_checkIndex_8e157 6 = .ok (.if_icmp .lt 10, 3) := by decide +kernel
theorem dJ3_checkIndex_8e157_9 : decode cJ3_checkIndex_8e157 9 = .ok (.aload_n 2, 1) := by decide +kernel
theorem dJ3_checkIndex_8e157_10 : decode cJ3_checkIndex_8e157 10 = .ok (.iload_n 0, 1) := by decide +kernel
theorem dJ3_checkIndex_8e157_11 : decode cJ3_checkIndex_8e157 11 = .ok (.iload_n 1, 1) := by decide +kernel
theorem dJ3_checkIndex_8e157_12 : decode cJ3_checkIndex_8e157 12 = .ok (.invokestatic 95, 3) := by decide +kernel
theorem dJ3_checkIndex_8e157_15 : decode cJ3_checkIndex_8e157 15 = .ok (.athrow, 1) := by decide +kernel
theorem dJ3_checkIndex_8e157_16 : decode cJ3_checkIndex_8e157 16 = .ok (.iload_n 0, 1) := by decide +kernel
theorem dJ3_checkIndex_8e157_17 : decode cJ3_checkIndex_8e157 17 = .ok (.ireturn, 1) := by decide +kernel
theorem dJ0_checkIndex_df160_0 : decode cJ0_checkIndex_df160 0 = .ok (.iload_n 0, 1) := by decide +kernel
theorem dJ0_checkIndex_df160_1 : decode cJ0_checkIndex_df160 1 = .ok (.iload_n 1, 1) := by decide +kernel
theorem dJ0_checkIndex_df160_2 : decode cJ0_checkIndex_df160 2 = .ok (.getstatic 1053, 3) := by decide +kernel
theorem dJ0_checkIndex_df160_5 : decode cJ0_checkIndex_df160 5 = .ok (.invokestatic 1059, 3) := by decide +kernel
theorem dJ0_checkIndex_df160_8 : decode cJ0_checkIndex_df160 8 = .ok (.pop, 1) := by decide +kernel
theorem dJ0_checkIndex_df160_9 : decode cJ0_checkIndex_df160 9 = .ok (.return_, 1) := by decide +kernel
theorem dJ1_charAt_3b067_0 : decode cJ1_charAt_3b067 0 = .ok (.iload_n 1, 1) := by decide +kernel
theorem dJ1_charAt_3b067_1 : decode cJ1_charAt_3b067 1 = .ok (.aload_n 0, 1) := by decide +kernel
theorem dJ1_charAt_3b067_2 : decode cJ1_charAt_3b067 2 = .ok (.arraylength, 1) := by decide +kernel
theorem dJ1_charAt_3b067_3 : decode cJ1_charAt_3b067 3 = .ok (.invokestatic 9, 3) := by decide +kernel
theorem dJ1_charAt_3b067_6 : decode cJ1_charAt_3b067 6 = .ok (.aload_n 0, 1) := by decide +kernel
theorem dJ1_charAt_3b067_7 : decode cJ1_charAt_3b067 7 = .ok (.iload_n 1, 1) := by decide +kernel
theorem dJ1_charAt_3b067_8 : decode cJ1_charAt_3b067 8 = .ok (.baload, 1) := by decide +kernel
theorem dJ1_charAt_3b067_9 : decode cJ1_charAt_3b067 9 = .ok (.sipush 255, 3) := by decide +kernel
theorem dJ1_charAt_3b067_12 : decode cJ1_charAt_3b067 12 = .ok (.iand, 1) := by decide +kernel
theorem dJ1_charAt_3b067_13 : decode cJ1_charAt_3b067 13 = .ok (.i2c, 1) := by decide +kernel
theorem dJ1_charAt_3b067_14 : decode cJ1_charAt_3b067 14 = .ok (.ireturn, 1) := by decide +kernel
theorem dJ0_charAt_5068e_0 : decode cJ0_charAt_5068e 0 = .ok (.aload_n 0, 1) := by decide +kernel
theorem dJ0_charAt_5068e_1 : decode cJ0_charAt_5068e 1 = .ok (.invokevirtual 492, 3) := by decide +kernel
theorem dJ0_charAt_5068e_4 : decode cJ0_charAt_5068e 4 = .ok (.ifCond .eq 12, 3) := by decide +kernel
theorem dJ0_charAt_5068e_7 : decode cJ0_charAt_5068e 7 = .ok (.aload_n 0, 1) := by decide +kernel
theorem dJ0_charAt_5068e_8 : decode cJ0_charAt_5068e 8 = .ok (.getfield 9, 3) := by decide +kernel
theorem dJ0_charAt_5068e_11 : decode cJ0_charAt_5068e 11 = .ok (.iload_n 1, 1) := by decide +kernel
theorem dJ0_charAt_5068e_12 : decode cJ0_charAt_5068e 12 = .ok (.invokestatic 495, 3) := by decide +kernel
theorem dJ0_charAt_5068e_15 : decode cJ0_charAt_5068e 15 = .ok (.ireturn, 1) := by decide +kernel
theorem dJ0_charAt_5068e_16 : decode cJ0_charAt_5068e 16 = .ok (.aload_n 0, 1) := by decide +kernel
theorem dJ0_charAt_5068e_17 : decode cJ0_charAt_5068e 17 = .ok (.getfield 9, 3) := by decide +kernel
theorem dJ0_charAt_5068e_20 : decode cJ0_charAt_5068e 20 = .ok (.iload_n 1, 1) := by decide +kernel
theorem dJ0_charAt_5068e_21 : decode cJ0_charAt_5068e 21 = .ok (.invokestatic 498, 3) := by decide +kernel
theorem dJ0_charAt_5068e_24 : decode cJ0_charAt_5068e 24 = .ok (.ireturn, 1) := by decide +kernel
theorem st_len : ∀ i, i < 6 → stLen i >>> ((0 : Int32) &&& 31) = stLen i := by decide +kernel
theorem st_ch : ∀ i, i < 6 → ∀ j, j < stL.getD i 0 → ((stCh i j &&& 255).toUInt32 % 65536).toInt32 = stCh i j := by decide +kernel
theorem st_nar : ∀ i, i < 6 → ∀ j, j < stL.getD i 0 → narrow .char (.int (stCh i j)) = .int (stCh i j) := by decide +kernel
theorem coder_ct {g : GG} {σ : SS} {N i : Nat} (hi : i < 6) : Ct g mJ0_coder_7d493 [.ref (ad g (1010 + i))] N σ (some (.int 0)) N σ := by
  refine Ct.of (by decide +kernel) (nle rfl) fun hw0 => ?_
  change RR g mJ0_coder_7d493 (FinR g mJ0_coder_7d493 (some (.int 0)) N σ) (N, 0, 0) 0 [(0, .ref (ad g (1010 + i)))] [] σ
  refine r_getcs (pc := 0) tw_3_198 dJ0_coder_7d493_0 ?_
  refine r_if_eq (pc := 3) (tgt := 13) dJ0_coder_7d493_3 rfl (fun h => absurd h (by decide)) (fun _ => ?_)
  refine r_aload_n (pc := 6) (j := 0) dJ0_coder_7d493_6 rfl rfl ?_
  refine r_scod (pc := 7) hi tw_4_202 dJ0_coder_7d493_7 ?_
  refine r_goto (pc := 10) (tgt := 14) dJ0_coder_7d493_10 rfl ?_
  exact r_zret (pc := 14) (ty := .byte) rfl (by decide +kernel) rfl ⟨Nat.le_refl _, Nat.le_refl _⟩ dJ0_coder_7d493_14
theorem latin_ct {g : GG} {σ : SS} {N i : Nat} (hi : i < 6) : Ct g mJ0_isLatin1_aae02 [.ref (ad g (1010 + i))] N σ (some (.int 1)) N σ := by
  refine Ct.of (by decide +kernel) (nle rfl) fun hw0 => ?_
  change RR g mJ0_isLatin1_aae02 (FinR g mJ0_isLatin1_aae02 (some (.int 1)) N σ) (N, 0, 0) 0 [(0, .ref (ad g (1010 + i)))] [] σ
  refine r_getcs (pc := 0) tw_3_198 dJ0_isLatin1_aae02_0 ?_
  refine r_if_eq (pc := 3) (tgt := 17) dJ0_isLatin1_aae02_3 rfl (fun h => absurd h (by decide)) (fun _ => ?_)
  refine r_aload_n (pc := 6) (j := 0) dJ0_isLatin1_aae02_6 rfl rfl ?_
  refine r_scod (pc := 7) hi tw_4_202 dJ0_isLatin1_aae02_7 ?_
  refine r_if_ne (pc := 10) (tgt := 17) dJ0_isLatin1_aae02_10 rfl (fun h => absurd rfl h) (fun _ => ?_)
  refine r_iconst (pc := 13) (v := 1) dJ0_isLatin1_aae02_13 rfl ?_
  refine r_goto (pc := 14) (tgt := 18) dJ0_isLatin1_aae02_14 rfl ?_
  exact r_zret (pc := 18) (ty := .boolean) rfl (by decide +kernel) rfl ⟨Nat.le_refl _, Nat.le_refl _⟩ dJ0_isLatin1_aae02_18
theorem length_ct {g : GG} {σ : SS} {N i : Nat} (hi : i < 6) : Ct g mJ0_length_8abf5 [.ref (ad g (1010 + i))] N σ (some (.int (stLen i))) N σ := by
  refine Ct.of (by decide +kernel) (nle rfl) fun hw0 => ?_
  change RR g mJ0_length_8abf5 (FinR g mJ0_length_8abf5 (some (.int (stLen i))) N σ) (N, 0, 0) 0 [(0, .ref (ad g (1010 + i)))] [] σ
  refine r_aload_n (pc := 0) (j := 0) dJ0_length_8abf5_0 rfl rfl ?_
  refine r_sval (pc := 1) hi tw_4_201 dJ0_length_8abf5_1 ?_
  refine r_sarl (pc := 4) hi dJ0_length_8abf5_4 ?_
  refine r_aload_n (pc := 5) (j := 0) dJ0_length_8abf5_5 rfl rfl ?_
  refine r_callO (pc := 6) (i := i) (N := mJ0_coder_7d493) (As := []) (nn := 0) (n1 := N) (σ1 := σ) (o1 := some (.int 0)) (rest := [.int (stLen i)]) (coder_ct hi) hi rfl tw_3_197 tw_1_13 tw_3_194 tw_3_195 tw_3_196 ⟨by decide, by decide, rfl⟩ ⟨nle rfl, nle rfl⟩ rfl (nle rfl) dJ0_length_8abf5_6 ⟨nle rfl, nle rfl⟩ rfl (fun _ => ?_)
  refine r_ishr (pc := 9) dJ0_length_8abf5_9 ?_
  rw [st_len i hi]
  exact r_iret (pc := 10) rfl rfl ⟨nle rfl, nle rfl⟩ dJ0_length_8abf5_10
theorem pcheck_ct {g : GG} {σ : SS} {N : Nat} {i n : Int32} {v : Value} (hv : v.category = 1) (h1 : 0 ≤ i) (h2 : i < n) : Ct g mJ3_checkIndex_8e157 [.int i, .int n, v] N σ (some (.int i)) N σ := by
  refine Ct.of (by decide +kernel) ?_ fun hw0 => ?_
  · have e : lg_sl [.int i, .int n, v] = [.val (.int i), .val (.int n), .val v] := by
      unfold lg_sl
      simp [hv, show (Value.int i).category = 1 from rfl, show (Value.int n).category = 1 from rfl]
    rw [e]; exact nle rfl
  change RR g mJ3_checkIndex_8e157 (FinR g mJ3_checkIndex_8e157 (some (.int i)) N σ) (N, 0, 0) 0 [(0, .int i), (1, .int n), (2, v)] [] σ
  refine r_iload_n (pc := 0) (j := 0) dJ3_checkIndex_8e157_0 rfl rfl ?_
  refine r_if_lt (pc := 1) (tgt := 9) dJ3_checkIndex_8e157_1 rfl (fun h => absurd h1 (Int32.not_le.mpr h)) (fun _ => ?_)
  refine r_iload_n (pc := 4) (j := 0) dJ3_checkIndex_8e157_4 rfl rfl ?_
  refine r_iload_n (pc := 5) (j := 1) dJ3_checkIndex_8e157_5 rfl rfl ?_
  refine r_icmp_lt (pc := 6) (tgt := 16) dJ3_checkIndex_8e157_6 rfl (fun _ => ?_) (fun h => absurd h2 h)
  refine r_iload_n (pc := 16) (j := 0) dJ3_checkIndex_8e157_16 rfl rfl ?_
  exact r_iret (pc := 17) rfl rfl ⟨Nat.le_refl _, Nat.le_refl _⟩ dJ3_checkIndex_8e157_17
theorem check_ct {g : GG} {σ : SS} {N : Nat} {i n : Int32} (h1 : 0 ≤ i) (h2 : i < n) : Ct g mJ0_checkIndex_df160 [.int i, .int n] N σ none N σ := by
  refine Ct.of (by decide +kernel) (nle rfl) fun hw0 => ?_
  change RR g mJ0_checkIndex_df160 (FinR g mJ0_checkIndex_df160 none N σ) (N, 0, 0) 0 [(0, .int i), (1, .int n)] [] σ
  refine r_iload_n (pc := 0) (j := 0) dJ0_checkIndex_df160_0 rfl rfl ?_
  refine r_iload_n (pc := 1) (j := 1) dJ0_checkIndex_df160_1 rfl rfl ?_
  refine r_getsf (pc := 2) tw_3_214 dJ0_checkIndex_df160_2 fun v hv => ?_
  refine r_callS (pc := 5) (N := mJ3_checkIndex_8e157) (As := [.int i, .int n, v]) (nn := 3) (n1 := N) (σ1 := σ) (o1 := some (.int i)) (rest := []) (pcheck_ct hv h1 h2) tw_3_218 tw_1_15 tw_3_216 tw_3_217 ⟨by decide, by decide, rfl⟩ ⟨nle rfl, nle rfl⟩ rfl (nle rfl) dJ0_checkIndex_df160_5 ⟨nle rfl, nle rfl⟩ rfl (fun _ => ?_)
  refine r_pop (pc := 8) dJ0_checkIndex_df160_8 rfl ?_
  exact r_vret (pc := 9) rfl rfl ⟨nle rfl, nle rfl⟩ dJ0_checkIndex_df160_9
theorem inb_lt {j : Int32} {n : Nat} (hn : n < 2 ^ 31) (h : inb j n = true) : 0 ≤ j ∧ j < nI n ∧ j.toNatClampNeg < n := by
  have h1 := of_decide_eq_true h
  have h2 : ¬ j < 0 := fun q => h1 (Or.inl q)
  have h3 : j.toNatClampNeg < n := Nat.not_le.mp fun q => h1 (Or.inr q)
  refine ⟨Int32.not_lt.mp h2, ?_, h3⟩
  rw [Int32.lt_iff_toInt_lt, nI_toInt hn, nn_toInt j h2]
  omega
theorem stL_lt : ∀ i, i < 6 → stL.getD i 0 < 2 ^ 31 := by decide +kernel
theorem lcharAt_ct {g : GG} {σ : SS} {N i : Nat} {j : Int32} (hi : i < 6) (hj : inb j (stL.getD i 0) = true) : Ct g mJ1_charAt_3b067 [.ref (ad g (1020 + i)), .int j] N σ (some (.int (stCh i j.toNatClampNeg))) N σ := by
  obtain ⟨h1, h2, h3⟩ := inb_lt (stL_lt i hi) hj
  refine Ct.of (by decide +kernel) (nle rfl) fun hw0 => ?_
  change RR g mJ1_charAt_3b067 (FinR g mJ1_charAt_3b067 (some (.int (stCh i j.toNatClampNeg))) N σ) (N, 0, 0) 0 [(0, .ref (ad g (1020 + i))), (1, .int j)] [] σ
  refine r_iload_n (pc := 0) (j := 1) dJ1_charAt_3b067_0 rfl rfl ?_
  refine r_aload_n (pc := 1) (j := 0) dJ1_charAt_3b067_1 rfl rfl ?_
  refine r_sarl (pc := 2) hi dJ1_charAt_3b067_2 ?_
  refine r_callS (pc := 3) (N := mJ0_checkIndex_df160) (As := [.int j, .int (stLen i)]) (nn := 2) (n1 := N) (σ1 := σ) (o1 := none) (rest := []) (check_ct h1 h2) tw_3_213 tw_1_13 tw_3_211 tw_3_212 ⟨by decide, by decide, rfl⟩ ⟨nle rfl, nle rfl⟩ rfl (nle rfl) dJ1_charAt_3b067_3 ⟨nle rfl, nle rfl⟩ rfl (fun _ => ?_)
  refine r_aload_n (pc := 6) (j := 0) dJ1_charAt_3b067_6 rfl rfl ?_
  refine r_iload_n (pc := 7) (j := 1) dJ1_charAt_3b067_7 rfl rfl ?_
  refine r_sbald (pc := 8) hi hj dJ1_charAt_3b067_8 ?_
  refine r_sipush (pc := 9) (v := 255) dJ1_charAt_3b067_9 rfl ?_
  refine r_iand (pc := 12) dJ1_charAt_3b067_12 ?_
  refine r_i2c (pc := 13) dJ1_charAt_3b067_13 (st_ch i hi _ h3) ?_
  exact r_zret (pc := 14) (ty := .char) rfl (st_nar i hi _ h3) rfl ⟨nle rfl, nle rfl⟩ dJ1_charAt_3b067_14
theorem charAt_ct {g : GG} {σ : SS} {N i : Nat} {j : Int32} (hi : i < 6) (hj : inb j (stL.getD i 0) = true) : Ct g mJ0_charAt_5068e [.ref (ad g (1010 + i)), .int j] N σ (some (.int (stCh i j.toNatClampNeg))) N σ := by
  obtain ⟨h1, h2, h3⟩ := inb_lt (stL_lt i hi) hj
  refine Ct.of (by decide +kernel) (nle rfl) fun hw0 => ?_
  change RR g mJ0_charAt_5068e (FinR g mJ0_charAt_5068e (some (.int (stCh i j.toNatClampNeg))) N σ) (N, 0, 0) 0 [(0, .ref (ad g (1010 + i))), (1, .int j)] [] σ
  refine r_aload_n (pc := 0) (j := 0) dJ0_charAt_5068e_0 rfl rfl ?_
  refine r_callO (pc := 1) (i := i) (N := mJ0_isLatin1_aae02) (As := []) (nn := 0) (n1 := N) (σ1 := σ) (o1 := some (.int 1)) (rest := []) (latin_ct hi) hi rfl tw_3_207 tw_1_13 tw_3_204 tw_3_205 tw_3_206 ⟨by decide, by decide, rfl⟩ ⟨nle rfl, nle rfl⟩ rfl (nle rfl) dJ0_charAt_5068e_1 ⟨nle rfl, nle rfl⟩ rfl (fun _ => ?_)
  refine r_if_eq (pc := 4) (tgt := 16) dJ0_charAt_5068e_4 rfl (fun h => absurd h (by decide)) (fun _ => ?_)
  refine r_aload_n (pc := 7) (j := 0) dJ0_charAt_5068e_7 rfl rfl ?_
  refine r_sval (pc := 8) hi tw_4_201 dJ0_charAt_5068e_8 ?_
  refine r_iload_n (pc := 11) (j := 1) dJ0_charAt_5068e_11 rfl rfl ?_
  refine r_callS (pc := 12) (N := mJ1_charAt_3b067) (As := [.ref (ad g (1020 + i)), .int j]) (nn := 2) (n1 := N) (σ1 := σ) (o1 := some (.int (stCh i j.toNatClampNeg))) (rest := []) (lcharAt_ct hi hj) tw_3_210 tw_1_14 tw_3_208 tw_3_209 ⟨by decide, by decide, rfl⟩ ⟨nle rfl, nle rfl⟩ rfl (nle rfl) dJ0_charAt_5068e_12 ⟨nle rfl, nle rfl⟩ rfl (fun _ => ?_)
  exact r_zret (pc := 15) (ty := .char) rfl (st_nar i hi _ h3) rfl ⟨nle rfl, nle rfl⟩ dJ0_charAt_5068e_15
section ROWS9
variable {g : GG} {M : MM} {F : State → Array Value → List Frame → State → Prop} {pc index : Nat} {ls : List (Nat × Value)} {rest : List Value} {σ : SS} {w : Nat}
theorem x_slen (hi : w < 6) (hl : Cond.methodLink M.1.cls index yJ0_length_8abf5 ∈ lw_gt) (hR : mJ0_length_8abf5.2.2.2.2.frames + 1 ≤ M.2.2.2.2.frames ∧ 8 + (mJ0_length_8abf5.2.2.1 + 11) + mJ0_length_8abf5.2.2.2.2.locals ≤ M.2.2.2.2.locals) (hrest : (rest.map fun v => v.category).sum ≤ 8) (hd : decode M.2.1 pc = .ok (.invokevirtual index, 3)) (k : RR g M F zF (pc + 3) ls (.int (stLen w) :: rest) σ) : RR g M F zF pc ls (.ref (ad g (1010 + w)) :: rest) σ :=
  r_callO (i := w) (N := mJ0_length_8abf5) (As := []) (nn := 0) (o1 := some (.int (stLen w))) (length_ct hi) hi rfl tw_3_193 tw_1_13 hl tw_3_191 tw_3_192 ⟨by decide, by decide, rfl⟩ hR rfl hrest hd ⟨Nat.zero_le _, Nat.zero_le _⟩ rfl (fun _ => k)
theorem x_sch {j : Int32} (hi : w < 6) (hj : inb j (stL.getD w 0) = true) (hl : Cond.methodLink M.1.cls index yJ0_charAt_5068e ∈ lw_gt) (hR : mJ0_charAt_5068e.2.2.2.2.frames + 1 ≤ M.2.2.2.2.frames ∧ 8 + (mJ0_charAt_5068e.2.2.1 + 11) + mJ0_charAt_5068e.2.2.2.2.locals ≤ M.2.2.2.2.locals) (hrest : (rest.map fun v => v.category).sum ≤ 8) (hd : decode M.2.1 pc = .ok (.invokevirtual index, 3)) (k : RR g M F zF (pc + 3) ls (.int (stCh w j.toNatClampNeg) :: rest) σ) : RR g M F zF pc ls (.int j :: .ref (ad g (1010 + w)) :: rest) σ :=
  r_callO (i := w) (N := mJ0_charAt_5068e) (As := [.int j]) (nn := 1) (o1 := some (.int (stCh w j.toNatClampNeg))) (charAt_ct hi hj) hi rfl tw_3_203 tw_1_13 hl tw_3_201 tw_3_202 ⟨by decide, by decide, rfl⟩ hR rfl hrest hd ⟨Nat.zero_le _, Nat.zero_le _⟩ rfl (fun _ => k)
end ROWS9
