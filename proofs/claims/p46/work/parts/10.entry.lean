/-! The entry. -/
abbrev sl (g : GG) : Nat := g.2.2.2.2.2.1
def z0 : SS := (fun _ _ => 0, fun _ _ => 0, fun _ _ => 0)
theorem zr0 : Zr z0 0 := fun _ _ => ⟨fun _ => rfl, fun _ => rfl, fun _ => rfl⟩
/-- the store when the object is made -/
def s0 : SS := iX7_init_1 z0
theorem wt0 : WT s0 := ⟨by decide +kernel, by decide +kernel, by decide +kernel, by decide +kernel, by decide +kernel⟩
theorem law_all {g : GG} {r : Bool × SS} (hr : fL_law s0 g.2.2.2.2.2 = some r) (h1 : r.1 = true) : RR g mL_law (FL g) (0, 0, 0) 0 [(0, .ref (ad g 1030))] [] z0 := by
  refine r_new (pc := 0) (n := 0) (ci := 7) (by decide) rfl (by decide) rfl inG7 tyX7_ok (by decide +kernel) rfl zr0 tw_1_17 tw_1_18 tw_1_1 ⟨nle rfl, nle rfl⟩ dL_law_0 ?_
  refine r_dup (pc := 3) dL_law_3 rfl ?_
  have ct4 := ct_X7_init_1 (g := g) (σ := z0) (zr0.mono (nle rfl))
  refine r_callI (pc := 4) (N := mX7_init) (n1 := 72) ct4.1 tw_1_19 rfl rfl tw_1_21 tw_1_1 tw_1_20 ⟨by decide, by decide, rfl⟩ ⟨nle rfl, nle rfl⟩ (nle rfl) dL_law_4 ⟨nle rfl, nle rfl⟩ ?_
  change RR _ _ _ (72, 72, 19559) _ _ _ _
  refine r_seal wt0 rfl ?_
  exact sL_law hr h1 rfl wt0
/-- what is known at the law's entry: the words of the tables, the statics, the constants, the script -/
theorem ko_entry {s : State} {b L : Nat} {xs0 : Nat → Int32} (l : Launch) (hts : ∀ w ∈ lw_tbl, w.before #[Value.ref b] s = true) (hX : va_X b L xs0 s s.heap) (hbl : b < s.heap.size) (hgv : (Jvm.Cond.and given_1 narrow_1).before #[Value.ref b] s = true) :
    ∃ g : GG, g.1 = l ∧ g.2.1 + 1 = s.heap.size ∧ ad g 1030 = b ∧ sl g = L ∧ Ko g s := by
  have htg : ∀ w ∈ lw_gt, w.before #[Value.ref b] s = true := fun w h => hts w (lw_gt_in h)
  have hf := flat_of_before _ hgv
  have hA : ∀ a : Nat, a < s.heap.size → ¬ (fun q => s.heap.size - 1 < q) a := fun a h q => by omega
  obtain ⟨c0, i0, k0⟩ := u_known (C := RX0) (T := TX0) (N := 11) htg inG0 (htg _ tw_1_176)
  obtain ⟨c1, i1, k1⟩ := u_known (C := RX1) (T := TX1) (N := 14) htg inG1 (htg _ tw_1_53)
  obtain ⟨c2, i2, k2⟩ := u_known (C := RX2) (T := TX2) (N := 8) htg inG2 (htg _ tw_1_139)
  obtain ⟨c3, i3, k3⟩ := u_known (C := RX3) (T := TX3) (N := 12) htg inG3 (htg _ tw_1_170)
  obtain ⟨c4, i4, k4⟩ := u_known (C := RX4) (T := TX4) (N := 6) htg inG4 (htg _ tw_2_71)
  obtain ⟨c5, i5, k5⟩ := u_known (C := RX5) (T := TX5) (N := 8) htg inG5 (htg _ tw_1_229)
  obtain ⟨c6, i6, k6⟩ := u_known (C := RX6) (T := TX6) (N := 4) htg inG6 (htg _ tw_1_26)
  obtain ⟨c7, i7, k7⟩ := u_known (C := RX7) (T := TX7) (N := 14) htg inG7 (htg _ tw_1_18)
  obtain ⟨cI, kI, pI, fI, gI, eI⟩ := Cond.arrayClass_spec (htg _ tw_1_50)
  obtain ⟨cB, kB, pB, fB, gB, eB⟩ := Cond.arrayClass_spec (htg _ tw_1_227)
  obtain ⟨cZ, kZ, pZ, fZ, gZ, eZ⟩ := Cond.arrayClass_spec (htg _ tw_1_137)
  obtain ⟨cJ, kJ, pJ, fJ, gJ, eJ⟩ := Cond.arrayClass_spec (htg _ tw_2_19)
  obtain ⟨pS, cS, kS0, fS, -, gS, eS, hS⟩ := Cond.arrayOver_spec (hts _ tw_1_51)
  have E1001 : ∀ j : Nat, j < 7 → (Term.elem (Jvm.Term.static "SheetReader" "SETTING_LEAST" "[I") (.int (Int32.ofNat j))).eval #[Value.ref b] s none [] s = some (.int (roV 1001 j)) := by
    intro j hj
    rcases (show j = 0 ∨ j = 1 ∨ j = 2 ∨ j = 3 ∨ j = 4 ∨ j = 5 ∨ j = 6 by omega) with rfl | rfl | rfl | rfl | rfl | rfl | rfl
    · exact va_eqt (hf (Cond.eq (.elem (Jvm.Term.static "SheetReader" "SETTING_LEAST" "[I") (.int 0)) (.int 1)) (by decide +kernel))
    · exact va_eqt (hf (Cond.eq (.elem (Jvm.Term.static "SheetReader" "SETTING_LEAST" "[I") (.int 1)) (.int 1)) (by decide +kernel))
    · exact va_eqt (hf (Cond.eq (.elem (Jvm.Term.static "SheetReader" "SETTING_LEAST" "[I") (.int 2)) (.int 1)) (by decide +kernel))
    · exact va_eqt (hf (Cond.eq (.elem (Jvm.Term.static "SheetReader" "SETTING_LEAST" "[I") (.int 3)) (.int 1)) (by decide +kernel))
    · exact va_eqt (hf (Cond.eq (.elem (Jvm.Term.static "SheetReader" "SETTING_LEAST" "[I") (.int 4)) (.int 0)) (by decide +kernel))
    · exact va_eqt (hf (Cond.eq (.elem (Jvm.Term.static "SheetReader" "SETTING_LEAST" "[I") (.int 5)) (.int 0)) (by decide +kernel))
    · exact va_eqt (hf (Cond.eq (.elem (Jvm.Term.static "SheetReader" "SETTING_LEAST" "[I") (.int 6)) (.int 0)) (by decide +kernel))
  obtain ⟨t1001, v1001, T1001⟩ := va_Tof (args := #[Value.ref b]) (s := s) (A := fun q => s.heap.size - 1 < q) (tm := (Jvm.Term.static "SheetReader" "SETTING_LEAST" "[I")) (ty := .int) (N := 7) (f := fun j => .int (roV 1001 j)) (by decide) (hf (Cond.arrayOf (Jvm.Term.static "SheetReader" "SETTING_LEAST" "[I") .int) (by decide +kernel)) (va_eqt (hf (Cond.eq (.length (Jvm.Term.static "SheetReader" "SETTING_LEAST" "[I")) (.int 7)) (by decide +kernel))) E1001 hA
  have Z1001 := va_Zof (A := fun q => s.heap.size - 1 < q) (hts _ tw_4_71) (htg _ tw_1_1) v1001 hA
  have E1002 : ∀ j : Nat, j < 7 → (Term.elem (Jvm.Term.static "SheetReader" "SETTING_MOST" "[I") (.int (Int32.ofNat j))).eval #[Value.ref b] s none [] s = some (.int (roV 1002 j)) := by
    intro j hj
    rcases (show j = 0 ∨ j = 1 ∨ j = 2 ∨ j = 3 ∨ j = 4 ∨ j = 5 ∨ j = 6 by omega) with rfl | rfl | rfl | rfl | rfl | rfl | rfl
    · exact va_eqt (hf (Cond.eq (.elem (Jvm.Term.static "SheetReader" "SETTING_MOST" "[I") (.int 0)) (.int 9)) (by decide +kernel))
    · exact va_eqt (hf (Cond.eq (.elem (Jvm.Term.static "SheetReader" "SETTING_MOST" "[I") (.int 1)) (.int 20)) (by decide +kernel))
    · exact va_eqt (hf (Cond.eq (.elem (Jvm.Term.static "SheetReader" "SETTING_MOST" "[I") (.int 2)) (.int 60)) (by decide +kernel))
    · exact va_eqt (hf (Cond.eq (.elem (Jvm.Term.static "SheetReader" "SETTING_MOST" "[I") (.int 3)) (.int 200)) (by decide +kernel))
    · exact va_eqt (hf (Cond.eq (.elem (Jvm.Term.static "SheetReader" "SETTING_MOST" "[I") (.int 4)) (.int 200)) (by decide +kernel))
    · exact va_eqt (hf (Cond.eq (.elem (Jvm.Term.static "SheetReader" "SETTING_MOST" "[I") (.int 5)) (.int 200)) (by decide +kernel))
    · exact va_eqt (hf (Cond.eq (.elem (Jvm.Term.static "SheetReader" "SETTING_MOST" "[I") (.int 6)) (.int 20)) (by decide +kernel))
  obtain ⟨t1002, v1002, T1002⟩ := va_Tof (args := #[Value.ref b]) (s := s) (A := fun q => s.heap.size - 1 < q) (tm := (Jvm.Term.static "SheetReader" "SETTING_MOST" "[I")) (ty := .int) (N := 7) (f := fun j => .int (roV 1002 j)) (by decide) (hf (Cond.arrayOf (Jvm.Term.static "SheetReader" "SETTING_MOST" "[I") .int) (by decide +kernel)) (va_eqt (hf (Cond.eq (.length (Jvm.Term.static "SheetReader" "SETTING_MOST" "[I")) (.int 7)) (by decide +kernel))) E1002 hA
  have Z1002 := va_Zof (A := fun q => s.heap.size - 1 < q) (hts _ tw_4_73) (htg _ tw_1_1) v1002 hA
  have ZC := va_Zof (A := fun q => s.heap.size - 1 < q) (hts _ tw_3_199) (htg _ tw_1_13) (va_eqt (hf (Cond.eq (.static "java/lang/String" "COMPACT_STRINGS" "Z") (.int 1)) (by decide +kernel))) hA
  have ZQ := va_Zqof (A := fun q => s.heap.size - 1 < q) (hts _ tw_3_215) (htg _ tw_1_15) (hf (Cond.isRef (.static "jdk/internal/util/Preconditions" "SIOOBE_FORMATTER" "Ljava/util/function/BiFunction;")) (by decide +kernel)) hA
  have H1 : ∀ i : Nat, i < 6 → (Cond.exactly (Term.string "SheetReader$FormText" (stK i)) "java/lang/String").before #[Value.ref b] s = true := by
    intro i hi
    rcases (show i = 0 ∨ i = 1 ∨ i = 2 ∨ i = 3 ∨ i = 4 ∨ i = 5 by omega) with rfl | rfl | rfl | rfl | rfl | rfl
    · exact hf (Cond.exactly (Term.string "SheetReader$FormText" 56) "java/lang/String") (by decide +kernel)
    · exact hf (Cond.exactly (Term.string "SheetReader$FormText" 79) "java/lang/String") (by decide +kernel)
    · exact hf (Cond.exactly (Term.string "SheetReader$FormText" 90) "java/lang/String") (by decide +kernel)
    · exact hf (Cond.exactly (Term.string "SheetReader$FormText" 95) "java/lang/String") (by decide +kernel)
    · exact hf (Cond.exactly (Term.string "SheetReader$FormText" 130) "java/lang/String") (by decide +kernel)
    · exact hf (Cond.exactly (Term.string "SheetReader$FormText" 145) "java/lang/String") (by decide +kernel)
  have H2 : ∀ i : Nat, i < 6 → (Cond.eq (.field (Term.string "SheetReader$FormText" (stK i)) "java/lang/String" "coder" "B") (.int 0)).before #[Value.ref b] s = true := by
    intro i hi
    rcases (show i = 0 ∨ i = 1 ∨ i = 2 ∨ i = 3 ∨ i = 4 ∨ i = 5 by omega) with rfl | rfl | rfl | rfl | rfl | rfl
    · exact hf (Cond.eq (.field (Term.string "SheetReader$FormText" 56) "java/lang/String" "coder" "B") (.int 0)) (by decide +kernel)
    · exact hf (Cond.eq (.field (Term.string "SheetReader$FormText" 79) "java/lang/String" "coder" "B") (.int 0)) (by decide +kernel)
    · exact hf (Cond.eq (.field (Term.string "SheetReader$FormText" 90) "java/lang/String" "coder" "B") (.int 0)) (by decide +kernel)
    · exact hf (Cond.eq (.field (Term.string "SheetReader$FormText" 95) "java/lang/String" "coder" "B") (.int 0)) (by decide +kernel)
    · exact hf (Cond.eq (.field (Term.string "SheetReader$FormText" 130) "java/lang/String" "coder" "B") (.int 0)) (by decide +kernel)
    · exact hf (Cond.eq (.field (Term.string "SheetReader$FormText" 145) "java/lang/String" "coder" "B") (.int 0)) (by decide +kernel)
  have H3 : ∀ i : Nat, i < 6 → (Cond.arrayOf (.field (Term.string "SheetReader$FormText" (stK i)) "java/lang/String" "value" "[B") .byte).before #[Value.ref b] s = true := by
    intro i hi
    rcases (show i = 0 ∨ i = 1 ∨ i = 2 ∨ i = 3 ∨ i = 4 ∨ i = 5 by omega) with rfl | rfl | rfl | rfl | rfl | rfl
    · exact hf (Cond.arrayOf (.field (Term.string "SheetReader$FormText" 56) "java/lang/String" "value" "[B") .byte) (by decide +kernel)
    · exact hf (Cond.arrayOf (.field (Term.string "SheetReader$FormText" 79) "java/lang/String" "value" "[B") .byte) (by decide +kernel)
    · exact hf (Cond.arrayOf (.field (Term.string "SheetReader$FormText" 90) "java/lang/String" "value" "[B") .byte) (by decide +kernel)
    · exact hf (Cond.arrayOf (.field (Term.string "SheetReader$FormText" 95) "java/lang/String" "value" "[B") .byte) (by decide +kernel)
    · exact hf (Cond.arrayOf (.field (Term.string "SheetReader$FormText" 130) "java/lang/String" "value" "[B") .byte) (by decide +kernel)
    · exact hf (Cond.arrayOf (.field (Term.string "SheetReader$FormText" 145) "java/lang/String" "value" "[B") .byte) (by decide +kernel)
  have H4 : ∀ i : Nat, i < 6 → (Cond.eq (.length (.field (Term.string "SheetReader$FormText" (stK i)) "java/lang/String" "value" "[B")) (.int (Int32.ofNat (stL.getD i 0)))).before #[Value.ref b] s = true := by
    intro i hi
    rcases (show i = 0 ∨ i = 1 ∨ i = 2 ∨ i = 3 ∨ i = 4 ∨ i = 5 by omega) with rfl | rfl | rfl | rfl | rfl | rfl
    · exact hf (Cond.eq (.length (.field (Term.string "SheetReader$FormText" 56) "java/lang/String" "value" "[B")) (.int 4)) (by decide +kernel)
    · exact hf (Cond.eq (.length (.field (Term.string "SheetReader$FormText" 79) "java/lang/String" "value" "[B")) (.int 3)) (by decide +kernel)
    · exact hf (Cond.eq (.length (.field (Term.string "SheetReader$FormText" 90) "java/lang/String" "value" "[B")) (.int 4)) (by decide +kernel)
    · exact hf (Cond.eq (.length (.field (Term.string "SheetReader$FormText" 95) "java/lang/String" "value" "[B")) (.int 3)) (by decide +kernel)
    · exact hf (Cond.eq (.length (.field (Term.string "SheetReader$FormText" 130) "java/lang/String" "value" "[B")) (.int 3)) (by decide +kernel)
    · exact hf (Cond.eq (.length (.field (Term.string "SheetReader$FormText" 145) "java/lang/String" "value" "[B")) (.int 5)) (by decide +kernel)
  have H5 : ∀ i : Nat, i < 6 → ∀ j : Nat, j < stL.getD i 0 → (Cond.eq (.elem (.field (Term.string "SheetReader$FormText" (stK i)) "java/lang/String" "value" "[B") (.int (Int32.ofNat j))) (.int ((stB.getD i []).getD j 0))).before #[Value.ref b] s = true := by
    intro i hi j hj
    rcases (show i = 0 ∨ i = 1 ∨ i = 2 ∨ i = 3 ∨ i = 4 ∨ i = 5 by omega) with rfl | rfl | rfl | rfl | rfl | rfl
    · have hj : j < 4 := hj
      rcases (show j = 0 ∨ j = 1 ∨ j = 2 ∨ j = 3 by omega) with rfl | rfl | rfl | rfl
      · exact hf (Cond.eq (.elem (.field (Term.string "SheetReader$FormText" 56) "java/lang/String" "value" "[B") (.int 0)) (.int 115)) (by decide +kernel)
      · exact hf (Cond.eq (.elem (.field (Term.string "SheetReader$FormText" 56) "java/lang/String" "value" "[B") (.int 1)) (.int 105)) (by decide +kernel)
      · exact hf (Cond.eq (.elem (.field (Term.string "SheetReader$FormText" 56) "java/lang/String" "value" "[B") (.int 2)) (.int 122)) (by decide +kernel)
      · exact hf (Cond.eq (.elem (.field (Term.string "SheetReader$FormText" 56) "java/lang/String" "value" "[B") (.int 3)) (.int 101)) (by decide +kernel)
    · have hj : j < 3 := hj
      rcases (show j = 0 ∨ j = 1 ∨ j = 2 by omega) with rfl | rfl | rfl
      · exact hf (Cond.eq (.elem (.field (Term.string "SheetReader$FormText" 79) "java/lang/String" "value" "[B") (.int 0)) (.int 98)) (by decide +kernel)
      · exact hf (Cond.eq (.elem (.field (Term.string "SheetReader$FormText" 79) "java/lang/String" "value" "[B") (.int 1)) (.int 111)) (by decide +kernel)
      · exact hf (Cond.eq (.elem (.field (Term.string "SheetReader$FormText" 79) "java/lang/String" "value" "[B") (.int 2)) (.int 120)) (by decide +kernel)
    · have hj : j < 4 := hj
      rcases (show j = 0 ∨ j = 1 ∨ j = 2 ∨ j = 3 by omega) with rfl | rfl | rfl | rfl
      · exact hf (Cond.eq (.elem (.field (Term.string "SheetReader$FormText" 90) "java/lang/String" "value" "[B") (.int 0)) (.int 109)) (by decide +kernel)
      · exact hf (Cond.eq (.elem (.field (Term.string "SheetReader$FormText" 90) "java/lang/String" "value" "[B") (.int 1)) (.int 97)) (by decide +kernel)
      · exact hf (Cond.eq (.elem (.field (Term.string "SheetReader$FormText" 90) "java/lang/String" "value" "[B") (.int 2)) (.int 110)) (by decide +kernel)
      · exact hf (Cond.eq (.elem (.field (Term.string "SheetReader$FormText" 90) "java/lang/String" "value" "[B") (.int 3)) (.int 121)) (by decide +kernel)
    · have hj : j < 3 := hj
      rcases (show j = 0 ∨ j = 1 ∨ j = 2 by omega) with rfl | rfl | rfl
      · exact hf (Cond.eq (.elem (.field (Term.string "SheetReader$FormText" 95) "java/lang/String" "value" "[B") (.int 0)) (.int 111)) (by decide +kernel)
      · exact hf (Cond.eq (.elem (.field (Term.string "SheetReader$FormText" 95) "java/lang/String" "value" "[B") (.int 1)) (.int 110)) (by decide +kernel)
      · exact hf (Cond.eq (.elem (.field (Term.string "SheetReader$FormText" 95) "java/lang/String" "value" "[B") (.int 2)) (.int 101)) (by decide +kernel)
    · have hj : j < 3 := hj
      rcases (show j = 0 ∨ j = 1 ∨ j = 2 by omega) with rfl | rfl | rfl
      · exact hf (Cond.eq (.elem (.field (Term.string "SheetReader$FormText" 130) "java/lang/String" "value" "[B") (.int 0)) (.int 107)) (by decide +kernel)
      · exact hf (Cond.eq (.elem (.field (Term.string "SheetReader$FormText" 130) "java/lang/String" "value" "[B") (.int 1)) (.int 101)) (by decide +kernel)
      · exact hf (Cond.eq (.elem (.field (Term.string "SheetReader$FormText" 130) "java/lang/String" "value" "[B") (.int 2)) (.int 121)) (by decide +kernel)
    · have hj : j < 5 := hj
      rcases (show j = 0 ∨ j = 1 ∨ j = 2 ∨ j = 3 ∨ j = 4 by omega) with rfl | rfl | rfl | rfl | rfl
      · exact hf (Cond.eq (.elem (.field (Term.string "SheetReader$FormText" 145) "java/lang/String" "value" "[B") (.int 0)) (.int 119)) (by decide +kernel)
      · exact hf (Cond.eq (.elem (.field (Term.string "SheetReader$FormText" 145) "java/lang/String" "value" "[B") (.int 1)) (.int 111)) (by decide +kernel)
      · exact hf (Cond.eq (.elem (.field (Term.string "SheetReader$FormText" 145) "java/lang/String" "value" "[B") (.int 2)) (.int 114)) (by decide +kernel)
      · exact hf (Cond.eq (.elem (.field (Term.string "SheetReader$FormText" 145) "java/lang/String" "value" "[B") (.int 3)) (.int 116)) (by decide +kernel)
      · exact hf (Cond.eq (.elem (.field (Term.string "SheetReader$FormText" 145) "java/lang/String" "value" "[B") (.int 4)) (.int 104)) (by decide +kernel)
  have H6 : ∀ i j : Nat, i < 6 → j < 6 → i ≠ j → (Cond.not (Cond.eq (Term.string "SheetReader$FormText" (stK i)) (Term.string "SheetReader$FormText" (stK j)))).before #[Value.ref b] s = true ∨ (Cond.not (Cond.eq (Term.string "SheetReader$FormText" (stK j)) (Term.string "SheetReader$FormText" (stK i)))).before #[Value.ref b] s = true := by
    intro i j hi hj hij
    rcases (show i = 0 ∨ i = 1 ∨ i = 2 ∨ i = 3 ∨ i = 4 ∨ i = 5 by omega) with rfl | rfl | rfl | rfl | rfl | rfl
    · rcases (show j = 1 ∨ j = 2 ∨ j = 3 ∨ j = 4 ∨ j = 5 by omega) with rfl | rfl | rfl | rfl | rfl
      · exact Or.inl (hf (Cond.not (Cond.eq (Term.string "SheetReader$FormText" 56) (Term.string "SheetReader$FormText" 79))) (by decide +kernel))
      · exact Or.inl (hf (Cond.not (Cond.eq (Term.string "SheetReader$FormText" 56) (Term.string "SheetReader$FormText" 90))) (by decide +kernel))
      · exact Or.inl (hf (Cond.not (Cond.eq (Term.string "SheetReader$FormText" 56) (Term.string "SheetReader$FormText" 95))) (by decide +kernel))
      · exact Or.inl (hf (Cond.not (Cond.eq (Term.string "SheetReader$FormText" 56) (Term.string "SheetReader$FormText" 130))) (by decide +kernel))
      · exact Or.inl (hf (Cond.not (Cond.eq (Term.string "SheetReader$FormText" 56) (Term.string "SheetReader$FormText" 145))) (by decide +kernel))
    · rcases (show j = 0 ∨ j = 2 ∨ j = 3 ∨ j = 4 ∨ j = 5 by omega) with rfl | rfl | rfl | rfl | rfl
      · exact Or.inr (hf (Cond.not (Cond.eq (Term.string "SheetReader$FormText" 56) (Term.string "SheetReader$FormText" 79))) (by decide +kernel))
      · exact Or.inl (hf (Cond.not (Cond.eq (Term.string "SheetReader$FormText" 79) (Term.string "SheetReader$FormText" 90))) (by decide +kernel))
      · exact Or.inl (hf (Cond.not (Cond.eq (Term.string "SheetReader$FormText" 79) (Term.string "SheetReader$FormText" 95))) (by decide +kernel))
      · exact Or.inl (hf (Cond.not (Cond.eq (Term.string "SheetReader$FormText" 79) (Term.string "SheetReader$FormText" 130))) (by decide +kernel))
      · exact Or.inl (hf (Cond.not (Cond.eq (Term.string "SheetReader$FormText" 79) (Term.string "SheetReader$FormText" 145))) (by decide +kernel))
    · rcases (show j = 0 ∨ j = 1 ∨ j = 3 ∨ j = 4 ∨ j = 5 by omega) with rfl | rfl | rfl | rfl | rfl
      · exact Or.inr (hf (Cond.not (Cond.eq (Term.string "SheetReader$FormText" 56) (Term.string "SheetReader$FormText" 90))) (by decide +kernel))
      · exact Or.inr (hf (Cond.not (Cond.eq (Term.string "SheetReader$FormText" 79) (Term.string "SheetReader$FormText" 90))) (by decide +kernel))
      · exact Or.inl (hf (Cond.not (Cond.eq (Term.string "SheetReader$FormText" 90) (Term.string "SheetReader$FormText" 95))) (by decide +kernel))
      · exact Or.inl (hf (Cond.not (Cond.eq (Term.string "SheetReader$FormText" 90) (Term.string "SheetReader$FormText" 130))) (by decide +kernel))
      · exact Or.inl (hf (Cond.not (Cond.eq (Term.string "SheetReader$FormText" 90) (Term.string "SheetReader$FormText" 145))) (by decide +kernel))
    · rcases (show j = 0 ∨ j = 1 ∨ j = 2 ∨ j = 4 ∨ j = 5 by omega) with rfl | rfl | rfl | rfl | rfl
      · exact Or.inr (hf (Cond.not (Cond.eq (Term.string "SheetReader$FormText" 56) (Term.string "SheetReader$FormText" 95))) (by decide +kernel))
      · exact Or.inr (hf (Cond.not (Cond.eq (Term.string "SheetReader$FormText" 79) (Term.string "SheetReader$FormText" 95))) (by decide +kernel))
      · exact Or.inr (hf (Cond.not (Cond.eq (Term.string "SheetReader$FormText" 90) (Term.string "SheetReader$FormText" 95))) (by decide +kernel))
      · exact Or.inl (hf (Cond.not (Cond.eq (Term.string "SheetReader$FormText" 95) (Term.string "SheetReader$FormText" 130))) (by decide +kernel))
      · exact Or.inl (hf (Cond.not (Cond.eq (Term.string "SheetReader$FormText" 95) (Term.string "SheetReader$FormText" 145))) (by decide +kernel))
    · rcases (show j = 0 ∨ j = 1 ∨ j = 2 ∨ j = 3 ∨ j = 5 by omega) with rfl | rfl | rfl | rfl | rfl
      · exact Or.inr (hf (Cond.not (Cond.eq (Term.string "SheetReader$FormText" 56) (Term.string "SheetReader$FormText" 130))) (by decide +kernel))
      · exact Or.inr (hf (Cond.not (Cond.eq (Term.string "SheetReader$FormText" 79) (Term.string "SheetReader$FormText" 130))) (by decide +kernel))
      · exact Or.inr (hf (Cond.not (Cond.eq (Term.string "SheetReader$FormText" 90) (Term.string "SheetReader$FormText" 130))) (by decide +kernel))
      · exact Or.inr (hf (Cond.not (Cond.eq (Term.string "SheetReader$FormText" 95) (Term.string "SheetReader$FormText" 130))) (by decide +kernel))
      · exact Or.inl (hf (Cond.not (Cond.eq (Term.string "SheetReader$FormText" 130) (Term.string "SheetReader$FormText" 145))) (by decide +kernel))
    · rcases (show j = 0 ∨ j = 1 ∨ j = 2 ∨ j = 3 ∨ j = 4 by omega) with rfl | rfl | rfl | rfl | rfl
      · exact Or.inr (hf (Cond.not (Cond.eq (Term.string "SheetReader$FormText" 56) (Term.string "SheetReader$FormText" 145))) (by decide +kernel))
      · exact Or.inr (hf (Cond.not (Cond.eq (Term.string "SheetReader$FormText" 79) (Term.string "SheetReader$FormText" 145))) (by decide +kernel))
      · exact Or.inr (hf (Cond.not (Cond.eq (Term.string "SheetReader$FormText" 90) (Term.string "SheetReader$FormText" 145))) (by decide +kernel))
      · exact Or.inr (hf (Cond.not (Cond.eq (Term.string "SheetReader$FormText" 95) (Term.string "SheetReader$FormText" 145))) (by decide +kernel))
      · exact Or.inr (hf (Cond.not (Cond.eq (Term.string "SheetReader$FormText" 130) (Term.string "SheetReader$FormText" 145))) (by decide +kernel))
  obtain ⟨aK, aV, hSt, hEv⟩ := vk_Sof (args := #[Value.ref b]) (s := s) (N := 6) (tm := fun i => Term.string "SheetReader$FormText" (stK i)) (len := stL) (byt := stB) (A := fun q => s.heap.size - 1 < q) stL_lt H1 H2 H3 H4 H5 H6 hA
  refine ⟨(l, s.heap.size - 1, (fun ci => match ci with | 0 => c0 | 1 => c1 | 2 => c2 | 3 => c3 | 4 => c4 | 5 => c5 | 6 => c6 | _ => c7, fun ci => match ci with | 0 => i0 | 1 => i1 | 2 => i2 | 3 => i3 | 4 => i4 | 5 => i5 | 6 => i6 | _ => i7), fun q => if q = 20 then cI else if q = 21 then cB else if q = 22 then cZ else if q = 23 then cJ else cS, fun q => if q = 1001 then t1001 else if q = 1002 then t1002 else if q = 1030 then b else if q < 1020 then aK (q - 1010) else aV (q - 1020), L, xs0), rfl, by show s.heap.size - 1 + 1 = _; omega, rfl, rfl, ⟨fun c q hq => ?_, fun k q hq => ?_⟩, ?_⟩
  · rcases (show c = 0 ∨ c = 1 ∨ c = 2 ∨ c = 3 ∨ c = 4 ∨ c = 5 ∨ c = 6 ∨ c = 7 by have := (List.getElem?_eq_some_iff.mp hq).1; have e : vwCl.length = 8 := rfl; omega) with rfl | rfl | rfl | rfl | rfl | rfl | rfl | rfl
    · cases hq; exact k0
    · cases hq; exact k1
    · cases hq; exact k2
    · cases hq; exact k3
    · cases hq; exact k4
    · cases hq; exact k5
    · cases hq; exact k6
    · cases hq; exact k7
  · rcases (show k = 0 ∨ k = 1 ∨ k = 2 ∨ k = 3 ∨ k = 4 by have := (List.getElem?_eq_some_iff.mp hq).1; have e : k < 5 := this; omega) with rfl | rfl | rfl | rfl | rfl
    · cases hq; exact ⟨fun n z => ⟨fun k h => (by cases h), kI, gI, pI, eI⟩, fI⟩
    · cases hq; exact ⟨fun n z => ⟨fun k h => (by cases h), kB, gB, pB, eB⟩, fB⟩
    · cases hq; exact ⟨fun n z => ⟨fun k h => (by cases h), kZ, gZ, pZ, eZ⟩, fZ⟩
    · cases hq; exact ⟨fun n z => ⟨fun k h => (by cases h), kJ, gJ, pJ, eJ⟩, fJ⟩
    · cases hq; exact ⟨fun n z => ⟨fun k h => (by cases h), kS0, gS, pS, eS⟩, kS0, pS, gS, eS, fS, hS⟩
  · obtain ⟨scr, x1, x2, x3, x4, x5⟩ := hX
    refine ⟨⟨Z1001, T1001⟩, ⟨Z1002, T1002⟩, ⟨trivial, trivial⟩, ⟨fun i hi => ?_, fun i j hi hj e => ?_⟩, fun i hi => ?_, ZC, ZQ, fun q hq => ?_, va_AO.of (hts _ tw_1_51), scr, x1, x2, x3, by rw [x4]; exact Nat.le_refl _, by rw [x4] <;> rfl, x5, hA b hbl⟩
    · rcases (show i = 0 ∨ i = 1 ∨ i = 2 ∨ i = 3 ∨ i = 4 ∨ i = 5 by omega) with rfl | rfl | rfl | rfl | rfl | rfl <;> exact hSt.1 _ (by decide)
    · refine hSt.2 i j hi hj ?_
      rcases (show i = 0 ∨ i = 1 ∨ i = 2 ∨ i = 3 ∨ i = 4 ∨ i = 5 by omega) with rfl | rfl | rfl | rfl | rfl | rfl <;> rcases (show j = 0 ∨ j = 1 ∨ j = 2 ∨ j = 3 ∨ j = 4 ∨ j = 5 by omega) with rfl | rfl | rfl | rfl | rfl | rfl <;> exact e
    · rcases (show i = 0 ∨ i = 1 ∨ i = 2 ∨ i = 3 ∨ i = 4 ∨ i = 5 by omega) with rfl | rfl | rfl | rfl | rfl | rfl
      · exact vk_R.of (A := #[Value.ref b]) (hts _ tw_3_181) (hEv 0 (by decide))
      · exact vk_R.of (A := #[Value.ref b]) (hts _ tw_4_14) (hEv 1 (by decide))
      · exact vk_R.of (A := #[Value.ref b]) (hts _ tw_4_19) (hEv 2 (by decide))
      · exact vk_R.of (A := #[Value.ref b]) (hts _ tw_4_20) (hEv 3 (by decide))
      · exact vk_R.of (A := #[Value.ref b]) (hts _ tw_4_48) (hEv 4 (by decide))
      · exact vk_R.of (A := #[Value.ref b]) (hts _ tw_4_57) (hEv 5 (by decide))
    · simp only [nestT, List.mem_cons, List.not_mem_nil, or_false] at hq
      rcases hq with rfl | rfl | rfl | rfl | rfl | rfl | rfl
      · exact va_Nw.of rfl (hts _ tw_1_27)
      · exact va_Nw.of rfl (hts _ tw_1_54)
      · exact va_Nw.of rfl (hts _ tw_1_140)
      · exact va_Nw.of rfl (hts _ tw_1_171)
      · exact va_Nw.of rfl (hts _ tw_1_177)
      · exact va_Nw.of rfl (hts _ tw_1_230)
      · exact va_Nw.of rfl (hts _ tw_2_72)
def lw_At (p : Program) (s : State) (m : MethodId) (meth : Method) (c : Code) (b L : Nat) (xs : Nat → Int32) : Prop :=
  p.tables.exec = Jvm.exec ∧ c.code = code ∧ meth.sig.returnType = ret ∧ c.maxLocals = 8 ∧ s.vm.findClass R_law = some m.cls ∧ (∀ w ∈ lw_tbl, w.before #[Value.ref b] s = true) ∧ va_X b L xs s s.heap ∧ b < s.heap.size ∧ meth.locks = false ∧ (Jvm.Cond.and given_1 narrow_1).before #[Value.ref b] s = true ∧ meth.name = "law"
/-- from the entry the law comes to its end with true, as its function does -/
def LawTrue : Prop := ∀ p : Nat × (Nat → Int32), p.1 ≤ 260 → ∃ σ, fL_law s0 p = some (true, σ)
theorem whole_start (hlaw : LawTrue) {p : Program} {e : Env} {s : State} {m : MethodId} {below : List Frame} {meth : Method} {c : Code} (l : Launch) {b L : Nat} {xs : Nat → Int32} (hL : L ≤ 260) (C0 : lw_At p s m meth c b L xs) : W p l e room_1 s m #[Value.ref b] below meth c s.heap [] 0 0 (lw_Z below #[Value.ref b] s) (entryFrame m ([Value.ref b] : List Value).toArray 8) := by
  obtain ⟨hx, hb, hr, hml, hown, hts, hX, hbl, hlk, hgv, hnm⟩ := C0
  obtain ⟨g, rfl, hg2, hg3, hg4, hK⟩ := ko_entry l hts hX hbl hgv
  obtain ⟨σL, hσL⟩ := hlaw g.2.2.2.2.2 (by show sl g ≤ 260; omega)
  have hRR := law_all (g := g) hσL rfl
  have hW0 : Wc g 0 z0 s.heap := ⟨by show s.heap.size = g.2.1 + 1 + 0 + 0; omega, by decide, ⟨fun c h1 h2 => absurd h2 (by show ¬ c ≤ 0; omega), fun i hi => absurd hi (Nat.not_lt_zero _)⟩, fun h => absurd h (by decide)⟩
  have hl := lv_entry ([.ref b]) (n := 8) (Nat.le_of_ble_eq_true rfl)
  rw [lg_entry_eq]
  have hl2 : lv_has ((lg_sl ([Value.ref b]) ++ List.replicate (8 - (lg_sl ([Value.ref b])).length) Slot.unset).toArray) 8 [(0, .ref (ad g 1030))] := by rw [hg3]; exact hl
  have h1 := hRR p e s m #[Value.ref b] below meth c s.heap [] _ ⟨hx, hb, hml, hown, fun w h => hts w (lw_gt_in h), hr, hlk, hnm⟩ hW0 hK va_S.rf (fun q hq => by show g.2.1 < q; omega) hl2
  intro T hT X
  obtain ⟨t, a1, o, b1, b2, b3, L1, b4, b5⟩ := h1 T hT X
  exact ⟨t, a1, o, b1, b2, b3, b4.1, b4.2.1, b4.2.2.weaken (fun y hy hlt => absurd (show y.base < s.heap.size from hlt) (Nat.not_lt.mpr (by have h9 : g.2.1 < y.base := b5 y hy; omega))) (Nat.le_refl _) (Nat.le_refl _)⟩
