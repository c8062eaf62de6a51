/-! Walks written by a program out of the bytecode: each method as a function over the store, and its contract. -/
theorem dX7_blob_0 : decode cX7_blob 0 = .ok (.aload_n 0, 1) := by decide +kernel
theorem dX7_blob_1 : decode cX7_blob 1 = .ok (.getfield 62, 3) := by decide +kernel
theorem dX7_blob_4 : decode cX7_blob 4 = .ok (.getfield 205, 3) := by decide +kernel
theorem dX7_blob_7 : decode cX7_blob 7 = .ok (.astore_n 3, 1) := by decide +kernel
theorem dX7_blob_8 : decode cX7_blob 8 = .ok (.aload_n 3, 1) := by decide +kernel
theorem dX7_blob_9 : decode cX7_blob 9 = .ok (.aload_n 0, 1) := by decide +kernel
theorem dX7_blob_10 : decode cX7_blob 10 = .ok (.getfield 18, 3) := by decide +kernel
theorem dX7_blob_13 : decode cX7_blob 13 = .ok (.aload_n 0, 1) := by decide +kernel
theorem dX7_blob_14 : decode cX7_blob 14 = .ok (.getfield 62, 3) := by decide +kernel
theorem dX7_blob_17 : decode cX7_blob 17 = .ok (.getfield 111, 3) := by decide +kernel
theorem dX7_blob_20 : decode cX7_blob 20 = .ok (.iconst 0, 1) := by decide +kernel
theorem dX7_blob_21 : decode cX7_blob 21 = .ok (.iaload, 1) := by decide +kernel
theorem dX7_blob_22 : decode cX7_blob 22 = .ok (.aload_n 0, 1) := by decide +kernel
theorem dX7_blob_23 : decode cX7_blob 23 = .ok (.getfield 62, 3) := by decide +kernel
theorem dX7_blob_26 : decode cX7_blob 26 = .ok (.getfield 111, 3) := by decide +kernel
theorem dX7_blob_29 : decode cX7_blob 29 = .ok (.iconst 1, 1) := by decide +kernel
theorem dX7_blob_30 : decode cX7_blob 30 = .ok (.iaload, 1) := by decide +kernel
theorem dX7_blob_31 : decode cX7_blob 31 = .ok (.invokevirtual 222, 3) := by decide +kernel
theorem dX7_blob_34 : decode cX7_blob 34 = .ok (.iload_n 1, 1) := by decide +kernel
theorem dX7_blob_35 : decode cX7_blob 35 = .ok (.iconst (-1), 1) := by decide +kernel
theorem dX7_blob_36 : decode cX7_blob 36 = .ok (.if_icmp .ne 12, 3) := by decide +kernel
theorem dX7_blob_39 : decode cX7_blob 39 = .ok (.iload_n 2, 1) := by decide +kernel
theorem dX7_blob_40 : decode cX7_blob 40 = .ok (.ifCond .ne 8, 3) := by decide +kernel
theorem dX7_blob_43 : decode cX7_blob 43 = .ok (.aload_n 3, 1) := by decide +kernel
theorem dX7_blob_44 : decode cX7_blob 44 = .ok (.getfield 225, 3) := by decide +kernel
theorem dX7_blob_47 : decode cX7_blob 47 = .ok (.ireturn, 1) := by decide +kernel
theorem dX7_blob_48 : decode cX7_blob 48 = .ok (.iload_n 1, 1) := by decide +kernel
theorem dX7_blob_49 : decode cX7_blob 49 = .ok (.ifCond .lt 11, 3) := by decide +kernel
theorem dX7_blob_52 : decode cX7_blob 52 = .ok (.iload_n 1, 1) := by decide +kernel
theorem dX7_blob_53 : decode cX7_blob 53 = .ok (.aload_n 3, 1) := by decide +kernel
theorem dX7_blob_54 : decode cX7_blob 54 = .ok (.getfield 225, 3) := by decide +kernel
theorem dX7_blob_57 : decode cX7_blob 57 = .ok (.if_icmp .lt 5, 3) := by decide +kernel
theorem dX7_blob_60 : decode cX7_blob 60 = .ok (.iconst (-1), 1) := by decide +kernel
theorem dX7_blob_61 : decode cX7_blob 61 = .ok (.ireturn, 1) := by decide +kernel
theorem dX7_blob_62 : decode cX7_blob 62 = .ok (.iload_n 2, 1) := by decide +kernel
theorem dX7_blob_63 : decode cX7_blob 63 = .ok (.tableswitch 108 0 6 #[41, 48, 55, 62, 69, 76, 92], 41) := by decide +kernel
theorem dX7_blob_104 : decode cX7_blob 104 = .ok (.aload_n 3, 1) := by decide +kernel
theorem dX7_blob_105 : decode cX7_blob 105 = .ok (.getfield 228, 3) := by decide +kernel
theorem dX7_blob_108 : decode cX7_blob 108 = .ok (.iload_n 1, 1) := by decide +kernel
theorem dX7_blob_109 : decode cX7_blob 109 = .ok (.iaload, 1) := by decide +kernel
theorem dX7_blob_110 : decode cX7_blob 110 = .ok (.ireturn, 1) := by decide +kernel
theorem dX7_blob_111 : decode cX7_blob 111 = .ok (.aload_n 3, 1) := by decide +kernel
theorem dX7_blob_112 : decode cX7_blob 112 = .ok (.getfield 231, 3) := by decide +kernel
theorem dX7_blob_115 : decode cX7_blob 115 = .ok (.iload_n 1, 1) := by decide +kernel
theorem dX7_blob_116 : decode cX7_blob 116 = .ok (.iaload, 1) := by decide +kernel
theorem dX7_blob_117 : decode cX7_blob 117 = .ok (.ireturn, 1) := by decide +kernel
theorem dX7_blob_118 : decode cX7_blob 118 = .ok (.aload_n 3, 1) := by decide +kernel
theorem dX7_blob_119 : decode cX7_blob 119 = .ok (.getfield 234, 3) := by decide +kernel
theorem dX7_blob_122 : decode cX7_blob 122 = .ok (.iload_n 1, 1) := by decide +kernel
theorem dX7_blob_123 : decode cX7_blob 123 = .ok (.iaload, 1) := by decide +kernel
theorem dX7_blob_124 : decode cX7_blob 124 = .ok (.ireturn, 1) := by decide +kernel
theorem dX7_blob_125 : decode cX7_blob 125 = .ok (.aload_n 3, 1) := by decide +kernel
theorem dX7_blob_126 : decode cX7_blob 126 = .ok (.getfield 237, 3) := by decide +kernel
theorem dX7_blob_129 : decode cX7_blob 129 = .ok (.iload_n 1, 1) := by decide +kernel
theorem dX7_blob_130 : decode cX7_blob 130 = .ok (.iaload, 1) := by decide +kernel
theorem dX7_blob_131 : decode cX7_blob 131 = .ok (.ireturn, 1) := by decide +kernel
theorem dX7_blob_132 : decode cX7_blob 132 = .ok (.aload_n 3, 1) := by decide +kernel
theorem dX7_blob_133 : decode cX7_blob 133 = .ok (.getfield 240, 3) := by decide +kernel
theorem dX7_blob_136 : decode cX7_blob 136 = .ok (.iload_n 1, 1) := by decide +kernel
theorem dX7_blob_137 : decode cX7_blob 137 = .ok (.iaload, 1) := by decide +kernel
theorem dX7_blob_138 : decode cX7_blob 138 = .ok (.ireturn, 1) := by decide +kernel
theorem dX7_blob_139 : decode cX7_blob 139 = .ok (.aload_n 3, 1) := by decide +kernel
theorem dX7_blob_140 : decode cX7_blob 140 = .ok (.getfield 243, 3) := by decide +kernel
theorem dX7_blob_143 : decode cX7_blob 143 = .ok (.iload_n 1, 1) := by decide +kernel
theorem dX7_blob_144 : decode cX7_blob 144 = .ok (.iaload, 1) := by decide +kernel
theorem dX7_blob_145 : decode cX7_blob 145 = .ok (.aload_n 3, 1) := by decide +kernel
theorem dX7_blob_146 : decode cX7_blob 146 = .ok (.getfield 246, 3) := by decide +kernel
theorem dX7_blob_149 : decode cX7_blob 149 = .ok (.iload_n 1, 1) := by decide +kernel
theorem dX7_blob_150 : decode cX7_blob 150 = .ok (.iaload, 1) := by decide +kernel
theorem dX7_blob_151 : decode cX7_blob 151 = .ok (.isub, 1) := by decide +kernel
theorem dX7_blob_152 : decode cX7_blob 152 = .ok (.iconst 1, 1) := by decide +kernel
theorem dX7_blob_153 : decode cX7_blob 153 = .ok (.iadd, 1) := by decide +kernel
theorem dX7_blob_154 : decode cX7_blob 154 = .ok (.ireturn, 1) := by decide +kernel
theorem dX7_blob_155 : decode cX7_blob 155 = .ok (.aload_n 3, 1) := by decide +kernel
theorem dX7_blob_156 : decode cX7_blob 156 = .ok (.getfield 249, 3) := by decide +kernel
theorem dX7_blob_159 : decode cX7_blob 159 = .ok (.iload_n 1, 1) := by decide +kernel
theorem dX7_blob_160 : decode cX7_blob 160 = .ok (.iaload, 1) := by decide +kernel
theorem dX7_blob_161 : decode cX7_blob 161 = .ok (.aload_n 3, 1) := by decide +kernel
theorem dX7_blob_162 : decode cX7_blob 162 = .ok (.getfield 240, 3) := by decide +kernel
theorem dX7_blob_165 : decode cX7_blob 165 = .ok (.iload_n 1, 1) := by decide +kernel
theorem dX7_blob_166 : decode cX7_blob 166 = .ok (.iaload, 1) := by decide +kernel
theorem dX7_blob_167 : decode cX7_blob 167 = .ok (.isub, 1) := by decide +kernel
theorem dX7_blob_168 : decode cX7_blob 168 = .ok (.iconst 1, 1) := by decide +kernel
theorem dX7_blob_169 : decode cX7_blob 169 = .ok (.iadd, 1) := by decide +kernel
theorem dX7_blob_170 : decode cX7_blob 170 = .ok (.ireturn, 1) := by decide +kernel
theorem dX7_blob_171 : decode cX7_blob 171 = .ok (.iconst (-1), 1) := by decide +kernel
theorem dX7_blob_172 : decode cX7_blob 172 = .ok (.ireturn, 1) := by decide +kernel
def mX7_blob : MM := (yX7_blob, cX7_blob, 4, Option.some Jvm.ClassFile.FieldType.int, { frames := 3, cells := 0, slots := 0, locals := 78 })
def fX7_blob (σ : SS) (a1 : Int32) (a2 : Int32) : Option (Int32 × SS) :=
  bnd1 (fX0_find σ (gR σ 1 2) (gI σ 32 0) (gI σ 32 1)) fun σ1 =>
  vthen (fun (_u : Unit) =>
    if a1 < 0 then (
      some ((-1 : Int32), σ1)
      ) else (
      if a1 < (gI σ1 33 0) then (
        if a2 = (0 : Int32) then (
          grd (inb a1 800) <|
          some ((gI σ1 34 (Int32.toNatClampNeg a1)), σ1)
          ) else
        if a2 = (1 : Int32) then (
          grd (inb a1 800) <|
          some ((gI σ1 35 (Int32.toNatClampNeg a1)), σ1)
          ) else
        if a2 = (2 : Int32) then (
          grd (inb a1 800) <|
          some ((gI σ1 36 (Int32.toNatClampNeg a1)), σ1)
          ) else
        if a2 = (3 : Int32) then (
          grd (inb a1 800) <|
          some ((gI σ1 37 (Int32.toNatClampNeg a1)), σ1)
          ) else
        if a2 = (4 : Int32) then (
          grd (inb a1 800) <|
          some ((gI σ1 38 (Int32.toNatClampNeg a1)), σ1)
          ) else
        if a2 = (5 : Int32) then (
          grd (inb a1 800) <|
          some ((((gI σ1 40 (Int32.toNatClampNeg a1)) - (gI σ1 39 (Int32.toNatClampNeg a1))) + (1 : Int32)), σ1)
          ) else
        if a2 = (6 : Int32) then (
          grd (inb a1 800) <|
          some ((((gI σ1 41 (Int32.toNatClampNeg a1)) - (gI σ1 38 (Int32.toNatClampNeg a1))) + (1 : Int32)), σ1)
          ) else
        some ((-1 : Int32), σ1)
        ) else (
        some ((-1 : Int32), σ1)
        )
      )
    ) fun j48 =>
  if a1 = (-1 : Int32) then (
    if a2 = 0 then (
      some ((gI σ1 33 0), σ1)
      ) else (
      j48 ()
      )
    ) else (
    j48 ()
    )

set_option maxRecDepth 20000 in
theorem sX7_blob {g : GG} {σ : SS} {a1 : Int32} {a2 : Int32} {r : Int32 × SS} (hr : fX7_blob σ a1 a2 = some r)  : Ct g mX7_blob [.ref (ad g 1), .int a1, .int a2] NF σ (some (.int r.1)) NF r.2 := by
  refine Ct.of (by decide +kernel) (nle rfl) fun hw0 => ?_
  have hw := hw0 rfl
  unfold fX7_blob at hr
  change RR g mX7_blob (FinR g mX7_blob (some (.int r.1)) NF r.2) zF 0 [(0, .ref (ad g 1)), (1, .int a1), (2, .int a2)] [] σ
  refine r_aload_n (pc := 0) (j := 0) dX7_blob_0 rfl rfl ?_
  refine gf7_12 (pc := 1) tw_2_115 hw dX7_blob_1 ?_
  refine gf3_1 (pc := 4) tw_2_23 hw dX7_blob_4 ?_
  refine r_astore_n (pc := 7) (ls1 := [(3, .ref (ad g 33)), (0, .ref (ad g 1)), (1, .int a1), (2, .int a2)]) dX7_blob_7 rfl (nle rfl) rfl ?_
  refine r_aload_n (pc := 8) (j := 0) dX7_blob_8 rfl rfl ?_
  refine r_aload_n (pc := 9) (j := 1) dX7_blob_9 rfl rfl ?_
  refine gf7_2 (pc := 10) tw_2_105 hw dX7_blob_10 ?_
  refine r_aload_n (pc := 13) (j := 1) dX7_blob_13 rfl rfl ?_
  refine gf7_12 (pc := 14) tw_2_115 hw dX7_blob_14 ?_
  refine gf3_0 (pc := 17) tw_2_21 hw dX7_blob_17 ?_
  refine r_iconst (pc := 20) (v := (0 : Int32)) dX7_blob_20 rfl ?_
  refine x_iald (pc := 21) (k := 0) rfl (by decide) rfl dX7_blob_21 ?_
  refine r_aload_n (pc := 22) (j := 1) dX7_blob_22 rfl rfl ?_
  refine gf7_12 (pc := 23) tw_2_115 hw dX7_blob_23 ?_
  refine gf3_0 (pc := 26) tw_2_21 hw dX7_blob_26 ?_
  refine r_iconst (pc := 29) (v := (1 : Int32)) dX7_blob_29 rfl ?_
  refine x_iald (pc := 30) (k := 1) rfl (by decide) rfl dX7_blob_30 ?_
  obtain ⟨σ1, eσ1, hr⟩ := bnd1_inv hr
  refine kX0_find (pc := 31) eσ1 (wt_sc hw).1 tw_4_153 ⟨nle rfl, nle rfl⟩ (nle rfl) dX7_blob_31 fun hσ1 => ?_
  refine r_iload_n (pc := 34) (j := 2) dX7_blob_34 rfl rfl ?_
  refine r_iconst (pc := 35) (v := (-1 : Int32)) dX7_blob_35 rfl ?_
  obtain ⟨j48, ej48, hr⟩ := vth_ex hr
  have hj48 : j48 () = some r → RR g mX7_blob (FinR g mX7_blob (some (.int r.1)) NF r.2) zF 48 [(1, .int a1), (2, .int a2), (3, .ref (ad g 33))] [] σ1 := by
    intro  hr
    replace hr := (congrFun ej48 ()).symm.trans hr
    refine r_iload_n (pc := 48) (j := 0) dX7_blob_48 rfl rfl ?_
    refine r_if_lt (pc := 49) (tgt := 60) dX7_blob_49 rfl (fun hc => ?_) (fun hc => ?_)
    · replace hr := ite_t hc hr
      refine r_iconst (pc := 60) (v := (-1 : Int32)) dX7_blob_60 rfl ?_
      exact l_osi hr (r_iret (pc := 61) (v := (-1 : Int32)) rfl rfl ⟨Nat.le_refl _, Nat.le_refl _⟩ dX7_blob_61)
    replace hr := ite_f hc hr
    refine r_iload_n (pc := 52) (j := 0) dX7_blob_52 rfl rfl ?_
    refine r_aload_n (pc := 53) (j := 2) dX7_blob_53 rfl rfl ?_
    refine gf0_0 (pc := 54) tw_1_182 rfl dX7_blob_54 ?_
    refine r_icmp_lt (pc := 57) (tgt := 62) dX7_blob_57 rfl (fun hc => ?_) (fun hc => ?_)
    · replace hr := ite_t hc hr
      refine r_iload_n (pc := 62) (j := 1) dX7_blob_62 rfl rfl ?_
      by_cases hc0 : a2 = (0 : Int32)
      · replace hr := ite_t hc0 hr
        refine r_tabIn (pc := 63) (off := 41) (tgt := 104) dX7_blob_63 (by rw [hc0]; decide) (by rw [hc0]; decide) (by rw [hc0]; rfl) rfl ?_
        refine r_aload_n (pc := 104) (j := 2) dX7_blob_104 rfl rfl ?_
        refine gf0_1 (pc := 105) tw_1_185 hσ1 dX7_blob_105 ?_
        refine r_iload_n (pc := 108) (j := 0) dX7_blob_108 rfl rfl ?_
        obtain ⟨h2, hr⟩ := grd_inv hr
        refine x_iald (pc := 109) (k := (Int32.toNatClampNeg a1)) rfl h2 rfl dX7_blob_109 ?_
        exact l_osi hr (r_iret (pc := 110) (v := (gI σ1 34 (Int32.toNatClampNeg a1))) rfl rfl ⟨Nat.le_refl _, Nat.le_refl _⟩ dX7_blob_110)
      replace hr := ite_f hc0 hr
      by_cases hc1 : a2 = (1 : Int32)
      · replace hr := ite_t hc1 hr
        refine r_tabIn (pc := 63) (off := 48) (tgt := 111) dX7_blob_63 (by rw [hc1]; decide) (by rw [hc1]; decide) (by rw [hc1]; rfl) rfl ?_
        refine r_aload_n (pc := 111) (j := 2) dX7_blob_111 rfl rfl ?_
        refine gf0_2 (pc := 112) tw_1_188 hσ1 dX7_blob_112 ?_
        refine r_iload_n (pc := 115) (j := 0) dX7_blob_115 rfl rfl ?_
        obtain ⟨h3, hr⟩ := grd_inv hr
        refine x_iald (pc := 116) (k := (Int32.toNatClampNeg a1)) rfl h3 rfl dX7_blob_116 ?_
        exact l_osi hr (r_iret (pc := 117) (v := (gI σ1 35 (Int32.toNatClampNeg a1))) rfl rfl ⟨Nat.le_refl _, Nat.le_refl _⟩ dX7_blob_117)
      replace hr := ite_f hc1 hr
      by_cases hc2 : a2 = (2 : Int32)
      · replace hr := ite_t hc2 hr
        refine r_tabIn (pc := 63) (off := 55) (tgt := 118) dX7_blob_63 (by rw [hc2]; decide) (by rw [hc2]; decide) (by rw [hc2]; rfl) rfl ?_
        refine r_aload_n (pc := 118) (j := 2) dX7_blob_118 rfl rfl ?_
        refine gf0_3 (pc := 119) tw_1_191 hσ1 dX7_blob_119 ?_
        refine r_iload_n (pc := 122) (j := 0) dX7_blob_122 rfl rfl ?_
        obtain ⟨h4, hr⟩ := grd_inv hr
        refine x_iald (pc := 123) (k := (Int32.toNatClampNeg a1)) rfl h4 rfl dX7_blob_123 ?_
        exact l_osi hr (r_iret (pc := 124) (v := (gI σ1 36 (Int32.toNatClampNeg a1))) rfl rfl ⟨Nat.le_refl _, Nat.le_refl _⟩ dX7_blob_124)
      replace hr := ite_f hc2 hr
      by_cases hc3 : a2 = (3 : Int32)
      · replace hr := ite_t hc3 hr
        refine r_tabIn (pc := 63) (off := 62) (tgt := 125) dX7_blob_63 (by rw [hc3]; decide) (by rw [hc3]; decide) (by rw [hc3]; rfl) rfl ?_
        refine r_aload_n (pc := 125) (j := 2) dX7_blob_125 rfl rfl ?_
        refine gf0_4 (pc := 126) tw_1_193 hσ1 dX7_blob_126 ?_
        refine r_iload_n (pc := 129) (j := 0) dX7_blob_129 rfl rfl ?_
        obtain ⟨h5, hr⟩ := grd_inv hr
        refine x_iald (pc := 130) (k := (Int32.toNatClampNeg a1)) rfl h5 rfl dX7_blob_130 ?_
        exact l_osi hr (r_iret (pc := 131) (v := (gI σ1 37 (Int32.toNatClampNeg a1))) rfl rfl ⟨Nat.le_refl _, Nat.le_refl _⟩ dX7_blob_131)
      replace hr := ite_f hc3 hr
      by_cases hc4 : a2 = (4 : Int32)
      · replace hr := ite_t hc4 hr
        refine r_tabIn (pc := 63) (off := 69) (tgt := 132) dX7_blob_63 (by rw [hc4]; decide) (by rw [hc4]; decide) (by rw [hc4]; rfl) rfl ?_
        refine r_aload_n (pc := 132) (j := 2) dX7_blob_132 rfl rfl ?_
        refine gf0_5 (pc := 133) tw_1_195 hσ1 dX7_blob_133 ?_
        refine r_iload_n (pc := 136) (j := 0) dX7_blob_136 rfl rfl ?_
        obtain ⟨h6, hr⟩ := grd_inv hr
        refine x_iald (pc := 137) (k := (Int32.toNatClampNeg a1)) rfl h6 rfl dX7_blob_137 ?_
        exact l_osi hr (r_iret (pc := 138) (v := (gI σ1 38 (Int32.toNatClampNeg a1))) rfl rfl ⟨Nat.le_refl _, Nat.le_refl _⟩ dX7_blob_138)
      replace hr := ite_f hc4 hr
      by_cases hc5 : a2 = (5 : Int32)
      · replace hr := ite_t hc5 hr
        refine r_tabIn (pc := 63) (off := 76) (tgt := 139) dX7_blob_63 (by rw [hc5]; decide) (by rw [hc5]; decide) (by rw [hc5]; rfl) rfl ?_
        refine r_aload_n (pc := 139) (j := 2) dX7_blob_139 rfl rfl ?_
        refine gf0_7 (pc := 140) tw_1_199 hσ1 dX7_blob_140 ?_
        refine r_iload_n (pc := 143) (j := 0) dX7_blob_143 rfl rfl ?_
        obtain ⟨h7, hr⟩ := grd_inv hr
        refine x_iald (pc := 144) (k := (Int32.toNatClampNeg a1)) rfl h7 rfl dX7_blob_144 ?_
        refine r_aload_n (pc := 145) (j := 2) dX7_blob_145 rfl rfl ?_
        refine gf0_6 (pc := 146) tw_1_197 hσ1 dX7_blob_146 ?_
        refine r_iload_n (pc := 149) (j := 0) dX7_blob_149 rfl rfl ?_
        refine x_iald (pc := 150) (k := (Int32.toNatClampNeg a1)) rfl h7 rfl dX7_blob_150 ?_
        refine r_isub (pc := 151) dX7_blob_151 ?_
        refine r_iconst (pc := 152) (v := (1 : Int32)) dX7_blob_152 rfl ?_
        refine r_iadd (pc := 153) dX7_blob_153 ?_
        exact l_osi hr (r_iret (pc := 154) (v := (((gI σ1 40 (Int32.toNatClampNeg a1)) - (gI σ1 39 (Int32.toNatClampNeg a1))) + (1 : Int32))) rfl rfl ⟨Nat.le_refl _, Nat.le_refl _⟩ dX7_blob_154)
      replace hr := ite_f hc5 hr
      by_cases hc6 : a2 = (6 : Int32)
      · replace hr := ite_t hc6 hr
        refine r_tabIn (pc := 63) (off := 92) (tgt := 155) dX7_blob_63 (by rw [hc6]; decide) (by rw [hc6]; decide) (by rw [hc6]; rfl) rfl ?_
        refine r_aload_n (pc := 155) (j := 2) dX7_blob_155 rfl rfl ?_
        refine gf0_8 (pc := 156) tw_1_201 hσ1 dX7_blob_156 ?_
        refine r_iload_n (pc := 159) (j := 0) dX7_blob_159 rfl rfl ?_
        obtain ⟨h8, hr⟩ := grd_inv hr
        refine x_iald (pc := 160) (k := (Int32.toNatClampNeg a1)) rfl h8 rfl dX7_blob_160 ?_
        refine r_aload_n (pc := 161) (j := 2) dX7_blob_161 rfl rfl ?_
        refine gf0_5 (pc := 162) tw_1_195 hσ1 dX7_blob_162 ?_
        refine r_iload_n (pc := 165) (j := 0) dX7_blob_165 rfl rfl ?_
        refine x_iald (pc := 166) (k := (Int32.toNatClampNeg a1)) rfl h8 rfl dX7_blob_166 ?_
        refine r_isub (pc := 167) dX7_blob_167 ?_
        refine r_iconst (pc := 168) (v := (1 : Int32)) dX7_blob_168 rfl ?_
        refine r_iadd (pc := 169) dX7_blob_169 ?_
        exact l_osi hr (r_iret (pc := 170) (v := (((gI σ1 41 (Int32.toNatClampNeg a1)) - (gI σ1 38 (Int32.toNatClampNeg a1))) + (1 : Int32))) rfl rfl ⟨Nat.le_refl _, Nat.le_refl _⟩ dX7_blob_170)
      replace hr := ite_f hc6 hr
      refine r_tabOut (pc := 63) (tgt := 171) dX7_blob_63 (tab_out (by decide) (by decide) fun k h1 h2 => ?_) rfl ?_
      · rcases (show k = 0 ∨ k = 1 ∨ k = 2 ∨ k = 3 ∨ k = 4 ∨ k = 5 ∨ k = 6 by omega) with rfl | rfl | rfl | rfl | rfl | rfl | rfl
        · exact hc0
        · exact hc1
        · exact hc2
        · exact hc3
        · exact hc4
        · exact hc5
        · exact hc6
      refine r_iconst (pc := 171) (v := (-1 : Int32)) dX7_blob_171 rfl ?_
      exact l_osi hr (r_iret (pc := 172) (v := (-1 : Int32)) rfl rfl ⟨Nat.le_refl _, Nat.le_refl _⟩ dX7_blob_172)
    replace hr := ite_f hc hr
    refine r_iconst (pc := 60) (v := (-1 : Int32)) dX7_blob_60 rfl ?_
    exact l_osi hr (r_iret (pc := 61) (v := (-1 : Int32)) rfl rfl ⟨Nat.le_refl _, Nat.le_refl _⟩ dX7_blob_61)
  refine r_icmp_ne (pc := 36) (tgt := 48) dX7_blob_36 rfl (fun hc => ?_) (fun hc => ?_)
  · replace hr := ite_f hc hr
    exact r_pick (ls1 := [(1, .int a1), (2, .int a2), (3, .ref (ad g 33))]) [2, 3, 0] rfl (hj48  hr)
  replace hr := ite_t hc hr
  refine r_iload_n (pc := 39) (j := 3) dX7_blob_39 rfl rfl ?_
  refine r_if_ne (pc := 40) (tgt := 48) dX7_blob_40 rfl (fun hc => ?_) (fun hc => ?_)
  · replace hr := ite_f hc hr
    exact r_pick (ls1 := [(1, .int a1), (2, .int a2), (3, .ref (ad g 33))]) [2, 3, 0] rfl (hj48  hr)
  replace hr := ite_t hc hr
  refine r_aload_n (pc := 43) (j := 0) dX7_blob_43 rfl rfl ?_
  refine gf0_0 (pc := 44) tw_1_182 rfl dX7_blob_44 ?_
  exact l_osi hr (r_iret (pc := 47) (v := (gI σ1 33 0)) rfl rfl ⟨Nat.le_refl _, Nat.le_refl _⟩ dX7_blob_47)

theorem kX7_blob {g : GG} {σ : SS} {a1 : Int32} {a2 : Int32} {v : Int32} {σ2 : SS} {M : MM} {F : State → Array Value → List Frame → State → Prop} {pc index : Nat} {ls : List (Nat × Value)} {rest : List Value} (hf : fX7_blob σ a1 a2 = some (v, σ2))  (hl : Cond.methodLink M.1.cls index yX7_blob ∈ lw_gt) (hR : mX7_blob.2.2.2.2.frames + 1 ≤ M.2.2.2.2.frames ∧ 8 + (mX7_blob.2.2.1 + 11) + mX7_blob.2.2.2.2.locals ≤ M.2.2.2.2.locals) (hrest : (rest.map fun v => v.category).sum ≤ 8) (hd : decode M.2.1 pc = .ok (.invokevirtual index, 3)) (k : WT σ2 → RR g M F zF (pc + 3) ls (.int v :: rest) σ2) : RR g M F zF pc ls (.int a2 :: .int a1 :: .ref (ad g 1) :: rest) σ :=
  r_callV (z := zF) (N := mX7_blob) (nn := 2) (o1 := some (.int v)) (sX7_blob hf ) (rfl : shp 1 = (7, 0)) (by decide) (shp_le (rfl : shp 1 = (7, 0)) (nle rfl)) (ci := 7) rfl rfl tw_4_152 tw_1_1 hl tw_4_150 tw_4_151 ⟨by decide, by decide, rfl⟩ hR rfl hrest hd ⟨Nat.zero_le _, Nat.zero_le _⟩ rfl (fun h => k (h rfl))

theorem dX3_leastMargin_0 : decode cX3_leastMargin 0 = .ok (.aload_n 0, 1) := by decide +kernel
theorem dX3_leastMargin_1 : decode cX3_leastMargin 1 = .ok (.getfield 47, 3) := by decide +kernel
theorem dX3_leastMargin_4 : decode cX3_leastMargin 4 = .ok (.iload_n 1, 1) := by decide +kernel
theorem dX3_leastMargin_5 : decode cX3_leastMargin 5 = .ok (.iaload, 1) := by decide +kernel
theorem dX3_leastMargin_6 : decode cX3_leastMargin 6 = .ok (.istore_n 2, 1) := by decide +kernel
theorem dX3_leastMargin_7 : decode cX3_leastMargin 7 = .ok (.aload_n 0, 1) := by decide +kernel
theorem dX3_leastMargin_8 : decode cX3_leastMargin 8 = .ok (.getfield 9, 3) := by decide +kernel
theorem dX3_leastMargin_11 : decode cX3_leastMargin 11 = .ok (.iconst 3, 1) := by decide +kernel
theorem dX3_leastMargin_12 : decode cX3_leastMargin 12 = .ok (.iaload, 1) := by decide +kernel
theorem dX3_leastMargin_13 : decode cX3_leastMargin 13 = .ok (.iload_n 2, 1) := by decide +kernel
theorem dX3_leastMargin_14 : decode cX3_leastMargin 14 = .ok (.if_icmp .gt 5, 3) := by decide +kernel
theorem dX3_leastMargin_17 : decode cX3_leastMargin 17 = .ok (.iconst 1, 1) := by decide +kernel
theorem dX3_leastMargin_18 : decode cX3_leastMargin 18 = .ok (.ireturn, 1) := by decide +kernel
theorem dX3_leastMargin_19 : decode cX3_leastMargin 19 = .ok (.aload_n 0, 1) := by decide +kernel
theorem dX3_leastMargin_20 : decode cX3_leastMargin 20 = .ok (.getfield 9, 3) := by decide +kernel
theorem dX3_leastMargin_23 : decode cX3_leastMargin 23 = .ok (.iconst 3, 1) := by decide +kernel
theorem dX3_leastMargin_24 : decode cX3_leastMargin 24 = .ok (.iaload, 1) := by decide +kernel
theorem dX3_leastMargin_25 : decode cX3_leastMargin 25 = .ok (.iconst 2, 1) := by decide +kernel
theorem dX3_leastMargin_26 : decode cX3_leastMargin 26 = .ok (.iload_n 2, 1) := by decide +kernel
theorem dX3_leastMargin_27 : decode cX3_leastMargin 27 = .ok (.imul, 1) := by decide +kernel
theorem dX3_leastMargin_28 : decode cX3_leastMargin 28 = .ok (.if_icmp .gt 9, 3) := by decide +kernel
theorem dX3_leastMargin_31 : decode cX3_leastMargin 31 = .ok (.iload_n 2, 1) := by decide +kernel
theorem dX3_leastMargin_32 : decode cX3_leastMargin 32 = .ok (.iconst 1, 1) := by decide +kernel
theorem dX3_leastMargin_33 : decode cX3_leastMargin 33 = .ok (.iadd, 1) := by decide +kernel
theorem dX3_leastMargin_34 : decode cX3_leastMargin 34 = .ok (.goto 8, 3) := by decide +kernel
theorem dX3_leastMargin_37 : decode cX3_leastMargin 37 = .ok (.iconst 2, 1) := by decide +kernel
theorem dX3_leastMargin_38 : decode cX3_leastMargin 38 = .ok (.iload_n 2, 1) := by decide +kernel
theorem dX3_leastMargin_39 : decode cX3_leastMargin 39 = .ok (.imul, 1) := by decide +kernel
theorem dX3_leastMargin_40 : decode cX3_leastMargin 40 = .ok (.iconst 1, 1) := by decide +kernel
theorem dX3_leastMargin_41 : decode cX3_leastMargin 41 = .ok (.iadd, 1) := by decide +kernel
theorem dX3_leastMargin_42 : decode cX3_leastMargin 42 = .ok (.ireturn, 1) := by decide +kernel
def mX3_leastMargin : MM := (yX3_leastMargin, cX3_leastMargin, 3, Option.some Jvm.ClassFile.FieldType.int, { frames := 0, cells := 0, slots := 0, locals := 0 })
def fX3_leastMargin (σ0 : SS) (a1 : Int32) : Option Int32 :=
  grd (inb a1 12) <|
  vthen (gI σ0 56 (Int32.toNatClampNeg a1)) fun v2 =>
  if v2 < (gI σ0 32 3) then (
    if ((2 : Int32) * v2) < (gI σ0 32 3) then (
      some (((2 : Int32) * v2) + (1 : Int32))
      ) else (
      some (v2 + (1 : Int32))
      )
    ) else (
    some (1 : Int32)
    )

set_option maxRecDepth 20000 in
theorem sX3_leastMargin {g : GG} {σ0 : SS} {a1 : Int32} {r : Int32} (hr : fX3_leastMargin σ0 a1 = some r)  : Ct g mX3_leastMargin [.ref (ad g 31), .int a1] NF σ0 (some (.int r)) NF σ0 := by
  refine Ct.of (by decide +kernel) (nle rfl) fun hw0 => ?_
  have hw := hw0 rfl
  unfold fX3_leastMargin at hr
  change RR g mX3_leastMargin (FinR g mX3_leastMargin (some (.int r)) NF σ0) zF 0 [(0, .ref (ad g 31)), (1, .int a1)] [] σ0
  refine r_aload_n (pc := 0) (j := 0) dX3_leastMargin_0 rfl rfl ?_
  refine gf3_10 (pc := 1) tw_2_41 hw dX3_leastMargin_1 ?_
  refine r_iload_n (pc := 4) (j := 1) dX3_leastMargin_4 rfl rfl ?_
  obtain ⟨h1, hr⟩ := grd_inv hr
  refine x_iald (pc := 5) (k := (Int32.toNatClampNeg a1)) rfl h1 rfl dX3_leastMargin_5 ?_
  refine r_topi fun v2 ev2 => ?_
  replace hr := vthen_inv hr v2 ev2
  refine r_istore_n (pc := 6) (ls1 := [(2, .int v2), (0, .ref (ad g 31)), (1, .int a1)]) dX3_leastMargin_6 rfl (nle rfl) rfl ?_
  refine r_aload_n (pc := 7) (j := 1) dX3_leastMargin_7 rfl rfl ?_
  refine gf3_0 (pc := 8) tw_2_20 hw dX3_leastMargin_8 ?_
  refine r_iconst (pc := 11) (v := (3 : Int32)) dX3_leastMargin_11 rfl ?_
  refine x_iald (pc := 12) (k := 3) rfl (by decide) rfl dX3_leastMargin_12 ?_
  refine r_iload_n (pc := 13) (j := 0) dX3_leastMargin_13 rfl rfl ?_
  refine r_icmp_gt (pc := 14) (tgt := 19) dX3_leastMargin_14 rfl (fun hc => ?_) (fun hc => ?_)
  · replace hr := ite_t hc hr
    refine r_aload_n (pc := 19) (j := 1) dX3_leastMargin_19 rfl rfl ?_
    refine gf3_0 (pc := 20) tw_2_20 hw dX3_leastMargin_20 ?_
    refine r_iconst (pc := 23) (v := (3 : Int32)) dX3_leastMargin_23 rfl ?_
    refine x_iald (pc := 24) (k := 3) rfl (by decide) rfl dX3_leastMargin_24 ?_
    refine r_iconst (pc := 25) (v := (2 : Int32)) dX3_leastMargin_25 rfl ?_
    refine r_iload_n (pc := 26) (j := 0) dX3_leastMargin_26 rfl rfl ?_
    refine r_imul (pc := 27) dX3_leastMargin_27 ?_
    refine r_icmp_gt (pc := 28) (tgt := 37) dX3_leastMargin_28 rfl (fun hc => ?_) (fun hc => ?_)
    · replace hr := ite_t hc hr
      refine r_iconst (pc := 37) (v := (2 : Int32)) dX3_leastMargin_37 rfl ?_
      refine r_iload_n (pc := 38) (j := 0) dX3_leastMargin_38 rfl rfl ?_
      refine r_imul (pc := 39) dX3_leastMargin_39 ?_
      refine r_iconst (pc := 40) (v := (1 : Int32)) dX3_leastMargin_40 rfl ?_
      refine r_iadd (pc := 41) dX3_leastMargin_41 ?_
      exact l_opi hr (r_iret (pc := 42) (v := (((2 : Int32) * v2) + (1 : Int32))) rfl rfl ⟨Nat.le_refl _, Nat.le_refl _⟩ dX3_leastMargin_42)
    replace hr := ite_f hc hr
    refine r_iload_n (pc := 31) (j := 0) dX3_leastMargin_31 rfl rfl ?_
    refine r_iconst (pc := 32) (v := (1 : Int32)) dX3_leastMargin_32 rfl ?_
    refine r_iadd (pc := 33) dX3_leastMargin_33 ?_
    refine r_goto (pc := 34) (tgt := 42) dX3_leastMargin_34 rfl ?_
    exact l_opi hr (r_iret (pc := 42) (v := (v2 + (1 : Int32))) rfl rfl ⟨Nat.le_refl _, Nat.le_refl _⟩ dX3_leastMargin_42)
  replace hr := ite_f hc hr
  refine r_iconst (pc := 17) (v := (1 : Int32)) dX3_leastMargin_17 rfl ?_
  exact l_opi hr (r_iret (pc := 18) (v := (1 : Int32)) rfl rfl ⟨Nat.le_refl _, Nat.le_refl _⟩ dX3_leastMargin_18)

theorem kX3_leastMargin {g : GG} {σ0 : SS} {a1 : Int32} {v : Int32} {M : MM} {F : State → Array Value → List Frame → State → Prop} {pc index : Nat} {ls : List (Nat × Value)} {rest : List Value} (hf : fX3_leastMargin σ0 a1 = some v)  (hl : Cond.methodLink M.1.cls index yX3_leastMargin ∈ lw_gt) (hR : mX3_leastMargin.2.2.2.2.frames + 1 ≤ M.2.2.2.2.frames ∧ 8 + (mX3_leastMargin.2.2.1 + 11) + mX3_leastMargin.2.2.2.2.locals ≤ M.2.2.2.2.locals) (hrest : (rest.map fun v => v.category).sum ≤ 8) (hd : decode M.2.1 pc = .ok (.invokevirtual index, 3)) (k : RR g M F zF (pc + 3) ls (.int v :: rest) σ0) : RR g M F zF pc ls (.int a1 :: .ref (ad g 31) :: rest) σ0 :=
  r_callV (z := zF) (N := mX3_leastMargin) (nn := 1) (o1 := some (.int v)) (sX3_leastMargin hf ) (rfl : shp 31 = (3, 0)) (by decide) (shp_le (rfl : shp 31 = (3, 0)) (nle rfl)) (ci := 3) rfl rfl tw_4_164 tw_1_5 hl tw_4_162 tw_4_163 ⟨by decide, by decide, rfl⟩ hR rfl hrest hd ⟨Nat.zero_le _, Nat.zero_le _⟩ rfl (fun h => k)

theorem dX3_greatestMargin_0 : decode cX3_greatestMargin 0 = .ok (.aload_n 0, 1) := by decide +kernel
theorem dX3_greatestMargin_1 : decode cX3_greatestMargin 1 = .ok (.getfield 47, 3) := by decide +kernel
theorem dX3_greatestMargin_4 : decode cX3_greatestMargin 4 = .ok (.iload_n 1, 1) := by decide +kernel
theorem dX3_greatestMargin_5 : decode cX3_greatestMargin 5 = .ok (.iaload, 1) := by decide +kernel
theorem dX3_greatestMargin_6 : decode cX3_greatestMargin 6 = .ok (.istore_n 2, 1) := by decide +kernel
theorem dX3_greatestMargin_7 : decode cX3_greatestMargin 7 = .ok (.aload_n 0, 1) := by decide +kernel
theorem dX3_greatestMargin_8 : decode cX3_greatestMargin 8 = .ok (.getfield 9, 3) := by decide +kernel
theorem dX3_greatestMargin_11 : decode cX3_greatestMargin 11 = .ok (.iconst 3, 1) := by decide +kernel
theorem dX3_greatestMargin_12 : decode cX3_greatestMargin 12 = .ok (.iaload, 1) := by decide +kernel
theorem dX3_greatestMargin_13 : decode cX3_greatestMargin 13 = .ok (.iload_n 2, 1) := by decide +kernel
theorem dX3_greatestMargin_14 : decode cX3_greatestMargin 14 = .ok (.if_icmp .gt 11, 3) := by decide +kernel
theorem dX3_greatestMargin_17 : decode cX3_greatestMargin 17 = .ok (.iload_n 2, 1) := by decide +kernel
theorem dX3_greatestMargin_18 : decode cX3_greatestMargin 18 = .ok (.sipush 200, 3) := by decide +kernel
theorem dX3_greatestMargin_21 : decode cX3_greatestMargin 21 = .ok (.invokestatic 109, 3) := by decide +kernel
theorem dX3_greatestMargin_24 : decode cX3_greatestMargin 24 = .ok (.ireturn, 1) := by decide +kernel
theorem dX3_greatestMargin_25 : decode cX3_greatestMargin 25 = .ok (.aload_n 0, 1) := by decide +kernel
theorem dX3_greatestMargin_26 : decode cX3_greatestMargin 26 = .ok (.getfield 9, 3) := by decide +kernel
theorem dX3_greatestMargin_29 : decode cX3_greatestMargin 29 = .ok (.iconst 3, 1) := by decide +kernel
theorem dX3_greatestMargin_30 : decode cX3_greatestMargin 30 = .ok (.iaload, 1) := by decide +kernel
theorem dX3_greatestMargin_31 : decode cX3_greatestMargin 31 = .ok (.iconst 2, 1) := by decide +kernel
theorem dX3_greatestMargin_32 : decode cX3_greatestMargin 32 = .ok (.iload_n 2, 1) := by decide +kernel
theorem dX3_greatestMargin_33 : decode cX3_greatestMargin 33 = .ok (.imul, 1) := by decide +kernel
theorem dX3_greatestMargin_34 : decode cX3_greatestMargin 34 = .ok (.if_icmp .gt 15, 3) := by decide +kernel
theorem dX3_greatestMargin_37 : decode cX3_greatestMargin 37 = .ok (.iconst 2, 1) := by decide +kernel
theorem dX3_greatestMargin_38 : decode cX3_greatestMargin 38 = .ok (.iload_n 2, 1) := by decide +kernel
theorem dX3_greatestMargin_39 : decode cX3_greatestMargin 39 = .ok (.imul, 1) := by decide +kernel
theorem dX3_greatestMargin_40 : decode cX3_greatestMargin 40 = .ok (.sipush 200, 3) := by decide +kernel
theorem dX3_greatestMargin_43 : decode cX3_greatestMargin 43 = .ok (.invokestatic 109, 3) := by decide +kernel
theorem dX3_greatestMargin_46 : decode cX3_greatestMargin 46 = .ok (.goto 6, 3) := by decide +kernel
theorem dX3_greatestMargin_49 : decode cX3_greatestMargin 49 = .ok (.sipush 200, 3) := by decide +kernel
theorem dX3_greatestMargin_52 : decode cX3_greatestMargin 52 = .ok (.ireturn, 1) := by decide +kernel
def mX3_greatestMargin : MM := (yX3_greatestMargin, cX3_greatestMargin, 3, Option.some Jvm.ClassFile.FieldType.int, { frames := 1, cells := 0, slots := 0, locals := 21 })
def fX3_greatestMargin (σ0 : SS) (a1 : Int32) : Option Int32 :=
  grd (inb a1 12) <|
  vthen (gI σ0 56 (Int32.toNatClampNeg a1)) fun v2 =>
  if v2 < (gI σ0 32 3) then (
    if ((2 : Int32) * v2) < (gI σ0 32 3) then (
      some (200 : Int32)
      ) else (
      some (fJ9_min_7cf53 σ0 ((2 : Int32) * v2) (200 : Int32))
      )
    ) else (
    some (fJ9_min_7cf53 σ0 v2 (200 : Int32))
    )

set_option maxRecDepth 20000 in
theorem sX3_greatestMargin {g : GG} {σ0 : SS} {a1 : Int32} {r : Int32} (hr : fX3_greatestMargin σ0 a1 = some r)  : Ct g mX3_greatestMargin [.ref (ad g 31), .int a1] NF σ0 (some (.int r)) NF σ0 := by
  refine Ct.of (by decide +kernel) (nle rfl) fun hw0 => ?_
  have hw := hw0 rfl
  unfold fX3_greatestMargin at hr
  change RR g mX3_greatestMargin (FinR g mX3_greatestMargin (some (.int r)) NF σ0) zF 0 [(0, .ref (ad g 31)), (1, .int a1)] [] σ0
  refine r_aload_n (pc := 0) (j := 0) dX3_greatestMargin_0 rfl rfl ?_
  refine gf3_10 (pc := 1) tw_2_41 hw dX3_greatestMargin_1 ?_
  refine r_iload_n (pc := 4) (j := 1) dX3_greatestMargin_4 rfl rfl ?_
  obtain ⟨h1, hr⟩ := grd_inv hr
  refine x_iald (pc := 5) (k := (Int32.toNatClampNeg a1)) rfl h1 rfl dX3_greatestMargin_5 ?_
  refine r_topi fun v2 ev2 => ?_
  replace hr := vthen_inv hr v2 ev2
  refine r_istore_n (pc := 6) (ls1 := [(2, .int v2), (0, .ref (ad g 31)), (1, .int a1)]) dX3_greatestMargin_6 rfl (nle rfl) rfl ?_
  refine r_aload_n (pc := 7) (j := 1) dX3_greatestMargin_7 rfl rfl ?_
  refine gf3_0 (pc := 8) tw_2_20 hw dX3_greatestMargin_8 ?_
  refine r_iconst (pc := 11) (v := (3 : Int32)) dX3_greatestMargin_11 rfl ?_
  refine x_iald (pc := 12) (k := 3) rfl (by decide) rfl dX3_greatestMargin_12 ?_
  refine r_iload_n (pc := 13) (j := 0) dX3_greatestMargin_13 rfl rfl ?_
  refine r_icmp_gt (pc := 14) (tgt := 25) dX3_greatestMargin_14 rfl (fun hc => ?_) (fun hc => ?_)
  · replace hr := ite_t hc hr
    refine r_aload_n (pc := 25) (j := 1) dX3_greatestMargin_25 rfl rfl ?_
    refine gf3_0 (pc := 26) tw_2_20 hw dX3_greatestMargin_26 ?_
    refine r_iconst (pc := 29) (v := (3 : Int32)) dX3_greatestMargin_29 rfl ?_
    refine x_iald (pc := 30) (k := 3) rfl (by decide) rfl dX3_greatestMargin_30 ?_
    refine r_iconst (pc := 31) (v := (2 : Int32)) dX3_greatestMargin_31 rfl ?_
    refine r_iload_n (pc := 32) (j := 0) dX3_greatestMargin_32 rfl rfl ?_
    refine r_imul (pc := 33) dX3_greatestMargin_33 ?_
    refine r_icmp_gt (pc := 34) (tgt := 49) dX3_greatestMargin_34 rfl (fun hc => ?_) (fun hc => ?_)
    · replace hr := ite_t hc hr
      refine r_sipush (pc := 49) (v := (200 : Int32)) dX3_greatestMargin_49 rfl ?_
      exact l_opi hr (r_iret (pc := 52) (v := (200 : Int32)) rfl rfl ⟨Nat.le_refl _, Nat.le_refl _⟩ dX3_greatestMargin_52)
    replace hr := ite_f hc hr
    refine r_iconst (pc := 37) (v := (2 : Int32)) dX3_greatestMargin_37 rfl ?_
    refine r_iload_n (pc := 38) (j := 0) dX3_greatestMargin_38 rfl rfl ?_
    refine r_imul (pc := 39) dX3_greatestMargin_39 ?_
    refine r_sipush (pc := 40) (v := (200 : Int32)) dX3_greatestMargin_40 rfl ?_
    refine kJ9_min_7cf53 (pc := 43) (hf := rfl) tw_3_45 ⟨nle rfl, nle rfl⟩ (nle rfl) dX3_greatestMargin_43 ?_
    refine r_goto (pc := 46) (tgt := 52) dX3_greatestMargin_46 rfl ?_
    exact l_opi hr (r_iret (pc := 52) (v := (fJ9_min_7cf53 σ0 ((2 : Int32) * v2) (200 : Int32))) rfl rfl ⟨Nat.le_refl _, Nat.le_refl _⟩ dX3_greatestMargin_52)
  replace hr := ite_f hc hr
  refine r_iload_n (pc := 17) (j := 0) dX3_greatestMargin_17 rfl rfl ?_
  refine r_sipush (pc := 18) (v := (200 : Int32)) dX3_greatestMargin_18 rfl ?_
  refine kJ9_min_7cf53 (pc := 21) (hf := rfl) tw_3_45 ⟨nle rfl, nle rfl⟩ (nle rfl) dX3_greatestMargin_21 ?_
  exact l_opi hr (r_iret (pc := 24) (v := (fJ9_min_7cf53 σ0 v2 (200 : Int32))) rfl rfl ⟨Nat.le_refl _, Nat.le_refl _⟩ dX3_greatestMargin_24)

theorem kX3_greatestMargin {g : GG} {σ0 : SS} {a1 : Int32} {v : Int32} {M : MM} {F : State → Array Value → List Frame → State → Prop} {pc index : Nat} {ls : List (Nat × Value)} {rest : List Value} (hf : fX3_greatestMargin σ0 a1 = some v)  (hl : Cond.methodLink M.1.cls index yX3_greatestMargin ∈ lw_gt) (hR : mX3_greatestMargin.2.2.2.2.frames + 1 ≤ M.2.2.2.2.frames ∧ 8 + (mX3_greatestMargin.2.2.1 + 11) + mX3_greatestMargin.2.2.2.2.locals ≤ M.2.2.2.2.locals) (hrest : (rest.map fun v => v.category).sum ≤ 8) (hd : decode M.2.1 pc = .ok (.invokevirtual index, 3)) (k : RR g M F zF (pc + 3) ls (.int v :: rest) σ0) : RR g M F zF pc ls (.int a1 :: .ref (ad g 31) :: rest) σ0 :=
  r_callV (z := zF) (N := mX3_greatestMargin) (nn := 1) (o1 := some (.int v)) (sX3_greatestMargin hf ) (rfl : shp 31 = (3, 0)) (by decide) (shp_le (rfl : shp 31 = (3, 0)) (nle rfl)) (ci := 3) rfl rfl tw_4_168 tw_1_5 hl tw_4_166 tw_4_167 ⟨by decide, by decide, rfl⟩ hR rfl hrest hd ⟨Nat.zero_le _, Nat.zero_le _⟩ rfl (fun h => k)

theorem dX7_steady_0 : decode cX7_steady 0 = .ok (.aload_n 0, 1) := by decide +kernel
theorem dX7_steady_1 : decode cX7_steady 1 = .ok (.getfield 32, 3) := by decide +kernel
theorem dX7_steady_4 : decode cX7_steady 4 = .ok (.iload_n 1, 1) := by decide +kernel
theorem dX7_steady_5 : decode cX7_steady 5 = .ok (.invokevirtual 121, 3) := by decide +kernel
theorem dX7_steady_8 : decode cX7_steady 8 = .ok (.ifCond .eq 12, 3) := by decide +kernel
theorem dX7_steady_11 : decode cX7_steady 11 = .ok (.iload_n 2, 1) := by decide +kernel
theorem dX7_steady_12 : decode cX7_steady 12 = .ok (.ifCond .lt 8, 3) := by decide +kernel
theorem dX7_steady_15 : decode cX7_steady 15 = .ok (.iload_n 2, 1) := by decide +kernel
theorem dX7_steady_16 : decode cX7_steady 16 = .ok (.iconst 1, 1) := by decide +kernel
theorem dX7_steady_17 : decode cX7_steady 17 = .ok (.if_icmp .le 5, 3) := by decide +kernel
theorem dX7_steady_20 : decode cX7_steady 20 = .ok (.iconst (-1), 1) := by decide +kernel
theorem dX7_steady_21 : decode cX7_steady 21 = .ok (.ireturn, 1) := by decide +kernel
theorem dX7_steady_22 : decode cX7_steady 22 = .ok (.aload_n 0, 1) := by decide +kernel
theorem dX7_steady_23 : decode cX7_steady 23 = .ok (.getfield 62, 3) := by decide +kernel
theorem dX7_steady_26 : decode cX7_steady 26 = .ok (.aload_n 0, 1) := by decide +kernel
theorem dX7_steady_27 : decode cX7_steady 27 = .ok (.getfield 18, 3) := by decide +kernel
theorem dX7_steady_30 : decode cX7_steady 30 = .ok (.aload_n 0, 1) := by decide +kernel
theorem dX7_steady_31 : decode cX7_steady 31 = .ok (.getfield 32, 3) := by decide +kernel
theorem dX7_steady_34 : decode cX7_steady 34 = .ok (.invokevirtual 303, 3) := by decide +kernel
theorem dX7_steady_37 : decode cX7_steady 37 = .ok (.ifCond .ne 6, 3) := by decide +kernel
theorem dX7_steady_40 : decode cX7_steady 40 = .ok (.bipush (-2), 2) := by decide +kernel
theorem dX7_steady_42 : decode cX7_steady 42 = .ok (.ireturn, 1) := by decide +kernel
theorem dX7_steady_43 : decode cX7_steady 43 = .ok (.iload_n 2, 1) := by decide +kernel
theorem dX7_steady_44 : decode cX7_steady 44 = .ok (.ifCond .ne 14, 3) := by decide +kernel
theorem dX7_steady_47 : decode cX7_steady 47 = .ok (.aload_n 0, 1) := by decide +kernel
theorem dX7_steady_48 : decode cX7_steady 48 = .ok (.getfield 62, 3) := by decide +kernel
theorem dX7_steady_51 : decode cX7_steady 51 = .ok (.iload_n 1, 1) := by decide +kernel
theorem dX7_steady_52 : decode cX7_steady 52 = .ok (.invokevirtual 341, 3) := by decide +kernel
theorem dX7_steady_55 : decode cX7_steady 55 = .ok (.goto 11, 3) := by decide +kernel
theorem dX7_steady_58 : decode cX7_steady 58 = .ok (.aload_n 0, 1) := by decide +kernel
theorem dX7_steady_59 : decode cX7_steady 59 = .ok (.getfield 62, 3) := by decide +kernel
theorem dX7_steady_62 : decode cX7_steady 62 = .ok (.iload_n 1, 1) := by decide +kernel
theorem dX7_steady_63 : decode cX7_steady 63 = .ok (.invokevirtual 344, 3) := by decide +kernel
theorem dX7_steady_66 : decode cX7_steady 66 = .ok (.ireturn, 1) := by decide +kernel
def mX7_steady : MM := (yX7_steady, cX7_steady, 3, Option.some Jvm.ClassFile.FieldType.int, { frames := 6, cells := 0, slots := 0, locals := 148 })
def fX7_steady (σ : SS) (a1 : Int32) (a2 : Int32) : Option (Int32 × SS) :=
  if (fX1_hasQuestion σ (gR σ 1 5) a1) = true then (
    if a2 < 0 then (
      some ((-1 : Int32), σ)
      ) else (
      if a2 ≤ (1 : Int32) then (
        bnd (fX3_read σ (gR σ 1 2) (gR σ 1 5)) fun b2 σ4 =>
        if b2 = true then (
          if a2 = 0 then (
            bnd1 (fX3_leastMargin σ4 a1) fun v8 =>
            some (v8, σ4)
            ) else (
            bnd1 (fX3_greatestMargin σ4 a1) fun v5 =>
            some (v5, σ4)
            )
          ) else (
          some ((-2 : Int32), σ4)
          )
        ) else (
        some ((-1 : Int32), σ)
        )
      )
    ) else (
    some ((-1 : Int32), σ)
    )

set_option maxRecDepth 20000 in
theorem sX7_steady {g : GG} {σ : SS} {a1 : Int32} {a2 : Int32} {r : Int32 × SS} (hr : fX7_steady σ a1 a2 = some r)  : Ct g mX7_steady [.ref (ad g 1), .int a1, .int a2] NF σ (some (.int r.1)) NF r.2 := by
  refine Ct.of (by decide +kernel) (nle rfl) fun hw0 => ?_
  have hw := hw0 rfl
  unfold fX7_steady at hr
  change RR g mX7_steady (FinR g mX7_steady (some (.int r.1)) NF r.2) zF 0 [(0, .ref (ad g 1)), (1, .int a1), (2, .int a2)] [] σ
  refine r_aload_n (pc := 0) (j := 0) dX7_steady_0 rfl rfl ?_
  refine gf7_5 (pc := 1) tw_2_108 hw dX7_steady_1 ?_
  refine r_iload_n (pc := 4) (j := 1) dX7_steady_4 rfl rfl ?_
  refine kX1_hasQuestion (pc := 5) (hf := rfl) (wt_fo hw).1 tw_4_82 ⟨nle rfl, nle rfl⟩ (nle rfl) dX7_steady_5 ?_
  refine r_ifB_eq (pc := 8) (tgt := 20) dX7_steady_8 rfl (fun hc => ?_) (fun hc => ?_)
  · replace hr := ite_f hc hr
    refine r_iconst (pc := 20) (v := (-1 : Int32)) dX7_steady_20 rfl ?_
    exact l_osi hr (r_iret (pc := 21) (v := (-1 : Int32)) rfl rfl ⟨Nat.le_refl _, Nat.le_refl _⟩ dX7_steady_21)
  replace hr := ite_t hc hr
  refine r_iload_n (pc := 11) (j := 2) dX7_steady_11 rfl rfl ?_
  refine r_if_lt (pc := 12) (tgt := 20) dX7_steady_12 rfl (fun hc => ?_) (fun hc => ?_)
  · replace hr := ite_t hc hr
    refine r_iconst (pc := 20) (v := (-1 : Int32)) dX7_steady_20 rfl ?_
    exact l_osi hr (r_iret (pc := 21) (v := (-1 : Int32)) rfl rfl ⟨Nat.le_refl _, Nat.le_refl _⟩ dX7_steady_21)
  replace hr := ite_f hc hr
  refine r_iload_n (pc := 15) (j := 2) dX7_steady_15 rfl rfl ?_
  refine r_iconst (pc := 16) (v := (1 : Int32)) dX7_steady_16 rfl ?_
  refine r_icmp_le (pc := 17) (tgt := 22) dX7_steady_17 rfl (fun hc => ?_) (fun hc => ?_)
  · replace hr := ite_t hc hr
    refine r_aload_n (pc := 22) (j := 0) dX7_steady_22 rfl rfl ?_
    refine gf7_12 (pc := 23) tw_2_115 hw dX7_steady_23 ?_
    refine r_aload_n (pc := 26) (j := 0) dX7_steady_26 rfl rfl ?_
    refine gf7_2 (pc := 27) tw_2_105 hw dX7_steady_27 ?_
    refine r_aload_n (pc := 30) (j := 0) dX7_steady_30 rfl rfl ?_
    refine gf7_5 (pc := 31) tw_2_108 hw dX7_steady_31 ?_
    obtain ⟨b2, σ4, eσ4, hr⟩ := bnd_inv hr
    refine kX3_read (pc := 34) eσ4 (wt_sc hw).1 (wt_fo hw).1 tw_3_10 ⟨nle rfl, nle rfl⟩ (nle rfl) dX7_steady_34 fun hσ4 => ?_
    refine r_ifB_ne (pc := 37) (tgt := 43) dX7_steady_37 rfl (fun hc => ?_) (fun hc => ?_)
    · replace hr := ite_t hc hr
      refine r_iload_n (pc := 43) (j := 2) dX7_steady_43 rfl rfl ?_
      refine r_if_ne (pc := 44) (tgt := 58) dX7_steady_44 rfl (fun hc => ?_) (fun hc => ?_)
      · replace hr := ite_f hc hr
        refine r_aload_n (pc := 58) (j := 0) dX7_steady_58 rfl rfl ?_
        refine gf7_12 (pc := 59) tw_2_115 hσ4 dX7_steady_59 ?_
        refine r_iload_n (pc := 62) (j := 1) dX7_steady_62 rfl rfl ?_
        obtain ⟨v5, hv5, hr⟩ := bnd1_inv hr
        refine kX3_greatestMargin (pc := 63) hv5 tw_4_165 ⟨nle rfl, nle rfl⟩ (nle rfl) dX7_steady_63 ?_
        exact l_osi hr (r_iret (pc := 66) (v := v5) rfl rfl ⟨Nat.le_refl _, Nat.le_refl _⟩ dX7_steady_66)
      replace hr := ite_t hc hr
      refine r_aload_n (pc := 47) (j := 0) dX7_steady_47 rfl rfl ?_
      refine gf7_12 (pc := 48) tw_2_115 hσ4 dX7_steady_48 ?_
      refine r_iload_n (pc := 51) (j := 1) dX7_steady_51 rfl rfl ?_
      obtain ⟨v8, hv8, hr⟩ := bnd1_inv hr
      refine kX3_leastMargin (pc := 52) hv8 tw_4_161 ⟨nle rfl, nle rfl⟩ (nle rfl) dX7_steady_52 ?_
      refine r_goto (pc := 55) (tgt := 66) dX7_steady_55 rfl ?_
      exact l_osi hr (r_iret (pc := 66) (v := v8) rfl rfl ⟨Nat.le_refl _, Nat.le_refl _⟩ dX7_steady_66)
    replace hr := ite_f hc hr
    refine r_bipush (pc := 40) (v := (-2 : Int32)) dX7_steady_40 rfl ?_
    exact l_osi hr (r_iret (pc := 42) (v := (-2 : Int32)) rfl rfl ⟨Nat.le_refl _, Nat.le_refl _⟩ dX7_steady_42)
  replace hr := ite_f hc hr
  refine r_iconst (pc := 20) (v := (-1 : Int32)) dX7_steady_20 rfl ?_
  exact l_osi hr (r_iret (pc := 21) (v := (-1 : Int32)) rfl rfl ⟨Nat.le_refl _, Nat.le_refl _⟩ dX7_steady_21)

theorem kX7_steady {g : GG} {σ : SS} {a1 : Int32} {a2 : Int32} {v : Int32} {σ2 : SS} {M : MM} {F : State → Array Value → List Frame → State → Prop} {pc index : Nat} {ls : List (Nat × Value)} {rest : List Value} (hf : fX7_steady σ a1 a2 = some (v, σ2))  (hl : Cond.methodLink M.1.cls index yX7_steady ∈ lw_gt) (hR : mX7_steady.2.2.2.2.frames + 1 ≤ M.2.2.2.2.frames ∧ 8 + (mX7_steady.2.2.1 + 11) + mX7_steady.2.2.2.2.locals ≤ M.2.2.2.2.locals) (hrest : (rest.map fun v => v.category).sum ≤ 8) (hd : decode M.2.1 pc = .ok (.invokevirtual index, 3)) (k : WT σ2 → RR g M F zF (pc + 3) ls (.int v :: rest) σ2) : RR g M F zF pc ls (.int a2 :: .int a1 :: .ref (ad g 1) :: rest) σ :=
  r_callV (z := zF) (N := mX7_steady) (nn := 2) (o1 := some (.int v)) (sX7_steady hf ) (rfl : shp 1 = (7, 0)) (by decide) (shp_le (rfl : shp 1 = (7, 0)) (nle rfl)) (ci := 7) rfl rfl tw_4_160 tw_1_1 hl tw_4_158 tw_4_159 ⟨by decide, by decide, rfl⟩ hR rfl hrest hd ⟨Nat.zero_le _, Nat.zero_le _⟩ rfl (fun h => k (h rfl))

theorem dX7_question_0 : decode cX7_question 0 = .ok (.aload_n 0, 1) := by decide +kernel
theorem dX7_question_1 : decode cX7_question 1 = .ok (.getfield 32, 3) := by decide +kernel
theorem dX7_question_4 : decode cX7_question 4 = .ok (.iload_n 1, 1) := by decide +kernel
theorem dX7_question_5 : decode cX7_question 5 = .ok (.invokevirtual 121, 3) := by decide +kernel
theorem dX7_question_8 : decode cX7_question 8 = .ok (.ifCond .ne 5, 3) := by decide +kernel
theorem dX7_question_11 : decode cX7_question 11 = .ok (.iconst (-1), 1) := by decide +kernel
theorem dX7_question_12 : decode cX7_question 12 = .ok (.ireturn, 1) := by decide +kernel
theorem dX7_question_13 : decode cX7_question 13 = .ok (.iload_n 2, 1) := by decide +kernel
theorem dX7_question_14 : decode cX7_question 14 = .ok (.tableswitch 78 0 3 #[30, 48, 58, 68], 30) := by decide +kernel
theorem dX7_question_44 : decode cX7_question 44 = .ok (.aload_n 0, 1) := by decide +kernel
theorem dX7_question_45 : decode cX7_question 45 = .ok (.getfield 32, 3) := by decide +kernel
theorem dX7_question_48 : decode cX7_question 48 = .ok (.getfield 125, 3) := by decide +kernel
theorem dX7_question_51 : decode cX7_question 51 = .ok (.iload_n 1, 1) := by decide +kernel
theorem dX7_question_52 : decode cX7_question 52 = .ok (.baload, 1) := by decide +kernel
theorem dX7_question_53 : decode cX7_question 53 = .ok (.ifCond .eq 7, 3) := by decide +kernel
theorem dX7_question_56 : decode cX7_question 56 = .ok (.iconst 2, 1) := by decide +kernel
theorem dX7_question_57 : decode cX7_question 57 = .ok (.goto 4, 3) := by decide +kernel
theorem dX7_question_60 : decode cX7_question 60 = .ok (.iconst 1, 1) := by decide +kernel
theorem dX7_question_61 : decode cX7_question 61 = .ok (.ireturn, 1) := by decide +kernel
theorem dX7_question_62 : decode cX7_question 62 = .ok (.aload_n 0, 1) := by decide +kernel
theorem dX7_question_63 : decode cX7_question 63 = .ok (.getfield 32, 3) := by decide +kernel
theorem dX7_question_66 : decode cX7_question 66 = .ok (.getfield 129, 3) := by decide +kernel
theorem dX7_question_69 : decode cX7_question 69 = .ok (.iload_n 1, 1) := by decide +kernel
theorem dX7_question_70 : decode cX7_question 70 = .ok (.iaload, 1) := by decide +kernel
theorem dX7_question_71 : decode cX7_question 71 = .ok (.ireturn, 1) := by decide +kernel
theorem dX7_question_72 : decode cX7_question 72 = .ok (.aload_n 0, 1) := by decide +kernel
theorem dX7_question_73 : decode cX7_question 73 = .ok (.getfield 32, 3) := by decide +kernel
theorem dX7_question_76 : decode cX7_question 76 = .ok (.getfield 132, 3) := by decide +kernel
theorem dX7_question_79 : decode cX7_question 79 = .ok (.iload_n 1, 1) := by decide +kernel
theorem dX7_question_80 : decode cX7_question 80 = .ok (.iaload, 1) := by decide +kernel
theorem dX7_question_81 : decode cX7_question 81 = .ok (.ireturn, 1) := by decide +kernel
theorem dX7_question_82 : decode cX7_question 82 = .ok (.aload_n 0, 1) := by decide +kernel
theorem dX7_question_83 : decode cX7_question 83 = .ok (.getfield 32, 3) := by decide +kernel
theorem dX7_question_86 : decode cX7_question 86 = .ok (.getfield 135, 3) := by decide +kernel
theorem dX7_question_89 : decode cX7_question 89 = .ok (.iload_n 1, 1) := by decide +kernel
theorem dX7_question_90 : decode cX7_question 90 = .ok (.iaload, 1) := by decide +kernel
theorem dX7_question_91 : decode cX7_question 91 = .ok (.ireturn, 1) := by decide +kernel
theorem dX7_question_92 : decode cX7_question 92 = .ok (.iload_n 2, 1) := by decide +kernel
theorem dX7_question_93 : decode cX7_question 93 = .ok (.bipush 10, 2) := by decide +kernel
theorem dX7_question_95 : decode cX7_question 95 = .ok (.if_icmp .lt 47, 3) := by decide +kernel
theorem dX7_question_98 : decode cX7_question 98 = .ok (.iload_n 2, 1) := by decide +kernel
theorem dX7_question_99 : decode cX7_question 99 = .ok (.bipush 20, 2) := by decide +kernel
theorem dX7_question_101 : decode cX7_question 101 = .ok (.if_icmp .ge 41, 3) := by decide +kernel
theorem dX7_question_104 : decode cX7_question 104 = .ok (.aload_n 0, 1) := by decide +kernel
theorem dX7_question_105 : decode cX7_question 105 = .ok (.getfield 32, 3) := by decide +kernel
theorem dX7_question_108 : decode cX7_question 108 = .ok (.iload_n 1, 1) := by decide +kernel
theorem dX7_question_109 : decode cX7_question 109 = .ok (.iload_n 2, 1) := by decide +kernel
theorem dX7_question_110 : decode cX7_question 110 = .ok (.bipush 10, 2) := by decide +kernel
theorem dX7_question_112 : decode cX7_question 112 = .ok (.isub, 1) := by decide +kernel
theorem dX7_question_113 : decode cX7_question 113 = .ok (.invokevirtual 138, 3) := by decide +kernel
theorem dX7_question_116 : decode cX7_question 116 = .ok (.ifCond .eq 26, 3) := by decide +kernel
theorem dX7_question_119 : decode cX7_question 119 = .ok (.aload_n 0, 1) := by decide +kernel
theorem dX7_question_120 : decode cX7_question 120 = .ok (.getfield 32, 3) := by decide +kernel
theorem dX7_question_123 : decode cX7_question 123 = .ok (.getfield 142, 3) := by decide +kernel
theorem dX7_question_126 : decode cX7_question 126 = .ok (.aload_n 0, 1) := by decide +kernel
theorem dX7_question_127 : decode cX7_question 127 = .ok (.getfield 32, 3) := by decide +kernel
theorem dX7_question_130 : decode cX7_question 130 = .ok (.getfield 145, 3) := by decide +kernel
theorem dX7_question_133 : decode cX7_question 133 = .ok (.iload_n 1, 1) := by decide +kernel
theorem dX7_question_134 : decode cX7_question 134 = .ok (.iaload, 1) := by decide +kernel
theorem dX7_question_135 : decode cX7_question 135 = .ok (.iload_n 2, 1) := by decide +kernel
theorem dX7_question_136 : decode cX7_question 136 = .ok (.iadd, 1) := by decide +kernel
theorem dX7_question_137 : decode cX7_question 137 = .ok (.bipush 10, 2) := by decide +kernel
theorem dX7_question_139 : decode cX7_question 139 = .ok (.isub, 1) := by decide +kernel
theorem dX7_question_140 : decode cX7_question 140 = .ok (.iaload, 1) := by decide +kernel
theorem dX7_question_141 : decode cX7_question 141 = .ok (.ireturn, 1) := by decide +kernel
theorem dX7_question_142 : decode cX7_question 142 = .ok (.iload_n 2, 1) := by decide +kernel
theorem dX7_question_143 : decode cX7_question 143 = .ok (.bipush 20, 2) := by decide +kernel
theorem dX7_question_145 : decode cX7_question 145 = .ok (.if_icmp .lt 47, 3) := by decide +kernel
theorem dX7_question_148 : decode cX7_question 148 = .ok (.iload_n 2, 1) := by decide +kernel
theorem dX7_question_149 : decode cX7_question 149 = .ok (.bipush 30, 2) := by decide +kernel
theorem dX7_question_151 : decode cX7_question 151 = .ok (.if_icmp .ge 41, 3) := by decide +kernel
theorem dX7_question_154 : decode cX7_question 154 = .ok (.aload_n 0, 1) := by decide +kernel
theorem dX7_question_155 : decode cX7_question 155 = .ok (.getfield 32, 3) := by decide +kernel
theorem dX7_question_158 : decode cX7_question 158 = .ok (.iload_n 1, 1) := by decide +kernel
theorem dX7_question_159 : decode cX7_question 159 = .ok (.iload_n 2, 1) := by decide +kernel
theorem dX7_question_160 : decode cX7_question 160 = .ok (.bipush 20, 2) := by decide +kernel
theorem dX7_question_162 : decode cX7_question 162 = .ok (.isub, 1) := by decide +kernel
theorem dX7_question_163 : decode cX7_question 163 = .ok (.invokevirtual 138, 3) := by decide +kernel
theorem dX7_question_166 : decode cX7_question 166 = .ok (.ifCond .eq 26, 3) := by decide +kernel
theorem dX7_question_169 : decode cX7_question 169 = .ok (.aload_n 0, 1) := by decide +kernel
theorem dX7_question_170 : decode cX7_question 170 = .ok (.getfield 32, 3) := by decide +kernel
theorem dX7_question_173 : decode cX7_question 173 = .ok (.getfield 148, 3) := by decide +kernel
theorem dX7_question_176 : decode cX7_question 176 = .ok (.aload_n 0, 1) := by decide +kernel
theorem dX7_question_177 : decode cX7_question 177 = .ok (.getfield 32, 3) := by decide +kernel
theorem dX7_question_180 : decode cX7_question 180 = .ok (.getfield 145, 3) := by decide +kernel
theorem dX7_question_183 : decode cX7_question 183 = .ok (.iload_n 1, 1) := by decide +kernel
theorem dX7_question_184 : decode cX7_question 184 = .ok (.iaload, 1) := by decide +kernel
theorem dX7_question_185 : decode cX7_question 185 = .ok (.iload_n 2, 1) := by decide +kernel
theorem dX7_question_186 : decode cX7_question 186 = .ok (.iadd, 1) := by decide +kernel
theorem dX7_question_187 : decode cX7_question 187 = .ok (.bipush 20, 2) := by decide +kernel
theorem dX7_question_189 : decode cX7_question 189 = .ok (.isub, 1) := by decide +kernel
theorem dX7_question_190 : decode cX7_question 190 = .ok (.iaload, 1) := by decide +kernel
theorem dX7_question_191 : decode cX7_question 191 = .ok (.ireturn, 1) := by decide +kernel
theorem dX7_question_192 : decode cX7_question 192 = .ok (.iconst (-1), 1) := by decide +kernel
theorem dX7_question_193 : decode cX7_question 193 = .ok (.ireturn, 1) := by decide +kernel
def mX7_question : MM := (yX7_question, cX7_question, 3, Option.some Jvm.ClassFile.FieldType.int, { frames := 2, cells := 0, slots := 0, locals := 43 })
def fX7_question (σ0 : SS) (a1 : Int32) (a2 : Int32) : Option Int32 :=
  if (fX1_hasQuestion σ0 (gR σ0 1 5) a1) = true then (
    if a2 = (0 : Int32) then (
      grd (inb a1 12) <|
      if (gI σ0 ((gR σ0 1 5) + 1) (Int32.toNatClampNeg a1)) = 0 then (
        some (1 : Int32)
        ) else (
        some (2 : Int32)
        )
      ) else
    if a2 = (1 : Int32) then (
      grd (inb a1 12) <|
      some (gI σ0 ((gR σ0 1 5) + 3) (Int32.toNatClampNeg a1))
      ) else
    if a2 = (2 : Int32) then (
      grd (inb a1 12) <|
      some (gI σ0 ((gR σ0 1 5) + 4) (Int32.toNatClampNeg a1))
      ) else
    if a2 = (3 : Int32) then (
      grd (inb a1 12) <|
      some (gI σ0 ((gR σ0 1 5) + 5) (Int32.toNatClampNeg a1))
      ) else
    vthen (fun (_u : Unit) =>
      if a2 < (20 : Int32) then (
        some (-1 : Int32)
        ) else (
        if (30 : Int32) ≤ a2 then (
          some (-1 : Int32)
          ) else (
          bnd1 (fX1_hasBox σ0 (gR σ0 1 5) a1 (a2 - (20 : Int32))) fun b6 =>
          if b6 = true then (
            grd (inb a1 12) <|
            grd (inb (((gI σ0 ((gR σ0 1 5) + 2) (Int32.toNatClampNeg a1)) + a2) - (20 : Int32)) 72) <|
            some (gI σ0 ((gR σ0 1 5) + 7) (Int32.toNatClampNeg (((gI σ0 ((gR σ0 1 5) + 2) (Int32.toNatClampNeg a1)) + a2) - (20 : Int32))))
            ) else (
            some (-1 : Int32)
            )
          )
        )
      ) fun j142 =>
    if a2 < (10 : Int32) then (
      j142 ()
      ) else (
      if (20 : Int32) ≤ a2 then (
        j142 ()
        ) else (
        bnd1 (fX1_hasBox σ0 (gR σ0 1 5) a1 (a2 - (10 : Int32))) fun b11 =>
        if b11 = true then (
          grd (inb a1 12) <|
          grd (inb (((gI σ0 ((gR σ0 1 5) + 2) (Int32.toNatClampNeg a1)) + a2) - (10 : Int32)) 72) <|
          some (gI σ0 ((gR σ0 1 5) + 6) (Int32.toNatClampNeg (((gI σ0 ((gR σ0 1 5) + 2) (Int32.toNatClampNeg a1)) + a2) - (10 : Int32))))
          ) else (
          j142 ()
          )
        )
      )
    ) else (
    some (-1 : Int32)
    )

set_option maxRecDepth 20000 in
theorem sX7_question {g : GG} {σ0 : SS} {a1 : Int32} {a2 : Int32} {r : Int32} (hr : fX7_question σ0 a1 a2 = some r)  : Ct g mX7_question [.ref (ad g 1), .int a1, .int a2] NF σ0 (some (.int r)) NF σ0 := by
  refine Ct.of (by decide +kernel) (nle rfl) fun hw0 => ?_
  have hw := hw0 rfl
  unfold fX7_question at hr
  change RR g mX7_question (FinR g mX7_question (some (.int r)) NF σ0) zF 0 [(0, .ref (ad g 1)), (1, .int a1), (2, .int a2)] [] σ0
  refine r_aload_n (pc := 0) (j := 0) dX7_question_0 rfl rfl ?_
  refine gf7_5 (pc := 1) tw_2_108 hw dX7_question_1 ?_
  refine r_iload_n (pc := 4) (j := 1) dX7_question_4 rfl rfl ?_
  refine kX1_hasQuestion (pc := 5) (hf := rfl) (wt_fo hw).1 tw_4_82 ⟨nle rfl, nle rfl⟩ (nle rfl) dX7_question_5 ?_
  refine r_ifB_ne (pc := 8) (tgt := 13) dX7_question_8 rfl (fun hc => ?_) (fun hc => ?_)
  · replace hr := ite_t hc hr
    refine r_iload_n (pc := 13) (j := 2) dX7_question_13 rfl rfl ?_
    by_cases hc0 : a2 = (0 : Int32)
    · replace hr := ite_t hc0 hr
      refine r_tabIn (pc := 14) (off := 30) (tgt := 44) dX7_question_14 (by rw [hc0]; decide) (by rw [hc0]; decide) (by rw [hc0]; rfl) rfl ?_
      refine r_aload_n (pc := 44) (j := 0) dX7_question_44 rfl rfl ?_
      refine gf7_5 (pc := 45) tw_2_108 hw dX7_question_45 ?_
      refine gf1_7 (pc := 48) tw_1_85 hw (wt_fo hw).1 dX7_question_48 ?_
      refine r_iload_n (pc := 51) (j := 1) dX7_question_51 rfl rfl ?_
      obtain ⟨h1, hr⟩ := grd_inv hr
      refine x_zald (pc := 52) (k := (Int32.toNatClampNeg a1)) (sh1_7 (wt_fo hw).1) h1 rfl dX7_question_52 ?_
      refine r_if_eq (pc := 53) (tgt := 60) dX7_question_53 rfl (fun hc => ?_) (fun hc => ?_)
      · replace hr := ite_t hc hr
        refine r_iconst (pc := 60) (v := (1 : Int32)) dX7_question_60 rfl ?_
        exact l_opi hr (r_iret (pc := 61) (v := (1 : Int32)) rfl rfl ⟨Nat.le_refl _, Nat.le_refl _⟩ dX7_question_61)
      replace hr := ite_f hc hr
      refine r_iconst (pc := 56) (v := (2 : Int32)) dX7_question_56 rfl ?_
      refine r_goto (pc := 57) (tgt := 61) dX7_question_57 rfl ?_
      exact l_opi hr (r_iret (pc := 61) (v := (2 : Int32)) rfl rfl ⟨Nat.le_refl _, Nat.le_refl _⟩ dX7_question_61)
    replace hr := ite_f hc0 hr
    by_cases hc1 : a2 = (1 : Int32)
    · replace hr := ite_t hc1 hr
      refine r_tabIn (pc := 14) (off := 48) (tgt := 62) dX7_question_14 (by rw [hc1]; decide) (by rw [hc1]; decide) (by rw [hc1]; rfl) rfl ?_
      refine r_aload_n (pc := 62) (j := 0) dX7_question_62 rfl rfl ?_
      refine gf7_5 (pc := 63) tw_2_108 hw dX7_question_63 ?_
      refine gf1_9 (pc := 66) tw_1_91 hw (wt_fo hw).1 dX7_question_66 ?_
      refine r_iload_n (pc := 69) (j := 1) dX7_question_69 rfl rfl ?_
      obtain ⟨h2, hr⟩ := grd_inv hr
      refine x_iald (pc := 70) (k := (Int32.toNatClampNeg a1)) (sh1_9 (wt_fo hw).1) h2 rfl dX7_question_70 ?_
      exact l_opi hr (r_iret (pc := 71) (v := (gI σ0 ((gR σ0 1 5) + 3) (Int32.toNatClampNeg a1))) rfl rfl ⟨Nat.le_refl _, Nat.le_refl _⟩ dX7_question_71)
    replace hr := ite_f hc1 hr
    by_cases hc2 : a2 = (2 : Int32)
    · replace hr := ite_t hc2 hr
      refine r_tabIn (pc := 14) (off := 58) (tgt := 72) dX7_question_14 (by rw [hc2]; decide) (by rw [hc2]; decide) (by rw [hc2]; rfl) rfl ?_
      refine r_aload_n (pc := 72) (j := 0) dX7_question_72 rfl rfl ?_
      refine gf7_5 (pc := 73) tw_2_108 hw dX7_question_73 ?_
      refine gf1_10 (pc := 76) tw_1_95 hw (wt_fo hw).1 dX7_question_76 ?_
      refine r_iload_n (pc := 79) (j := 1) dX7_question_79 rfl rfl ?_
      obtain ⟨h3, hr⟩ := grd_inv hr
      refine x_iald (pc := 80) (k := (Int32.toNatClampNeg a1)) (sh1_10 (wt_fo hw).1) h3 rfl dX7_question_80 ?_
      exact l_opi hr (r_iret (pc := 81) (v := (gI σ0 ((gR σ0 1 5) + 4) (Int32.toNatClampNeg a1))) rfl rfl ⟨Nat.le_refl _, Nat.le_refl _⟩ dX7_question_81)
    replace hr := ite_f hc2 hr
    by_cases hc3 : a2 = (3 : Int32)
    · replace hr := ite_t hc3 hr
      refine r_tabIn (pc := 14) (off := 68) (tgt := 82) dX7_question_14 (by rw [hc3]; decide) (by rw [hc3]; decide) (by rw [hc3]; rfl) rfl ?_
      refine r_aload_n (pc := 82) (j := 0) dX7_question_82 rfl rfl ?_
      refine gf7_5 (pc := 83) tw_2_108 hw dX7_question_83 ?_
      refine gf1_11 (pc := 86) tw_1_99 hw (wt_fo hw).1 dX7_question_86 ?_
      refine r_iload_n (pc := 89) (j := 1) dX7_question_89 rfl rfl ?_
      obtain ⟨h4, hr⟩ := grd_inv hr
      refine x_iald (pc := 90) (k := (Int32.toNatClampNeg a1)) (sh1_11 (wt_fo hw).1) h4 rfl dX7_question_90 ?_
      exact l_opi hr (r_iret (pc := 91) (v := (gI σ0 ((gR σ0 1 5) + 5) (Int32.toNatClampNeg a1))) rfl rfl ⟨Nat.le_refl _, Nat.le_refl _⟩ dX7_question_91)
    replace hr := ite_f hc3 hr
    refine r_tabOut (pc := 14) (tgt := 92) dX7_question_14 (tab_out (by decide) (by decide) fun k h1 h2 => ?_) rfl ?_
    · rcases (show k = 0 ∨ k = 1 ∨ k = 2 ∨ k = 3 by omega) with rfl | rfl | rfl | rfl
      · exact hc0
      · exact hc1
      · exact hc2
      · exact hc3
    refine r_iload_n (pc := 92) (j := 2) dX7_question_92 rfl rfl ?_
    refine r_bipush (pc := 93) (v := (10 : Int32)) dX7_question_93 rfl ?_
    obtain ⟨j142, ej142, hr⟩ := vth_ex hr
    have hj142 : j142 () = some r → RR g mX7_question (FinR g mX7_question (some (.int r)) NF σ0) zF 142 [(0, .ref (ad g 1)), (1, .int a1), (2, .int a2)] [] σ0 := by
      intro  hr
      replace hr := (congrFun ej142 ()).symm.trans hr
      refine r_iload_n (pc := 142) (j := 2) dX7_question_142 rfl rfl ?_
      refine r_bipush (pc := 143) (v := (20 : Int32)) dX7_question_143 rfl ?_
      refine r_icmp_lt (pc := 145) (tgt := 192) dX7_question_145 rfl (fun hc => ?_) (fun hc => ?_)
      · replace hr := ite_t hc hr
        refine r_iconst (pc := 192) (v := (-1 : Int32)) dX7_question_192 rfl ?_
        exact l_opi hr (r_iret (pc := 193) (v := (-1 : Int32)) rfl rfl ⟨Nat.le_refl _, Nat.le_refl _⟩ dX7_question_193)
      replace hr := ite_f hc hr
      refine r_iload_n (pc := 148) (j := 2) dX7_question_148 rfl rfl ?_
      refine r_bipush (pc := 149) (v := (30 : Int32)) dX7_question_149 rfl ?_
      refine r_icmp_ge (pc := 151) (tgt := 192) dX7_question_151 rfl (fun hc => ?_) (fun hc => ?_)
      · replace hr := ite_t hc hr
        refine r_iconst (pc := 192) (v := (-1 : Int32)) dX7_question_192 rfl ?_
        exact l_opi hr (r_iret (pc := 193) (v := (-1 : Int32)) rfl rfl ⟨Nat.le_refl _, Nat.le_refl _⟩ dX7_question_193)
      replace hr := ite_f hc hr
      refine r_aload_n (pc := 154) (j := 0) dX7_question_154 rfl rfl ?_
      refine gf7_5 (pc := 155) tw_2_108 hw dX7_question_155 ?_
      refine r_iload_n (pc := 158) (j := 1) dX7_question_158 rfl rfl ?_
      refine r_iload_n (pc := 159) (j := 2) dX7_question_159 rfl rfl ?_
      refine r_bipush (pc := 160) (v := (20 : Int32)) dX7_question_160 rfl ?_
      refine r_isub (pc := 162) dX7_question_162 ?_
      obtain ⟨b6, hb6, hr⟩ := bnd1_inv hr
      refine kX1_hasBox (pc := 163) hb6 (wt_fo hw).1 tw_4_95 ⟨nle rfl, nle rfl⟩ (nle rfl) dX7_question_163 ?_
      refine r_ifB_eq (pc := 166) (tgt := 192) dX7_question_166 rfl (fun hc => ?_) (fun hc => ?_)
      · replace hr := ite_f hc hr
        refine r_iconst (pc := 192) (v := (-1 : Int32)) dX7_question_192 rfl ?_
        exact l_opi hr (r_iret (pc := 193) (v := (-1 : Int32)) rfl rfl ⟨Nat.le_refl _, Nat.le_refl _⟩ dX7_question_193)
      replace hr := ite_t hc hr
      refine r_aload_n (pc := 169) (j := 0) dX7_question_169 rfl rfl ?_
      refine gf7_5 (pc := 170) tw_2_108 hw dX7_question_170 ?_
      refine gf1_13 (pc := 173) tw_1_107 hw (wt_fo hw).1 dX7_question_173 ?_
      refine r_aload_n (pc := 176) (j := 0) dX7_question_176 rfl rfl ?_
      refine gf7_5 (pc := 177) tw_2_108 hw dX7_question_177 ?_
      refine gf1_8 (pc := 180) tw_1_88 hw (wt_fo hw).1 dX7_question_180 ?_
      refine r_iload_n (pc := 183) (j := 1) dX7_question_183 rfl rfl ?_
      obtain ⟨h8, hr⟩ := grd_inv hr
      refine x_iald (pc := 184) (k := (Int32.toNatClampNeg a1)) (sh1_8 (wt_fo hw).1) h8 rfl dX7_question_184 ?_
      refine r_iload_n (pc := 185) (j := 2) dX7_question_185 rfl rfl ?_
      refine r_iadd (pc := 186) dX7_question_186 ?_
      refine r_bipush (pc := 187) (v := (20 : Int32)) dX7_question_187 rfl ?_
      refine r_isub (pc := 189) dX7_question_189 ?_
      obtain ⟨h9, hr⟩ := grd_inv hr
      refine x_iald (pc := 190) (k := (Int32.toNatClampNeg (((gI σ0 ((gR σ0 1 5) + 2) (Int32.toNatClampNeg a1)) + a2) - (20 : Int32)))) (sh1_13 (wt_fo hw).1) h9 rfl dX7_question_190 ?_
      exact l_opi hr (r_iret (pc := 191) (v := (gI σ0 ((gR σ0 1 5) + 7) (Int32.toNatClampNeg (((gI σ0 ((gR σ0 1 5) + 2) (Int32.toNatClampNeg a1)) + a2) - (20 : Int32))))) rfl rfl ⟨Nat.le_refl _, Nat.le_refl _⟩ dX7_question_191)
    refine r_icmp_lt (pc := 95) (tgt := 142) dX7_question_95 rfl (fun hc => ?_) (fun hc => ?_)
    · replace hr := ite_t hc hr
      exact r_pick (ls1 := [(0, .ref (ad g 1)), (1, .int a1), (2, .int a2)]) [0, 1, 2] rfl (hj142  hr)
    replace hr := ite_f hc hr
    refine r_iload_n (pc := 98) (j := 2) dX7_question_98 rfl rfl ?_
    refine r_bipush (pc := 99) (v := (20 : Int32)) dX7_question_99 rfl ?_
    refine r_icmp_ge (pc := 101) (tgt := 142) dX7_question_101 rfl (fun hc => ?_) (fun hc => ?_)
    · replace hr := ite_t hc hr
      exact r_pick (ls1 := [(0, .ref (ad g 1)), (1, .int a1), (2, .int a2)]) [0, 1, 2] rfl (hj142  hr)
    replace hr := ite_f hc hr
    refine r_aload_n (pc := 104) (j := 0) dX7_question_104 rfl rfl ?_
    refine gf7_5 (pc := 105) tw_2_108 hw dX7_question_105 ?_
    refine r_iload_n (pc := 108) (j := 1) dX7_question_108 rfl rfl ?_
    refine r_iload_n (pc := 109) (j := 2) dX7_question_109 rfl rfl ?_
    refine r_bipush (pc := 110) (v := (10 : Int32)) dX7_question_110 rfl ?_
    refine r_isub (pc := 112) dX7_question_112 ?_
    obtain ⟨b11, hb11, hr⟩ := bnd1_inv hr
    refine kX1_hasBox (pc := 113) hb11 (wt_fo hw).1 tw_4_95 ⟨nle rfl, nle rfl⟩ (nle rfl) dX7_question_113 ?_
    refine r_ifB_eq (pc := 116) (tgt := 142) dX7_question_116 rfl (fun hc => ?_) (fun hc => ?_)
    · replace hr := ite_f hc hr
      exact r_pick (ls1 := [(0, .ref (ad g 1)), (1, .int a1), (2, .int a2)]) [0, 1, 2] rfl (hj142  hr)
    replace hr := ite_t hc hr
    refine r_aload_n (pc := 119) (j := 0) dX7_question_119 rfl rfl ?_
    refine gf7_5 (pc := 120) tw_2_108 hw dX7_question_120 ?_
    refine gf1_12 (pc := 123) tw_1_104 hw (wt_fo hw).1 dX7_question_123 ?_
    refine r_aload_n (pc := 126) (j := 0) dX7_question_126 rfl rfl ?_
    refine gf7_5 (pc := 127) tw_2_108 hw dX7_question_127 ?_
    refine gf1_8 (pc := 130) tw_1_88 hw (wt_fo hw).1 dX7_question_130 ?_
    refine r_iload_n (pc := 133) (j := 1) dX7_question_133 rfl rfl ?_
    obtain ⟨h13, hr⟩ := grd_inv hr
    refine x_iald (pc := 134) (k := (Int32.toNatClampNeg a1)) (sh1_8 (wt_fo hw).1) h13 rfl dX7_question_134 ?_
    refine r_iload_n (pc := 135) (j := 2) dX7_question_135 rfl rfl ?_
    refine r_iadd (pc := 136) dX7_question_136 ?_
    refine r_bipush (pc := 137) (v := (10 : Int32)) dX7_question_137 rfl ?_
    refine r_isub (pc := 139) dX7_question_139 ?_
    obtain ⟨h14, hr⟩ := grd_inv hr
    refine x_iald (pc := 140) (k := (Int32.toNatClampNeg (((gI σ0 ((gR σ0 1 5) + 2) (Int32.toNatClampNeg a1)) + a2) - (10 : Int32)))) (sh1_12 (wt_fo hw).1) h14 rfl dX7_question_140 ?_
    exact l_opi hr (r_iret (pc := 141) (v := (gI σ0 ((gR σ0 1 5) + 6) (Int32.toNatClampNeg (((gI σ0 ((gR σ0 1 5) + 2) (Int32.toNatClampNeg a1)) + a2) - (10 : Int32))))) rfl rfl ⟨Nat.le_refl _, Nat.le_refl _⟩ dX7_question_141)
  replace hr := ite_f hc hr
  refine r_iconst (pc := 11) (v := (-1 : Int32)) dX7_question_11 rfl ?_
  exact l_opi hr (r_iret (pc := 12) (v := (-1 : Int32)) rfl rfl ⟨Nat.le_refl _, Nat.le_refl _⟩ dX7_question_12)

theorem kX7_question {g : GG} {σ0 : SS} {a1 : Int32} {a2 : Int32} {v : Int32} {M : MM} {F : State → Array Value → List Frame → State → Prop} {pc index : Nat} {ls : List (Nat × Value)} {rest : List Value} (hf : fX7_question σ0 a1 a2 = some v)  (hl : Cond.methodLink M.1.cls index yX7_question ∈ lw_gt) (hR : mX7_question.2.2.2.2.frames + 1 ≤ M.2.2.2.2.frames ∧ 8 + (mX7_question.2.2.1 + 11) + mX7_question.2.2.2.2.locals ≤ M.2.2.2.2.locals) (hrest : (rest.map fun v => v.category).sum ≤ 8) (hd : decode M.2.1 pc = .ok (.invokevirtual index, 3)) (k : RR g M F zF (pc + 3) ls (.int v :: rest) σ0) : RR g M F zF pc ls (.int a2 :: .int a1 :: .ref (ad g 1) :: rest) σ0 :=
  r_callV (z := zF) (N := mX7_question) (nn := 2) (o1 := some (.int v)) (sX7_question hf ) (rfl : shp 1 = (7, 0)) (by decide) (shp_le (rfl : shp 1 = (7, 0)) (nle rfl)) (ci := 7) rfl rfl tw_4_172 tw_1_1 hl tw_4_170 tw_4_171 ⟨by decide, by decide, rfl⟩ hR rfl hrest hd ⟨Nat.zero_le _, Nat.zero_le _⟩ rfl (fun h => k)

theorem dX7_keep_0 : decode cX7_keep 0 = .ok (.iload_n 1, 1) := by decide +kernel
theorem dX7_keep_1 : decode cX7_keep 1 = .ok (.ifCond .lt 8, 3) := by decide +kernel
theorem dX7_keep_4 : decode cX7_keep 4 = .ok (.iload_n 1, 1) := by decide +kernel
theorem dX7_keep_5 : decode cX7_keep 5 = .ok (.iconst 3, 1) := by decide +kernel
theorem dX7_keep_6 : decode cX7_keep 6 = .ok (.if_icmp .lt 5, 3) := by decide +kernel
theorem dX7_keep_9 : decode cX7_keep 9 = .ok (.iconst 0, 1) := by decide +kernel
theorem dX7_keep_10 : decode cX7_keep 10 = .ok (.ireturn, 1) := by decide +kernel
theorem dX7_keep_11 : decode cX7_keep 11 = .ok (.aload_n 0, 1) := by decide +kernel
theorem dX7_keep_12 : decode cX7_keep 12 = .ok (.getfield 25, 3) := by decide +kernel
theorem dX7_keep_15 : decode cX7_keep 15 = .ok (.iload_n 1, 1) := by decide +kernel
theorem dX7_keep_16 : decode cX7_keep 16 = .ok (.aaload, 1) := by decide +kernel
theorem dX7_keep_17 : decode cX7_keep 17 = .ok (.aload_n 0, 1) := by decide +kernel
theorem dX7_keep_18 : decode cX7_keep 18 = .ok (.getfield 18, 3) := by decide +kernel
theorem dX7_keep_21 : decode cX7_keep 21 = .ok (.invokevirtual 190, 3) := by decide +kernel
theorem dX7_keep_24 : decode cX7_keep 24 = .ok (.iconst 1, 1) := by decide +kernel
theorem dX7_keep_25 : decode cX7_keep 25 = .ok (.ireturn, 1) := by decide +kernel
def mX7_keep : MM := (yX7_keep, cX7_keep, 2, Option.some Jvm.ClassFile.FieldType.boolean, { frames := 2, cells := 0, slots := 0, locals := 47 })
def fX7_keep (σ : SS) (a1 : Int32) : Option (Bool × SS) :=
  if a1 < 0 then (
    some (false, σ)
    ) else (
    if a1 < (3 : Int32) then (
      grd (inb a1 3) <|
      bnd1 (fX6_takeAll σ (gR σ 9 (Int32.toNatClampNeg a1)) (gR σ 1 2)) fun σ2 =>
      some (true, σ2)
      ) else (
      some (false, σ)
      )
    )

set_option maxRecDepth 20000 in
theorem sX7_keep {g : GG} {σ : SS} {a1 : Int32} {r : Bool × SS} (hr : fX7_keep σ a1 = some r)  : Ct g mX7_keep [.ref (ad g 1), .int a1] NF σ (some (.int (b2i r.1))) NF r.2 := by
  refine Ct.of (by decide +kernel) (nle rfl) fun hw0 => ?_
  have hw := hw0 rfl
  unfold fX7_keep at hr
  change RR g mX7_keep (FinR g mX7_keep (some (.int (b2i r.1))) NF r.2) zF 0 [(0, .ref (ad g 1)), (1, .int a1)] [] σ
  refine r_iload_n (pc := 0) (j := 1) dX7_keep_0 rfl rfl ?_
  refine r_if_lt (pc := 1) (tgt := 9) dX7_keep_1 rfl (fun hc => ?_) (fun hc => ?_)
  · replace hr := ite_t hc hr
    refine r_iconst (pc := 9) (v := (0 : Int32)) dX7_keep_9 rfl ?_
    exact l_osz hr (r_zret (pc := 10) (v := b2i false) (ty := .boolean) rfl (b2i_nar _) rfl ⟨Nat.le_refl _, Nat.le_refl _⟩ dX7_keep_10)
  replace hr := ite_f hc hr
  refine r_iload_n (pc := 4) (j := 1) dX7_keep_4 rfl rfl ?_
  refine r_iconst (pc := 5) (v := (3 : Int32)) dX7_keep_5 rfl ?_
  refine r_icmp_lt (pc := 6) (tgt := 11) dX7_keep_6 rfl (fun hc => ?_) (fun hc => ?_)
  · replace hr := ite_t hc hr
    refine r_aload_n (pc := 11) (j := 0) dX7_keep_11 rfl rfl ?_
    refine gf7_4 (pc := 12) tw_2_107 hw dX7_keep_12 ?_
    refine r_iload_n (pc := 15) (j := 1) dX7_keep_15 rfl rfl ?_
    obtain ⟨h1, hr⟩ := grd_inv hr
    refine w_aald (pc := 16) hw h1 dX7_keep_16 ?_
    refine r_aload_n (pc := 17) (j := 0) dX7_keep_17 rfl rfl ?_
    refine gf7_2 (pc := 18) tw_2_105 hw dX7_keep_18 ?_
    obtain ⟨σ2, eσ2, hr⟩ := bnd1_inv hr
    refine kX6_takeAll (pc := 21) eσ2 (dr_sh hw h1).1 (wt_sc hw).1 tw_2_193 ⟨nle rfl, nle rfl⟩ (nle rfl) dX7_keep_21 fun hσ2 => ?_
    refine r_iconst (pc := 24) (v := (1 : Int32)) dX7_keep_24 rfl ?_
    exact l_osz hr (r_zret (pc := 25) (v := b2i true) (ty := .boolean) rfl (b2i_nar _) rfl ⟨Nat.le_refl _, Nat.le_refl _⟩ dX7_keep_25)
  replace hr := ite_f hc hr
  refine r_iconst (pc := 9) (v := (0 : Int32)) dX7_keep_9 rfl ?_
  exact l_osz hr (r_zret (pc := 10) (v := b2i false) (ty := .boolean) rfl (b2i_nar _) rfl ⟨Nat.le_refl _, Nat.le_refl _⟩ dX7_keep_10)

theorem kX7_keep {g : GG} {σ : SS} {a1 : Int32} {v : Bool} {σ2 : SS} {M : MM} {F : State → Array Value → List Frame → State → Prop} {pc index : Nat} {ls : List (Nat × Value)} {rest : List Value} (hf : fX7_keep σ a1 = some (v, σ2))  (hl : Cond.methodLink M.1.cls index yX7_keep ∈ lw_gt) (hR : mX7_keep.2.2.2.2.frames + 1 ≤ M.2.2.2.2.frames ∧ 8 + (mX7_keep.2.2.1 + 11) + mX7_keep.2.2.2.2.locals ≤ M.2.2.2.2.locals) (hrest : (rest.map fun v => v.category).sum ≤ 8) (hd : decode M.2.1 pc = .ok (.invokevirtual index, 3)) (k : WT σ2 → RR g M F zF (pc + 3) ls (.int (b2i v) :: rest) σ2) : RR g M F zF pc ls (.int a1 :: .ref (ad g 1) :: rest) σ :=
  r_callV (z := zF) (N := mX7_keep) (nn := 1) (o1 := some (.int (b2i v))) (sX7_keep hf ) (rfl : shp 1 = (7, 0)) (by decide) (shp_le (rfl : shp 1 = (7, 0)) (nle rfl)) (ci := 7) rfl rfl tw_4_181 tw_1_1 hl tw_4_179 tw_4_180 ⟨by decide, by decide, rfl⟩ hR rfl hrest hd ⟨Nat.zero_le _, Nat.zero_le _⟩ rfl (fun h => k (h rfl))

theorem dX7_dot_0 : decode cX7_dot 0 = .ok (.aload_n 0, 1) := by decide +kernel
theorem dX7_dot_1 : decode cX7_dot 1 = .ok (.getfield 18, 3) := by decide +kernel
theorem dX7_dot_4 : decode cX7_dot 4 = .ok (.iload_n 1, 1) := by decide +kernel
theorem dX7_dot_5 : decode cX7_dot 5 = .ok (.iload_n 2, 1) := by decide +kernel
theorem dX7_dot_6 : decode cX7_dot 6 = .ok (.invokevirtual 164, 3) := by decide +kernel
theorem dX7_dot_9 : decode cX7_dot 9 = .ok (.ifCond .eq 15, 3) := by decide +kernel
theorem dX7_dot_12 : decode cX7_dot 12 = .ok (.aload_n 0, 1) := by decide +kernel
theorem dX7_dot_13 : decode cX7_dot 13 = .ok (.getfield 18, 3) := by decide +kernel
theorem dX7_dot_16 : decode cX7_dot 16 = .ok (.iload_n 1, 1) := by decide +kernel
theorem dX7_dot_17 : decode cX7_dot 17 = .ok (.iload_n 2, 1) := by decide +kernel
theorem dX7_dot_18 : decode cX7_dot 18 = .ok (.invokevirtual 173, 3) := by decide +kernel
theorem dX7_dot_21 : decode cX7_dot 21 = .ok (.goto 4, 3) := by decide +kernel
theorem dX7_dot_24 : decode cX7_dot 24 = .ok (.iconst (-1), 1) := by decide +kernel
theorem dX7_dot_25 : decode cX7_dot 25 = .ok (.ireturn, 1) := by decide +kernel
def mX7_dot : MM := (yX7_dot, cX7_dot, 3, Option.some Jvm.ClassFile.FieldType.int, { frames := 2, cells := 0, slots := 0, locals := 44 })
def fX7_dot (σ0 : SS) (a1 : Int32) (a2 : Int32) : Option Int32 :=
  if (fX6_has σ0 (gR σ0 1 2) a1 a2) = true then (
    bnd1 (fX6_at σ0 (gR σ0 1 2) a1 a2) fun v1 =>
    some v1
    ) else (
    some (-1 : Int32)
    )

set_option maxRecDepth 20000 in
theorem sX7_dot {g : GG} {σ0 : SS} {a1 : Int32} {a2 : Int32} {r : Int32} (hr : fX7_dot σ0 a1 a2 = some r)  : Ct g mX7_dot [.ref (ad g 1), .int a1, .int a2] NF σ0 (some (.int r)) NF σ0 := by
  refine Ct.of (by decide +kernel) (nle rfl) fun hw0 => ?_
  have hw := hw0 rfl
  unfold fX7_dot at hr
  change RR g mX7_dot (FinR g mX7_dot (some (.int r)) NF σ0) zF 0 [(0, .ref (ad g 1)), (1, .int a1), (2, .int a2)] [] σ0
  refine r_aload_n (pc := 0) (j := 0) dX7_dot_0 rfl rfl ?_
  refine gf7_2 (pc := 1) tw_2_105 hw dX7_dot_1 ?_
  refine r_iload_n (pc := 4) (j := 1) dX7_dot_4 rfl rfl ?_
  refine r_iload_n (pc := 5) (j := 2) dX7_dot_5 rfl rfl ?_
  refine kX6_has (pc := 6) (hf := rfl) (wt_sc hw).1 tw_4_186 ⟨nle rfl, nle rfl⟩ (nle rfl) dX7_dot_6 ?_
  refine r_ifB_eq (pc := 9) (tgt := 24) dX7_dot_9 rfl (fun hc => ?_) (fun hc => ?_)
  · replace hr := ite_f hc hr
    refine r_iconst (pc := 24) (v := (-1 : Int32)) dX7_dot_24 rfl ?_
    exact l_opi hr (r_iret (pc := 25) (v := (-1 : Int32)) rfl rfl ⟨Nat.le_refl _, Nat.le_refl _⟩ dX7_dot_25)
  replace hr := ite_t hc hr
  refine r_aload_n (pc := 12) (j := 0) dX7_dot_12 rfl rfl ?_
  refine gf7_2 (pc := 13) tw_2_105 hw dX7_dot_13 ?_
  refine r_iload_n (pc := 16) (j := 1) dX7_dot_16 rfl rfl ?_
  refine r_iload_n (pc := 17) (j := 2) dX7_dot_17 rfl rfl ?_
  obtain ⟨v1, hv1, hr⟩ := bnd1_inv hr
  refine kX6_at (pc := 18) hv1 (wt_sc hw).1 tw_2_167 ⟨nle rfl, nle rfl⟩ (nle rfl) dX7_dot_18 ?_
  refine r_goto (pc := 21) (tgt := 25) dX7_dot_21 rfl ?_
  exact l_opi hr (r_iret (pc := 25) (v := v1) rfl rfl ⟨Nat.le_refl _, Nat.le_refl _⟩ dX7_dot_25)

theorem kX7_dot {g : GG} {σ0 : SS} {a1 : Int32} {a2 : Int32} {v : Int32} {M : MM} {F : State → Array Value → List Frame → State → Prop} {pc index : Nat} {ls : List (Nat × Value)} {rest : List Value} (hf : fX7_dot σ0 a1 a2 = some v)  (hl : Cond.methodLink M.1.cls index yX7_dot ∈ lw_gt) (hR : mX7_dot.2.2.2.2.frames + 1 ≤ M.2.2.2.2.frames ∧ 8 + (mX7_dot.2.2.1 + 11) + mX7_dot.2.2.2.2.locals ≤ M.2.2.2.2.locals) (hrest : (rest.map fun v => v.category).sum ≤ 8) (hd : decode M.2.1 pc = .ok (.invokevirtual index, 3)) (k : RR g M F zF (pc + 3) ls (.int v :: rest) σ0) : RR g M F zF pc ls (.int a2 :: .int a1 :: .ref (ad g 1) :: rest) σ0 :=
  r_callV (z := zF) (N := mX7_dot) (nn := 2) (o1 := some (.int v)) (sX7_dot hf ) (rfl : shp 1 = (7, 0)) (by decide) (shp_le (rfl : shp 1 = (7, 0)) (nle rfl)) (ci := 7) rfl rfl tw_4_185 tw_1_1 hl tw_4_183 tw_4_184 ⟨by decide, by decide, rfl⟩ hR rfl hrest hd ⟨Nat.zero_le _, Nat.zero_le _⟩ rfl (fun h => k)

theorem dX7_swapScans_0 : decode cX7_swapScans 0 = .ok (.aload_n 0, 1) := by decide +kernel
theorem dX7_swapScans_1 : decode cX7_swapScans 1 = .ok (.getfield 18, 3) := by decide +kernel
theorem dX7_swapScans_4 : decode cX7_swapScans 4 = .ok (.astore_n 1, 1) := by decide +kernel
theorem dX7_swapScans_5 : decode cX7_swapScans 5 = .ok (.aload_n 0, 1) := by decide +kernel
theorem dX7_swapScans_6 : decode cX7_swapScans 6 = .ok (.aload_n 0, 1) := by decide +kernel
theorem dX7_swapScans_7 : decode cX7_swapScans 7 = .ok (.getfield 22, 3) := by decide +kernel
theorem dX7_swapScans_10 : decode cX7_swapScans 10 = .ok (.putfield 18, 3) := by decide +kernel
theorem dX7_swapScans_13 : decode cX7_swapScans 13 = .ok (.aload_n 0, 1) := by decide +kernel
theorem dX7_swapScans_14 : decode cX7_swapScans 14 = .ok (.aload_n 1, 1) := by decide +kernel
theorem dX7_swapScans_15 : decode cX7_swapScans 15 = .ok (.putfield 22, 3) := by decide +kernel
theorem dX7_swapScans_18 : decode cX7_swapScans 18 = .ok (.return_, 1) := by decide +kernel
def mX7_swapScans : MM := (yX7_swapScans, cX7_swapScans, 2, none, { frames := 0, cells := 0, slots := 0, locals := 0 })
def fX7_swapScans (σ : SS)  : Option SS :=
  vthen (sR σ 1 2 (gR σ 1 3)) fun σ1 =>
  vthen (sR σ1 1 3 (gR σ 1 2)) fun σ2 =>
  some σ2

set_option maxRecDepth 20000 in
theorem sX7_swapScans {g : GG} {σ : SS}  {r : SS} (hr : fX7_swapScans σ = some r)  : Ct g mX7_swapScans [.ref (ad g 1)] NF σ none NF r := by
  refine Ct.of (by decide +kernel) (nle rfl) fun hw0 => ?_
  have hw := hw0 rfl
  unfold fX7_swapScans at hr
  change RR g mX7_swapScans (FinR g mX7_swapScans none NF r) zF 0 [(0, .ref (ad g 1))] [] σ
  refine r_aload_n (pc := 0) (j := 0) dX7_swapScans_0 rfl rfl ?_
  refine gf7_2 (pc := 1) tw_2_105 hw dX7_swapScans_1 ?_
  refine r_astore_n (pc := 4) (ls1 := [(1, .ref (ad g (gR σ 1 2))), (0, .ref (ad g 1))]) dX7_swapScans_4 rfl (nle rfl) rfl ?_
  refine r_aload_n (pc := 5) (j := 1) dX7_swapScans_5 rfl rfl ?_
  refine r_aload_n (pc := 6) (j := 1) dX7_swapScans_6 rfl rfl ?_
  refine gf7_3 (pc := 7) tw_2_106 hw dX7_swapScans_7 ?_
  refine pr7_2 (pc := 10) (wq_sp hw) tw_2_105 dX7_swapScans_10 fun σ1 eσ1 => ?_
  replace hr := vthen_inv hr σ1 eσ1
  have hσ1 := wtR eσ1 hw (Or.inl ⟨rfl, (wq_sp hw)⟩)
  refine r_aload_n (pc := 13) (j := 1) dX7_swapScans_13 rfl rfl ?_
  refine r_aload_n (pc := 14) (j := 0) dX7_swapScans_14 rfl rfl ?_
  refine pr7_3 (pc := 15) (wq_sc hw) tw_2_106 dX7_swapScans_15 fun σ2 eσ2 => ?_
  replace hr := vthen_inv hr σ2 eσ2
  have hσ2 := wtR eσ2 hσ1 (Or.inr (Or.inl ⟨rfl, (wq_sc hw)⟩))
  exact l_ov hr (r_vret (pc := 18) rfl rfl ⟨Nat.le_refl _, Nat.le_refl _⟩ dX7_swapScans_18)

theorem kX7_swapScans {g : GG} {σ : SS}  {σ2 : SS} {M : MM} {F : State → Array Value → List Frame → State → Prop} {pc index : Nat} {ls : List (Nat × Value)} {rest : List Value} (hf : fX7_swapScans σ = some σ2)  (hl : Cond.methodLink M.1.cls index yX7_swapScans ∈ lw_gt) (hR : mX7_swapScans.2.2.2.2.frames + 1 ≤ M.2.2.2.2.frames ∧ 8 + (mX7_swapScans.2.2.1 + 11) + mX7_swapScans.2.2.2.2.locals ≤ M.2.2.2.2.locals) (hrest : (rest.map fun v => v.category).sum ≤ 8) (hd : decode M.2.1 pc = .ok (.invokevirtual index, 3)) (k : WT σ2 → RR g M F zF (pc + 3) ls rest σ2) : RR g M F zF pc ls (.ref (ad g 1) :: rest) σ :=
  r_callV (z := zF) (N := mX7_swapScans) (nn := 0) (o1 := none) (sX7_swapScans hf ) (rfl : shp 1 = (7, 0)) (by decide) (shp_le (rfl : shp 1 = (7, 0)) (nle rfl)) (ci := 7) rfl rfl tw_4_194 tw_1_1 hl tw_4_193 tp_30 ⟨by decide, by decide, rfl⟩ hR rfl hrest hd ⟨Nat.zero_le _, Nat.zero_le _⟩ rfl (fun h => k (h rfl))

theorem dX7_turn_0 : decode cX7_turn 0 = .ok (.iload_n 1, 1) := by decide +kernel
theorem dX7_turn_1 : decode cX7_turn 1 = .ok (.ifCond .lt 8, 3) := by decide +kernel
theorem dX7_turn_4 : decode cX7_turn 4 = .ok (.iload_n 1, 1) := by decide +kernel
theorem dX7_turn_5 : decode cX7_turn 5 = .ok (.iconst 3, 1) := by decide +kernel
theorem dX7_turn_6 : decode cX7_turn 6 = .ok (.if_icmp .le 5, 3) := by decide +kernel
theorem dX7_turn_9 : decode cX7_turn 9 = .ok (.iconst (-1), 1) := by decide +kernel
theorem dX7_turn_10 : decode cX7_turn 10 = .ok (.ireturn, 1) := by decide +kernel
theorem dX7_turn_11 : decode cX7_turn 11 = .ok (.aload_n 0, 1) := by decide +kernel
theorem dX7_turn_12 : decode cX7_turn 12 = .ok (.getfield 22, 3) := by decide +kernel
theorem dX7_turn_15 : decode cX7_turn 15 = .ok (.aload_n 0, 1) := by decide +kernel
theorem dX7_turn_16 : decode cX7_turn 16 = .ok (.getfield 18, 3) := by decide +kernel
theorem dX7_turn_19 : decode cX7_turn 19 = .ok (.iload_n 1, 1) := by decide +kernel
theorem dX7_turn_20 : decode cX7_turn 20 = .ok (.invokevirtual 183, 3) := by decide +kernel
theorem dX7_turn_23 : decode cX7_turn 23 = .ok (.aload_n 0, 1) := by decide +kernel
theorem dX7_turn_24 : decode cX7_turn 24 = .ok (.invokevirtual 187, 3) := by decide +kernel
theorem dX7_turn_27 : decode cX7_turn 27 = .ok (.aload_n 0, 1) := by decide +kernel
theorem dX7_turn_28 : decode cX7_turn 28 = .ok (.getfield 18, 3) := by decide +kernel
theorem dX7_turn_31 : decode cX7_turn 31 = .ok (.getfield 100, 3) := by decide +kernel
theorem dX7_turn_34 : decode cX7_turn 34 = .ok (.ireturn, 1) := by decide +kernel
def mX7_turn : MM := (yX7_turn, cX7_turn, 2, Option.some Jvm.ClassFile.FieldType.int, { frames := 3, cells := 0, slots := 0, locals := 74 })
def fX7_turn (σ : SS) (a1 : Int32) : Option (Int32 × SS) :=
  if a1 < 0 then (
    some ((-1 : Int32), σ)
    ) else (
    if a1 ≤ (3 : Int32) then (
      bnd1 (fX6_takeTurned σ (gR σ 1 3) (gR σ 1 2) a1) fun σ1 =>
      bnd1 (fX7_swapScans σ1) fun σ2 =>
      some ((gI σ2 (gR σ2 1 2) 0), σ2)
      ) else (
      some ((-1 : Int32), σ)
      )
    )

set_option maxRecDepth 20000 in
theorem sX7_turn {g : GG} {σ : SS} {a1 : Int32} {r : Int32 × SS} (hr : fX7_turn σ a1 = some r)  : Ct g mX7_turn [.ref (ad g 1), .int a1] NF σ (some (.int r.1)) NF r.2 := by
  refine Ct.of (by decide +kernel) (nle rfl) fun hw0 => ?_
  have hw := hw0 rfl
  unfold fX7_turn at hr
  change RR g mX7_turn (FinR g mX7_turn (some (.int r.1)) NF r.2) zF 0 [(0, .ref (ad g 1)), (1, .int a1)] [] σ
  refine r_iload_n (pc := 0) (j := 1) dX7_turn_0 rfl rfl ?_
  refine r_if_lt (pc := 1) (tgt := 9) dX7_turn_1 rfl (fun hc => ?_) (fun hc => ?_)
  · replace hr := ite_t hc hr
    refine r_iconst (pc := 9) (v := (-1 : Int32)) dX7_turn_9 rfl ?_
    exact l_osi hr (r_iret (pc := 10) (v := (-1 : Int32)) rfl rfl ⟨Nat.le_refl _, Nat.le_refl _⟩ dX7_turn_10)
  replace hr := ite_f hc hr
  refine r_iload_n (pc := 4) (j := 1) dX7_turn_4 rfl rfl ?_
  refine r_iconst (pc := 5) (v := (3 : Int32)) dX7_turn_5 rfl ?_
  refine r_icmp_le (pc := 6) (tgt := 11) dX7_turn_6 rfl (fun hc => ?_) (fun hc => ?_)
  · replace hr := ite_t hc hr
    refine r_aload_n (pc := 11) (j := 0) dX7_turn_11 rfl rfl ?_
    refine gf7_3 (pc := 12) tw_2_106 hw dX7_turn_12 ?_
    refine r_aload_n (pc := 15) (j := 0) dX7_turn_15 rfl rfl ?_
    refine gf7_2 (pc := 16) tw_2_105 hw dX7_turn_16 ?_
    refine r_iload_n (pc := 19) (j := 1) dX7_turn_19 rfl rfl ?_
    obtain ⟨σ1, eσ1, hr⟩ := bnd1_inv hr
    refine kX6_takeTurned (pc := 20) eσ1 (wt_sp hw).1 (wt_sc hw).1 tw_3_106 ⟨nle rfl, nle rfl⟩ (nle rfl) dX7_turn_20 fun hσ1 => ?_
    refine r_aload_n (pc := 23) (j := 0) dX7_turn_23 rfl rfl ?_
    obtain ⟨σ2, eσ2, hr⟩ := bnd1_inv hr
    refine kX7_swapScans (pc := 24) eσ2 tw_4_191 ⟨nle rfl, nle rfl⟩ (nle rfl) dX7_turn_24 fun hσ2 => ?_
    refine r_aload_n (pc := 27) (j := 0) dX7_turn_27 rfl rfl ?_
    refine gf7_2 (pc := 28) tw_2_105 hσ2 dX7_turn_28 ?_
    refine gf6_0 (pc := 31) tw_1_34 (wt_sc hσ2).1 dX7_turn_31 ?_
    exact l_osi hr (r_iret (pc := 34) (v := (gI σ2 (gR σ2 1 2) 0)) rfl rfl ⟨Nat.le_refl _, Nat.le_refl _⟩ dX7_turn_34)
  replace hr := ite_f hc hr
  refine r_iconst (pc := 9) (v := (-1 : Int32)) dX7_turn_9 rfl ?_
  exact l_osi hr (r_iret (pc := 10) (v := (-1 : Int32)) rfl rfl ⟨Nat.le_refl _, Nat.le_refl _⟩ dX7_turn_10)

theorem kX7_turn {g : GG} {σ : SS} {a1 : Int32} {v : Int32} {σ2 : SS} {M : MM} {F : State → Array Value → List Frame → State → Prop} {pc index : Nat} {ls : List (Nat × Value)} {rest : List Value} (hf : fX7_turn σ a1 = some (v, σ2))  (hl : Cond.methodLink M.1.cls index yX7_turn ∈ lw_gt) (hR : mX7_turn.2.2.2.2.frames + 1 ≤ M.2.2.2.2.frames ∧ 8 + (mX7_turn.2.2.1 + 11) + mX7_turn.2.2.2.2.locals ≤ M.2.2.2.2.locals) (hrest : (rest.map fun v => v.category).sum ≤ 8) (hd : decode M.2.1 pc = .ok (.invokevirtual index, 3)) (k : WT σ2 → RR g M F zF (pc + 3) ls (.int v :: rest) σ2) : RR g M F zF pc ls (.int a1 :: .ref (ad g 1) :: rest) σ :=
  r_callV (z := zF) (N := mX7_turn) (nn := 1) (o1 := some (.int v)) (sX7_turn hf ) (rfl : shp 1 = (7, 0)) (by decide) (shp_le (rfl : shp 1 = (7, 0)) (nle rfl)) (ci := 7) rfl rfl tw_4_190 tw_1_1 hl tw_4_188 tw_4_189 ⟨by decide, by decide, rfl⟩ hR rfl hrest hd ⟨Nat.zero_le _, Nat.zero_le _⟩ rfl (fun h => k (h rfl))

theorem dX7_seed_0 : decode cX7_seed 0 = .ok (.aload_n 0, 1) := by decide +kernel
theorem dX7_seed_1 : decode cX7_seed 1 = .ok (.getfield 46, 3) := by decide +kernel
theorem dX7_seed_4 : decode cX7_seed 4 = .ok (.istore_n 2, 1) := by decide +kernel
theorem dX7_seed_5 : decode cX7_seed 5 = .ok (.aload_n 0, 1) := by decide +kernel
theorem dX7_seed_6 : decode cX7_seed 6 = .ok (.iload_n 1, 1) := by decide +kernel
theorem dX7_seed_7 : decode cX7_seed 7 = .ok (.ldc 182, 2) := by decide +kernel
theorem dX7_seed_9 : decode cX7_seed 9 = .ok (.iand, 1) := by decide +kernel
theorem dX7_seed_10 : decode cX7_seed 10 = .ok (.putfield 46, 3) := by decide +kernel
theorem dX7_seed_13 : decode cX7_seed 13 = .ok (.iload_n 2, 1) := by decide +kernel
theorem dX7_seed_14 : decode cX7_seed 14 = .ok (.ireturn, 1) := by decide +kernel
def mX7_seed : MM := (yX7_seed, cX7_seed, 3, Option.some Jvm.ClassFile.FieldType.int, { frames := 0, cells := 0, slots := 0, locals := 0 })
def fX7_seed (σ : SS) (a1 : Int32) : Option (Int32 × SS) :=
  vthen (gI σ 1 8) fun v1 =>
  vthen (sI σ 1 8 (a1 &&& (65535 : Int32))) fun σ2 =>
  some (v1, σ2)

set_option maxRecDepth 20000 in
theorem sX7_seed {g : GG} {σ : SS} {a1 : Int32} {r : Int32 × SS} (hr : fX7_seed σ a1 = some r)  : Ct g mX7_seed [.ref (ad g 1), .int a1] NF σ (some (.int r.1)) NF r.2 := by
  refine Ct.of (by decide +kernel) (nle rfl) fun hw0 => ?_
  have hw := hw0 rfl
  unfold fX7_seed at hr
  change RR g mX7_seed (FinR g mX7_seed (some (.int r.1)) NF r.2) zF 0 [(0, .ref (ad g 1)), (1, .int a1)] [] σ
  refine r_aload_n (pc := 0) (j := 0) dX7_seed_0 rfl rfl ?_
  refine gf7_8 (pc := 1) tw_2_111 rfl dX7_seed_1 ?_
  refine r_topi fun v1 ev1 => ?_
  replace hr := vthen_inv hr v1 ev1
  refine r_istore_n (pc := 4) (ls1 := [(2, .int v1), (0, .ref (ad g 1)), (1, .int a1)]) dX7_seed_4 rfl (nle rfl) rfl ?_
  refine r_aload_n (pc := 5) (j := 1) dX7_seed_5 rfl rfl ?_
  refine r_iload_n (pc := 6) (j := 2) dX7_seed_6 rfl rfl ?_
  refine r_ldc (pc := 7) (v := (65535 : Int32)) dX7_seed_7 tw_2_166 ?_
  refine r_iand (pc := 9) dX7_seed_9 ?_
  refine pf7_8 (pc := 10) tw_2_111 rfl dX7_seed_10 fun σ2 eσ2 => ?_
  replace hr := vthen_inv hr σ2 eσ2
  have hσ2 := wtI eσ2 hw
  refine r_iload_n (pc := 13) (j := 0) dX7_seed_13 rfl rfl ?_
  exact l_osi hr (r_iret (pc := 14) (v := v1) rfl rfl ⟨Nat.le_refl _, Nat.le_refl _⟩ dX7_seed_14)

theorem kX7_seed {g : GG} {σ : SS} {a1 : Int32} {v : Int32} {σ2 : SS} {M : MM} {F : State → Array Value → List Frame → State → Prop} {pc index : Nat} {ls : List (Nat × Value)} {rest : List Value} (hf : fX7_seed σ a1 = some (v, σ2))  (hl : Cond.methodLink M.1.cls index yX7_seed ∈ lw_gt) (hR : mX7_seed.2.2.2.2.frames + 1 ≤ M.2.2.2.2.frames ∧ 8 + (mX7_seed.2.2.1 + 11) + mX7_seed.2.2.2.2.locals ≤ M.2.2.2.2.locals) (hrest : (rest.map fun v => v.category).sum ≤ 8) (hd : decode M.2.1 pc = .ok (.invokevirtual index, 3)) (k : WT σ2 → RR g M F zF (pc + 3) ls (.int v :: rest) σ2) : RR g M F zF pc ls (.int a1 :: .ref (ad g 1) :: rest) σ :=
  r_callV (z := zF) (N := mX7_seed) (nn := 1) (o1 := some (.int v)) (sX7_seed hf ) (rfl : shp 1 = (7, 0)) (by decide) (shp_le (rfl : shp 1 = (7, 0)) (nle rfl)) (ci := 7) rfl rfl tw_4_199 tw_1_1 hl tw_4_197 tw_4_198 ⟨by decide, by decide, rfl⟩ hR rfl hrest hd ⟨Nat.zero_le _, Nat.zero_le _⟩ rfl (fun h => k (h rfl))

theorem dX7_drawBelow_0 : decode cX7_drawBelow 0 = .ok (.aload_n 0, 1) := by decide +kernel
theorem dX7_drawBelow_1 : decode cX7_drawBelow 1 = .ok (.sipush 25173, 3) := by decide +kernel
theorem dX7_drawBelow_4 : decode cX7_drawBelow 4 = .ok (.aload_n 0, 1) := by decide +kernel
theorem dX7_drawBelow_5 : decode cX7_drawBelow 5 = .ok (.getfield 46, 3) := by decide +kernel
theorem dX7_drawBelow_8 : decode cX7_drawBelow 8 = .ok (.imul, 1) := by decide +kernel
theorem dX7_drawBelow_9 : decode cX7_drawBelow 9 = .ok (.sipush 13849, 3) := by decide +kernel
theorem dX7_drawBelow_12 : decode cX7_drawBelow 12 = .ok (.iadd, 1) := by decide +kernel
theorem dX7_drawBelow_13 : decode cX7_drawBelow 13 = .ok (.ldc 182, 2) := by decide +kernel
theorem dX7_drawBelow_15 : decode cX7_drawBelow 15 = .ok (.iand, 1) := by decide +kernel
theorem dX7_drawBelow_16 : decode cX7_drawBelow 16 = .ok (.putfield 46, 3) := by decide +kernel
theorem dX7_drawBelow_19 : decode cX7_drawBelow 19 = .ok (.iload_n 1, 1) := by decide +kernel
theorem dX7_drawBelow_20 : decode cX7_drawBelow 20 = .ok (.iconst 1, 1) := by decide +kernel
theorem dX7_drawBelow_21 : decode cX7_drawBelow 21 = .ok (.if_icmp .ge 7, 3) := by decide +kernel
theorem dX7_drawBelow_24 : decode cX7_drawBelow 24 = .ok (.iconst 0, 1) := by decide +kernel
theorem dX7_drawBelow_25 : decode cX7_drawBelow 25 = .ok (.goto 11, 3) := by decide +kernel
theorem dX7_drawBelow_28 : decode cX7_drawBelow 28 = .ok (.aload_n 0, 1) := by decide +kernel
theorem dX7_drawBelow_29 : decode cX7_drawBelow 29 = .ok (.getfield 46, 3) := by decide +kernel
theorem dX7_drawBelow_32 : decode cX7_drawBelow 32 = .ok (.iconst 4, 1) := by decide +kernel
theorem dX7_drawBelow_33 : decode cX7_drawBelow 33 = .ok (.idiv, 1) := by decide +kernel
theorem dX7_drawBelow_34 : decode cX7_drawBelow 34 = .ok (.iload_n 1, 1) := by decide +kernel
theorem dX7_drawBelow_35 : decode cX7_drawBelow 35 = .ok (.irem, 1) := by decide +kernel
theorem dX7_drawBelow_36 : decode cX7_drawBelow 36 = .ok (.ireturn, 1) := by decide +kernel
def mX7_drawBelow : MM := (yX7_drawBelow, cX7_drawBelow, 2, Option.some Jvm.ClassFile.FieldType.int, { frames := 0, cells := 0, slots := 0, locals := 0 })
def fX7_drawBelow (σ : SS) (a1 : Int32) : Option (Int32 × SS) :=
  vthen (sI σ 1 8 ((((25173 : Int32) * (gI σ 1 8)) + (13849 : Int32)) &&& (65535 : Int32))) fun σ1 =>
  if (1 : Int32) ≤ a1 then (
    grd (nz a1) <|
    some ((irm ((gI σ1 1 8) / (4 : Int32)) a1), σ1)
    ) else (
    some ((0 : Int32), σ1)
    )

set_option maxRecDepth 20000 in
theorem sX7_drawBelow {g : GG} {σ : SS} {a1 : Int32} {r : Int32 × SS} (hr : fX7_drawBelow σ a1 = some r)  : Ct g mX7_drawBelow [.ref (ad g 1), .int a1] NF σ (some (.int r.1)) NF r.2 := by
  refine Ct.of (by decide +kernel) (nle rfl) fun hw0 => ?_
  have hw := hw0 rfl
  unfold fX7_drawBelow at hr
  change RR g mX7_drawBelow (FinR g mX7_drawBelow (some (.int r.1)) NF r.2) zF 0 [(0, .ref (ad g 1)), (1, .int a1)] [] σ
  refine r_aload_n (pc := 0) (j := 0) dX7_drawBelow_0 rfl rfl ?_
  refine r_sipush (pc := 1) (v := (25173 : Int32)) dX7_drawBelow_1 rfl ?_
  refine r_aload_n (pc := 4) (j := 0) dX7_drawBelow_4 rfl rfl ?_
  refine gf7_8 (pc := 5) tw_2_111 rfl dX7_drawBelow_5 ?_
  refine r_imul (pc := 8) dX7_drawBelow_8 ?_
  refine r_sipush (pc := 9) (v := (13849 : Int32)) dX7_drawBelow_9 rfl ?_
  refine r_iadd (pc := 12) dX7_drawBelow_12 ?_
  refine r_ldc (pc := 13) (v := (65535 : Int32)) dX7_drawBelow_13 tw_2_166 ?_
  refine r_iand (pc := 15) dX7_drawBelow_15 ?_
  refine pf7_8 (pc := 16) tw_2_111 rfl dX7_drawBelow_16 fun σ1 eσ1 => ?_
  replace hr := vthen_inv hr σ1 eσ1
  have hσ1 := wtI eσ1 hw
  refine r_iload_n (pc := 19) (j := 1) dX7_drawBelow_19 rfl rfl ?_
  refine r_iconst (pc := 20) (v := (1 : Int32)) dX7_drawBelow_20 rfl ?_
  refine r_icmp_ge (pc := 21) (tgt := 28) dX7_drawBelow_21 rfl (fun hc => ?_) (fun hc => ?_)
  · replace hr := ite_t hc hr
    refine r_aload_n (pc := 28) (j := 0) dX7_drawBelow_28 rfl rfl ?_
    refine gf7_8 (pc := 29) tw_2_111 rfl dX7_drawBelow_29 ?_
    refine r_iconst (pc := 32) (v := (4 : Int32)) dX7_drawBelow_32 rfl ?_
    refine r_idiv (pc := 33) dX7_drawBelow_33 (by decide) ?_
    refine r_iload_n (pc := 34) (j := 1) dX7_drawBelow_34 rfl rfl ?_
    obtain ⟨h2, hr⟩ := grd_inv hr
    refine r_irem (pc := 35) dX7_drawBelow_35 (nz_ne h2) ?_
    exact l_osi hr (r_iret (pc := 36) (v := (irm ((gI σ1 1 8) / (4 : Int32)) a1)) rfl rfl ⟨Nat.le_refl _, Nat.le_refl _⟩ dX7_drawBelow_36)
  replace hr := ite_f hc hr
  refine r_iconst (pc := 24) (v := (0 : Int32)) dX7_drawBelow_24 rfl ?_
  refine r_goto (pc := 25) (tgt := 36) dX7_drawBelow_25 rfl ?_
  exact l_osi hr (r_iret (pc := 36) (v := (0 : Int32)) rfl rfl ⟨Nat.le_refl _, Nat.le_refl _⟩ dX7_drawBelow_36)

theorem kX7_drawBelow {g : GG} {σ : SS} {a1 : Int32} {v : Int32} {σ2 : SS} {M : MM} {F : State → Array Value → List Frame → State → Prop} {pc index : Nat} {ls : List (Nat × Value)} {rest : List Value} (hf : fX7_drawBelow σ a1 = some (v, σ2))  (hl : Cond.methodLink M.1.cls index yX7_drawBelow ∈ lw_gt) (hR : mX7_drawBelow.2.2.2.2.frames + 1 ≤ M.2.2.2.2.frames ∧ 8 + (mX7_drawBelow.2.2.1 + 11) + mX7_drawBelow.2.2.2.2.locals ≤ M.2.2.2.2.locals) (hrest : (rest.map fun v => v.category).sum ≤ 8) (hd : decode M.2.1 pc = .ok (.invokevirtual index, 3)) (k : WT σ2 → RR g M F zF (pc + 3) ls (.int v :: rest) σ2) : RR g M F zF pc ls (.int a1 :: .ref (ad g 1) :: rest) σ :=
  r_callV (z := zF) (N := mX7_drawBelow) (nn := 1) (o1 := some (.int v)) (sX7_drawBelow hf ) (rfl : shp 1 = (7, 0)) (by decide) (shp_le (rfl : shp 1 = (7, 0)) (nle rfl)) (ci := 7) rfl rfl tw_2_165 tw_1_1 hl tw_2_164 tp_0 ⟨by decide, by decide, rfl⟩ hR rfl hrest hd ⟨Nat.zero_le _, Nat.zero_le _⟩ rfl (fun h => k (h rfl))

theorem dX7_noise_0 : decode cX7_noise 0 = .ok (.iload_n 1, 1) := by decide +kernel
theorem dX7_noise_1 : decode cX7_noise 1 = .ok (.ifCond .lt 10, 3) := by decide +kernel
theorem dX7_noise_4 : decode cX7_noise 4 = .ok (.iload_n 1, 1) := by decide +kernel
theorem dX7_noise_5 : decode cX7_noise 5 = .ok (.sipush 500, 3) := by decide +kernel
theorem dX7_noise_8 : decode cX7_noise 8 = .ok (.if_icmp .le 5, 3) := by decide +kernel
theorem dX7_noise_11 : decode cX7_noise 11 = .ok (.iconst (-1), 1) := by decide +kernel
theorem dX7_noise_12 : decode cX7_noise 12 = .ok (.ireturn, 1) := by decide +kernel
theorem dX7_noise_13 : decode cX7_noise 13 = .ok (.iconst 0, 1) := by decide +kernel
theorem dX7_noise_14 : decode cX7_noise 14 = .ok (.istore_n 2, 1) := by decide +kernel
theorem dX7_noise_15 : decode cX7_noise 15 = .ok (.iconst 0, 1) := by decide +kernel
theorem dX7_noise_16 : decode cX7_noise 16 = .ok (.istore_n 3, 1) := by decide +kernel
theorem dX7_noise_17 : decode cX7_noise 17 = .ok (.iload_n 3, 1) := by decide +kernel
theorem dX7_noise_18 : decode cX7_noise 18 = .ok (.iload_n 1, 1) := by decide +kernel
theorem dX7_noise_19 : decode cX7_noise 19 = .ok (.if_icmp .ge 94, 3) := by decide +kernel
theorem dX7_noise_22 : decode cX7_noise 22 = .ok (.aload_n 0, 1) := by decide +kernel
theorem dX7_noise_23 : decode cX7_noise 23 = .ok (.aload_n 0, 1) := by decide +kernel
theorem dX7_noise_24 : decode cX7_noise 24 = .ok (.getfield 18, 3) := by decide +kernel
theorem dX7_noise_27 : decode cX7_noise 27 = .ok (.getfield 100, 3) := by decide +kernel
theorem dX7_noise_30 : decode cX7_noise 30 = .ok (.invokevirtual 176, 3) := by decide +kernel
theorem dX7_noise_33 : decode cX7_noise 33 = .ok (.istore 4, 2) := by decide +kernel
theorem dX7_noise_35 : decode cX7_noise 35 = .ok (.aload_n 0, 1) := by decide +kernel
theorem dX7_noise_36 : decode cX7_noise 36 = .ok (.aload_n 0, 1) := by decide +kernel
theorem dX7_noise_37 : decode cX7_noise 37 = .ok (.getfield 18, 3) := by decide +kernel
theorem dX7_noise_40 : decode cX7_noise 40 = .ok (.getfield 103, 3) := by decide +kernel
theorem dX7_noise_43 : decode cX7_noise 43 = .ok (.invokevirtual 176, 3) := by decide +kernel
theorem dX7_noise_46 : decode cX7_noise 46 = .ok (.istore 5, 2) := by decide +kernel
theorem dX7_noise_48 : decode cX7_noise 48 = .ok (.aload_n 0, 1) := by decide +kernel
theorem dX7_noise_49 : decode cX7_noise 49 = .ok (.iconst 3, 1) := by decide +kernel
theorem dX7_noise_50 : decode cX7_noise 50 = .ok (.invokevirtual 176, 3) := by decide +kernel
theorem dX7_noise_53 : decode cX7_noise 53 = .ok (.ifCond .ne 7, 3) := by decide +kernel
theorem dX7_noise_56 : decode cX7_noise 56 = .ok (.iconst (-1), 1) := by decide +kernel
theorem dX7_noise_57 : decode cX7_noise 57 = .ok (.goto 4, 3) := by decide +kernel
theorem dX7_noise_60 : decode cX7_noise 60 = .ok (.iconst 1, 1) := by decide +kernel
theorem dX7_noise_61 : decode cX7_noise 61 = .ok (.istore 6, 2) := by decide +kernel
theorem dX7_noise_63 : decode cX7_noise 63 = .ok (.iconst 0, 1) := by decide +kernel
theorem dX7_noise_64 : decode cX7_noise 64 = .ok (.bipush 9, 2) := by decide +kernel
theorem dX7_noise_66 : decode cX7_noise 66 = .ok (.aload_n 0, 1) := by decide +kernel
theorem dX7_noise_67 : decode cX7_noise 67 = .ok (.getfield 18, 3) := by decide +kernel
theorem dX7_noise_70 : decode cX7_noise 70 = .ok (.iload 4, 2) := by decide +kernel
theorem dX7_noise_72 : decode cX7_noise 72 = .ok (.iload 5, 2) := by decide +kernel
theorem dX7_noise_74 : decode cX7_noise 74 = .ok (.invokevirtual 173, 3) := by decide +kernel
theorem dX7_noise_77 : decode cX7_noise 77 = .ok (.iload 6, 2) := by decide +kernel
theorem dX7_noise_79 : decode cX7_noise 79 = .ok (.iadd, 1) := by decide +kernel
theorem dX7_noise_80 : decode cX7_noise 80 = .ok (.invokestatic 167, 3) := by decide +kernel
theorem dX7_noise_83 : decode cX7_noise 83 = .ok (.invokestatic 179, 3) := by decide +kernel
theorem dX7_noise_86 : decode cX7_noise 86 = .ok (.istore 7, 2) := by decide +kernel
theorem dX7_noise_88 : decode cX7_noise 88 = .ok (.aload_n 0, 1) := by decide +kernel
theorem dX7_noise_89 : decode cX7_noise 89 = .ok (.getfield 18, 3) := by decide +kernel
theorem dX7_noise_92 : decode cX7_noise 92 = .ok (.iload 4, 2) := by decide +kernel
theorem dX7_noise_94 : decode cX7_noise 94 = .ok (.iload 5, 2) := by decide +kernel
theorem dX7_noise_96 : decode cX7_noise 96 = .ok (.iload 7, 2) := by decide +kernel
theorem dX7_noise_98 : decode cX7_noise 98 = .ok (.invokevirtual 157, 3) := by decide +kernel
theorem dX7_noise_101 : decode cX7_noise 101 = .ok (.ifCond .eq 6, 3) := by decide +kernel
theorem dX7_noise_104 : decode cX7_noise 104 = .ok (.iinc 2 1, 3) := by decide +kernel
theorem dX7_noise_107 : decode cX7_noise 107 = .ok (.iinc 3 1, 3) := by decide +kernel
theorem dX7_noise_110 : decode cX7_noise 110 = .ok (.goto (-93), 3) := by decide +kernel
theorem dX7_noise_113 : decode cX7_noise 113 = .ok (.iload_n 2, 1) := by decide +kernel
theorem dX7_noise_114 : decode cX7_noise 114 = .ok (.ireturn, 1) := by decide +kernel
def mX7_noise : MM := (yX7_noise, cX7_noise, 8, Option.some Jvm.ClassFile.FieldType.int, { frames := 2, cells := 0, slots := 0, locals := 47 })
def X7_noise_L17 (u1_ : Int32)  : Nat → Int32 → Int32 → SS → Option (Int32 × SS) :=
  lp (fun _ _ _ => none) fun rec v2_ v3_ σ_ =>
    if u1_ ≤ v3_ then (
      some (v2_, σ_)
      ) else (
      bnd (fX7_drawBelow σ_ (gI σ_ (gR σ_ 1 2) 0)) fun v1 σ4 =>
      bnd (fX7_drawBelow σ4 (gI σ4 (gR σ4 1 2) 1)) fun v5 σ8 =>
      bnd (fX7_drawBelow σ8 (3 : Int32)) fun v9 σ12 =>
      vthen (fun (s13 : Int32) =>
        bnd1 (fX6_at σ12 (gR σ12 1 2) v1 v5) fun v14 =>
        vthen (fJ9_max_7cf53 σ12 (0 : Int32) (fJ9_min_7cf53 σ12 (9 : Int32) (v14 + s13))) fun v17 =>
        bnd (fX6_put σ12 (gR σ12 1 2) v1 v5 v17) fun b19 σ21 =>
        if b19 = true then (
          rec (v2_ + (1 : Int32)) (v3_ + (1 : Int32)) σ21
          ) else (
          rec v2_ (v3_ + (1 : Int32)) σ21
          )
        ) fun j61 =>
      if v9 = 0 then (
        j61 (-1 : Int32)
        ) else (
        j61 (1 : Int32)
        )
      )

def fX7_noise (σ : SS) (a1 : Int32) : Option (Int32 × SS) :=
  if a1 < 0 then (
    some ((-1 : Int32), σ)
    ) else (
    if a1 ≤ (500 : Int32) then (
      X7_noise_L17 a1
      fuel (0 : Int32) (0 : Int32) σ
      ) else (
      some ((-1 : Int32), σ)
      )
    )

set_option maxRecDepth 20000 in
theorem sX7_noise_L17 {g : GG} {r : Int32 × SS} {u1_ : Int32}  
    (n : Nat) : ∀ (v2_ : Int32) (v3_ : Int32) (σ_ : SS), X7_noise_L17 u1_ n v2_ v3_ σ_ = some r → WT σ_ → RR g mX7_noise (FinR g mX7_noise (some (.int r.1)) NF r.2) zF 17 [(0, .ref (ad g 1)), (1, .int u1_), (2, .int v2_), (3, .int v3_)] [] σ_ := by
  unfold X7_noise_L17
  refine lp_ind (P := fun (rec : Int32 → Int32 → SS → Option (Int32 × SS)) => ∀ (v2_ : Int32) (v3_ : Int32) (σ_ : SS), rec v2_ v3_ σ_ = some r → WT σ_ → RR g mX7_noise (FinR g mX7_noise (some (.int r.1)) NF r.2) zF 17 [(0, .ref (ad g 1)), (1, .int u1_), (2, .int v2_), (3, .int v3_)] [] σ_) ?_ ?_ n
  · intro v2_ v3_ σ_ hr; cases hr
  intro rec ih v2_ v3_ σ_ hr hw_
  refine r_iload_n (pc := 17) (j := 3) dX7_noise_17 rfl rfl ?_
  refine r_iload_n (pc := 18) (j := 1) dX7_noise_18 rfl rfl ?_
  refine r_icmp_ge (pc := 19) (tgt := 113) dX7_noise_19 rfl (fun hc => ?_) (fun hc => ?_)
  · replace hr := ite_t hc hr
    refine r_iload_n (pc := 113) (j := 2) dX7_noise_113 rfl rfl ?_
    exact l_osi hr (r_iret (pc := 114) (v := v2_) rfl rfl ⟨Nat.le_refl _, Nat.le_refl _⟩ dX7_noise_114)
  replace hr := ite_f hc hr
  refine r_aload_n (pc := 22) (j := 0) dX7_noise_22 rfl rfl ?_
  refine r_aload_n (pc := 23) (j := 0) dX7_noise_23 rfl rfl ?_
  refine gf7_2 (pc := 24) tw_2_105 hw_ dX7_noise_24 ?_
  refine gf6_0 (pc := 27) tw_1_34 (wt_sc hw_).1 dX7_noise_27 ?_
  obtain ⟨v1, σ4, eσ4, hr⟩ := bnd_inv hr
  refine kX7_drawBelow (pc := 30) eσ4 tw_2_162 ⟨nle rfl, nle rfl⟩ (nle rfl) dX7_noise_30 fun hσ4 => ?_
  refine r_istore (pc := 33) (ls1 := [(4, .int v1), (0, .ref (ad g 1)), (1, .int u1_), (2, .int v2_), (3, .int v3_)]) dX7_noise_33 (nle rfl) rfl ?_
  refine r_aload_n (pc := 35) (j := 1) dX7_noise_35 rfl rfl ?_
  refine r_aload_n (pc := 36) (j := 1) dX7_noise_36 rfl rfl ?_
  refine gf7_2 (pc := 37) tw_2_105 hσ4 dX7_noise_37 ?_
  refine gf6_1 (pc := 40) tw_1_37 (wt_sc hσ4).1 dX7_noise_40 ?_
  obtain ⟨v5, σ8, eσ8, hr⟩ := bnd_inv hr
  refine kX7_drawBelow (pc := 43) eσ8 tw_2_162 ⟨nle rfl, nle rfl⟩ (nle rfl) dX7_noise_43 fun hσ8 => ?_
  refine r_istore (pc := 46) (ls1 := [(5, .int v5), (4, .int v1), (0, .ref (ad g 1)), (1, .int u1_), (2, .int v2_), (3, .int v3_)]) dX7_noise_46 (nle rfl) rfl ?_
  refine r_aload_n (pc := 48) (j := 2) dX7_noise_48 rfl rfl ?_
  refine r_iconst (pc := 49) (v := (3 : Int32)) dX7_noise_49 rfl ?_
  obtain ⟨v9, σ12, eσ12, hr⟩ := bnd_inv hr
  refine kX7_drawBelow (pc := 50) eσ12 tw_2_162 ⟨nle rfl, nle rfl⟩ (nle rfl) dX7_noise_50 fun hσ12 => ?_
  obtain ⟨j61, ej61, hr⟩ := vth_ex hr
  have hj61 : ∀ (s13 : Int32), j61 s13 = some r → RR g mX7_noise (FinR g mX7_noise (some (.int r.1)) NF r.2) zF 61 [(0, .ref (ad g 1)), (1, .int u1_), (2, .int v2_), (3, .int v3_), (4, .int v1), (5, .int v5)] [.int s13] σ12 := by
    intro s13 hr
    replace hr := (congrFun ej61 s13).symm.trans hr
    refine r_istore (pc := 61) (ls1 := [(6, .int s13), (0, .ref (ad g 1)), (1, .int u1_), (2, .int v2_), (3, .int v3_), (4, .int v1), (5, .int v5)]) dX7_noise_61 (nle rfl) rfl ?_
    refine r_iconst (pc := 63) (v := (0 : Int32)) dX7_noise_63 rfl ?_
    refine r_bipush (pc := 64) (v := (9 : Int32)) dX7_noise_64 rfl ?_
    refine r_aload_n (pc := 66) (j := 1) dX7_noise_66 rfl rfl ?_
    refine gf7_2 (pc := 67) tw_2_105 hσ12 dX7_noise_67 ?_
    refine r_iload (pc := 70) (j := 5) dX7_noise_70 rfl ?_
    refine r_iload (pc := 72) (j := 6) dX7_noise_72 rfl ?_
    obtain ⟨v14, hv14, hr⟩ := bnd1_inv hr
    refine kX6_at (pc := 74) hv14 (wt_sc hσ12).1 tw_2_167 ⟨nle rfl, nle rfl⟩ (nle rfl) dX7_noise_74 ?_
    refine r_iload (pc := 77) (j := 0) dX7_noise_77 rfl ?_
    refine r_iadd (pc := 79) dX7_noise_79 ?_
    refine kJ9_min_7cf53 (pc := 80) (hf := rfl) tw_2_175 ⟨nle rfl, nle rfl⟩ (nle rfl) dX7_noise_80 ?_
    refine kJ9_max_7cf53 (pc := 83) (hf := rfl) tw_2_178 ⟨nle rfl, nle rfl⟩ (nle rfl) dX7_noise_83 ?_
    refine r_topi fun v17 ev17 => ?_
    replace hr := vthen_inv hr v17 ev17
    refine r_istore (pc := 86) (ls1 := [(7, .int v17), (6, .int s13), (0, .ref (ad g 1)), (1, .int u1_), (2, .int v2_), (3, .int v3_), (4, .int v1), (5, .int v5)]) dX7_noise_86 (nle rfl) rfl ?_
    refine r_aload_n (pc := 88) (j := 2) dX7_noise_88 rfl rfl ?_
    refine gf7_2 (pc := 89) tw_2_105 hσ12 dX7_noise_89 ?_
    refine r_iload (pc := 92) (j := 6) dX7_noise_92 rfl ?_
    refine r_iload (pc := 94) (j := 7) dX7_noise_94 rfl ?_
    refine r_iload (pc := 96) (j := 0) dX7_noise_96 rfl ?_
    obtain ⟨b19, σ21, eσ21, hr⟩ := bnd_inv hr
    refine kX6_put (pc := 98) eσ21 (wt_sc hσ12).1 tw_2_181 ⟨nle rfl, nle rfl⟩ (nle rfl) dX7_noise_98 fun hσ21 => ?_
    refine r_ifB_eq (pc := 101) (tgt := 107) dX7_noise_101 rfl (fun hc => ?_) (fun hc => ?_)
    · replace hr := ite_f hc hr
      refine r_iinc (pc := 107) (j := 5) (v := (v3_ + (1 : Int32))) (ls1 := [(3, .int (v3_ + (1 : Int32))), (7, .int v17), (6, .int s13), (0, .ref (ad g 1)), (1, .int u1_), (2, .int v2_), (4, .int v1), (5, .int v5)]) dX7_noise_107 rfl rfl (nle rfl) rfl ?_
      refine r_goto (pc := 110) (tgt := 17) dX7_noise_110 rfl ?_
      exact r_pick (ls1 := [(0, .ref (ad g 1)), (1, .int u1_), (2, .int v2_), (3, .int (v3_ + (1 : Int32)))]) [3, 4, 5, 0] rfl (ih v2_ (v3_ + (1 : Int32)) σ21 hr hσ21)
    replace hr := ite_t hc hr
    refine r_iinc (pc := 104) (j := 4) (v := (v2_ + (1 : Int32))) (ls1 := [(2, .int (v2_ + (1 : Int32))), (7, .int v17), (6, .int s13), (0, .ref (ad g 1)), (1, .int u1_), (3, .int v3_), (4, .int v1), (5, .int v5)]) dX7_noise_104 rfl rfl (nle rfl) rfl ?_
    refine r_iinc (pc := 107) (j := 5) (v := (v3_ + (1 : Int32))) (ls1 := [(3, .int (v3_ + (1 : Int32))), (2, .int (v2_ + (1 : Int32))), (7, .int v17), (6, .int s13), (0, .ref (ad g 1)), (1, .int u1_), (4, .int v1), (5, .int v5)]) dX7_noise_107 rfl rfl (nle rfl) rfl ?_
    refine r_goto (pc := 110) (tgt := 17) dX7_noise_110 rfl ?_
    exact r_pick (ls1 := [(0, .ref (ad g 1)), (1, .int u1_), (2, .int (v2_ + (1 : Int32))), (3, .int (v3_ + (1 : Int32)))]) [4, 5, 1, 0] rfl (ih (v2_ + (1 : Int32)) (v3_ + (1 : Int32)) σ21 hr hσ21)
  refine r_if_ne (pc := 53) (tgt := 60) dX7_noise_53 rfl (fun hc => ?_) (fun hc => ?_)
  · replace hr := ite_f hc hr
    refine r_iconst (pc := 60) (v := (1 : Int32)) dX7_noise_60 rfl ?_
    exact r_pick (ls1 := [(0, .ref (ad g 1)), (1, .int u1_), (2, .int v2_), (3, .int v3_), (4, .int v1), (5, .int v5)]) [2, 3, 4, 5, 1, 0] rfl (hj61 (1 : Int32) hr)
  replace hr := ite_t hc hr
  refine r_iconst (pc := 56) (v := (-1 : Int32)) dX7_noise_56 rfl ?_
  refine r_goto (pc := 57) (tgt := 61) dX7_noise_57 rfl ?_
  exact r_pick (ls1 := [(0, .ref (ad g 1)), (1, .int u1_), (2, .int v2_), (3, .int v3_), (4, .int v1), (5, .int v5)]) [2, 3, 4, 5, 1, 0] rfl (hj61 (-1 : Int32) hr)

set_option maxRecDepth 20000 in
theorem sX7_noise {g : GG} {σ : SS} {a1 : Int32} {r : Int32 × SS} (hr : fX7_noise σ a1 = some r)  : Ct g mX7_noise [.ref (ad g 1), .int a1] NF σ (some (.int r.1)) NF r.2 := by
  refine Ct.of (by decide +kernel) (nle rfl) fun hw0 => ?_
  have hw := hw0 rfl
  unfold fX7_noise at hr
  change RR g mX7_noise (FinR g mX7_noise (some (.int r.1)) NF r.2) zF 0 [(0, .ref (ad g 1)), (1, .int a1)] [] σ
  refine r_iload_n (pc := 0) (j := 1) dX7_noise_0 rfl rfl ?_
  refine r_if_lt (pc := 1) (tgt := 11) dX7_noise_1 rfl (fun hc => ?_) (fun hc => ?_)
  · replace hr := ite_t hc hr
    refine r_iconst (pc := 11) (v := (-1 : Int32)) dX7_noise_11 rfl ?_
    exact l_osi hr (r_iret (pc := 12) (v := (-1 : Int32)) rfl rfl ⟨Nat.le_refl _, Nat.le_refl _⟩ dX7_noise_12)
  replace hr := ite_f hc hr
  refine r_iload_n (pc := 4) (j := 1) dX7_noise_4 rfl rfl ?_
  refine r_sipush (pc := 5) (v := (500 : Int32)) dX7_noise_5 rfl ?_
  refine r_icmp_le (pc := 8) (tgt := 13) dX7_noise_8 rfl (fun hc => ?_) (fun hc => ?_)
  · replace hr := ite_t hc hr
    refine r_iconst (pc := 13) (v := (0 : Int32)) dX7_noise_13 rfl ?_
    refine r_istore_n (pc := 14) (ls1 := [(2, .int (0 : Int32)), (0, .ref (ad g 1)), (1, .int a1)]) dX7_noise_14 rfl (nle rfl) rfl ?_
    refine r_iconst (pc := 15) (v := (0 : Int32)) dX7_noise_15 rfl ?_
    refine r_istore_n (pc := 16) (ls1 := [(3, .int (0 : Int32)), (2, .int (0 : Int32)), (0, .ref (ad g 1)), (1, .int a1)]) dX7_noise_16 rfl (nle rfl) rfl ?_
    refine r_pick (ls1 := [(0, .ref (ad g 1)), (1, .int a1), (2, .int (0 : Int32)), (3, .int (0 : Int32))]) [2, 3, 1, 0] rfl ?_
    refine sX7_noise_L17     fuel (0 : Int32) (0 : Int32) σ hr hw
  replace hr := ite_f hc hr
  refine r_iconst (pc := 11) (v := (-1 : Int32)) dX7_noise_11 rfl ?_
  exact l_osi hr (r_iret (pc := 12) (v := (-1 : Int32)) rfl rfl ⟨Nat.le_refl _, Nat.le_refl _⟩ dX7_noise_12)

theorem kX7_noise {g : GG} {σ : SS} {a1 : Int32} {v : Int32} {σ2 : SS} {M : MM} {F : State → Array Value → List Frame → State → Prop} {pc index : Nat} {ls : List (Nat × Value)} {rest : List Value} (hf : fX7_noise σ a1 = some (v, σ2))  (hl : Cond.methodLink M.1.cls index yX7_noise ∈ lw_gt) (hR : mX7_noise.2.2.2.2.frames + 1 ≤ M.2.2.2.2.frames ∧ 8 + (mX7_noise.2.2.1 + 11) + mX7_noise.2.2.2.2.locals ≤ M.2.2.2.2.locals) (hrest : (rest.map fun v => v.category).sum ≤ 8) (hd : decode M.2.1 pc = .ok (.invokevirtual index, 3)) (k : WT σ2 → RR g M F zF (pc + 3) ls (.int v :: rest) σ2) : RR g M F zF pc ls (.int a1 :: .ref (ad g 1) :: rest) σ :=
  r_callV (z := zF) (N := mX7_noise) (nn := 1) (o1 := some (.int v)) (sX7_noise hf ) (rfl : shp 1 = (7, 0)) (by decide) (shp_le (rfl : shp 1 = (7, 0)) (nle rfl)) (ci := 7) rfl rfl tw_2_161 tw_1_1 hl tw_2_159 tw_2_160 ⟨by decide, by decide, rfl⟩ hR rfl hrest hd ⟨Nat.zero_le _, Nat.zero_le _⟩ rfl (fun h => k (h rfl))

