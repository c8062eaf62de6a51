/-! The law's own methods, walked by a program. -/
theorem dL_law_0 : decode cL_law 0 = .ok (.new 9, 3) := by decide +kernel
theorem dL_law_3 : decode cL_law 3 = .ok (.dup, 1) := by decide +kernel
theorem dL_law_4 : decode cL_law 4 = .ok (.invokespecial 135, 3) := by decide +kernel
theorem dL_law_7 : decode cL_law 7 = .ok (.astore_n 1, 1) := by decide +kernel
theorem dL_law_8 : decode cL_law 8 = .ok (.iconst 1, 1) := by decide +kernel
theorem dL_law_9 : decode cL_law 9 = .ok (.newarray .int, 2) := by decide +kernel
theorem dL_law_11 : decode cL_law 11 = .ok (.dup, 1) := by decide +kernel
theorem dL_law_12 : decode cL_law 12 = .ok (.iconst 0, 1) := by decide +kernel
theorem dL_law_13 : decode cL_law 13 = .ok (.aload_n 0, 1) := by decide +kernel
theorem dL_law_14 : decode cL_law 14 = .ok (.arraylength, 1) := by decide +kernel
theorem dL_law_15 : decode cL_law 15 = .ok (.ifCond .ne 9, 3) := by decide +kernel
theorem dL_law_18 : decode cL_law 18 = .ok (.sipush 513, 3) := by decide +kernel
theorem dL_law_21 : decode cL_law 21 = .ok (.goto 6, 3) := by decide +kernel
theorem dL_law_24 : decode cL_law 24 = .ok (.aload_n 0, 1) := by decide +kernel
theorem dL_law_25 : decode cL_law 25 = .ok (.iconst 0, 1) := by decide +kernel
theorem dL_law_26 : decode cL_law 26 = .ok (.iaload, 1) := by decide +kernel
theorem dL_law_27 : decode cL_law 27 = .ok (.iastore, 1) := by decide +kernel
theorem dL_law_28 : decode cL_law 28 = .ok (.astore_n 2, 1) := by decide +kernel
theorem dL_law_29 : decode cL_law 29 = .ok (.aload_n 1, 1) := by decide +kernel
theorem dL_law_30 : decode cL_law 30 = .ok (.iconst 0, 1) := by decide +kernel
theorem dL_law_31 : decode cL_law 31 = .ok (.invokevirtual 40, 3) := by decide +kernel
theorem dL_law_34 : decode cL_law 34 = .ok (.bipush 24, 2) := by decide +kernel
theorem dL_law_36 : decode cL_law 36 = .ok (.if_icmp .ne 93, 3) := by decide +kernel
theorem dL_law_39 : decode cL_law 39 = .ok (.aload_n 1, 1) := by decide +kernel
theorem dL_law_40 : decode cL_law 40 = .ok (.iconst 1, 1) := by decide +kernel
theorem dL_law_41 : decode cL_law 41 = .ok (.invokevirtual 40, 3) := by decide +kernel
theorem dL_law_44 : decode cL_law 44 = .ok (.bipush 24, 2) := by decide +kernel
theorem dL_law_46 : decode cL_law 46 = .ok (.if_icmp .ne 83, 3) := by decide +kernel
theorem dL_law_49 : decode cL_law 49 = .ok (.aload_n 1, 1) := by decide +kernel
theorem dL_law_50 : decode cL_law 50 = .ok (.bipush 7, 2) := by decide +kernel
theorem dL_law_52 : decode cL_law 52 = .ok (.invokevirtual 40, 3) := by decide +kernel
theorem dL_law_55 : decode cL_law 55 = .ok (.iconst 1, 1) := by decide +kernel
theorem dL_law_56 : decode cL_law 56 = .ok (.if_icmp .ne 73, 3) := by decide +kernel
theorem dL_law_59 : decode cL_law 59 = .ok (.aload_n 1, 1) := by decide +kernel
theorem dL_law_60 : decode cL_law 60 = .ok (.iconst 2, 1) := by decide +kernel
theorem dL_law_61 : decode cL_law 61 = .ok (.invokevirtual 40, 3) := by decide +kernel
theorem dL_law_64 : decode cL_law 64 = .ok (.ifCond .ne 65, 3) := by decide +kernel
theorem dL_law_67 : decode cL_law 67 = .ok (.aload_n 1, 1) := by decide +kernel
theorem dL_law_68 : decode cL_law 68 = .ok (.iconst 0, 1) := by decide +kernel
theorem dL_law_69 : decode cL_law 69 = .ok (.invokevirtual 79, 3) := by decide +kernel
theorem dL_law_72 : decode cL_law 72 = .ok (.ldc 136, 2) := by decide +kernel
theorem dL_law_74 : decode cL_law 74 = .ok (.if_icmp .ne 55, 3) := by decide +kernel
theorem dL_law_77 : decode cL_law 77 = .ok (.aload_n 1, 1) := by decide +kernel
theorem dL_law_78 : decode cL_law 78 = .ok (.invokevirtual 119, 3) := by decide +kernel
theorem dL_law_81 : decode cL_law 81 = .ok (.iconst (-1), 1) := by decide +kernel
theorem dL_law_82 : decode cL_law 82 = .ok (.if_icmp .ne 47, 3) := by decide +kernel
theorem dL_law_85 : decode cL_law 85 = .ok (.aload_n 1, 1) := by decide +kernel
theorem dL_law_86 : decode cL_law 86 = .ok (.invokevirtual 137, 3) := by decide +kernel
theorem dL_law_89 : decode cL_law 89 = .ok (.iconst (-1), 1) := by decide +kernel
theorem dL_law_90 : decode cL_law 90 = .ok (.if_icmp .ne 39, 3) := by decide +kernel
theorem dL_law_93 : decode cL_law 93 = .ok (.aload_n 1, 1) := by decide +kernel
theorem dL_law_94 : decode cL_law 94 = .ok (.iconst 5, 1) := by decide +kernel
theorem dL_law_95 : decode cL_law 95 = .ok (.invokevirtual 63, 3) := by decide +kernel
theorem dL_law_98 : decode cL_law 98 = .ok (.iconst (-1), 1) := by decide +kernel
theorem dL_law_99 : decode cL_law 99 = .ok (.if_icmp .ne 30, 3) := by decide +kernel
theorem dL_law_102 : decode cL_law 102 = .ok (.aload_n 1, 1) := by decide +kernel
theorem dL_law_103 : decode cL_law 103 = .ok (.invokevirtual 140, 3) := by decide +kernel
theorem dL_law_106 : decode cL_law 106 = .ok (.iconst 1, 1) := by decide +kernel
theorem dL_law_107 : decode cL_law 107 = .ok (.if_icmp .ne 22, 3) := by decide +kernel
theorem dL_law_110 : decode cL_law 110 = .ok (.aload_n 1, 1) := by decide +kernel
theorem dL_law_111 : decode cL_law 111 = .ok (.iconst 0, 1) := by decide +kernel
theorem dL_law_112 : decode cL_law 112 = .ok (.invokevirtual 132, 3) := by decide +kernel
theorem dL_law_115 : decode cL_law 115 = .ok (.ifCond .ne 14, 3) := by decide +kernel
theorem dL_law_118 : decode cL_law 118 = .ok (.aload_n 1, 1) := by decide +kernel
theorem dL_law_119 : decode cL_law 119 = .ok (.invokevirtual 66, 3) := by decide +kernel
theorem dL_law_122 : decode cL_law 122 = .ok (.ifCond .ne 7, 3) := by decide +kernel
theorem dL_law_125 : decode cL_law 125 = .ok (.iconst 1, 1) := by decide +kernel
theorem dL_law_126 : decode cL_law 126 = .ok (.goto 4, 3) := by decide +kernel
theorem dL_law_129 : decode cL_law 129 = .ok (.iconst 0, 1) := by decide +kernel
theorem dL_law_130 : decode cL_law 130 = .ok (.istore_n 3, 1) := by decide +kernel
theorem dL_law_131 : decode cL_law 131 = .ok (.sipush 300, 3) := by decide +kernel
theorem dL_law_134 : decode cL_law 134 = .ok (.newarray .int, 2) := by decide +kernel
theorem dL_law_136 : decode cL_law 136 = .ok (.astore 4, 2) := by decide +kernel
theorem dL_law_138 : decode cL_law 138 = .ok (.iconst 0, 1) := by decide +kernel
theorem dL_law_139 : decode cL_law 139 = .ok (.istore 5, 2) := by decide +kernel
theorem dL_law_141 : decode cL_law 141 = .ok (.iload 5, 2) := by decide +kernel
theorem dL_law_143 : decode cL_law 143 = .ok (.bipush 8, 2) := by decide +kernel
theorem dL_law_145 : decode cL_law 145 = .ok (.if_icmp .ge 166, 3) := by decide +kernel
theorem dL_law_148 : decode cL_law 148 = .ok (.iload_n 3, 1) := by decide +kernel
theorem dL_law_149 : decode cL_law 149 = .ok (.ifCond .eq 162, 3) := by decide +kernel
theorem dL_law_152 : decode cL_law 152 = .ok (.aload_n 2, 1) := by decide +kernel
theorem dL_law_153 : decode cL_law 153 = .ok (.iconst 0, 1) := by decide +kernel
theorem dL_law_154 : decode cL_law 154 = .ok (.dup2, 1) := by decide +kernel
theorem dL_law_155 : decode cL_law 155 = .ok (.iaload, 1) := by decide +kernel
theorem dL_law_156 : decode cL_law 156 = .ok (.iload 5, 2) := by decide +kernel
theorem dL_law_158 : decode cL_law 158 = .ok (.aload_n 0, 1) := by decide +kernel
theorem dL_law_159 : decode cL_law 159 = .ok (.arraylength, 1) := by decide +kernel
theorem dL_law_160 : decode cL_law 160 = .ok (.if_icmp .ge 10, 3) := by decide +kernel
theorem dL_law_163 : decode cL_law 163 = .ok (.aload_n 0, 1) := by decide +kernel
theorem dL_law_164 : decode cL_law 164 = .ok (.iload 5, 2) := by decide +kernel
theorem dL_law_166 : decode cL_law 166 = .ok (.iaload, 1) := by decide +kernel
theorem dL_law_167 : decode cL_law 167 = .ok (.goto 4, 3) := by decide +kernel
theorem dL_law_170 : decode cL_law 170 = .ok (.iconst 0, 1) := by decide +kernel
theorem dL_law_171 : decode cL_law 171 = .ok (.ixor, 1) := by decide +kernel
theorem dL_law_172 : decode cL_law 172 = .ok (.iastore, 1) := by decide +kernel
theorem dL_law_173 : decode cL_law 173 = .ok (.bipush 14, 2) := by decide +kernel
theorem dL_law_175 : decode cL_law 175 = .ok (.aload_n 2, 1) := by decide +kernel
theorem dL_law_176 : decode cL_law 176 = .ok (.invokestatic 14, 3) := by decide +kernel
theorem dL_law_179 : decode cL_law 179 = .ok (.bipush 20, 2) := by decide +kernel
theorem dL_law_181 : decode cL_law 181 = .ok (.irem, 1) := by decide +kernel
theorem dL_law_182 : decode cL_law 182 = .ok (.iadd, 1) := by decide +kernel
theorem dL_law_183 : decode cL_law 183 = .ok (.istore 6, 2) := by decide +kernel
theorem dL_law_185 : decode cL_law 185 = .ok (.bipush 14, 2) := by decide +kernel
theorem dL_law_187 : decode cL_law 187 = .ok (.aload_n 2, 1) := by decide +kernel
theorem dL_law_188 : decode cL_law 188 = .ok (.invokestatic 14, 3) := by decide +kernel
theorem dL_law_191 : decode cL_law 191 = .ok (.bipush 20, 2) := by decide +kernel
theorem dL_law_193 : decode cL_law 193 = .ok (.irem, 1) := by decide +kernel
theorem dL_law_194 : decode cL_law 194 = .ok (.iadd, 1) := by decide +kernel
theorem dL_law_195 : decode cL_law 195 = .ok (.istore 7, 2) := by decide +kernel
theorem dL_law_197 : decode cL_law 197 = .ok (.aload_n 1, 1) := by decide +kernel
theorem dL_law_198 : decode cL_law 198 = .ok (.aload 4, 2) := by decide +kernel
theorem dL_law_200 : decode cL_law 200 = .ok (.aload_n 2, 1) := by decide +kernel
theorem dL_law_201 : decode cL_law 201 = .ok (.iload 6, 2) := by decide +kernel
theorem dL_law_203 : decode cL_law 203 = .ok (.iload 7, 2) := by decide +kernel
theorem dL_law_205 : decode cL_law 205 = .ok (.invokestatic 143, 3) := by decide +kernel
theorem dL_law_208 : decode cL_law 208 = .ok (.ifCond .eq 50, 3) := by decide +kernel
theorem dL_law_211 : decode cL_law 211 = .ok (.aload 4, 2) := by decide +kernel
theorem dL_law_213 : decode cL_law 213 = .ok (.iconst 0, 1) := by decide +kernel
theorem dL_law_214 : decode cL_law 214 = .ok (.iaload, 1) := by decide +kernel
theorem dL_law_215 : decode cL_law 215 = .ok (.ifCond .eq 17, 3) := by decide +kernel
theorem dL_law_218 : decode cL_law 218 = .ok (.aload_n 1, 1) := by decide +kernel
theorem dL_law_219 : decode cL_law 219 = .ok (.aload 4, 2) := by decide +kernel
theorem dL_law_221 : decode cL_law 221 = .ok (.aload_n 2, 1) := by decide +kernel
theorem dL_law_222 : decode cL_law 222 = .ok (.iload 6, 2) := by decide +kernel
theorem dL_law_224 : decode cL_law 224 = .ok (.iload 7, 2) := by decide +kernel
theorem dL_law_226 : decode cL_law 226 = .ok (.invokestatic 147, 3) := by decide +kernel
theorem dL_law_229 : decode cL_law 229 = .ok (.ifCond .eq 29, 3) := by decide +kernel
theorem dL_law_232 : decode cL_law 232 = .ok (.aload_n 1, 1) := by decide +kernel
theorem dL_law_233 : decode cL_law 233 = .ok (.invokestatic 150, 3) := by decide +kernel
theorem dL_law_236 : decode cL_law 236 = .ok (.ifCond .eq 22, 3) := by decide +kernel
theorem dL_law_239 : decode cL_law 239 = .ok (.aload_n 1, 1) := by decide +kernel
theorem dL_law_240 : decode cL_law 240 = .ok (.invokestatic 154, 3) := by decide +kernel
theorem dL_law_243 : decode cL_law 243 = .ok (.ifCond .eq 15, 3) := by decide +kernel
theorem dL_law_246 : decode cL_law 246 = .ok (.aload_n 1, 1) := by decide +kernel
theorem dL_law_247 : decode cL_law 247 = .ok (.aload_n 2, 1) := by decide +kernel
theorem dL_law_248 : decode cL_law 248 = .ok (.invokestatic 157, 3) := by decide +kernel
theorem dL_law_251 : decode cL_law 251 = .ok (.ifCond .eq 7, 3) := by decide +kernel
theorem dL_law_254 : decode cL_law 254 = .ok (.iconst 1, 1) := by decide +kernel
theorem dL_law_255 : decode cL_law 255 = .ok (.goto 4, 3) := by decide +kernel
theorem dL_law_258 : decode cL_law 258 = .ok (.iconst 0, 1) := by decide +kernel
theorem dL_law_259 : decode cL_law 259 = .ok (.istore_n 3, 1) := by decide +kernel
theorem dL_law_260 : decode cL_law 260 = .ok (.aload_n 1, 1) := by decide +kernel
theorem dL_law_261 : decode cL_law 261 = .ok (.aload_n 2, 1) := by decide +kernel
theorem dL_law_262 : decode cL_law 262 = .ok (.invokestatic 14, 3) := by decide +kernel
theorem dL_law_265 : decode cL_law 265 = .ok (.sipush 200, 3) := by decide +kernel
theorem dL_law_268 : decode cL_law 268 = .ok (.irem, 1) := by decide +kernel
theorem dL_law_269 : decode cL_law 269 = .ok (.invokevirtual 129, 3) := by decide +kernel
theorem dL_law_272 : decode cL_law 272 = .ok (.pop, 1) := by decide +kernel
theorem dL_law_273 : decode cL_law 273 = .ok (.iload_n 3, 1) := by decide +kernel
theorem dL_law_274 : decode cL_law 274 = .ok (.ifCond .eq 29, 3) := by decide +kernel
theorem dL_law_277 : decode cL_law 277 = .ok (.aload_n 1, 1) := by decide +kernel
theorem dL_law_278 : decode cL_law 278 = .ok (.invokestatic 150, 3) := by decide +kernel
theorem dL_law_281 : decode cL_law 281 = .ok (.ifCond .eq 22, 3) := by decide +kernel
theorem dL_law_284 : decode cL_law 284 = .ok (.aload_n 1, 1) := by decide +kernel
theorem dL_law_285 : decode cL_law 285 = .ok (.invokestatic 154, 3) := by decide +kernel
theorem dL_law_288 : decode cL_law 288 = .ok (.ifCond .eq 15, 3) := by decide +kernel
theorem dL_law_291 : decode cL_law 291 = .ok (.aload_n 1, 1) := by decide +kernel
theorem dL_law_292 : decode cL_law 292 = .ok (.aload_n 2, 1) := by decide +kernel
theorem dL_law_293 : decode cL_law 293 = .ok (.invokestatic 157, 3) := by decide +kernel
theorem dL_law_296 : decode cL_law 296 = .ok (.ifCond .eq 7, 3) := by decide +kernel
theorem dL_law_299 : decode cL_law 299 = .ok (.iconst 1, 1) := by decide +kernel
theorem dL_law_300 : decode cL_law 300 = .ok (.goto 4, 3) := by decide +kernel
theorem dL_law_303 : decode cL_law 303 = .ok (.iconst 0, 1) := by decide +kernel
theorem dL_law_304 : decode cL_law 304 = .ok (.istore_n 3, 1) := by decide +kernel
theorem dL_law_305 : decode cL_law 305 = .ok (.iinc 5 1, 3) := by decide +kernel
theorem dL_law_308 : decode cL_law 308 = .ok (.goto (-167), 3) := by decide +kernel
theorem dL_law_311 : decode cL_law 311 = .ok (.iload_n 3, 1) := by decide +kernel
theorem dL_law_312 : decode cL_law 312 = .ok (.ireturn, 1) := by decide +kernel
def L_law_L141 (o2_ : Nat) (o4_ : Nat) (p_ : Nat × (Nat → Int32))  : Nat → Int32 → Int32 → SS → Option (Bool × SS) :=
  lp (fun _ _ _ => none) fun rec v3_ v5_ σ_ =>
    grd (inb v5_ 9) <|
    if (8 : Int32) ≤ v5_ then (
      grd (isb v3_) <|
      some ((i2b v3_), σ_)
      ) else (
      if v3_ = 0 then (
        grd (isb v3_) <|
        some ((i2b v3_), σ_)
        ) else (
        grd (lin σ_ o2_ (0 : Int32)) <|
        vthen (fun (s16 : Int32) =>
          vthen (sI σ_ o2_ 0 ((gI σ_ o2_ 0) ^^^ s16)) fun σ17 =>
          bnd (fL_next σ17 o2_) fun v18 σ21 =>
          vthen ((14 : Int32) + (irm v18 (20 : Int32))) fun v22 =>
          bnd (fL_next σ21 o2_) fun v23 σ26 =>
          vthen ((14 : Int32) + (irm v23 (20 : Int32))) fun v27 =>
          grd (inb v5_ 8) <|
          bnd (fL_draws σ26 o4_ o2_ v22 v27) fun b30 σ32 =>
          vthen (fun (s33 : Int32) (σ34 : SS) =>
            bnd (fL_next σ34 o2_) fun v35 σ38 =>
            bnd (fX7_noise σ38 (irm v35 (200 : Int32))) fun v39 σ42 =>
            vthen (fun  (σ43 : SS) =>
              rec (0 : Int32) (v5_ + (1 : Int32)) σ43
              ) fun j303 =>
            if s33 = 0 then (
              j303 σ42
              ) else (
              bnd (fL_corners σ42) fun b45 σ47 =>
              if b45 = true then (
                bnd (fL_judges σ47) fun b49 σ51 =>
                if b49 = true then (
                  bnd (fL_scans σ51 o2_) fun b53 σ55 =>
                  if b53 = true then (
                    rec (1 : Int32) (v5_ + (1 : Int32)) σ55
                    ) else (
                    j303 σ55
                    )
                  ) else (
                  j303 σ51
                  )
                ) else (
                j303 σ47
                )
              )
            ) fun j259 =>
          vthen (fun  (σ56 : SS) =>
            j259 (0 : Int32) σ56
            ) fun j258 =>
          if b30 = true then (
            grd (lin σ32 o4_ (0 : Int32)) <|
            vthen (fun  (σ58 : SS) =>
              bnd (fL_corners σ58) fun b60 σ62 =>
              if b60 = true then (
                bnd (fL_judges σ62) fun b64 σ66 =>
                if b64 = true then (
                  bnd (fL_scans σ66 o2_) fun b68 σ70 =>
                  if b68 = true then (
                    j259 (1 : Int32) σ70
                    ) else (
                    j258 σ70
                    )
                  ) else (
                  j258 σ66
                  )
                ) else (
                j258 σ62
                )
              ) fun j232 =>
            if (gI σ32 o4_ 0) = 0 then (
              j232 σ32
              ) else (
              bnd (fL_reads σ32 o4_ o2_ v22 v27) fun b72 σ74 =>
              if b72 = true then (
                j232 σ74
                ) else (
                j258 σ74
                )
              )
            ) else (
            j258 σ32
            )
          ) fun j171 =>
        if (nI p_.1) ≤ v5_ then (
          j171 (0 : Int32)
          ) else (
          grd (inb v5_ p_.1) <|
          j171 (p_.2 (Int32.toNatClampNeg v5_))
          )
        )
      )

def fL_law (σ : SS) (p_ : Nat × (Nat → Int32)) : Option (Bool × SS) :=
  vthen (2000 + gR σ 0 0) fun c2 =>
  vthen (mkL σ 1) fun σ1 =>
  vthen (fun (s3 : Int32) =>
    grd (lin σ1 c2 (0 : Int32)) <|
    vthen (sI σ1 c2 0 s3) fun σ5 =>
    bnd1 (fX7_count σ5 (0 : Int32)) fun v6 =>
    vthen (fun (s9 : Int32) (σ10 : SS) =>
      vthen (2000 + gR σ10 0 0) fun c12 =>
      vthen (mkL σ10 300) fun σ11 =>
      L_law_L141 c2 c12 p_
      fuel s9 (0 : Int32) σ11
      ) fun j130 =>
    vthen (fun  (σ76 : SS) =>
      j130 (0 : Int32) σ76
      ) fun j129 =>
    if v6 = (24 : Int32) then (
      bnd1 (fX7_count σ5 (1 : Int32)) fun v77 =>
      if v77 = (24 : Int32) then (
        bnd1 (fX7_count σ5 (7 : Int32)) fun v80 =>
        if v80 = (1 : Int32) then (
          bnd1 (fX7_count σ5 (2 : Int32)) fun v83 =>
          if v83 = 0 then (
            bnd (fX7_sheet σ5 (0 : Int32)) fun v86 σ89 =>
            if v86 = (-2147483648 : Int32) then (
              bnd (fX7_up σ89) fun v90 σ93 =>
              if v90 = (-1 : Int32) then (
                bnd (fX7_lay σ93) fun v94 σ97 =>
                if v94 = (-1 : Int32) then (
                  bnd (fX7_print σ97 (5 : Int32)) fun v98 σ101 =>
                  if v98 = (-1 : Int32) then (
                    bnd1 (fX7_level σ101) fun v102 =>
                    if v102 = (1 : Int32) then (
                      bnd (fX7_back σ101 (0 : Int32)) fun b106 σ108 =>
                      if b106 = true then (
                        j129 σ108
                        ) else (
                        bnd (fX7_marked σ108) fun v109 σ112 =>
                        if v109 = 0 then (
                          j130 (1 : Int32) σ112
                          ) else (
                          j129 σ112
                          )
                        )
                      ) else (
                      j129 σ101
                      )
                    ) else (
                    j129 σ101
                    )
                  ) else (
                  j129 σ97
                  )
                ) else (
                j129 σ93
                )
              ) else (
              j129 σ89
              )
            ) else (
            j129 σ5
            )
          ) else (
          j129 σ5
          )
        ) else (
        j129 σ5
        )
      ) else (
      j129 σ5
      )
    ) fun j27 =>
  if (nI p_.1) = 0 then (
    j27 (513 : Int32)
    ) else (
    grd (inb (0 : Int32) p_.1) <|
    j27 (p_.2 0)
    )

set_option maxRecDepth 20000 in
theorem sL_law_L141 {g : GG} {r : Bool × SS} {o2_ : Nat} {o4_ : Nat} {p_ : Nat × (Nat → Int32)}  (hp_ : p_ = g.2.2.2.2.2) (h1_ : r.1 = true)
    (n : Nat) : ∀ (v3_ : Int32) (v5_ : Int32) (σ_ : SS), L_law_L141 o2_ o4_ p_ n v3_ v5_ σ_ = some r → WT σ_ → RR g mL_law (FL g) (NF, (74 + 58 * Int32.toNatClampNeg v5_ + 0), (19860 + 4077 * Int32.toNatClampNeg v5_ + 0)) 141 [(0, .ref (ad g 1030)), (1, .ref (ad g 1)), (2, .ref (ad g o2_)), (3, .int v3_), (4, .ref (ad g o4_)), (5, .int v5_)] [] σ_ := by
  unfold L_law_L141
  refine lp_ind (P := fun (rec : Int32 → Int32 → SS → Option (Bool × SS)) => ∀ (v3_ : Int32) (v5_ : Int32) (σ_ : SS), rec v3_ v5_ σ_ = some r → WT σ_ → RR g mL_law (FL g) (NF, (74 + 58 * Int32.toNatClampNeg v5_ + 0), (19860 + 4077 * Int32.toNatClampNeg v5_ + 0)) 141 [(0, .ref (ad g 1030)), (1, .ref (ad g 1)), (2, .ref (ad g o2_)), (3, .int v3_), (4, .ref (ad g o4_)), (5, .int v5_)] [] σ_) ?_ ?_ n
  · intro v3_ v5_ σ_ hr; cases hr
  intro rec ih v3_ v5_ σ_ hr hw_
  obtain ⟨hh_, hr⟩ := grd_inv hr
  refine r_iload (pc := 141) (j := 5) dL_law_141 rfl ?_
  refine r_bipush (pc := 143) (v := (8 : Int32)) dL_law_143 rfl ?_
  refine r_icmp_ge (pc := 145) (tgt := 311) dL_law_145 rfl (fun hc => ?_) (fun hc => ?_)
  · replace hr := ite_t hc hr
    refine r_iload_n (pc := 311) (j := 3) dL_law_311 rfl rfl ?_
    obtain ⟨h13, hr⟩ := grd_inv hr
    refine r_toz h13 ?_
    exact l_lw hr h1_ (r_lend (pc := 312) (by have := z_lt hh_; exact ⟨by show (74 + 58 * Int32.toNatClampNeg v5_ + 0) ≤ 600000; omega, by show (19860 + 4077 * Int32.toNatClampNeg v5_ + 0) ≤ 7302250; omega⟩) dL_law_312)
  replace hr := ite_f hc hr
  refine r_iload_n (pc := 148) (j := 3) dL_law_148 rfl rfl ?_
  refine r_if_eq (pc := 149) (tgt := 311) dL_law_149 rfl (fun hc => ?_) (fun hc => ?_)
  · replace hr := ite_t hc hr
    refine r_iload_n (pc := 311) (j := 3) dL_law_311 rfl rfl ?_
    obtain ⟨h14, hr⟩ := grd_inv hr
    refine r_toz h14 ?_
    exact l_lw hr h1_ (r_lend (pc := 312) (by have := z_lt hh_; exact ⟨by show (74 + 58 * Int32.toNatClampNeg v5_ + 0) ≤ 600000; omega, by show (19860 + 4077 * Int32.toNatClampNeg v5_ + 0) ≤ 7302250; omega⟩) dL_law_312)
  replace hr := ite_f hc hr
  refine r_aload_n (pc := 152) (j := 2) dL_law_152 rfl rfl ?_
  refine r_iconst (pc := 153) (v := (0 : Int32)) dL_law_153 rfl ?_
  refine r_dup2 (pc := 154) dL_law_154 rfl rfl ?_
  obtain ⟨h15, hr⟩ := grd_inv hr
  refine y_iald (pc := 155) (k := 0) h15 rfl dL_law_155 ?_
  refine r_iload (pc := 156) (j := 5) dL_law_156 rfl ?_
  refine r_aload_n (pc := 158) (j := 0) dL_law_158 rfl rfl ?_
  refine y_scl (pc := 159) hp_ dL_law_159 ?_
  obtain ⟨j171, ej171, hr⟩ := vth_ex hr
  have hj171 : ∀ (s16 : Int32), j171 s16 = some r → RR g mL_law (FL g) (NF, (74 + 58 * Int32.toNatClampNeg v5_ + 0), (19860 + 4077 * Int32.toNatClampNeg v5_ + 0)) 171 [(0, .ref (ad g 1030)), (1, .ref (ad g 1)), (2, .ref (ad g o2_)), (4, .ref (ad g o4_)), (5, .int v5_)] [.int s16, .int (gI σ_ o2_ 0), .int (0 : Int32), .ref (ad g o2_)] σ_ := by
    intro s16 hr
    replace hr := (congrFun ej171 s16).symm.trans hr
    refine r_ixor (pc := 171) dL_law_171 ?_
    refine y_iast (pc := 172) (j := 0) h15 rfl dL_law_172 fun σ17 eσ17 => ?_
    replace hr := vthen_inv hr σ17 eσ17
    have hσ17 := wtI eσ17 hw_
    refine r_bipush (pc := 173) (v := (14 : Int32)) dL_law_173 rfl ?_
    refine r_aload_n (pc := 175) (j := 2) dL_law_175 rfl rfl ?_
    obtain ⟨v18, σ21, eσ21, hr⟩ := bnd_inv hr
    refine qL_next (pc := 176) eσ21 tw_3_125 (by have := z_lt hh_; exact ⟨by show (74 + 58 * Int32.toNatClampNeg v5_ + 0) ≤ 600000; omega, by show (19860 + 4077 * Int32.toNatClampNeg v5_ + 0) ≤ 7302250; omega⟩) ⟨nle rfl, nle rfl⟩ (nle rfl) dL_law_176 fun hσ21 => ?_
    refine r_bipush (pc := 179) (v := (20 : Int32)) dL_law_179 rfl ?_
    refine r_irem (pc := 181) dL_law_181 (by decide) ?_
    refine r_iadd (pc := 182) dL_law_182 ?_
    refine r_topi fun v22 ev22 => ?_
    replace hr := vthen_inv hr v22 ev22
    refine r_istore (pc := 183) (ls1 := [(6, .int v22), (0, .ref (ad g 1030)), (1, .ref (ad g 1)), (2, .ref (ad g o2_)), (4, .ref (ad g o4_)), (5, .int v5_)]) dL_law_183 (nle rfl) rfl ?_
    refine r_bipush (pc := 185) (v := (14 : Int32)) dL_law_185 rfl ?_
    refine r_aload_n (pc := 187) (j := 3) dL_law_187 rfl rfl ?_
    obtain ⟨v23, σ26, eσ26, hr⟩ := bnd_inv hr
    refine qL_next (pc := 188) eσ26 tw_3_125 (by have := z_lt hh_; exact ⟨by show (74 + 58 * Int32.toNatClampNeg v5_ + 0) ≤ 600000; omega, by show (19860 + 4077 * Int32.toNatClampNeg v5_ + 0) ≤ 7302250; omega⟩) ⟨nle rfl, nle rfl⟩ (nle rfl) dL_law_188 fun hσ26 => ?_
    refine r_bipush (pc := 191) (v := (20 : Int32)) dL_law_191 rfl ?_
    refine r_irem (pc := 193) dL_law_193 (by decide) ?_
    refine r_iadd (pc := 194) dL_law_194 ?_
    refine r_topi fun v27 ev27 => ?_
    replace hr := vthen_inv hr v27 ev27
    refine r_istore (pc := 195) (ls1 := [(7, .int v27), (6, .int v22), (0, .ref (ad g 1030)), (1, .ref (ad g 1)), (2, .ref (ad g o2_)), (4, .ref (ad g o4_)), (5, .int v5_)]) dL_law_195 (nle rfl) rfl ?_
    refine r_aload_n (pc := 197) (j := 3) dL_law_197 rfl rfl ?_
    refine r_aload (pc := 198) (j := 5) dL_law_198 rfl ?_
    refine r_aload_n (pc := 200) (j := 4) dL_law_200 rfl rfl ?_
    refine r_iload (pc := 201) (j := 1) dL_law_201 rfl ?_
    refine r_iload (pc := 203) (j := 0) dL_law_203 rfl ?_
    obtain ⟨h28, hr⟩ := grd_inv hr
    obtain ⟨b30, σ32, eσ32, hr⟩ := bnd_inv hr
    refine qL_draws (pc := 205) eσ32 tw_3_129 (by have := z_lt h28; exact ⟨by show (74 + 58 * Int32.toNatClampNeg v5_ + 0) + 31 ≤ 600000; omega, by show (19860 + 4077 * Int32.toNatClampNeg v5_ + 0) + 745 ≤ 7302250; omega⟩) ⟨nle rfl, nle rfl⟩ (nle rfl) dL_law_205 fun hσ32 => ?_
    change RR _ _ _ (NF, (74 + 58 * Int32.toNatClampNeg v5_ + 31), (19860 + 4077 * Int32.toNatClampNeg v5_ + 745)) _ _ _ _
    obtain ⟨j259, ej259, hr⟩ := vth_ex hr
    have hj259 : ∀ (s33 : Int32) (σ34 : SS), j259 s33 σ34 = some r → WT σ34 → RR g mL_law (FL g) (NF, (74 + 58 * Int32.toNatClampNeg v5_ + 45), (19860 + 4077 * Int32.toNatClampNeg v5_ + 2417)) 259 [(0, .ref (ad g 1030)), (1, .ref (ad g 1)), (2, .ref (ad g o2_)), (4, .ref (ad g o4_)), (5, .int v5_)] [.int s33] σ34 := by
      intro s33 σ34 hr hσ34
      replace hr := (congrFun (congrFun ej259 s33) σ34).symm.trans hr
      refine r_istore_n (pc := 259) (ls1 := [(3, .int s33), (0, .ref (ad g 1030)), (1, .ref (ad g 1)), (2, .ref (ad g o2_)), (4, .ref (ad g o4_)), (5, .int v5_)]) dL_law_259 rfl (nle rfl) rfl ?_
      refine r_aload_n (pc := 260) (j := 2) dL_law_260 rfl rfl ?_
      refine r_aload_n (pc := 261) (j := 3) dL_law_261 rfl rfl ?_
      obtain ⟨v35, σ38, eσ38, hr⟩ := bnd_inv hr
      refine qL_next (pc := 262) eσ38 tw_3_125 (by have := z_lt h28; exact ⟨by show (74 + 58 * Int32.toNatClampNeg v5_ + 45) ≤ 600000; omega, by show (19860 + 4077 * Int32.toNatClampNeg v5_ + 2417) ≤ 7302250; omega⟩) ⟨nle rfl, nle rfl⟩ (nle rfl) dL_law_262 fun hσ38 => ?_
      refine r_sipush (pc := 265) (v := (200 : Int32)) dL_law_265 rfl ?_
      refine r_irem (pc := 268) dL_law_268 (by decide) ?_
      obtain ⟨v39, σ42, eσ42, hr⟩ := bnd_inv hr
      refine qX7_noise (pc := 269) eσ42 tw_2_158 (by have := z_lt h28; exact ⟨by show (74 + 58 * Int32.toNatClampNeg v5_ + 45) ≤ 600000; omega, by show (19860 + 4077 * Int32.toNatClampNeg v5_ + 2417) ≤ 7302250; omega⟩) ⟨nle rfl, nle rfl⟩ (nle rfl) dL_law_269 fun hσ42 => ?_
      refine r_pop (pc := 272) dL_law_272 rfl ?_
      refine r_iload_n (pc := 273) (j := 0) dL_law_273 rfl rfl ?_
      obtain ⟨j303, ej303, hr⟩ := vth_ex hr
      have hj303 : ∀ (σ43 : SS), j303 σ43 = some r → WT σ43 → RR g mL_law (FL g) (NF, (74 + 58 * Int32.toNatClampNeg v5_ + 58), (19860 + 4077 * Int32.toNatClampNeg v5_ + 4077)) 303 [(0, .ref (ad g 1030)), (1, .ref (ad g 1)), (2, .ref (ad g o2_)), (4, .ref (ad g o4_)), (5, .int v5_)] [] σ43 := by
        intro σ43 hr hσ43
        replace hr := (congrFun ej303 σ43).symm.trans hr
        refine r_iconst (pc := 303) (v := (0 : Int32)) dL_law_303 rfl ?_
        refine r_istore_n (pc := 304) (ls1 := [(3, .int (0 : Int32)), (0, .ref (ad g 1030)), (1, .ref (ad g 1)), (2, .ref (ad g o2_)), (4, .ref (ad g o4_)), (5, .int v5_)]) dL_law_304 rfl (nle rfl) rfl ?_
        refine r_iinc (pc := 305) (j := 5) (v := (v5_ + (1 : Int32))) (ls1 := [(5, .int (v5_ + (1 : Int32))), (3, .int (0 : Int32)), (0, .ref (ad g 1030)), (1, .ref (ad g 1)), (2, .ref (ad g o2_)), (4, .ref (ad g o4_))]) dL_law_305 rfl rfl (nle rfl) rfl ?_
        refine r_goto (pc := 308) (tgt := 141) dL_law_308 rfl ?_
        refine r_wid (c2 := (74 + 58 * Int32.toNatClampNeg (v5_ + (1 : Int32)) + 0)) (s2 := (19860 + 4077 * Int32.toNatClampNeg (v5_ + (1 : Int32)) + 0)) (by have e := z_add (w := (1 : Int32)) (k := 1) h28 rfl (by decide); rw [e]; exact ⟨by omega, by omega⟩) ?_
        exact r_pick (ls1 := [(0, .ref (ad g 1030)), (1, .ref (ad g 1)), (2, .ref (ad g o2_)), (3, .int (0 : Int32)), (4, .ref (ad g o4_)), (5, .int (v5_ + (1 : Int32)))]) [2, 3, 4, 1, 5, 0] rfl (ih (0 : Int32) (v5_ + (1 : Int32)) σ43 hr hσ43)
      refine r_if_eq (pc := 274) (tgt := 303) dL_law_274 rfl (fun hc => ?_) (fun hc => ?_)
      · replace hr := ite_t hc hr
        refine r_wid (c2 := (74 + 58 * Int32.toNatClampNeg v5_ + 58)) (s2 := (19860 + 4077 * Int32.toNatClampNeg v5_ + 4077)) ⟨by omega, by omega⟩ ?_
        exact r_pick (ls1 := [(0, .ref (ad g 1030)), (1, .ref (ad g 1)), (2, .ref (ad g o2_)), (4, .ref (ad g o4_)), (5, .int v5_)]) [1, 2, 3, 4, 5] rfl (hj303 σ42 hr hσ42)
      replace hr := ite_f hc hr
      refine r_aload_n (pc := 277) (j := 2) dL_law_277 rfl rfl ?_
      obtain ⟨b45, σ47, eσ47, hr⟩ := bnd_inv hr
      refine qL_corners (pc := 278) eσ47 tw_4_125 (by have := z_lt h28; exact ⟨by show (74 + 58 * Int32.toNatClampNeg v5_ + 45) ≤ 600000; omega, by show (19860 + 4077 * Int32.toNatClampNeg v5_ + 2417) ≤ 7302250; omega⟩) ⟨nle rfl, nle rfl⟩ (nle rfl) dL_law_278 fun hσ47 => ?_
      refine r_ifB_eq (pc := 281) (tgt := 303) dL_law_281 rfl (fun hc => ?_) (fun hc => ?_)
      · replace hr := ite_f hc hr
        refine r_wid (c2 := (74 + 58 * Int32.toNatClampNeg v5_ + 58)) (s2 := (19860 + 4077 * Int32.toNatClampNeg v5_ + 4077)) ⟨by omega, by omega⟩ ?_
        exact r_pick (ls1 := [(0, .ref (ad g 1030)), (1, .ref (ad g 1)), (2, .ref (ad g o2_)), (4, .ref (ad g o4_)), (5, .int v5_)]) [1, 2, 3, 4, 5] rfl (hj303 σ47 hr hσ47)
      replace hr := ite_t hc hr
      refine r_aload_n (pc := 284) (j := 2) dL_law_284 rfl rfl ?_
      obtain ⟨b49, σ51, eσ51, hr⟩ := bnd_inv hr
      refine qL_judges (pc := 285) eσ51 tw_4_154 (by have := z_lt h28; exact ⟨by show (74 + 58 * Int32.toNatClampNeg v5_ + 45) + 12 ≤ 600000; omega, by show (19860 + 4077 * Int32.toNatClampNeg v5_ + 2417) + 60 ≤ 7302250; omega⟩) ⟨nle rfl, nle rfl⟩ (nle rfl) dL_law_285 fun hσ51 => ?_
      change RR _ _ _ (NF, (74 + 58 * Int32.toNatClampNeg v5_ + 57), (19860 + 4077 * Int32.toNatClampNeg v5_ + 2477)) _ _ _ _
      refine r_ifB_eq (pc := 288) (tgt := 303) dL_law_288 rfl (fun hc => ?_) (fun hc => ?_)
      · replace hr := ite_f hc hr
        refine r_wid (c2 := (74 + 58 * Int32.toNatClampNeg v5_ + 58)) (s2 := (19860 + 4077 * Int32.toNatClampNeg v5_ + 4077)) ⟨by omega, by omega⟩ ?_
        exact r_pick (ls1 := [(0, .ref (ad g 1030)), (1, .ref (ad g 1)), (2, .ref (ad g o2_)), (4, .ref (ad g o4_)), (5, .int v5_)]) [1, 2, 3, 4, 5] rfl (hj303 σ51 hr hσ51)
      replace hr := ite_t hc hr
      refine r_aload_n (pc := 291) (j := 2) dL_law_291 rfl rfl ?_
      refine r_aload_n (pc := 292) (j := 3) dL_law_292 rfl rfl ?_
      obtain ⟨b53, σ55, eσ55, hr⟩ := bnd_inv hr
      refine qL_scans (pc := 293) eσ55 tw_4_175 (by have := z_lt h28; exact ⟨by show (74 + 58 * Int32.toNatClampNeg v5_ + 57) + 1 ≤ 600000; omega, by show (19860 + 4077 * Int32.toNatClampNeg v5_ + 2477) + 1600 ≤ 7302250; omega⟩) ⟨nle rfl, nle rfl⟩ (nle rfl) dL_law_293 fun hσ55 => ?_
      change RR _ _ _ (NF, (74 + 58 * Int32.toNatClampNeg v5_ + 58), (19860 + 4077 * Int32.toNatClampNeg v5_ + 4077)) _ _ _ _
      refine r_ifB_eq (pc := 296) (tgt := 303) dL_law_296 rfl (fun hc => ?_) (fun hc => ?_)
      · replace hr := ite_f hc hr
        exact r_pick (ls1 := [(0, .ref (ad g 1030)), (1, .ref (ad g 1)), (2, .ref (ad g o2_)), (4, .ref (ad g o4_)), (5, .int v5_)]) [1, 2, 3, 4, 5] rfl (hj303 σ55 hr hσ55)
      replace hr := ite_t hc hr
      refine r_iconst (pc := 299) (v := (1 : Int32)) dL_law_299 rfl ?_
      refine r_goto (pc := 300) (tgt := 304) dL_law_300 rfl ?_
      refine r_istore_n (pc := 304) (ls1 := [(3, .int (1 : Int32)), (0, .ref (ad g 1030)), (1, .ref (ad g 1)), (2, .ref (ad g o2_)), (4, .ref (ad g o4_)), (5, .int v5_)]) dL_law_304 rfl (nle rfl) rfl ?_
      refine r_iinc (pc := 305) (j := 5) (v := (v5_ + (1 : Int32))) (ls1 := [(5, .int (v5_ + (1 : Int32))), (3, .int (1 : Int32)), (0, .ref (ad g 1030)), (1, .ref (ad g 1)), (2, .ref (ad g o2_)), (4, .ref (ad g o4_))]) dL_law_305 rfl rfl (nle rfl) rfl ?_
      refine r_goto (pc := 308) (tgt := 141) dL_law_308 rfl ?_
      refine r_wid (c2 := (74 + 58 * Int32.toNatClampNeg (v5_ + (1 : Int32)) + 0)) (s2 := (19860 + 4077 * Int32.toNatClampNeg (v5_ + (1 : Int32)) + 0)) (by have e := z_add (w := (1 : Int32)) (k := 1) h28 rfl (by decide); rw [e]; exact ⟨by omega, by omega⟩) ?_
      exact r_pick (ls1 := [(0, .ref (ad g 1030)), (1, .ref (ad g 1)), (2, .ref (ad g o2_)), (3, .int (1 : Int32)), (4, .ref (ad g o4_)), (5, .int (v5_ + (1 : Int32)))]) [2, 3, 4, 1, 5, 0] rfl (ih (1 : Int32) (v5_ + (1 : Int32)) σ55 hr hσ55)
    obtain ⟨j258, ej258, hr⟩ := vth_ex hr
    have hj258 : ∀ (σ56 : SS), j258 σ56 = some r → WT σ56 → RR g mL_law (FL g) (NF, (74 + 58 * Int32.toNatClampNeg v5_ + 45), (19860 + 4077 * Int32.toNatClampNeg v5_ + 2417)) 258 [(0, .ref (ad g 1030)), (1, .ref (ad g 1)), (2, .ref (ad g o2_)), (4, .ref (ad g o4_)), (5, .int v5_)] [] σ56 := by
      intro σ56 hr hσ56
      replace hr := (congrFun ej258 σ56).symm.trans hr
      refine r_iconst (pc := 258) (v := (0 : Int32)) dL_law_258 rfl ?_
      exact r_pick (ls1 := [(0, .ref (ad g 1030)), (1, .ref (ad g 1)), (2, .ref (ad g o2_)), (4, .ref (ad g o4_)), (5, .int v5_)]) [0, 1, 2, 3, 4] rfl (hj259 (0 : Int32) σ56 hr hσ56)
    refine r_ifB_eq (pc := 208) (tgt := 258) dL_law_208 rfl (fun hc => ?_) (fun hc => ?_)
    · replace hr := ite_f hc hr
      refine r_wid (c2 := (74 + 58 * Int32.toNatClampNeg v5_ + 45)) (s2 := (19860 + 4077 * Int32.toNatClampNeg v5_ + 2417)) ⟨by omega, by omega⟩ ?_
      exact r_pick (ls1 := [(0, .ref (ad g 1030)), (1, .ref (ad g 1)), (2, .ref (ad g o2_)), (4, .ref (ad g o4_)), (5, .int v5_)]) [2, 3, 4, 5, 6] rfl (hj258 σ32 hr hσ32)
    replace hr := ite_t hc hr
    refine r_aload (pc := 211) (j := 5) dL_law_211 rfl ?_
    refine r_iconst (pc := 213) (v := (0 : Int32)) dL_law_213 rfl ?_
    obtain ⟨h57, hr⟩ := grd_inv hr
    refine y_iald (pc := 214) (k := 0) h57 rfl dL_law_214 ?_
    obtain ⟨j232, ej232, hr⟩ := vth_ex hr
    have hj232 : ∀ (σ58 : SS), j232 σ58 = some r → WT σ58 → RR g mL_law (FL g) (NF, (74 + 58 * Int32.toNatClampNeg v5_ + 32), (19860 + 4077 * Int32.toNatClampNeg v5_ + 757)) 232 [(0, .ref (ad g 1030)), (1, .ref (ad g 1)), (2, .ref (ad g o2_)), (4, .ref (ad g o4_)), (5, .int v5_)] [] σ58 := by
      intro σ58 hr hσ58
      replace hr := (congrFun ej232 σ58).symm.trans hr
      refine r_aload_n (pc := 232) (j := 1) dL_law_232 rfl rfl ?_
      obtain ⟨b60, σ62, eσ62, hr⟩ := bnd_inv hr
      refine qL_corners (pc := 233) eσ62 tw_4_125 (by have := z_lt h28; exact ⟨by show (74 + 58 * Int32.toNatClampNeg v5_ + 32) ≤ 600000; omega, by show (19860 + 4077 * Int32.toNatClampNeg v5_ + 757) ≤ 7302250; omega⟩) ⟨nle rfl, nle rfl⟩ (nle rfl) dL_law_233 fun hσ62 => ?_
      refine r_ifB_eq (pc := 236) (tgt := 258) dL_law_236 rfl (fun hc => ?_) (fun hc => ?_)
      · replace hr := ite_f hc hr
        refine r_wid (c2 := (74 + 58 * Int32.toNatClampNeg v5_ + 45)) (s2 := (19860 + 4077 * Int32.toNatClampNeg v5_ + 2417)) ⟨by omega, by omega⟩ ?_
        exact r_pick (ls1 := [(0, .ref (ad g 1030)), (1, .ref (ad g 1)), (2, .ref (ad g o2_)), (4, .ref (ad g o4_)), (5, .int v5_)]) [0, 1, 2, 3, 4] rfl (hj258 σ62 hr hσ62)
      replace hr := ite_t hc hr
      refine r_aload_n (pc := 239) (j := 1) dL_law_239 rfl rfl ?_
      obtain ⟨b64, σ66, eσ66, hr⟩ := bnd_inv hr
      refine qL_judges (pc := 240) eσ66 tw_4_154 (by have := z_lt h28; exact ⟨by show (74 + 58 * Int32.toNatClampNeg v5_ + 32) + 12 ≤ 600000; omega, by show (19860 + 4077 * Int32.toNatClampNeg v5_ + 757) + 60 ≤ 7302250; omega⟩) ⟨nle rfl, nle rfl⟩ (nle rfl) dL_law_240 fun hσ66 => ?_
      change RR _ _ _ (NF, (74 + 58 * Int32.toNatClampNeg v5_ + 44), (19860 + 4077 * Int32.toNatClampNeg v5_ + 817)) _ _ _ _
      refine r_ifB_eq (pc := 243) (tgt := 258) dL_law_243 rfl (fun hc => ?_) (fun hc => ?_)
      · replace hr := ite_f hc hr
        refine r_wid (c2 := (74 + 58 * Int32.toNatClampNeg v5_ + 45)) (s2 := (19860 + 4077 * Int32.toNatClampNeg v5_ + 2417)) ⟨by omega, by omega⟩ ?_
        exact r_pick (ls1 := [(0, .ref (ad g 1030)), (1, .ref (ad g 1)), (2, .ref (ad g o2_)), (4, .ref (ad g o4_)), (5, .int v5_)]) [0, 1, 2, 3, 4] rfl (hj258 σ66 hr hσ66)
      replace hr := ite_t hc hr
      refine r_aload_n (pc := 246) (j := 1) dL_law_246 rfl rfl ?_
      refine r_aload_n (pc := 247) (j := 2) dL_law_247 rfl rfl ?_
      obtain ⟨b68, σ70, eσ70, hr⟩ := bnd_inv hr
      refine qL_scans (pc := 248) eσ70 tw_4_175 (by have := z_lt h28; exact ⟨by show (74 + 58 * Int32.toNatClampNeg v5_ + 44) + 1 ≤ 600000; omega, by show (19860 + 4077 * Int32.toNatClampNeg v5_ + 817) + 1600 ≤ 7302250; omega⟩) ⟨nle rfl, nle rfl⟩ (nle rfl) dL_law_248 fun hσ70 => ?_
      change RR _ _ _ (NF, (74 + 58 * Int32.toNatClampNeg v5_ + 45), (19860 + 4077 * Int32.toNatClampNeg v5_ + 2417)) _ _ _ _
      refine r_ifB_eq (pc := 251) (tgt := 258) dL_law_251 rfl (fun hc => ?_) (fun hc => ?_)
      · replace hr := ite_f hc hr
        exact r_pick (ls1 := [(0, .ref (ad g 1030)), (1, .ref (ad g 1)), (2, .ref (ad g o2_)), (4, .ref (ad g o4_)), (5, .int v5_)]) [0, 1, 2, 3, 4] rfl (hj258 σ70 hr hσ70)
      replace hr := ite_t hc hr
      refine r_iconst (pc := 254) (v := (1 : Int32)) dL_law_254 rfl ?_
      refine r_goto (pc := 255) (tgt := 259) dL_law_255 rfl ?_
      exact r_pick (ls1 := [(0, .ref (ad g 1030)), (1, .ref (ad g 1)), (2, .ref (ad g o2_)), (4, .ref (ad g o4_)), (5, .int v5_)]) [0, 1, 2, 3, 4] rfl (hj259 (1 : Int32) σ70 hr hσ70)
    refine r_if_eq (pc := 215) (tgt := 232) dL_law_215 rfl (fun hc => ?_) (fun hc => ?_)
    · replace hr := ite_t hc hr
      refine r_wid (c2 := (74 + 58 * Int32.toNatClampNeg v5_ + 32)) (s2 := (19860 + 4077 * Int32.toNatClampNeg v5_ + 757)) ⟨by omega, by omega⟩ ?_
      exact r_pick (ls1 := [(0, .ref (ad g 1030)), (1, .ref (ad g 1)), (2, .ref (ad g o2_)), (4, .ref (ad g o4_)), (5, .int v5_)]) [2, 3, 4, 5, 6] rfl (hj232 σ32 hr hσ32)
    replace hr := ite_f hc hr
    refine r_aload_n (pc := 218) (j := 3) dL_law_218 rfl rfl ?_
    refine r_aload (pc := 219) (j := 5) dL_law_219 rfl ?_
    refine r_aload_n (pc := 221) (j := 4) dL_law_221 rfl rfl ?_
    refine r_iload (pc := 222) (j := 1) dL_law_222 rfl ?_
    refine r_iload (pc := 224) (j := 0) dL_law_224 rfl ?_
    obtain ⟨b72, σ74, eσ74, hr⟩ := bnd_inv hr
    refine qL_reads (pc := 226) eσ74 tw_4_59 (by have := z_lt h28; exact ⟨by show (74 + 58 * Int32.toNatClampNeg v5_ + 31) + 1 ≤ 600000; omega, by show (19860 + 4077 * Int32.toNatClampNeg v5_ + 745) + 12 ≤ 7302250; omega⟩) ⟨nle rfl, nle rfl⟩ (nle rfl) dL_law_226 fun hσ74 => ?_
    change RR _ _ _ (NF, (74 + 58 * Int32.toNatClampNeg v5_ + 32), (19860 + 4077 * Int32.toNatClampNeg v5_ + 757)) _ _ _ _
    refine r_ifB_eq (pc := 229) (tgt := 258) dL_law_229 rfl (fun hc => ?_) (fun hc => ?_)
    · replace hr := ite_f hc hr
      refine r_wid (c2 := (74 + 58 * Int32.toNatClampNeg v5_ + 45)) (s2 := (19860 + 4077 * Int32.toNatClampNeg v5_ + 2417)) ⟨by omega, by omega⟩ ?_
      exact r_pick (ls1 := [(0, .ref (ad g 1030)), (1, .ref (ad g 1)), (2, .ref (ad g o2_)), (4, .ref (ad g o4_)), (5, .int v5_)]) [2, 3, 4, 5, 6] rfl (hj258 σ74 hr hσ74)
    replace hr := ite_t hc hr
    exact r_pick (ls1 := [(0, .ref (ad g 1030)), (1, .ref (ad g 1)), (2, .ref (ad g o2_)), (4, .ref (ad g o4_)), (5, .int v5_)]) [2, 3, 4, 5, 6] rfl (hj232 σ74 hr hσ74)
  refine r_icmp_ge (pc := 160) (tgt := 170) dL_law_160 rfl (fun hc => ?_) (fun hc => ?_)
  · replace hr := ite_t hc hr
    refine r_iconst (pc := 170) (v := (0 : Int32)) dL_law_170 rfl ?_
    exact r_pick (ls1 := [(0, .ref (ad g 1030)), (1, .ref (ad g 1)), (2, .ref (ad g o2_)), (4, .ref (ad g o4_)), (5, .int v5_)]) [0, 1, 2, 4, 5] rfl (hj171 (0 : Int32) hr)
  replace hr := ite_f hc hr
  refine r_aload_n (pc := 163) (j := 0) dL_law_163 rfl rfl ?_
  refine r_iload (pc := 164) (j := 5) dL_law_164 rfl ?_
  obtain ⟨h75, hr⟩ := grd_inv hr
  refine y_scr (pc := 166) (k := (Int32.toNatClampNeg v5_)) hp_ h75 rfl dL_law_166 ?_
  refine r_goto (pc := 167) (tgt := 171) dL_law_167 rfl ?_
  exact r_pick (ls1 := [(0, .ref (ad g 1030)), (1, .ref (ad g 1)), (2, .ref (ad g o2_)), (4, .ref (ad g o4_)), (5, .int v5_)]) [0, 1, 2, 4, 5] rfl (hj171 (p_.2 (Int32.toNatClampNeg v5_)) hr)

set_option maxRecDepth 20000 in
set_option maxHeartbeats 4000000 in
theorem sL_law {g : GG} {σ : SS} {p_ : Nat × (Nat → Int32)} {r : Bool × SS} (hr : fL_law σ p_ = some r) (h1_ : r.1 = true) (hp_ : p_ = g.2.2.2.2.2) (hw : WT σ) : RR g mL_law (FL g) (NF, 72, 19559) 7 [(0, .ref (ad g 1030))] [.ref (ad g 1)] σ := by
  unfold fL_law at hr
  refine r_astore_n (pc := 7) (ls1 := [(1, .ref (ad g 1)), (0, .ref (ad g 1030))]) dL_law_7 rfl (nle rfl) rfl ?_
  refine r_iconst (pc := 8) (v := (1 : Int32)) dL_law_8 rfl ?_
  refine y_new (pc := 9) (N := 1) tw_1_50 (by decide) rfl (nle rfl) ⟨nle rfl, nle rfl⟩ dL_law_9 fun c2 ec2 σ1 eσ1 => ?_
  replace hr := vthen_inv hr c2 ec2
  replace hr := vthen_inv hr σ1 eσ1
  have hσ1 := wtM eσ1 hw
  change RR _ _ _ (NF, 73, 19560) _ _ _ _
  refine r_dup (pc := 11) dL_law_11 rfl ?_
  refine r_iconst (pc := 12) (v := (0 : Int32)) dL_law_12 rfl ?_
  refine r_aload_n (pc := 13) (j := 1) dL_law_13 rfl rfl ?_
  refine y_scl (pc := 14) hp_ dL_law_14 ?_
  obtain ⟨j27, ej27, hr⟩ := vth_ex hr
  have hj27 : ∀ (s3 : Int32), j27 s3 = some r → RR g mL_law (FL g) (NF, 73, 19560) 27 [(0, .ref (ad g 1030)), (1, .ref (ad g 1))] [.int s3, .int (0 : Int32), .ref (ad g c2), .ref (ad g c2)] σ1 := by
    intro s3 hr
    replace hr := (congrFun ej27 s3).symm.trans hr
    obtain ⟨h4, hr⟩ := grd_inv hr
    refine y_iast (pc := 27) (j := 0) h4 rfl dL_law_27 fun σ5 eσ5 => ?_
    replace hr := vthen_inv hr σ5 eσ5
    have hσ5 := wtI eσ5 hσ1
    refine r_astore_n (pc := 28) (ls1 := [(2, .ref (ad g c2)), (0, .ref (ad g 1030)), (1, .ref (ad g 1))]) dL_law_28 rfl (nle rfl) rfl ?_
    refine r_aload_n (pc := 29) (j := 2) dL_law_29 rfl rfl ?_
    refine r_iconst (pc := 30) (v := (0 : Int32)) dL_law_30 rfl ?_
    obtain ⟨v6, hv6, hr⟩ := bnd1_inv hr
    refine qX7_count (pc := 31) hv6 tw_2_146 ⟨nle rfl, nle rfl⟩ ⟨nle rfl, nle rfl⟩ (nle rfl) dL_law_31 ?_
    refine r_bipush (pc := 34) (v := (24 : Int32)) dL_law_34 rfl ?_
    obtain ⟨j130, ej130, hr⟩ := vth_ex hr
    have hj130 : ∀ (s9 : Int32) (σ10 : SS), j130 s9 σ10 = some r → WT σ10 → RR g mL_law (FL g) (NF, 73, 19560) 130 [(0, .ref (ad g 1030)), (1, .ref (ad g 1)), (2, .ref (ad g c2))] [.int s9] σ10 := by
      intro s9 σ10 hr hσ10
      replace hr := (congrFun (congrFun ej130 s9) σ10).symm.trans hr
      refine r_istore_n (pc := 130) (ls1 := [(3, .int s9), (0, .ref (ad g 1030)), (1, .ref (ad g 1)), (2, .ref (ad g c2))]) dL_law_130 rfl (nle rfl) rfl ?_
      refine r_sipush (pc := 131) (v := (300 : Int32)) dL_law_131 rfl ?_
      refine y_new (pc := 134) (N := 300) tw_1_50 (by decide) rfl (nle rfl) ⟨nle rfl, nle rfl⟩ dL_law_134 fun c12 ec12 σ11 eσ11 => ?_
      replace hr := vthen_inv hr c12 ec12
      replace hr := vthen_inv hr σ11 eσ11
      have hσ11 := wtM eσ11 hσ10
      change RR _ _ _ (NF, 74, 19860) _ _ _ _
      refine r_astore (pc := 136) (ls1 := [(4, .ref (ad g c12)), (3, .int s9), (0, .ref (ad g 1030)), (1, .ref (ad g 1)), (2, .ref (ad g c2))]) dL_law_136 (nle rfl) rfl ?_
      refine r_iconst (pc := 138) (v := (0 : Int32)) dL_law_138 rfl ?_
      refine r_istore (pc := 139) (ls1 := [(5, .int (0 : Int32)), (4, .ref (ad g c12)), (3, .int s9), (0, .ref (ad g 1030)), (1, .ref (ad g 1)), (2, .ref (ad g c2))]) dL_law_139 (nle rfl) rfl ?_
      refine r_pick (ls1 := [(0, .ref (ad g 1030)), (1, .ref (ad g 1)), (2, .ref (ad g c2)), (3, .int s9), (4, .ref (ad g c12)), (5, .int (0 : Int32))]) [3, 4, 5, 2, 1, 0] rfl ?_
      refine r_wid (c2 := (74 + 58 * Int32.toNatClampNeg (0 : Int32) + 0)) (s2 := (19860 + 4077 * Int32.toNatClampNeg (0 : Int32) + 0)) ⟨by omega, by omega⟩ ?_
      refine sL_law_L141 hp_ h1_    fuel s9 (0 : Int32) σ11 hr hσ11
    obtain ⟨j129, ej129, hr⟩ := vth_ex hr
    have hj129 : ∀ (σ76 : SS), j129 σ76 = some r → WT σ76 → RR g mL_law (FL g) (NF, 73, 19560) 129 [(0, .ref (ad g 1030)), (1, .ref (ad g 1)), (2, .ref (ad g c2))] [] σ76 := by
      intro σ76 hr hσ76
      replace hr := (congrFun ej129 σ76).symm.trans hr
      refine r_iconst (pc := 129) (v := (0 : Int32)) dL_law_129 rfl ?_
      exact r_pick (ls1 := [(0, .ref (ad g 1030)), (1, .ref (ad g 1)), (2, .ref (ad g c2))]) [0, 1, 2] rfl (hj130 (0 : Int32) σ76 hr hσ76)
    refine r_icmp_ne (pc := 36) (tgt := 129) dL_law_36 rfl (fun hc => ?_) (fun hc => ?_)
    · replace hr := ite_f hc hr
      exact r_pick (ls1 := [(0, .ref (ad g 1030)), (1, .ref (ad g 1)), (2, .ref (ad g c2))]) [1, 2, 0] rfl (hj129 σ5 hr hσ5)
    replace hr := ite_t hc hr
    refine r_aload_n (pc := 39) (j := 2) dL_law_39 rfl rfl ?_
    refine r_iconst (pc := 40) (v := (1 : Int32)) dL_law_40 rfl ?_
    obtain ⟨v77, hv77, hr⟩ := bnd1_inv hr
    refine qX7_count (pc := 41) hv77 tw_2_146 ⟨nle rfl, nle rfl⟩ ⟨nle rfl, nle rfl⟩ (nle rfl) dL_law_41 ?_
    refine r_bipush (pc := 44) (v := (24 : Int32)) dL_law_44 rfl ?_
    refine r_icmp_ne (pc := 46) (tgt := 129) dL_law_46 rfl (fun hc => ?_) (fun hc => ?_)
    · replace hr := ite_f hc hr
      exact r_pick (ls1 := [(0, .ref (ad g 1030)), (1, .ref (ad g 1)), (2, .ref (ad g c2))]) [1, 2, 0] rfl (hj129 σ5 hr hσ5)
    replace hr := ite_t hc hr
    refine r_aload_n (pc := 49) (j := 2) dL_law_49 rfl rfl ?_
    refine r_bipush (pc := 50) (v := (7 : Int32)) dL_law_50 rfl ?_
    obtain ⟨v80, hv80, hr⟩ := bnd1_inv hr
    refine qX7_count (pc := 52) hv80 tw_2_146 ⟨nle rfl, nle rfl⟩ ⟨nle rfl, nle rfl⟩ (nle rfl) dL_law_52 ?_
    refine r_iconst (pc := 55) (v := (1 : Int32)) dL_law_55 rfl ?_
    refine r_icmp_ne (pc := 56) (tgt := 129) dL_law_56 rfl (fun hc => ?_) (fun hc => ?_)
    · replace hr := ite_f hc hr
      exact r_pick (ls1 := [(0, .ref (ad g 1030)), (1, .ref (ad g 1)), (2, .ref (ad g c2))]) [1, 2, 0] rfl (hj129 σ5 hr hσ5)
    replace hr := ite_t hc hr
    refine r_aload_n (pc := 59) (j := 2) dL_law_59 rfl rfl ?_
    refine r_iconst (pc := 60) (v := (2 : Int32)) dL_law_60 rfl ?_
    obtain ⟨v83, hv83, hr⟩ := bnd1_inv hr
    refine qX7_count (pc := 61) hv83 tw_2_146 ⟨nle rfl, nle rfl⟩ ⟨nle rfl, nle rfl⟩ (nle rfl) dL_law_61 ?_
    refine r_if_ne (pc := 64) (tgt := 129) dL_law_64 rfl (fun hc => ?_) (fun hc => ?_)
    · replace hr := ite_f hc hr
      exact r_pick (ls1 := [(0, .ref (ad g 1030)), (1, .ref (ad g 1)), (2, .ref (ad g c2))]) [1, 2, 0] rfl (hj129 σ5 hr hσ5)
    replace hr := ite_t hc hr
    refine r_aload_n (pc := 67) (j := 2) dL_law_67 rfl rfl ?_
    refine r_iconst (pc := 68) (v := (0 : Int32)) dL_law_68 rfl ?_
    obtain ⟨v86, σ89, eσ89, hr⟩ := bnd_inv hr
    refine qX7_sheet (pc := 69) eσ89 tw_3_5 ⟨nle rfl, nle rfl⟩ ⟨nle rfl, nle rfl⟩ (nle rfl) dL_law_69 fun hσ89 => ?_
    refine r_ldc (pc := 72) (v := (-2147483648 : Int32)) dL_law_72 tw_4_200 ?_
    refine r_icmp_ne (pc := 74) (tgt := 129) dL_law_74 rfl (fun hc => ?_) (fun hc => ?_)
    · replace hr := ite_f hc hr
      exact r_pick (ls1 := [(0, .ref (ad g 1030)), (1, .ref (ad g 1)), (2, .ref (ad g c2))]) [1, 2, 0] rfl (hj129 σ89 hr hσ89)
    replace hr := ite_t hc hr
    refine r_aload_n (pc := 77) (j := 2) dL_law_77 rfl rfl ?_
    obtain ⟨v90, σ93, eσ93, hr⟩ := bnd_inv hr
    refine qX7_up (pc := 78) eσ93 tw_3_102 ⟨nle rfl, nle rfl⟩ ⟨nle rfl, nle rfl⟩ (nle rfl) dL_law_78 fun hσ93 => ?_
    refine r_iconst (pc := 81) (v := (-1 : Int32)) dL_law_81 rfl ?_
    refine r_icmp_ne (pc := 82) (tgt := 129) dL_law_82 rfl (fun hc => ?_) (fun hc => ?_)
    · replace hr := ite_f hc hr
      exact r_pick (ls1 := [(0, .ref (ad g 1030)), (1, .ref (ad g 1)), (2, .ref (ad g c2))]) [1, 2, 0] rfl (hj129 σ93 hr hσ93)
    replace hr := ite_t hc hr
    refine r_aload_n (pc := 85) (j := 2) dL_law_85 rfl rfl ?_
    obtain ⟨v94, σ97, eσ97, hr⟩ := bnd_inv hr
    refine qX7_lay (pc := 86) eσ97 tw_3_111 ⟨nle rfl, nle rfl⟩ ⟨nle rfl, nle rfl⟩ (nle rfl) dL_law_86 fun hσ97 => ?_
    refine r_iconst (pc := 89) (v := (-1 : Int32)) dL_law_89 rfl ?_
    refine r_icmp_ne (pc := 90) (tgt := 129) dL_law_90 rfl (fun hc => ?_) (fun hc => ?_)
    · replace hr := ite_f hc hr
      exact r_pick (ls1 := [(0, .ref (ad g 1030)), (1, .ref (ad g 1)), (2, .ref (ad g c2))]) [1, 2, 0] rfl (hj129 σ97 hr hσ97)
    replace hr := ite_t hc hr
    refine r_aload_n (pc := 93) (j := 2) dL_law_93 rfl rfl ?_
    refine r_iconst (pc := 94) (v := (5 : Int32)) dL_law_94 rfl ?_
    obtain ⟨v98, σ101, eσ101, hr⟩ := bnd_inv hr
    refine qX7_print (pc := 95) eσ101 tw_3_81 ⟨nle rfl, nle rfl⟩ ⟨nle rfl, nle rfl⟩ (nle rfl) dL_law_95 fun hσ101 => ?_
    refine r_iconst (pc := 98) (v := (-1 : Int32)) dL_law_98 rfl ?_
    refine r_icmp_ne (pc := 99) (tgt := 129) dL_law_99 rfl (fun hc => ?_) (fun hc => ?_)
    · replace hr := ite_f hc hr
      exact r_pick (ls1 := [(0, .ref (ad g 1030)), (1, .ref (ad g 1)), (2, .ref (ad g c2))]) [1, 2, 0] rfl (hj129 σ101 hr hσ101)
    replace hr := ite_t hc hr
    refine r_aload_n (pc := 102) (j := 2) dL_law_102 rfl rfl ?_
    obtain ⟨v102, hv102, hr⟩ := bnd1_inv hr
    refine qX7_level (pc := 103) hv102 tw_3_120 ⟨nle rfl, nle rfl⟩ ⟨nle rfl, nle rfl⟩ (nle rfl) dL_law_103 ?_
    refine r_iconst (pc := 106) (v := (1 : Int32)) dL_law_106 rfl ?_
    refine r_icmp_ne (pc := 107) (tgt := 129) dL_law_107 rfl (fun hc => ?_) (fun hc => ?_)
    · replace hr := ite_f hc hr
      exact r_pick (ls1 := [(0, .ref (ad g 1030)), (1, .ref (ad g 1)), (2, .ref (ad g c2))]) [1, 2, 0] rfl (hj129 σ101 hr hσ101)
    replace hr := ite_t hc hr
    refine r_aload_n (pc := 110) (j := 2) dL_law_110 rfl rfl ?_
    refine r_iconst (pc := 111) (v := (0 : Int32)) dL_law_111 rfl ?_
    obtain ⟨b106, σ108, eσ108, hr⟩ := bnd_inv hr
    refine qX7_back (pc := 112) eσ108 tw_2_185 ⟨nle rfl, nle rfl⟩ ⟨nle rfl, nle rfl⟩ (nle rfl) dL_law_112 fun hσ108 => ?_
    refine r_ifB_ne (pc := 115) (tgt := 129) dL_law_115 rfl (fun hc => ?_) (fun hc => ?_)
    · replace hr := ite_t hc hr
      exact r_pick (ls1 := [(0, .ref (ad g 1030)), (1, .ref (ad g 1)), (2, .ref (ad g c2))]) [1, 2, 0] rfl (hj129 σ108 hr hσ108)
    replace hr := ite_f hc hr
    refine r_aload_n (pc := 118) (j := 2) dL_law_118 rfl rfl ?_
    obtain ⟨v109, σ112, eσ112, hr⟩ := bnd_inv hr
    refine qX7_marked (pc := 119) eσ112 tw_2_200 ⟨nle rfl, nle rfl⟩ ⟨nle rfl, nle rfl⟩ (nle rfl) dL_law_119 fun hσ112 => ?_
    refine r_if_ne (pc := 122) (tgt := 129) dL_law_122 rfl (fun hc => ?_) (fun hc => ?_)
    · replace hr := ite_f hc hr
      exact r_pick (ls1 := [(0, .ref (ad g 1030)), (1, .ref (ad g 1)), (2, .ref (ad g c2))]) [1, 2, 0] rfl (hj129 σ112 hr hσ112)
    replace hr := ite_t hc hr
    refine r_iconst (pc := 125) (v := (1 : Int32)) dL_law_125 rfl ?_
    refine r_goto (pc := 126) (tgt := 130) dL_law_126 rfl ?_
    exact r_pick (ls1 := [(0, .ref (ad g 1030)), (1, .ref (ad g 1)), (2, .ref (ad g c2))]) [1, 2, 0] rfl (hj130 (1 : Int32) σ112 hr hσ112)
  refine r_if_ne (pc := 15) (tgt := 24) dL_law_15 rfl (fun hc => ?_) (fun hc => ?_)
  · replace hr := ite_f hc hr
    refine r_aload_n (pc := 24) (j := 1) dL_law_24 rfl rfl ?_
    refine r_iconst (pc := 25) (v := (0 : Int32)) dL_law_25 rfl ?_
    obtain ⟨h113, hr⟩ := grd_inv hr
    refine y_scr (pc := 26) (k := 0) hp_ h113 rfl dL_law_26 ?_
    exact r_pick (ls1 := [(0, .ref (ad g 1030)), (1, .ref (ad g 1))]) [1, 0] rfl (hj27 (p_.2 0) hr)
  replace hr := ite_t hc hr
  refine r_sipush (pc := 18) (v := (513 : Int32)) dL_law_18 rfl ?_
  refine r_goto (pc := 21) (tgt := 27) dL_law_21 rfl ?_
  exact r_pick (ls1 := [(0, .ref (ad g 1030)), (1, .ref (ad g 1))]) [1, 0] rfl (hj27 (513 : Int32) hr)

