/-! the law's start, step by step -/
abbrev Y_L_law : YT := (cL_law, 27, (some .boolean), yL_law, [], 11)
theorem nk_RL_9_0 : NK RL 9 7 8 [5, 10, 14, 15, 16, 18, 23, 4] := ⟨RX7, TX7, tyX7, rfl, ws_X7, tyX7_ok, KW.at (i := 54) (by decide +kernel) rfl, KW.at (i := 55) (by decide +kernel) rfl, KW.at (i := 36) (by decide +kernel) rfl, rfl, rfl⟩
theorem mk_X7_init : MK Y_X7_init 0 := ⟨KW.at (i := 36) (by decide +kernel) rfl, KW.at (i := 58) (by decide +kernel) rfl, ⟨by decide +kernel, by decide +kernel⟩, by decide +kernel, by decide +kernel, rfl, by decide⟩
theorem cki_RL_181 : CKI RL 181 Y_X7_init 0 := ⟨rfl, rfl, KW.at (i := 56) (by decide +kernel) rfl, KW.at (i := 57) (by decide +kernel) rfl, mk_X7_init⟩
theorem d_L_law_0 : decode cL_law 0 = .ok (.new 9, 3) := by decide +kernel
theorem d_L_law_3 : decode cL_law 3 = .ok (.dup, 1) := by decide +kernel
theorem d_L_law_4 : decode cL_law 4 = .ok (.invokespecial 181, 3) := by decide +kernel
theorem d_L_law_7 : decode cL_law 7 = .ok (.astore_n 1, 1) := by decide +kernel
theorem d_L_law_8 : decode cL_law 8 = .ok (.bipush 60, 2) := by decide +kernel
theorem d_L_law_10 : decode cL_law 10 = .ok (.newarray .long, 2) := by decide +kernel
theorem d_L_law_12 : decode cL_law 12 = .ok (.astore_n 2, 1) := by decide +kernel
theorem d_L_law_13 : decode cL_law 13 = .ok (.bipush 60, 2) := by decide +kernel
theorem d_L_law_15 : decode cL_law 15 = .ok (.newarray .long, 2) := by decide +kernel
theorem sh_33 : SH.getD 33 (9, 0, []) = (3, 60, []) := rfl
theorem d_L_law_17 : decode cL_law 17 = .ok (.astore_n 3, 1) := by decide +kernel
theorem d_L_law_18 : decode cL_law 18 = .ok (.bipush 60, 2) := by decide +kernel
theorem d_L_law_20 : decode cL_law 20 = .ok (.newarray .long, 2) := by decide +kernel
theorem d_L_law_22 : decode cL_law 22 = .ok (.astore 4, 2) := by decide +kernel
theorem d_L_law_24 : decode cL_law 24 = .ok (.bipush 40, 2) := by decide +kernel
theorem d_L_law_26 : decode cL_law 26 = .ok (.newarray .long, 2) := by decide +kernel
theorem d_L_law_28 : decode cL_law 28 = .ok (.astore 5, 2) := by decide +kernel
theorem d_L_law_30 : decode cL_law 30 = .ok (.bipush 40, 2) := by decide +kernel
theorem d_L_law_32 : decode cL_law 32 = .ok (.newarray .long, 2) := by decide +kernel
theorem sh_36 : SH.getD 36 (9, 0, []) = (3, 40, []) := rfl
theorem d_L_law_34 : decode cL_law 34 = .ok (.astore 6, 2) := by decide +kernel
theorem d_L_law_36 : decode cL_law 36 = .ok (.bipush 40, 2) := by decide +kernel
theorem d_L_law_38 : decode cL_law 38 = .ok (.newarray .long, 2) := by decide +kernel
theorem d_L_law_40 : decode cL_law 40 = .ok (.astore 7, 2) := by decide +kernel
theorem d_L_law_42 : decode cL_law 42 = .ok (.bipush 40, 2) := by decide +kernel
theorem d_L_law_44 : decode cL_law 44 = .ok (.newarray .int, 2) := by decide +kernel
theorem d_L_law_46 : decode cL_law 46 = .ok (.astore 8, 2) := by decide +kernel
theorem d_L_law_48 : decode cL_law 48 = .ok (.bipush 40, 2) := by decide +kernel
theorem d_L_law_50 : decode cL_law 50 = .ok (.newarray .int, 2) := by decide +kernel
theorem sh_39 : SH.getD 39 (9, 0, []) = (1, 40, []) := rfl
theorem d_L_law_52 : decode cL_law 52 = .ok (.astore 9, 2) := by decide +kernel
theorem d_L_law_54 : decode cL_law 54 = .ok (.bipush 40, 2) := by decide +kernel
theorem d_L_law_56 : decode cL_law 56 = .ok (.newarray .int, 2) := by decide +kernel
theorem d_L_law_58 : decode cL_law 58 = .ok (.astore 10, 2) := by decide +kernel
theorem d_L_law_60 : decode cL_law 60 = .ok (.bipush 13, 2) := by decide +kernel
theorem d_L_law_62 : decode cL_law 62 = .ok (.newarray .int, 2) := by decide +kernel
theorem d_L_law_64 : decode cL_law 64 = .ok (.astore 11, 2) := by decide +kernel
theorem d_L_law_66 : decode cL_law 66 = .ok (.iconst 2, 1) := by decide +kernel
theorem d_L_law_67 : decode cL_law 67 = .ok (.newarray .long, 2) := by decide +kernel
theorem sh_42 : SH.getD 42 (9, 0, []) = (3, 2, []) := rfl
theorem d_L_law_69 : decode cL_law 69 = .ok (.astore 12, 2) := by decide +kernel
theorem d_L_law_71 : decode cL_law 71 = .ok (.iconst 4, 1) := by decide +kernel
theorem d_L_law_72 : decode cL_law 72 = .ok (.newarray .long, 2) := by decide +kernel
theorem d_L_law_74 : decode cL_law 74 = .ok (.astore 13, 2) := by decide +kernel
theorem d_L_law_76 : decode cL_law 76 = .ok (.bipush 60, 2) := by decide +kernel
theorem d_L_law_78 : decode cL_law 78 = .ok (.newarray .int, 2) := by decide +kernel
theorem sh_44 : SH.getD 44 (9, 0, []) = (1, 60, []) := rfl
theorem d_L_law_80 : decode cL_law 80 = .ok (.astore 14, 2) := by decide +kernel
theorem d_L_law_82 : decode cL_law 82 = .ok (.bipush 60, 2) := by decide +kernel
theorem d_L_law_84 : decode cL_law 84 = .ok (.newarray .int, 2) := by decide +kernel
theorem sh_45 : SH.getD 45 (9, 0, []) = (1, 60, []) := rfl
theorem d_L_law_86 : decode cL_law 86 = .ok (.astore 15, 2) := by decide +kernel
theorem d_L_law_88 : decode cL_law 88 = .ok (.aload_n 2, 1) := by decide +kernel
theorem d_L_law_89 : decode cL_law 89 = .ok (.iconst 0, 1) := by decide +kernel
theorem d_L_law_90 : decode cL_law 90 = .ok (.iconst 0, 1) := by decide +kernel
theorem d_L_law_91 : decode cL_law 91 = .ok (.iconst 0, 1) := by decide +kernel
theorem d_L_law_92 : decode cL_law 92 = .ok (.iconst (-1), 1) := by decide +kernel
theorem d_L_law_93 : decode cL_law 93 = .ok (.iconst 0, 1) := by decide +kernel
theorem d_L_law_94 : decode cL_law 94 = .ok (.invokestatic 157, 3) := by decide +kernel
theorem mk_L_key : MK Y_L_key 4 := ⟨KW.at (i := 35) (by decide +kernel) rfl, KW.at (i := 936) (by decide +kernel) rfl, ⟨by decide +kernel, by decide +kernel⟩, by decide +kernel, by decide +kernel, rfl, by decide⟩
theorem sm_L_key : KW (.static (yN Y_L_key)) := KW.at (i := 935) (by decide +kernel) rfl
theorem ck_RL_157 : CKS RL 157 Y_L_key 4 := ⟨KW.at (i := 934) (by decide +kernel) rfl, sm_L_key, mk_L_key⟩
theorem d_L_law_97 : decode cL_law 97 = .ok (.lastore, 1) := by decide +kernel
theorem d_L_law_98 : decode cL_law 98 = .ok (.aload 4, 2) := by decide +kernel
theorem d_L_law_100 : decode cL_law 100 = .ok (.iconst 0, 1) := by decide +kernel
theorem d_L_law_101 : decode cL_law 101 = .ok (.aload_n 2, 1) := by decide +kernel
theorem d_L_law_102 : decode cL_law 102 = .ok (.iconst 0, 1) := by decide +kernel
theorem d_L_law_103 : decode cL_law 103 = .ok (.laload, 1) := by decide +kernel
theorem d_L_law_104 : decode cL_law 104 = .ok (.lastore, 1) := by decide +kernel
theorem d_L_law_105 : decode cL_law 105 = .ok (.aload 11, 2) := by decide +kernel
theorem d_L_law_107 : decode cL_law 107 = .ok (.iconst 0, 1) := by decide +kernel
theorem d_L_law_108 : decode cL_law 108 = .ok (.iconst 1, 1) := by decide +kernel
theorem d_L_law_109 : decode cL_law 109 = .ok (.iastore, 1) := by decide +kernel
theorem d_L_law_110 : decode cL_law 110 = .ok (.aload 11, 2) := by decide +kernel
theorem d_L_law_112 : decode cL_law 112 = .ok (.iconst 4, 1) := by decide +kernel
theorem d_L_law_113 : decode cL_law 113 = .ok (.iconst 1, 1) := by decide +kernel
theorem d_L_law_114 : decode cL_law 114 = .ok (.iastore, 1) := by decide +kernel
theorem d_L_law_115 : decode cL_law 115 = .ok (.aload 11, 2) := by decide +kernel
theorem d_L_law_117 : decode cL_law 117 = .ok (.bipush 6, 2) := by decide +kernel
theorem d_L_law_119 : decode cL_law 119 = .ok (.iconst (-1), 1) := by decide +kernel
theorem d_L_law_120 : decode cL_law 120 = .ok (.iastore, 1) := by decide +kernel
theorem d_L_law_121 : decode cL_law 121 = .ok (.aload 12, 2) := by decide +kernel
theorem d_L_law_123 : decode cL_law 123 = .ok (.iconst 1, 1) := by decide +kernel
theorem d_L_law_124 : decode cL_law 124 = .ok (.aload_n 1, 1) := by decide +kernel
theorem d_L_law_125 : decode cL_law 125 = .ok (.aload 11, 2) := by decide +kernel
theorem d_L_law_127 : decode cL_law 127 = .ok (.invokestatic 125, 3) := by decide +kernel
theorem d_L_law_130 : decode cL_law 130 = .ok (.lastore, 1) := by decide +kernel
theorem d_L_law_131 : decode cL_law 131 = .ok (.aload 11, 2) := by decide +kernel
theorem d_L_law_133 : decode cL_law 133 = .ok (.bipush 12, 2) := by decide +kernel
theorem d_L_law_135 : decode cL_law 135 = .ok (.iaload, 1) := by decide +kernel
theorem d_L_law_136 : decode cL_law 136 = .ok (.iconst 1, 1) := by decide +kernel
theorem d_L_law_137 : decode cL_law 137 = .ok (.if_icmp .ne 40, 3) := by decide +kernel
theorem d_L_law_140 : decode cL_law 140 = .ok (.aload_n 1, 1) := by decide +kernel
theorem d_L_law_141 : decode cL_law 141 = .ok (.aload_n 2, 1) := by decide +kernel
theorem d_L_law_142 : decode cL_law 142 = .ok (.aload 5, 2) := by decide +kernel
theorem d_L_law_144 : decode cL_law 144 = .ok (.aload 8, 2) := by decide +kernel
theorem d_L_law_146 : decode cL_law 146 = .ok (.aload 11, 2) := by decide +kernel
theorem d_L_law_148 : decode cL_law 148 = .ok (.aload 13, 2) := by decide +kernel
theorem d_L_law_150 : decode cL_law 150 = .ok (.invokestatic 182, 3) := by decide +kernel
theorem sm_L_isTree : KW (.static (yN Y_L_isTree)) := KW.at (i := 997) (by decide +kernel) rfl
theorem ck_RL_182 : CKS RL 182 Y_L_isTree 6 := ⟨KW.at (i := 996) (by decide +kernel) rfl, sm_L_isTree, mk_L_isTree⟩
theorem d_L_law_153 : decode cL_law 153 = .ok (.ifCond .eq 24, 3) := by decide +kernel
theorem d_L_law_156 : decode cL_law 156 = .ok (.aload_n 1, 1) := by decide +kernel
theorem d_L_law_157 : decode cL_law 157 = .ok (.invokevirtual 145, 3) := by decide +kernel
theorem mk_X7_dirty : MK Y_X7_dirty 0 := ⟨KW.at (i := 36) (by decide +kernel) rfl, KW.at (i := 454) (by decide +kernel) rfl, ⟨by decide +kernel, by decide +kernel⟩, by decide +kernel, by decide +kernel, rfl, by decide⟩
theorem vm_X7_dirty : KW (.instanceMethod (yN Y_X7_dirty)) ∧ KW (.selects (yN Y_X7_dirty).cls (yN Y_X7_dirty) (yN Y_X7_dirty)) := ⟨KW.at (i := 452) (by decide +kernel) rfl, KW.at (i := 453) (by decide +kernel) rfl⟩
theorem ck_RL_145 : CKV RL 145 Y_X7_dirty 0 := ⟨KW.at (i := 451) (by decide +kernel) rfl, vm_X7_dirty.1, vm_X7_dirty.2, mk_X7_dirty⟩
theorem d_L_law_160 : decode cL_law 160 = .ok (.lconst 0, 1) := by decide +kernel
theorem d_L_law_161 : decode cL_law 161 = .ok (.lcmp, 1) := by decide +kernel
theorem d_L_law_162 : decode cL_law 162 = .ok (.ifCond .ne 15, 3) := by decide +kernel
theorem d_L_law_165 : decode cL_law 165 = .ok (.aload_n 1, 1) := by decide +kernel
theorem d_L_law_166 : decode cL_law 166 = .ok (.invokevirtual 186, 3) := by decide +kernel
theorem mk_X7_takeNotice : MK Y_X7_takeNotice 0 := ⟨KW.at (i := 36) (by decide +kernel) rfl, KW.at (i := 440) (by decide +kernel) rfl, ⟨by decide +kernel, by decide +kernel⟩, by decide +kernel, by decide +kernel, rfl, by decide⟩
theorem vm_X7_takeNotice : KW (.instanceMethod (yN Y_X7_takeNotice)) ∧ KW (.selects (yN Y_X7_takeNotice).cls (yN Y_X7_takeNotice) (yN Y_X7_takeNotice)) := ⟨KW.at (i := 438) (by decide +kernel) rfl, KW.at (i := 439) (by decide +kernel) rfl⟩
theorem ck_RL_186 : CKV RL 186 Y_X7_takeNotice 0 := ⟨KW.at (i := 437) (by decide +kernel) rfl, vm_X7_takeNotice.1, vm_X7_takeNotice.2, mk_X7_takeNotice⟩
theorem d_L_law_169 : decode cL_law 169 = .ok (.iconst (-1), 1) := by decide +kernel
theorem d_L_law_170 : decode cL_law 170 = .ok (.if_icmp .ne 7, 3) := by decide +kernel
theorem d_L_law_173 : decode cL_law 173 = .ok (.iconst 1, 1) := by decide +kernel
theorem d_L_law_174 : decode cL_law 174 = .ok (.goto 4, 3) := by decide +kernel
theorem d_L_law_178 : decode cL_law 178 = .ok (.istore 16, 2) := by decide +kernel
theorem d_L_law_180 : decode cL_law 180 = .ok (.iconst 0, 1) := by decide +kernel
theorem d_L_law_181 : decode cL_law 181 = .ok (.istore 17, 2) := by decide +kernel
theorem d_L_law_183 : decode cL_law 183 = .ok (.iload 17, 2) := by decide +kernel
theorem d_L_law_185 : decode cL_law 185 = .ok (.bipush 56, 2) := by decide +kernel
theorem d_L_law_187 : decode cL_law 187 = .ok (.if_icmp .ge 1309, 3) := by decide +kernel
theorem d_L_law_190 : decode cL_law 190 = .ok (.iload 16, 2) := by decide +kernel
theorem d_L_law_192 : decode cL_law 192 = .ok (.ifCond .eq 1304, 3) := by decide +kernel
theorem d_L_law_195 : decode cL_law 195 = .ok (.aload_n 0, 1) := by decide +kernel
theorem d_L_law_196 : decode cL_law 196 = .ok (.iconst 4, 1) := by decide +kernel
theorem d_L_law_197 : decode cL_law 197 = .ok (.iload 17, 2) := by decide +kernel
theorem d_L_law_199 : decode cL_law 199 = .ok (.imul, 1) := by decide +kernel
theorem d_L_law_200 : decode cL_law 200 = .ok (.bipush 40, 2) := by decide +kernel
theorem d_L_law_202 : decode cL_law 202 = .ok (.invokestatic 189, 3) := by decide +kernel
theorem mk_L_part : MK Y_L_part 3 := ⟨KW.at (i := 35) (by decide +kernel) rfl, KW.at (i := 514) (by decide +kernel) rfl, ⟨by decide +kernel, by decide +kernel⟩, by decide +kernel, by decide +kernel, rfl, by decide⟩
theorem sm_L_part : KW (.static (yN Y_L_part)) := KW.at (i := 513) (by decide +kernel) rfl
theorem ck_RL_189 : CKS RL 189 Y_L_part 3 := ⟨KW.at (i := 512) (by decide +kernel) rfl, sm_L_part, mk_L_part⟩
theorem d_L_law_205 : decode cL_law 205 = .ok (.istore 18, 2) := by decide +kernel
theorem d_L_law_207 : decode cL_law 207 = .ok (.aload_n 0, 1) := by decide +kernel
theorem d_L_law_208 : decode cL_law 208 = .ok (.iconst 4, 1) := by decide +kernel
theorem d_L_law_209 : decode cL_law 209 = .ok (.iload 17, 2) := by decide +kernel
theorem d_L_law_211 : decode cL_law 211 = .ok (.imul, 1) := by decide +kernel
theorem d_L_law_212 : decode cL_law 212 = .ok (.iconst 1, 1) := by decide +kernel
theorem d_L_law_213 : decode cL_law 213 = .ok (.iadd, 1) := by decide +kernel
theorem d_L_law_214 : decode cL_law 214 = .ok (.sipush 6000, 3) := by decide +kernel
theorem d_L_law_217 : decode cL_law 217 = .ok (.invokestatic 189, 3) := by decide +kernel
theorem d_L_law_220 : decode cL_law 220 = .ok (.istore 19, 2) := by decide +kernel
theorem d_L_law_222 : decode cL_law 222 = .ok (.aload_n 0, 1) := by decide +kernel
theorem d_L_law_223 : decode cL_law 223 = .ok (.iconst 4, 1) := by decide +kernel
theorem d_L_law_224 : decode cL_law 224 = .ok (.iload 17, 2) := by decide +kernel
theorem d_L_law_226 : decode cL_law 226 = .ok (.imul, 1) := by decide +kernel
theorem d_L_law_227 : decode cL_law 227 = .ok (.iconst 2, 1) := by decide +kernel
theorem d_L_law_228 : decode cL_law 228 = .ok (.iadd, 1) := by decide +kernel
theorem d_L_law_229 : decode cL_law 229 = .ok (.sipush 7000, 3) := by decide +kernel
theorem d_L_law_232 : decode cL_law 232 = .ok (.invokestatic 189, 3) := by decide +kernel
theorem d_L_law_235 : decode cL_law 235 = .ok (.istore 20, 2) := by decide +kernel
theorem d_L_law_237 : decode cL_law 237 = .ok (.aload_n 0, 1) := by decide +kernel
theorem d_L_law_238 : decode cL_law 238 = .ok (.iconst 4, 1) := by decide +kernel
theorem d_L_law_239 : decode cL_law 239 = .ok (.iload 17, 2) := by decide +kernel
theorem d_L_law_241 : decode cL_law 241 = .ok (.imul, 1) := by decide +kernel
theorem d_L_law_242 : decode cL_law 242 = .ok (.iconst 3, 1) := by decide +kernel
theorem d_L_law_243 : decode cL_law 243 = .ok (.iadd, 1) := by decide +kernel
theorem d_L_law_244 : decode cL_law 244 = .ok (.sipush 8000, 3) := by decide +kernel
theorem d_L_law_247 : decode cL_law 247 = .ok (.invokestatic 189, 3) := by decide +kernel
theorem d_L_law_250 : decode cL_law 250 = .ok (.istore 21, 2) := by decide +kernel
theorem d_L_law_252 : decode cL_law 252 = .ok (.iload 19, 2) := by decide +kernel
theorem d_L_law_254 : decode cL_law 254 = .ok (.bipush 20, 2) := by decide +kernel
theorem d_L_law_256 : decode cL_law 256 = .ok (.irem, 1) := by decide +kernel
theorem d_L_law_257 : decode cL_law 257 = .ok (.ifCond .ne 8, 3) := by decide +kernel
theorem d_L_law_265 : decode cL_law 265 = .ok (.iload 19, 2) := by decide +kernel
theorem d_L_law_267 : decode cL_law 267 = .ok (.bipush 7, 2) := by decide +kernel
theorem d_L_law_269 : decode cL_law 269 = .ok (.irem, 1) := by decide +kernel
theorem d_L_law_270 : decode cL_law 270 = .ok (.ifCond .ne 7, 3) := by decide +kernel
theorem d_L_law_277 : decode cL_law 277 = .ok (.iload 19, 2) := by decide +kernel
theorem d_L_law_279 : decode cL_law 279 = .ok (.aload 11, 2) := by decide +kernel
theorem d_L_law_281 : decode cL_law 281 = .ok (.iconst 0, 1) := by decide +kernel
theorem d_L_law_282 : decode cL_law 282 = .ok (.iaload, 1) := by decide +kernel
theorem d_L_law_283 : decode cL_law 283 = .ok (.irem, 1) := by decide +kernel
theorem d_L_law_284 : decode cL_law 284 = .ok (.istore 22, 2) := by decide +kernel
theorem d_L_law_286 : decode cL_law 286 = .ok (.iload 21, 2) := by decide +kernel
theorem d_L_law_288 : decode cL_law 288 = .ok (.bipush 30, 2) := by decide +kernel
theorem d_L_law_290 : decode cL_law 290 = .ok (.irem, 1) := by decide +kernel
theorem d_L_law_291 : decode cL_law 291 = .ok (.ifCond .ne 9, 3) := by decide +kernel
theorem d_L_law_300 : decode cL_law 300 = .ok (.iload 21, 2) := by decide +kernel
theorem d_L_law_302 : decode cL_law 302 = .ok (.bipush 40, 2) := by decide +kernel
theorem d_L_law_304 : decode cL_law 304 = .ok (.irem, 1) := by decide +kernel
theorem d_L_law_305 : decode cL_law 305 = .ok (.istore 23, 2) := by decide +kernel
theorem d_L_law_307 : decode cL_law 307 = .ok (.iload 18, 2) := by decide +kernel
theorem d_L_law_309 : decode cL_law 309 = .ok (.bipush 11, 2) := by decide +kernel
theorem d_L_law_311 : decode cL_law 311 = .ok (.if_icmp .ge 39, 3) := by decide +kernel
theorem d_L_law_350 : decode cL_law 350 = .ok (.iload 18, 2) := by decide +kernel
theorem d_L_law_352 : decode cL_law 352 = .ok (.bipush 13, 2) := by decide +kernel
theorem d_L_law_354 : decode cL_law 354 = .ok (.if_icmp .ge 23, 3) := by decide +kernel
theorem d_L_law_377 : decode cL_law 377 = .ok (.iload 18, 2) := by decide +kernel
theorem d_L_law_379 : decode cL_law 379 = .ok (.bipush 15, 2) := by decide +kernel
theorem d_L_law_381 : decode cL_law 381 = .ok (.if_icmp .ge 27, 3) := by decide +kernel
theorem d_L_law_408 : decode cL_law 408 = .ok (.iload 18, 2) := by decide +kernel
theorem d_L_law_410 : decode cL_law 410 = .ok (.bipush 25, 2) := by decide +kernel
theorem d_L_law_412 : decode cL_law 412 = .ok (.if_icmp .ge 156, 3) := by decide +kernel
theorem d_L_law_568 : decode cL_law 568 = .ok (.iload 18, 2) := by decide +kernel
theorem d_L_law_570 : decode cL_law 570 = .ok (.bipush 27, 2) := by decide +kernel
theorem d_L_law_572 : decode cL_law 572 = .ok (.if_icmp .ge 39, 3) := by decide +kernel
theorem d_L_law_611 : decode cL_law 611 = .ok (.iload 18, 2) := by decide +kernel
theorem d_L_law_613 : decode cL_law 613 = .ok (.bipush 30, 2) := by decide +kernel
theorem d_L_law_615 : decode cL_law 615 = .ok (.if_icmp .ge 123, 3) := by decide +kernel
theorem d_L_law_738 : decode cL_law 738 = .ok (.iload 18, 2) := by decide +kernel
theorem d_L_law_740 : decode cL_law 740 = .ok (.bipush 32, 2) := by decide +kernel
theorem d_L_law_742 : decode cL_law 742 = .ok (.if_icmp .ge 94, 3) := by decide +kernel
theorem d_L_law_836 : decode cL_law 836 = .ok (.iload 18, 2) := by decide +kernel
theorem d_L_law_838 : decode cL_law 838 = .ok (.bipush 35, 2) := by decide +kernel
theorem d_L_law_840 : decode cL_law 840 = .ok (.if_icmp .ge 145, 3) := by decide +kernel
theorem d_L_law_985 : decode cL_law 985 = .ok (.iload 18, 2) := by decide +kernel
theorem d_L_law_987 : decode cL_law 987 = .ok (.bipush 39, 2) := by decide +kernel
theorem d_L_law_989 : decode cL_law 989 = .ok (.if_icmp .ge 212, 3) := by decide +kernel
theorem d_L_law_1201 : decode cL_law 1201 = .ok (.aload 11, 2) := by decide +kernel
theorem d_L_law_1203 : decode cL_law 1203 = .ok (.bipush 6, 2) := by decide +kernel
theorem d_L_law_1205 : decode cL_law 1205 = .ok (.iaload, 1) := by decide +kernel
theorem d_L_law_1206 : decode cL_law 1206 = .ok (.ifCond .lt 38, 3) := by decide +kernel
theorem d_L_law_1244 : decode cL_law 1244 = .ok (.aload 7, 2) := by decide +kernel
theorem d_L_law_1246 : decode cL_law 1246 = .ok (.aload 5, 2) := by decide +kernel
theorem d_L_law_1248 : decode cL_law 1248 = .ok (.aload 10, 2) := by decide +kernel
theorem d_L_law_1250 : decode cL_law 1250 = .ok (.aload 8, 2) := by decide +kernel
theorem d_L_law_1252 : decode cL_law 1252 = .ok (.aload 4, 2) := by decide +kernel
theorem d_L_law_1254 : decode cL_law 1254 = .ok (.aload_n 2, 1) := by decide +kernel
theorem d_L_law_1255 : decode cL_law 1255 = .ok (.invokestatic 177, 3) := by decide +kernel
theorem mk_L_copies : MK Y_L_copies 6 := ⟨KW.at (i := 35) (by decide +kernel) rfl, KW.at (i := 1061) (by decide +kernel) rfl, ⟨by decide +kernel, by decide +kernel⟩, by decide +kernel, by decide +kernel, rfl, by decide⟩
theorem sm_L_copies : KW (.static (yN Y_L_copies)) := KW.at (i := 1060) (by decide +kernel) rfl
theorem ck_RL_177 : CKS RL 177 Y_L_copies 6 := ⟨KW.at (i := 1059) (by decide +kernel) rfl, sm_L_copies, mk_L_copies⟩
theorem d_L_law_1258 : decode cL_law 1258 = .ok (.aload 11, 2) := by decide +kernel
theorem d_L_law_1260 : decode cL_law 1260 = .ok (.iconst 0, 1) := by decide +kernel
theorem d_L_law_1261 : decode cL_law 1261 = .ok (.aload 11, 2) := by decide +kernel
theorem d_L_law_1263 : decode cL_law 1263 = .ok (.iconst 4, 1) := by decide +kernel
theorem d_L_law_1264 : decode cL_law 1264 = .ok (.iaload, 1) := by decide +kernel
theorem d_L_law_1265 : decode cL_law 1265 = .ok (.iastore, 1) := by decide +kernel
theorem d_L_law_1266 : decode cL_law 1266 = .ok (.aload 11, 2) := by decide +kernel
theorem d_L_law_1268 : decode cL_law 1268 = .ok (.iconst 1, 1) := by decide +kernel
theorem d_L_law_1269 : decode cL_law 1269 = .ok (.aload 11, 2) := by decide +kernel
theorem d_L_law_1271 : decode cL_law 1271 = .ok (.iconst 5, 1) := by decide +kernel
theorem d_L_law_1272 : decode cL_law 1272 = .ok (.iaload, 1) := by decide +kernel
theorem d_L_law_1273 : decode cL_law 1273 = .ok (.iastore, 1) := by decide +kernel
theorem d_L_law_1274 : decode cL_law 1274 = .ok (.aload 11, 2) := by decide +kernel
theorem d_L_law_1276 : decode cL_law 1276 = .ok (.bipush 6, 2) := by decide +kernel
theorem d_L_law_1278 : decode cL_law 1278 = .ok (.iconst (-1), 1) := by decide +kernel
theorem d_L_law_1279 : decode cL_law 1279 = .ok (.iastore, 1) := by decide +kernel
theorem d_L_law_1280 : decode cL_law 1280 = .ok (.aload 11, 2) := by decide +kernel
theorem d_L_law_1282 : decode cL_law 1282 = .ok (.bipush 9, 2) := by decide +kernel
theorem d_L_law_1284 : decode cL_law 1284 = .ok (.iconst 0, 1) := by decide +kernel
theorem d_L_law_1285 : decode cL_law 1285 = .ok (.iastore, 1) := by decide +kernel
theorem d_L_law_1286 : decode cL_law 1286 = .ok (.aload 13, 2) := by decide +kernel
theorem d_L_law_1288 : decode cL_law 1288 = .ok (.iconst 0, 1) := by decide +kernel
theorem d_L_law_1289 : decode cL_law 1289 = .ok (.aload 13, 2) := by decide +kernel
theorem d_L_law_1291 : decode cL_law 1291 = .ok (.iconst 2, 1) := by decide +kernel
theorem d_L_law_1292 : decode cL_law 1292 = .ok (.laload, 1) := by decide +kernel
theorem d_L_law_1293 : decode cL_law 1293 = .ok (.lastore, 1) := by decide +kernel
theorem d_L_law_1294 : decode cL_law 1294 = .ok (.aload 13, 2) := by decide +kernel
theorem d_L_law_1296 : decode cL_law 1296 = .ok (.iconst 3, 1) := by decide +kernel
theorem d_L_law_1297 : decode cL_law 1297 = .ok (.lconst 0, 1) := by decide +kernel
theorem d_L_law_1298 : decode cL_law 1298 = .ok (.lastore, 1) := by decide +kernel
theorem d_L_law_1299 : decode cL_law 1299 = .ok (.iconst 0, 1) := by decide +kernel
theorem d_L_law_1300 : decode cL_law 1300 = .ok (.istore 24, 2) := by decide +kernel
theorem d_L_law_1302 : decode cL_law 1302 = .ok (.iload 24, 2) := by decide +kernel
theorem d_L_law_1304 : decode cL_law 1304 = .ok (.bipush 60, 2) := by decide +kernel
theorem d_L_law_1306 : decode cL_law 1306 = .ok (.if_icmp .ge 15, 3) := by decide +kernel
theorem d_L_law_1309 : decode cL_law 1309 = .ok (.aload 14, 2) := by decide +kernel
theorem d_L_law_1311 : decode cL_law 1311 = .ok (.iload 24, 2) := by decide +kernel
theorem d_L_law_1313 : decode cL_law 1313 = .ok (.iconst 0, 1) := by decide +kernel
theorem d_L_law_1314 : decode cL_law 1314 = .ok (.iastore, 1) := by decide +kernel
theorem d_L_law_1315 : decode cL_law 1315 = .ok (.iinc 24 1, 3) := by decide +kernel
theorem d_L_law_1318 : decode cL_law 1318 = .ok (.goto (-16), 3) := by decide +kernel
theorem d_L_law_1321 : decode cL_law 1321 = .ok (.aload_n 1, 1) := by decide +kernel
theorem d_L_law_1322 : decode cL_law 1322 = .ok (.invokevirtual 221, 3) := by decide +kernel
theorem mk_X7_crash : MK Y_X7_crash 0 := ⟨KW.at (i := 36) (by decide +kernel) rfl, KW.at (i := 483) (by decide +kernel) rfl, ⟨by decide +kernel, by decide +kernel⟩, by decide +kernel, by decide +kernel, rfl, by decide⟩
theorem vm_X7_crash : KW (.instanceMethod (yN Y_X7_crash)) ∧ KW (.selects (yN Y_X7_crash).cls (yN Y_X7_crash) (yN Y_X7_crash)) := ⟨KW.at (i := 481) (by decide +kernel) rfl, KW.at (i := 482) (by decide +kernel) rfl⟩
theorem ck_RL_221 : CKV RL 221 Y_X7_crash 0 := ⟨KW.at (i := 480) (by decide +kernel) rfl, vm_X7_crash.1, vm_X7_crash.2, mk_X7_crash⟩
theorem d_L_law_1325 : decode cL_law 1325 = .ok (.aload 11, 2) := by decide +kernel
theorem d_L_law_1327 : decode cL_law 1327 = .ok (.bipush 7, 2) := by decide +kernel
theorem d_L_law_1329 : decode cL_law 1329 = .ok (.iaload, 1) := by decide +kernel
theorem d_L_law_1330 : decode cL_law 1330 = .ok (.if_icmp .ne 30, 3) := by decide +kernel
theorem d_L_law_1333 : decode cL_law 1333 = .ok (.aload_n 1, 1) := by decide +kernel
theorem d_L_law_1334 : decode cL_law 1334 = .ok (.invokevirtual 145, 3) := by decide +kernel
theorem d_L_law_1337 : decode cL_law 1337 = .ok (.lconst 0, 1) := by decide +kernel
theorem d_L_law_1338 : decode cL_law 1338 = .ok (.lcmp, 1) := by decide +kernel
theorem d_L_law_1339 : decode cL_law 1339 = .ok (.ifCond .ne 21, 3) := by decide +kernel
theorem d_L_law_1342 : decode cL_law 1342 = .ok (.aload_n 1, 1) := by decide +kernel
theorem d_L_law_1343 : decode cL_law 1343 = .ok (.aload 11, 2) := by decide +kernel
theorem d_L_law_1345 : decode cL_law 1345 = .ok (.invokestatic 125, 3) := by decide +kernel
theorem d_L_law_1348 : decode cL_law 1348 = .ok (.aload 12, 2) := by decide +kernel
theorem d_L_law_1350 : decode cL_law 1350 = .ok (.iconst 1, 1) := by decide +kernel
theorem d_L_law_1351 : decode cL_law 1351 = .ok (.laload, 1) := by decide +kernel
theorem d_L_law_1352 : decode cL_law 1352 = .ok (.lcmp, 1) := by decide +kernel
theorem d_L_law_1353 : decode cL_law 1353 = .ok (.ifCond .ne 7, 3) := by decide +kernel
theorem d_L_law_1356 : decode cL_law 1356 = .ok (.iconst 1, 1) := by decide +kernel
theorem d_L_law_1357 : decode cL_law 1357 = .ok (.goto 4, 3) := by decide +kernel
theorem d_L_law_1361 : decode cL_law 1361 = .ok (.istore 16, 2) := by decide +kernel
theorem d_L_law_1363 : decode cL_law 1363 = .ok (.iload 16, 2) := by decide +kernel
theorem d_L_law_1365 : decode cL_law 1365 = .ok (.ifCond .eq 122, 3) := by decide +kernel
theorem d_L_law_1368 : decode cL_law 1368 = .ok (.aload_n 1, 1) := by decide +kernel
theorem d_L_law_1369 : decode cL_law 1369 = .ok (.aload 11, 2) := by decide +kernel
theorem d_L_law_1371 : decode cL_law 1371 = .ok (.invokestatic 224, 3) := by decide +kernel
theorem mk_L_isFile : MK Y_L_isFile 2 := ⟨KW.at (i := 35) (by decide +kernel) rfl, KW.at (i := 995) (by decide +kernel) rfl, ⟨by decide +kernel, by decide +kernel⟩, by decide +kernel, by decide +kernel, rfl, by decide⟩
theorem sm_L_isFile : KW (.static (yN Y_L_isFile)) := KW.at (i := 994) (by decide +kernel) rfl
theorem ck_RL_224 : CKS RL 224 Y_L_isFile 2 := ⟨KW.at (i := 993) (by decide +kernel) rfl, sm_L_isFile, mk_L_isFile⟩
theorem d_L_law_1374 : decode cL_law 1374 = .ok (.ifCond .eq 113, 3) := by decide +kernel
theorem d_L_law_1377 : decode cL_law 1377 = .ok (.aload_n 1, 1) := by decide +kernel
theorem d_L_law_1378 : decode cL_law 1378 = .ok (.aload_n 2, 1) := by decide +kernel
theorem d_L_law_1379 : decode cL_law 1379 = .ok (.aload 5, 2) := by decide +kernel
theorem d_L_law_1381 : decode cL_law 1381 = .ok (.aload 8, 2) := by decide +kernel
theorem d_L_law_1383 : decode cL_law 1383 = .ok (.aload 11, 2) := by decide +kernel
theorem d_L_law_1385 : decode cL_law 1385 = .ok (.aload 13, 2) := by decide +kernel
theorem d_L_law_1387 : decode cL_law 1387 = .ok (.invokestatic 182, 3) := by decide +kernel
theorem d_L_law_1390 : decode cL_law 1390 = .ok (.ifCond .eq 97, 3) := by decide +kernel
theorem m_ghost {Γ : GG} {n0 mc ms : Nat} {y : YT} {pc : Nat} {ls st : List PV} {n : Nat} {M : MP} {D D' : DD} (h : ∀ a, a < n → D' a = D a) (k : RunM Γ n0 mc ms y pc ls st n M D') : RunM Γ n0 mc ms y pc ls st n M D := by
  intro p e R s m args below meth c H locs lsm q C hN hz hH hS hl h3 h4
  refine k p e R s m args below meth c H locs lsm q C hN hz ?_ hS hl h3 h4
  unfold HN wsn at hH ⊢
  have e1 : (List.range n).map (fun a => (gB Γ + a, cellN Γ M D' a)) = (List.range n).map (fun a => (gB Γ + a, cellN Γ M D a)) := by
    apply List.map_congr_left
    intro a ha
    rw [cellN_congr (D := D) (D' := D') (M := M) (M' := M) (h a (List.mem_range.mp ha)) (fun _ => rfl)]
  rw [e1]
  exact hH
set_option maxRecDepth 20000 in
set_option maxHeartbeats 4000000 in
theorem law_first {Γ : GG} (hL : gL Γ = 100) (hX : gX Γ = XS) : RunM Γ 0 600 13000 Y_L_law 0 [(7, 0), (5, 0), (5, 0), (5, 0), (5, 0), (5, 0), (5, 0), (5, 0), (5, 0), (5, 0), (5, 0), (5, 0), (5, 0), (5, 0), (5, 0), (5, 0), (5, 0), (5, 0), (5, 0), (5, 0), (5, 0), (5, 0), (5, 0), (5, 0), (5, 0), (5, 0), (5, 0)] [] 0 [] Dz := by
  refine m_new (n := 0) d_L_law_0 nk_RL_9_0 sh_0 (by decide) (by decide) (by decide +kernel) (fun _ => rfl) (by decide) ?_
  refine m_dup d_L_law_3 (by decide) ?_
  refine m_callI (a := 0) (z := 0) (as := []) (rest := [(8, 0)]) (ls' := [(8, 0), (5, 0), (5, 0)]) (n := 1) (n1 := 32) (M1 := [(0, 6), (20, 2), (20, 1), (26, 3), (26, 2), (26, 1), (26, 0), (20, 0), (21, 3), (21, 2), (21, 1), (21, 0), (0, 5), (15, 3), (15, 2), (15, 1), (15, 0), (0, 4), (13, 1), (13, 0), (13, 2), (0, 3), (12, 1), (12, 0), (0, 2), (11, 1), (11, 0), (0, 1), (0, 0), (7, 0), (7, 3), (7, 2), (7, 1), (2, 3), (2, 2), (2, 1), (2, 0), (0, 7)]) (Ψ := fun D' => D' = LE1) d_L_law_4 cki_RL_181 rfl rfl rfl (by decide) (Nat.le_of_ble_eq_true rfl) (by decide) rfl (by decide) (by decide) (by decide) (by decide +kernel) (ini_X7_0 (fun a _ _ => rfl) ⟨.inl 0, _, ckv_ok k1, Nat.le_refl _, rfl, rfl⟩) (fun D1 e => ?_)
  subst e
  refine m_ghost (D' := LE2) (fun a h => if_pos h) ?_
  refine m_astore_n d_L_law_7 (by decide) rfl (by decide) ?_
  refine m_bipush d_L_law_8 (by decide) ?_
  refine m_newJ (n := 32) (len := 60) d_L_law_10 sh_32 (by decide) (by decide) (by decide) (by decide +kernel) (fun _ => rfl) ?_
  refine m_astore_n d_L_law_12 (by decide) rfl (by decide) ?_
  refine m_bipush d_L_law_13 (by decide) ?_
  refine m_newJ (n := 33) (len := 60) d_L_law_15 sh_33 (by decide) (by decide) (by decide) (by decide +kernel) (fun _ => rfl) ?_
  refine m_astore_n d_L_law_17 (by decide) rfl (by decide) ?_
  refine m_bipush d_L_law_18 (by decide) ?_
  refine m_newJ (n := 34) (len := 60) d_L_law_20 sh_34 (by decide) (by decide) (by decide) (by decide +kernel) (fun _ => rfl) ?_
  refine m_astore d_L_law_22 (by decide) rfl (by decide) ?_
  refine m_bipush d_L_law_24 (by decide) ?_
  refine m_newJ (n := 35) (len := 40) d_L_law_26 sh_35 (by decide) (by decide) (by decide) (by decide +kernel) (fun _ => rfl) ?_
  refine m_astore d_L_law_28 (by decide) rfl (by decide) ?_
  refine m_bipush d_L_law_30 (by decide) ?_
  refine m_newJ (n := 36) (len := 40) d_L_law_32 sh_36 (by decide) (by decide) (by decide) (by decide +kernel) (fun _ => rfl) ?_
  refine m_astore d_L_law_34 (by decide) rfl (by decide) ?_
  refine m_bipush d_L_law_36 (by decide) ?_
  refine m_newJ (n := 37) (len := 40) d_L_law_38 sh_37 (by decide) (by decide) (by decide) (by decide +kernel) (fun _ => rfl) ?_
  refine m_astore d_L_law_40 (by decide) rfl (by decide) ?_
  refine m_bipush d_L_law_42 (by decide) ?_
  refine m_newI (n := 38) (len := 40) d_L_law_44 sh_38 (by decide) (by decide) (by decide) (by decide +kernel) (fun _ => rfl) ?_
  refine m_astore d_L_law_46 (by decide) rfl (by decide) ?_
  refine m_bipush d_L_law_48 (by decide) ?_
  refine m_newI (n := 39) (len := 40) d_L_law_50 sh_39 (by decide) (by decide) (by decide) (by decide +kernel) (fun _ => rfl) ?_
  refine m_astore d_L_law_52 (by decide) rfl (by decide) ?_
  refine m_bipush d_L_law_54 (by decide) ?_
  refine m_newI (n := 40) (len := 40) d_L_law_56 sh_40 (by decide) (by decide) (by decide) (by decide +kernel) (fun _ => rfl) ?_
  refine m_astore d_L_law_58 (by decide) rfl (by decide) ?_
  refine m_bipush d_L_law_60 (by decide) ?_
  refine m_newI (n := 41) (len := 13) d_L_law_62 sh_41 (by decide) (by decide) (by decide) (by decide +kernel) (fun _ => rfl) ?_
  refine m_astore d_L_law_64 (by decide) rfl (by decide) ?_
  refine m_iconst d_L_law_66 ?_
  refine m_newJ (n := 42) (len := 2) d_L_law_67 sh_42 (by decide) (by decide) (by decide) (by decide +kernel) (fun _ => rfl) ?_
  refine m_astore d_L_law_69 (by decide) rfl (by decide) ?_
  refine m_iconst d_L_law_71 ?_
  refine m_newJ (n := 43) (len := 4) d_L_law_72 sh_43 (by decide) (by decide) (by decide) (by decide +kernel) (fun _ => rfl) ?_
  refine m_astore d_L_law_74 (by decide) rfl (by decide) ?_
  refine m_bipush d_L_law_76 (by decide) ?_
  refine m_newI (n := 44) (len := 60) d_L_law_78 sh_44 (by decide) (by decide) (by decide) (by decide +kernel) (fun _ => rfl) ?_
  refine m_astore d_L_law_80 (by decide) rfl (by decide) ?_
  refine m_bipush d_L_law_82 (by decide) ?_
  refine m_newI (n := 45) (len := 60) d_L_law_84 sh_45 (by decide) (by decide) (by decide) (by decide +kernel) (fun _ => rfl) ?_
  refine m_astore d_L_law_86 (by decide) rfl (by decide) ?_
  refine m_run (κ := 500) (by decide +kernel) (by decide) (by decide) (by decide +kernel) ?_
  show RunQ Γ (fun a => Nat.blt a 46) 500 Y_L_law 88 [(7, 0), (8, 0), (40, 0), (41, 0), (42, 0), (43, 0), (44, 0), (45, 0), (46, 0), (47, 0), (48, 0), (49, 0), (50, 0), (51, 0), (52, 0), (53, 0), (5, 0), (5, 0), (5, 0), (5, 0), (5, 0), (5, 0), (5, 0), (5, 0), (5, 0), (5, 0), (5, 0)] [] LE3
  refine q_aload_n d_L_law_88 rfl (by decide) ?_
  refine q_iconst d_L_law_89 ?_
  refine q_iconst d_L_law_90 ?_
  refine q_iconst d_L_law_91 ?_
  refine q_iconst d_L_law_92 ?_
  refine q_iconst d_L_law_93 ?_
  refine q_callS (as := [(0, 0), (0, 0), (0, (-1)), (0, 0)]) (rest := [(0, 0), (40, 0)]) (ls' := [(0, 0), (0, 0), (0, (-1)), (0, 0)]) (κ1 := 0) (κ2 := 500) (Ψ := fun o D' => o = .inl (some (1, 1)) ∧ D' = LE3) d_L_law_94 ck_RL_157 rfl rfl rfl (Nat.le_of_ble_eq_true rfl) (Nat.le_of_ble_eq_true rfl) (by decide) rfl rfl rfl (run_pE_key (fun a h => h) _ _ _ _ (show 1 = (pE_key 0 0 (-1) 0) from (of_decide_eq_true k2).symm) ⟨rfl, rfl⟩) (fun v2 D2 hq => ?_) (fun n2 D2 hq => by cases hq.1)
  obtain ⟨e1, rfl⟩ := hq
  cases e1
  show RunQ Γ (fun a => Nat.blt a 46) 500 Y_L_law 97 [(7, 0), (8, 0), (40, 0), (41, 0), (42, 0), (43, 0), (44, 0), (45, 0), (46, 0), (47, 0), (48, 0), (49, 0), (50, 0), (51, 0), (52, 0), (53, 0), (5, 0), (5, 0), (5, 0), (5, 0), (5, 0), (5, 0), (5, 0), (5, 0), (5, 0), (5, 0), (5, 0)] [(1, 1), (0, 0), (40, 0)] LE3
  refine q_last d_L_law_97 sh_32 (by decide) (by decide) (by decide) (by decide) (by decide) ?_
  show RunQ Γ (fun a => Nat.blt a 46) 500 Y_L_law 98 [(7, 0), (8, 0), (40, 0), (41, 0), (42, 0), (43, 0), (44, 0), (45, 0), (46, 0), (47, 0), (48, 0), (49, 0), (50, 0), (51, 0), (52, 0), (53, 0), (5, 0), (5, 0), (5, 0), (5, 0), (5, 0), (5, 0), (5, 0), (5, 0), (5, 0), (5, 0), (5, 0)] [] LE4
  refine q_aload d_L_law_98 rfl (by decide) ?_
  refine q_iconst d_L_law_100 ?_
  refine q_aload_n d_L_law_101 rfl (by decide) ?_
  refine q_iconst d_L_law_102 ?_
  refine q_lald d_L_law_103 sh_32 (by decide) (by decide) (by decide) (by decide) (by decide) ?_
  rw [show LE4 32 (Int.toNat 0) = 1 from of_decide_eq_true k3]
  refine q_last d_L_law_104 sh_34 (by decide) (by decide) (by decide) (by decide) (by decide) ?_
  show RunQ Γ (fun a => Nat.blt a 46) 500 Y_L_law 105 [(7, 0), (8, 0), (40, 0), (41, 0), (42, 0), (43, 0), (44, 0), (45, 0), (46, 0), (47, 0), (48, 0), (49, 0), (50, 0), (51, 0), (52, 0), (53, 0), (5, 0), (5, 0), (5, 0), (5, 0), (5, 0), (5, 0), (5, 0), (5, 0), (5, 0), (5, 0), (5, 0)] [] LE5
  refine q_aload d_L_law_105 rfl (by decide) ?_
  refine q_iconst d_L_law_107 ?_
  refine q_iconst d_L_law_108 ?_
  refine q_iast d_L_law_109 sh_41 (by decide) (by decide) (by decide) (by decide) (by decide) ?_
  show RunQ Γ (fun a => Nat.blt a 46) 500 Y_L_law 110 [(7, 0), (8, 0), (40, 0), (41, 0), (42, 0), (43, 0), (44, 0), (45, 0), (46, 0), (47, 0), (48, 0), (49, 0), (50, 0), (51, 0), (52, 0), (53, 0), (5, 0), (5, 0), (5, 0), (5, 0), (5, 0), (5, 0), (5, 0), (5, 0), (5, 0), (5, 0), (5, 0)] [] LE6
  refine q_aload d_L_law_110 rfl (by decide) ?_
  refine q_iconst d_L_law_112 ?_
  refine q_iconst d_L_law_113 ?_
  refine q_iast d_L_law_114 sh_41 (by decide) (by decide) (by decide) (by decide) (by decide) ?_
  show RunQ Γ (fun a => Nat.blt a 46) 500 Y_L_law 115 [(7, 0), (8, 0), (40, 0), (41, 0), (42, 0), (43, 0), (44, 0), (45, 0), (46, 0), (47, 0), (48, 0), (49, 0), (50, 0), (51, 0), (52, 0), (53, 0), (5, 0), (5, 0), (5, 0), (5, 0), (5, 0), (5, 0), (5, 0), (5, 0), (5, 0), (5, 0), (5, 0)] [] LE7
  refine q_aload d_L_law_115 rfl (by decide) ?_
  refine q_bipush d_L_law_117 (by decide) ?_
  refine q_iconst d_L_law_119 ?_
  refine q_iast d_L_law_120 sh_41 (by decide) (by decide) (by decide) (by decide) (by decide) ?_
  show RunQ Γ (fun a => Nat.blt a 46) 500 Y_L_law 121 [(7, 0), (8, 0), (40, 0), (41, 0), (42, 0), (43, 0), (44, 0), (45, 0), (46, 0), (47, 0), (48, 0), (49, 0), (50, 0), (51, 0), (52, 0), (53, 0), (5, 0), (5, 0), (5, 0), (5, 0), (5, 0), (5, 0), (5, 0), (5, 0), (5, 0), (5, 0), (5, 0)] [] LE8
  refine q_aload d_L_law_121 rfl (by decide) ?_
  refine q_iconst d_L_law_123 ?_
  refine q_aload_n d_L_law_124 rfl (by decide) ?_
  refine q_aload d_L_law_125 rfl (by decide) ?_
  refine q_callS (as := [(8, 0), (49, 0)]) (rest := [(0, 1), (50, 0)]) (ls' := [(8, 0), (49, 0), (5, 0), (5, 0), (5, 0), (5, 0), (5, 0), (5, 0), (5, 0), (5, 0), (5, 0), (5, 0)]) (κ1 := (0 + 2)) (κ2 := 498) (Ψ := fun o D' => o = .inl (some (1, 244152)) ∧ D' = LE9) d_L_law_127 ck_RL_125 rfl rfl rfl (Nat.le_of_ble_eq_true rfl) (Nat.le_of_ble_eq_true rfl) (by decide) rfl rfl rfl (run_pE_file (κ := 0) (fun a h => h) ⟨.inl 244152, _, ckv_ok k4, Nat.zero_le _, rfl, rfl⟩) (fun v2 D2 hq => ?_) (fun n2 D2 hq => by cases hq.1)
  obtain ⟨e1, rfl⟩ := hq
  cases e1
  show RunQ Γ (fun a => Nat.blt a 46) 498 Y_L_law 130 [(7, 0), (8, 0), (40, 0), (41, 0), (42, 0), (43, 0), (44, 0), (45, 0), (46, 0), (47, 0), (48, 0), (49, 0), (50, 0), (51, 0), (52, 0), (53, 0), (5, 0), (5, 0), (5, 0), (5, 0), (5, 0), (5, 0), (5, 0), (5, 0), (5, 0), (5, 0), (5, 0)] [(1, 244152), (0, 1), (50, 0)] LE9
  refine q_last d_L_law_130 sh_42 (by decide) (by decide) (by decide) (by decide) (by decide) ?_
  show RunQ Γ (fun a => Nat.blt a 46) 498 Y_L_law 131 [(7, 0), (8, 0), (40, 0), (41, 0), (42, 0), (43, 0), (44, 0), (45, 0), (46, 0), (47, 0), (48, 0), (49, 0), (50, 0), (51, 0), (52, 0), (53, 0), (5, 0), (5, 0), (5, 0), (5, 0), (5, 0), (5, 0), (5, 0), (5, 0), (5, 0), (5, 0), (5, 0)] [] LE10
  refine q_aload d_L_law_131 rfl (by decide) ?_
  refine q_bipush d_L_law_133 (by decide) ?_
  refine q_iald d_L_law_135 sh_41 (by decide) (by decide) (by decide) (by decide) (by decide) ?_
  rw [show LE10 41 (Int.toNat 12) = 1 from of_decide_eq_true k5]
  refine q_iconst d_L_law_136 ?_
  refine q_icmp_ne (tgt := 177) d_L_law_137 (by decide) ⟨by decide, by decide⟩ ⟨by decide, by decide⟩ (fun g => absurd g (by decide)) (fun _ => ?_)
  show RunQ Γ (fun a => Nat.blt a 46) 498 Y_L_law 140 [(7, 0), (8, 0), (40, 0), (41, 0), (42, 0), (43, 0), (44, 0), (45, 0), (46, 0), (47, 0), (48, 0), (49, 0), (50, 0), (51, 0), (52, 0), (53, 0), (5, 0), (5, 0), (5, 0), (5, 0), (5, 0), (5, 0), (5, 0), (5, 0), (5, 0), (5, 0), (5, 0)] [] LE10
  refine q_aload_n d_L_law_140 rfl (by decide) ?_
  refine q_aload_n d_L_law_141 rfl (by decide) ?_
  refine q_aload d_L_law_142 rfl (by decide) ?_
  refine q_aload d_L_law_144 rfl (by decide) ?_
  refine q_aload d_L_law_146 rfl (by decide) ?_
  refine q_aload d_L_law_148 rfl (by decide) ?_
  refine q_callS (as := [(8, 0), (40, 0), (43, 0), (46, 0), (49, 0), (51, 0)]) (rest := []) (ls' := [(8, 0), (40, 0), (43, 0), (46, 0), (49, 0), (51, 0), (5, 0), (5, 0), (5, 0), (5, 0), (5, 0), (5, 0), (5, 0), (5, 0), (5, 0), (5, 0), (5, 0)]) (κ1 := (0 + 196)) (κ2 := 302) (Ψ := fun o D' => o = .inl (some (0, 1)) ∧ D' = LE11) d_L_law_150 ck_RL_182 rfl rfl rfl (Nat.le_of_ble_eq_true rfl) (Nat.le_of_ble_eq_true rfl) (by decide) rfl rfl rfl (run_pE_isTree (κ := 0) (fun a h => h) ⟨.inl 1, _, ckv_ok k6, Nat.zero_le _, rfl, rfl⟩) (fun v2 D2 hq => ?_) (fun n2 D2 hq => by cases hq.1)
  obtain ⟨e1, rfl⟩ := hq
  cases e1
  show RunQ Γ (fun a => Nat.blt a 46) 302 Y_L_law 153 [(7, 0), (8, 0), (40, 0), (41, 0), (42, 0), (43, 0), (44, 0), (45, 0), (46, 0), (47, 0), (48, 0), (49, 0), (50, 0), (51, 0), (52, 0), (53, 0), (5, 0), (5, 0), (5, 0), (5, 0), (5, 0), (5, 0), (5, 0), (5, 0), (5, 0), (5, 0), (5, 0)] [(0, 1)] LE11
  refine q_if_eq (tgt := 177) d_L_law_153 (by decide) ⟨by decide, by decide⟩ (fun g => absurd g (by decide)) (fun _ => ?_)
  show RunQ Γ (fun a => Nat.blt a 46) 302 Y_L_law 156 [(7, 0), (8, 0), (40, 0), (41, 0), (42, 0), (43, 0), (44, 0), (45, 0), (46, 0), (47, 0), (48, 0), (49, 0), (50, 0), (51, 0), (52, 0), (53, 0), (5, 0), (5, 0), (5, 0), (5, 0), (5, 0), (5, 0), (5, 0), (5, 0), (5, 0), (5, 0), (5, 0)] [] LE11
  refine q_aload_n d_L_law_156 rfl (by decide) ?_
  refine q_callV (a := 0) (z := 0) (as := []) (rest := []) (ls' := [(8, 0)]) (κ1 := 0) (κ2 := 302) (Ψ := fun o D' => o = .inl (some (1, 0)) ∧ D' = LE11) d_L_law_157 ck_RL_145 rfl sh_0 rfl (by decide) (by decide) rfl rfl (Nat.le_of_ble_eq_true rfl) (Nat.le_of_ble_eq_true rfl) (by decide) rfl rfl rfl (run_pH_dirty (cov20 (fun a h => h)) (show 0 = (pH_dirty LE11) from (of_decide_eq_true k7).symm) ⟨rfl, rfl⟩) (fun v2 D2 hq => ?_) (fun n2 D2 hq => by cases hq.1)
  obtain ⟨e1, rfl⟩ := hq
  cases e1
  show RunQ Γ (fun a => Nat.blt a 46) 302 Y_L_law 160 [(7, 0), (8, 0), (40, 0), (41, 0), (42, 0), (43, 0), (44, 0), (45, 0), (46, 0), (47, 0), (48, 0), (49, 0), (50, 0), (51, 0), (52, 0), (53, 0), (5, 0), (5, 0), (5, 0), (5, 0), (5, 0), (5, 0), (5, 0), (5, 0), (5, 0), (5, 0), (5, 0)] [(1, 0)] LE11
  refine q_lconst (n := 0) d_L_law_160 ?_
  show RunQ _ _ _ _ _ _ ((1, 0) :: [(1, 0)]) _
  refine q_lcmp d_L_law_161 ⟨by decide, by decide⟩ ⟨by decide, by decide⟩ ?_
  show RunQ Γ (fun a => Nat.blt a 46) 302 Y_L_law 162 [(7, 0), (8, 0), (40, 0), (41, 0), (42, 0), (43, 0), (44, 0), (45, 0), (46, 0), (47, 0), (48, 0), (49, 0), (50, 0), (51, 0), (52, 0), (53, 0), (5, 0), (5, 0), (5, 0), (5, 0), (5, 0), (5, 0), (5, 0), (5, 0), (5, 0), (5, 0), (5, 0)] [(0, 0)] LE11
  refine q_if_ne (tgt := 177) d_L_law_162 (by decide) ⟨by decide, by decide⟩ (fun g => absurd g (by decide)) (fun _ => ?_)
  show RunQ Γ (fun a => Nat.blt a 46) 302 Y_L_law 165 [(7, 0), (8, 0), (40, 0), (41, 0), (42, 0), (43, 0), (44, 0), (45, 0), (46, 0), (47, 0), (48, 0), (49, 0), (50, 0), (51, 0), (52, 0), (53, 0), (5, 0), (5, 0), (5, 0), (5, 0), (5, 0), (5, 0), (5, 0), (5, 0), (5, 0), (5, 0), (5, 0)] [] LE11
  refine q_aload_n d_L_law_165 rfl (by decide) ?_
  refine q_callV (a := 0) (z := 0) (as := []) (rest := []) (ls' := [(8, 0), (5, 0)]) (κ1 := 0) (κ2 := 302) (Ψ := fun o D' => o = .inl (some (0, (-1))) ∧ D' = LE12) d_L_law_166 ck_RL_186 rfl sh_0 rfl (by decide) (by decide) rfl rfl (Nat.le_of_ble_eq_true rfl) (Nat.le_of_ble_eq_true rfl) (by decide) rfl rfl rfl (run_pH_takeNotice (cov20 (fun a h => h)) ⟨.inl (-1), _, ckv_ok k8, Nat.zero_le _, rfl, rfl⟩) (fun v2 D2 hq => ?_) (fun n2 D2 hq => by cases hq.1)
  obtain ⟨e1, rfl⟩ := hq
  cases e1
  show RunQ Γ (fun a => Nat.blt a 46) 302 Y_L_law 169 [(7, 0), (8, 0), (40, 0), (41, 0), (42, 0), (43, 0), (44, 0), (45, 0), (46, 0), (47, 0), (48, 0), (49, 0), (50, 0), (51, 0), (52, 0), (53, 0), (5, 0), (5, 0), (5, 0), (5, 0), (5, 0), (5, 0), (5, 0), (5, 0), (5, 0), (5, 0), (5, 0)] [(0, (-1))] LE12
  refine q_iconst d_L_law_169 ?_
  refine q_icmp_ne (tgt := 177) d_L_law_170 (by decide) ⟨by decide, by decide⟩ ⟨by decide, by decide⟩ (fun g => absurd g (by decide)) (fun _ => ?_)
  show RunQ Γ (fun a => Nat.blt a 46) 302 Y_L_law 173 [(7, 0), (8, 0), (40, 0), (41, 0), (42, 0), (43, 0), (44, 0), (45, 0), (46, 0), (47, 0), (48, 0), (49, 0), (50, 0), (51, 0), (52, 0), (53, 0), (5, 0), (5, 0), (5, 0), (5, 0), (5, 0), (5, 0), (5, 0), (5, 0), (5, 0), (5, 0), (5, 0)] [] LE12
  refine q_iconst d_L_law_173 ?_
  refine q_goto (tgt := 178) d_L_law_174 (by decide) ?_
  refine q_istore d_L_law_178 (by decide) rfl ?_
  show RunQ Γ (fun a => Nat.blt a 46) 302 Y_L_law 180 [(7, 0), (8, 0), (40, 0), (41, 0), (42, 0), (43, 0), (44, 0), (45, 0), (46, 0), (47, 0), (48, 0), (49, 0), (50, 0), (51, 0), (52, 0), (53, 0), (0, 1), (5, 0), (5, 0), (5, 0), (5, 0), (5, 0), (5, 0), (5, 0), (5, 0), (5, 0), (5, 0)] [] LE12
  refine q_iconst d_L_law_180 ?_
  refine q_istore d_L_law_181 (by decide) rfl ?_
  show RunQ Γ (fun a => Nat.blt a 46) 302 Y_L_law 183 [(7, 0), (8, 0), (40, 0), (41, 0), (42, 0), (43, 0), (44, 0), (45, 0), (46, 0), (47, 0), (48, 0), (49, 0), (50, 0), (51, 0), (52, 0), (53, 0), (0, 1), (0, 0), (5, 0), (5, 0), (5, 0), (5, 0), (5, 0), (5, 0), (5, 0), (5, 0), (5, 0)] [] LE12
  refine q_iload d_L_law_183 rfl ?_
  refine q_bipush d_L_law_185 (by decide) ?_
  refine q_icmp_ge (tgt := 1496) d_L_law_187 (by decide) ⟨by decide, by decide⟩ ⟨by decide, by decide⟩ (fun g => absurd g (by decide)) (fun _ => ?_)
  show RunQ Γ (fun a => Nat.blt a 46) 302 Y_L_law 190 [(7, 0), (8, 0), (40, 0), (41, 0), (42, 0), (43, 0), (44, 0), (45, 0), (46, 0), (47, 0), (48, 0), (49, 0), (50, 0), (51, 0), (52, 0), (53, 0), (0, 1), (0, 0), (5, 0), (5, 0), (5, 0), (5, 0), (5, 0), (5, 0), (5, 0), (5, 0), (5, 0)] [] LE12
  refine q_iload d_L_law_190 rfl ?_
  refine q_if_eq (tgt := 1496) d_L_law_192 (by decide) ⟨by decide, by decide⟩ (fun g => absurd g (by decide)) (fun _ => ?_)
  show RunQ Γ (fun a => Nat.blt a 46) 302 Y_L_law 195 [(7, 0), (8, 0), (40, 0), (41, 0), (42, 0), (43, 0), (44, 0), (45, 0), (46, 0), (47, 0), (48, 0), (49, 0), (50, 0), (51, 0), (52, 0), (53, 0), (0, 1), (0, 0), (5, 0), (5, 0), (5, 0), (5, 0), (5, 0), (5, 0), (5, 0), (5, 0), (5, 0)] [] LE12
  refine q_aload_n d_L_law_195 rfl (by decide) ?_
  refine q_iconst d_L_law_196 ?_
  refine q_iload d_L_law_197 rfl ?_
  refine q_imul d_L_law_199 ?_
  show RunQ Γ (fun a => Nat.blt a 46) 302 Y_L_law 200 [(7, 0), (8, 0), (40, 0), (41, 0), (42, 0), (43, 0), (44, 0), (45, 0), (46, 0), (47, 0), (48, 0), (49, 0), (50, 0), (51, 0), (52, 0), (53, 0), (0, 1), (0, 0), (5, 0), (5, 0), (5, 0), (5, 0), (5, 0), (5, 0), (5, 0), (5, 0), (5, 0)] [(0, 0), (7, 0)] LE12
  refine q_bipush d_L_law_200 (by decide) ?_
  refine q_callS (as := [(7, 0), (0, 0), (0, 40)]) (rest := []) (ls' := [(7, 0), (0, 0), (0, 40), (5, 0)]) (κ1 := 0) (κ2 := 302) (Ψ := fun o D' => o = .inl (some (0, 39)) ∧ D' = LE13) d_L_law_202 ck_RL_189 rfl rfl rfl (Nat.le_of_ble_eq_true rfl) (Nat.le_of_ble_eq_true rfl) (by decide) rfl rfl rfl (run_pE_part (fun a h => h) (by rw [hL]; decide) _ _ (by rw [hX, hL]; exact ⟨.inl 39, _, ckv_ok k9, Nat.zero_le _, rfl, rfl⟩)) (fun v2 D2 hq => ?_) (fun n2 D2 hq => by cases hq.1)
  obtain ⟨e1, rfl⟩ := hq
  cases e1
  show RunQ Γ (fun a => Nat.blt a 46) 302 Y_L_law 205 [(7, 0), (8, 0), (40, 0), (41, 0), (42, 0), (43, 0), (44, 0), (45, 0), (46, 0), (47, 0), (48, 0), (49, 0), (50, 0), (51, 0), (52, 0), (53, 0), (0, 1), (0, 0), (5, 0), (5, 0), (5, 0), (5, 0), (5, 0), (5, 0), (5, 0), (5, 0), (5, 0)] [(0, 39)] LE13
  refine q_istore d_L_law_205 (by decide) rfl ?_
  show RunQ Γ (fun a => Nat.blt a 46) 302 Y_L_law 207 [(7, 0), (8, 0), (40, 0), (41, 0), (42, 0), (43, 0), (44, 0), (45, 0), (46, 0), (47, 0), (48, 0), (49, 0), (50, 0), (51, 0), (52, 0), (53, 0), (0, 1), (0, 0), (0, 39), (5, 0), (5, 0), (5, 0), (5, 0), (5, 0), (5, 0), (5, 0), (5, 0)] [] LE13
  refine q_aload_n d_L_law_207 rfl (by decide) ?_
  refine q_iconst d_L_law_208 ?_
  refine q_iload d_L_law_209 rfl ?_
  refine q_imul d_L_law_211 ?_
  show RunQ Γ (fun a => Nat.blt a 46) 302 Y_L_law 212 [(7, 0), (8, 0), (40, 0), (41, 0), (42, 0), (43, 0), (44, 0), (45, 0), (46, 0), (47, 0), (48, 0), (49, 0), (50, 0), (51, 0), (52, 0), (53, 0), (0, 1), (0, 0), (0, 39), (5, 0), (5, 0), (5, 0), (5, 0), (5, 0), (5, 0), (5, 0), (5, 0)] [(0, 0), (7, 0)] LE13
  refine q_iconst d_L_law_212 ?_
  refine q_iadd d_L_law_213 ?_
  show RunQ Γ (fun a => Nat.blt a 46) 302 Y_L_law 214 [(7, 0), (8, 0), (40, 0), (41, 0), (42, 0), (43, 0), (44, 0), (45, 0), (46, 0), (47, 0), (48, 0), (49, 0), (50, 0), (51, 0), (52, 0), (53, 0), (0, 1), (0, 0), (0, 39), (5, 0), (5, 0), (5, 0), (5, 0), (5, 0), (5, 0), (5, 0), (5, 0)] [(0, 1), (7, 0)] LE13
  refine q_sipush d_L_law_214 (by decide) ?_
  refine q_callS (as := [(7, 0), (0, 1), (0, 6000)]) (rest := []) (ls' := [(7, 0), (0, 1), (0, 6000), (5, 0)]) (κ1 := 0) (κ2 := 302) (Ψ := fun o D' => o = .inl (some (0, 5636)) ∧ D' = LE14) d_L_law_217 ck_RL_189 rfl rfl rfl (Nat.le_of_ble_eq_true rfl) (Nat.le_of_ble_eq_true rfl) (by decide) rfl rfl rfl (run_pE_part (fun a h => h) (by rw [hL]; decide) _ _ (by rw [hX, hL]; exact ⟨.inl 5636, _, ckv_ok k10, Nat.zero_le _, rfl, rfl⟩)) (fun v2 D2 hq => ?_) (fun n2 D2 hq => by cases hq.1)
  obtain ⟨e1, rfl⟩ := hq
  cases e1
  show RunQ Γ (fun a => Nat.blt a 46) 302 Y_L_law 220 [(7, 0), (8, 0), (40, 0), (41, 0), (42, 0), (43, 0), (44, 0), (45, 0), (46, 0), (47, 0), (48, 0), (49, 0), (50, 0), (51, 0), (52, 0), (53, 0), (0, 1), (0, 0), (0, 39), (5, 0), (5, 0), (5, 0), (5, 0), (5, 0), (5, 0), (5, 0), (5, 0)] [(0, 5636)] LE14
  refine q_istore d_L_law_220 (by decide) rfl ?_
  show RunQ Γ (fun a => Nat.blt a 46) 302 Y_L_law 222 [(7, 0), (8, 0), (40, 0), (41, 0), (42, 0), (43, 0), (44, 0), (45, 0), (46, 0), (47, 0), (48, 0), (49, 0), (50, 0), (51, 0), (52, 0), (53, 0), (0, 1), (0, 0), (0, 39), (0, 5636), (5, 0), (5, 0), (5, 0), (5, 0), (5, 0), (5, 0), (5, 0)] [] LE14
  refine q_aload_n d_L_law_222 rfl (by decide) ?_
  refine q_iconst d_L_law_223 ?_
  refine q_iload d_L_law_224 rfl ?_
  refine q_imul d_L_law_226 ?_
  show RunQ Γ (fun a => Nat.blt a 46) 302 Y_L_law 227 [(7, 0), (8, 0), (40, 0), (41, 0), (42, 0), (43, 0), (44, 0), (45, 0), (46, 0), (47, 0), (48, 0), (49, 0), (50, 0), (51, 0), (52, 0), (53, 0), (0, 1), (0, 0), (0, 39), (0, 5636), (5, 0), (5, 0), (5, 0), (5, 0), (5, 0), (5, 0), (5, 0)] [(0, 0), (7, 0)] LE14
  refine q_iconst d_L_law_227 ?_
  refine q_iadd d_L_law_228 ?_
  show RunQ Γ (fun a => Nat.blt a 46) 302 Y_L_law 229 [(7, 0), (8, 0), (40, 0), (41, 0), (42, 0), (43, 0), (44, 0), (45, 0), (46, 0), (47, 0), (48, 0), (49, 0), (50, 0), (51, 0), (52, 0), (53, 0), (0, 1), (0, 0), (0, 39), (0, 5636), (5, 0), (5, 0), (5, 0), (5, 0), (5, 0), (5, 0), (5, 0)] [(0, 2), (7, 0)] LE14
  refine q_sipush d_L_law_229 (by decide) ?_
  refine q_callS (as := [(7, 0), (0, 2), (0, 7000)]) (rest := []) (ls' := [(7, 0), (0, 2), (0, 7000), (5, 0)]) (κ1 := 0) (κ2 := 302) (Ψ := fun o D' => o = .inl (some (0, 25)) ∧ D' = LE15) d_L_law_232 ck_RL_189 rfl rfl rfl (Nat.le_of_ble_eq_true rfl) (Nat.le_of_ble_eq_true rfl) (by decide) rfl rfl rfl (run_pE_part (fun a h => h) (by rw [hL]; decide) _ _ (by rw [hX, hL]; exact ⟨.inl 25, _, ckv_ok k11, Nat.zero_le _, rfl, rfl⟩)) (fun v2 D2 hq => ?_) (fun n2 D2 hq => by cases hq.1)
  obtain ⟨e1, rfl⟩ := hq
  cases e1
  show RunQ Γ (fun a => Nat.blt a 46) 302 Y_L_law 235 [(7, 0), (8, 0), (40, 0), (41, 0), (42, 0), (43, 0), (44, 0), (45, 0), (46, 0), (47, 0), (48, 0), (49, 0), (50, 0), (51, 0), (52, 0), (53, 0), (0, 1), (0, 0), (0, 39), (0, 5636), (5, 0), (5, 0), (5, 0), (5, 0), (5, 0), (5, 0), (5, 0)] [(0, 25)] LE15
  refine q_istore d_L_law_235 (by decide) rfl ?_
  show RunQ Γ (fun a => Nat.blt a 46) 302 Y_L_law 237 [(7, 0), (8, 0), (40, 0), (41, 0), (42, 0), (43, 0), (44, 0), (45, 0), (46, 0), (47, 0), (48, 0), (49, 0), (50, 0), (51, 0), (52, 0), (53, 0), (0, 1), (0, 0), (0, 39), (0, 5636), (0, 25), (5, 0), (5, 0), (5, 0), (5, 0), (5, 0), (5, 0)] [] LE15
  refine q_aload_n d_L_law_237 rfl (by decide) ?_
  refine q_iconst d_L_law_238 ?_
  refine q_iload d_L_law_239 rfl ?_
  refine q_imul d_L_law_241 ?_
  show RunQ Γ (fun a => Nat.blt a 46) 302 Y_L_law 242 [(7, 0), (8, 0), (40, 0), (41, 0), (42, 0), (43, 0), (44, 0), (45, 0), (46, 0), (47, 0), (48, 0), (49, 0), (50, 0), (51, 0), (52, 0), (53, 0), (0, 1), (0, 0), (0, 39), (0, 5636), (0, 25), (5, 0), (5, 0), (5, 0), (5, 0), (5, 0), (5, 0)] [(0, 0), (7, 0)] LE15
  refine q_iconst d_L_law_242 ?_
  refine q_iadd d_L_law_243 ?_
  show RunQ Γ (fun a => Nat.blt a 46) 302 Y_L_law 244 [(7, 0), (8, 0), (40, 0), (41, 0), (42, 0), (43, 0), (44, 0), (45, 0), (46, 0), (47, 0), (48, 0), (49, 0), (50, 0), (51, 0), (52, 0), (53, 0), (0, 1), (0, 0), (0, 39), (0, 5636), (0, 25), (5, 0), (5, 0), (5, 0), (5, 0), (5, 0), (5, 0)] [(0, 3), (7, 0)] LE15
  refine q_sipush d_L_law_244 (by decide) ?_
  refine q_callS (as := [(7, 0), (0, 3), (0, 8000)]) (rest := []) (ls' := [(7, 0), (0, 3), (0, 8000), (5, 0)]) (κ1 := 0) (κ2 := 302) (Ψ := fun o D' => o = .inl (some (0, 62)) ∧ D' = LE16) d_L_law_247 ck_RL_189 rfl rfl rfl (Nat.le_of_ble_eq_true rfl) (Nat.le_of_ble_eq_true rfl) (by decide) rfl rfl rfl (run_pE_part (fun a h => h) (by rw [hL]; decide) _ _ (by rw [hX, hL]; exact ⟨.inl 62, _, ckv_ok k12, Nat.zero_le _, rfl, rfl⟩)) (fun v2 D2 hq => ?_) (fun n2 D2 hq => by cases hq.1)
  obtain ⟨e1, rfl⟩ := hq
  cases e1
  show RunQ Γ (fun a => Nat.blt a 46) 302 Y_L_law 250 [(7, 0), (8, 0), (40, 0), (41, 0), (42, 0), (43, 0), (44, 0), (45, 0), (46, 0), (47, 0), (48, 0), (49, 0), (50, 0), (51, 0), (52, 0), (53, 0), (0, 1), (0, 0), (0, 39), (0, 5636), (0, 25), (5, 0), (5, 0), (5, 0), (5, 0), (5, 0), (5, 0)] [(0, 62)] LE16
  refine q_istore d_L_law_250 (by decide) rfl ?_
  show RunQ Γ (fun a => Nat.blt a 46) 302 Y_L_law 252 [(7, 0), (8, 0), (40, 0), (41, 0), (42, 0), (43, 0), (44, 0), (45, 0), (46, 0), (47, 0), (48, 0), (49, 0), (50, 0), (51, 0), (52, 0), (53, 0), (0, 1), (0, 0), (0, 39), (0, 5636), (0, 25), (0, 62), (5, 0), (5, 0), (5, 0), (5, 0), (5, 0)] [] LE16
  refine q_iload d_L_law_252 rfl ?_
  refine q_bipush d_L_law_254 (by decide) ?_
  refine q_irem d_L_law_256 ⟨by decide, by decide⟩ ⟨by decide, by decide⟩ (by decide) ?_
  show RunQ Γ (fun a => Nat.blt a 46) 302 Y_L_law 257 [(7, 0), (8, 0), (40, 0), (41, 0), (42, 0), (43, 0), (44, 0), (45, 0), (46, 0), (47, 0), (48, 0), (49, 0), (50, 0), (51, 0), (52, 0), (53, 0), (0, 1), (0, 0), (0, 39), (0, 5636), (0, 25), (0, 62), (5, 0), (5, 0), (5, 0), (5, 0), (5, 0)] [(0, 16)] LE16
  refine q_if_ne (tgt := 265) d_L_law_257 (by decide) ⟨by decide, by decide⟩ (fun _ => ?_) (fun g => absurd g (by decide))
  show RunQ Γ (fun a => Nat.blt a 46) 302 Y_L_law 265 [(7, 0), (8, 0), (40, 0), (41, 0), (42, 0), (43, 0), (44, 0), (45, 0), (46, 0), (47, 0), (48, 0), (49, 0), (50, 0), (51, 0), (52, 0), (53, 0), (0, 1), (0, 0), (0, 39), (0, 5636), (0, 25), (0, 62), (5, 0), (5, 0), (5, 0), (5, 0), (5, 0)] [] LE16
  refine q_iload d_L_law_265 rfl ?_
  refine q_bipush d_L_law_267 (by decide) ?_
  refine q_irem d_L_law_269 ⟨by decide, by decide⟩ ⟨by decide, by decide⟩ (by decide) ?_
  show RunQ Γ (fun a => Nat.blt a 46) 302 Y_L_law 270 [(7, 0), (8, 0), (40, 0), (41, 0), (42, 0), (43, 0), (44, 0), (45, 0), (46, 0), (47, 0), (48, 0), (49, 0), (50, 0), (51, 0), (52, 0), (53, 0), (0, 1), (0, 0), (0, 39), (0, 5636), (0, 25), (0, 62), (5, 0), (5, 0), (5, 0), (5, 0), (5, 0)] [(0, 1)] LE16
  refine q_if_ne (tgt := 277) d_L_law_270 (by decide) ⟨by decide, by decide⟩ (fun _ => ?_) (fun g => absurd g (by decide))
  show RunQ Γ (fun a => Nat.blt a 46) 302 Y_L_law 277 [(7, 0), (8, 0), (40, 0), (41, 0), (42, 0), (43, 0), (44, 0), (45, 0), (46, 0), (47, 0), (48, 0), (49, 0), (50, 0), (51, 0), (52, 0), (53, 0), (0, 1), (0, 0), (0, 39), (0, 5636), (0, 25), (0, 62), (5, 0), (5, 0), (5, 0), (5, 0), (5, 0)] [] LE16
  refine q_iload d_L_law_277 rfl ?_
  refine q_aload d_L_law_279 rfl (by decide) ?_
  refine q_iconst d_L_law_281 ?_
  refine q_iald d_L_law_282 sh_41 (by decide) (by decide) (by decide) (by decide) (by decide) ?_
  rw [show LE16 41 (Int.toNat 0) = 1 from of_decide_eq_true k13]
  refine q_irem d_L_law_283 ⟨by decide, by decide⟩ ⟨by decide, by decide⟩ (by decide) ?_
  show RunQ Γ (fun a => Nat.blt a 46) 302 Y_L_law 284 [(7, 0), (8, 0), (40, 0), (41, 0), (42, 0), (43, 0), (44, 0), (45, 0), (46, 0), (47, 0), (48, 0), (49, 0), (50, 0), (51, 0), (52, 0), (53, 0), (0, 1), (0, 0), (0, 39), (0, 5636), (0, 25), (0, 62), (5, 0), (5, 0), (5, 0), (5, 0), (5, 0)] [(0, 0)] LE16
  refine q_istore d_L_law_284 (by decide) rfl ?_
  show RunQ Γ (fun a => Nat.blt a 46) 302 Y_L_law 286 [(7, 0), (8, 0), (40, 0), (41, 0), (42, 0), (43, 0), (44, 0), (45, 0), (46, 0), (47, 0), (48, 0), (49, 0), (50, 0), (51, 0), (52, 0), (53, 0), (0, 1), (0, 0), (0, 39), (0, 5636), (0, 25), (0, 62), (0, 0), (5, 0), (5, 0), (5, 0), (5, 0)] [] LE16
  refine q_iload d_L_law_286 rfl ?_
  refine q_bipush d_L_law_288 (by decide) ?_
  refine q_irem d_L_law_290 ⟨by decide, by decide⟩ ⟨by decide, by decide⟩ (by decide) ?_
  show RunQ Γ (fun a => Nat.blt a 46) 302 Y_L_law 291 [(7, 0), (8, 0), (40, 0), (41, 0), (42, 0), (43, 0), (44, 0), (45, 0), (46, 0), (47, 0), (48, 0), (49, 0), (50, 0), (51, 0), (52, 0), (53, 0), (0, 1), (0, 0), (0, 39), (0, 5636), (0, 25), (0, 62), (0, 0), (5, 0), (5, 0), (5, 0), (5, 0)] [(0, 2)] LE16
  refine q_if_ne (tgt := 300) d_L_law_291 (by decide) ⟨by decide, by decide⟩ (fun _ => ?_) (fun g => absurd g (by decide))
  show RunQ Γ (fun a => Nat.blt a 46) 302 Y_L_law 300 [(7, 0), (8, 0), (40, 0), (41, 0), (42, 0), (43, 0), (44, 0), (45, 0), (46, 0), (47, 0), (48, 0), (49, 0), (50, 0), (51, 0), (52, 0), (53, 0), (0, 1), (0, 0), (0, 39), (0, 5636), (0, 25), (0, 62), (0, 0), (5, 0), (5, 0), (5, 0), (5, 0)] [] LE16
  refine q_iload d_L_law_300 rfl ?_
  refine q_bipush d_L_law_302 (by decide) ?_
  refine q_irem d_L_law_304 ⟨by decide, by decide⟩ ⟨by decide, by decide⟩ (by decide) ?_
  show RunQ Γ (fun a => Nat.blt a 46) 302 Y_L_law 305 [(7, 0), (8, 0), (40, 0), (41, 0), (42, 0), (43, 0), (44, 0), (45, 0), (46, 0), (47, 0), (48, 0), (49, 0), (50, 0), (51, 0), (52, 0), (53, 0), (0, 1), (0, 0), (0, 39), (0, 5636), (0, 25), (0, 62), (0, 0), (5, 0), (5, 0), (5, 0), (5, 0)] [(0, 22)] LE16
  refine q_istore d_L_law_305 (by decide) rfl ?_
  show RunQ Γ (fun a => Nat.blt a 46) 302 Y_L_law 307 [(7, 0), (8, 0), (40, 0), (41, 0), (42, 0), (43, 0), (44, 0), (45, 0), (46, 0), (47, 0), (48, 0), (49, 0), (50, 0), (51, 0), (52, 0), (53, 0), (0, 1), (0, 0), (0, 39), (0, 5636), (0, 25), (0, 62), (0, 0), (0, 22), (5, 0), (5, 0), (5, 0)] [] LE16
  refine q_iload d_L_law_307 rfl ?_
  refine q_bipush d_L_law_309 (by decide) ?_
  refine q_icmp_ge (tgt := 350) d_L_law_311 (by decide) ⟨by decide, by decide⟩ ⟨by decide, by decide⟩ (fun _ => ?_) (fun g => absurd g (by decide))
  show RunQ Γ (fun a => Nat.blt a 46) 302 Y_L_law 350 [(7, 0), (8, 0), (40, 0), (41, 0), (42, 0), (43, 0), (44, 0), (45, 0), (46, 0), (47, 0), (48, 0), (49, 0), (50, 0), (51, 0), (52, 0), (53, 0), (0, 1), (0, 0), (0, 39), (0, 5636), (0, 25), (0, 62), (0, 0), (0, 22), (5, 0), (5, 0), (5, 0)] [] LE16
  refine q_iload d_L_law_350 rfl ?_
  refine q_bipush d_L_law_352 (by decide) ?_
  refine q_icmp_ge (tgt := 377) d_L_law_354 (by decide) ⟨by decide, by decide⟩ ⟨by decide, by decide⟩ (fun _ => ?_) (fun g => absurd g (by decide))
  show RunQ Γ (fun a => Nat.blt a 46) 302 Y_L_law 377 [(7, 0), (8, 0), (40, 0), (41, 0), (42, 0), (43, 0), (44, 0), (45, 0), (46, 0), (47, 0), (48, 0), (49, 0), (50, 0), (51, 0), (52, 0), (53, 0), (0, 1), (0, 0), (0, 39), (0, 5636), (0, 25), (0, 62), (0, 0), (0, 22), (5, 0), (5, 0), (5, 0)] [] LE16
  refine q_iload d_L_law_377 rfl ?_
  refine q_bipush d_L_law_379 (by decide) ?_
  refine q_icmp_ge (tgt := 408) d_L_law_381 (by decide) ⟨by decide, by decide⟩ ⟨by decide, by decide⟩ (fun _ => ?_) (fun g => absurd g (by decide))
  show RunQ Γ (fun a => Nat.blt a 46) 302 Y_L_law 408 [(7, 0), (8, 0), (40, 0), (41, 0), (42, 0), (43, 0), (44, 0), (45, 0), (46, 0), (47, 0), (48, 0), (49, 0), (50, 0), (51, 0), (52, 0), (53, 0), (0, 1), (0, 0), (0, 39), (0, 5636), (0, 25), (0, 62), (0, 0), (0, 22), (5, 0), (5, 0), (5, 0)] [] LE16
  refine q_iload d_L_law_408 rfl ?_
  refine q_bipush d_L_law_410 (by decide) ?_
  refine q_icmp_ge (tgt := 568) d_L_law_412 (by decide) ⟨by decide, by decide⟩ ⟨by decide, by decide⟩ (fun _ => ?_) (fun g => absurd g (by decide))
  show RunQ Γ (fun a => Nat.blt a 46) 302 Y_L_law 568 [(7, 0), (8, 0), (40, 0), (41, 0), (42, 0), (43, 0), (44, 0), (45, 0), (46, 0), (47, 0), (48, 0), (49, 0), (50, 0), (51, 0), (52, 0), (53, 0), (0, 1), (0, 0), (0, 39), (0, 5636), (0, 25), (0, 62), (0, 0), (0, 22), (5, 0), (5, 0), (5, 0)] [] LE16
  refine q_iload d_L_law_568 rfl ?_
  refine q_bipush d_L_law_570 (by decide) ?_
  refine q_icmp_ge (tgt := 611) d_L_law_572 (by decide) ⟨by decide, by decide⟩ ⟨by decide, by decide⟩ (fun _ => ?_) (fun g => absurd g (by decide))
  show RunQ Γ (fun a => Nat.blt a 46) 302 Y_L_law 611 [(7, 0), (8, 0), (40, 0), (41, 0), (42, 0), (43, 0), (44, 0), (45, 0), (46, 0), (47, 0), (48, 0), (49, 0), (50, 0), (51, 0), (52, 0), (53, 0), (0, 1), (0, 0), (0, 39), (0, 5636), (0, 25), (0, 62), (0, 0), (0, 22), (5, 0), (5, 0), (5, 0)] [] LE16
  refine q_iload d_L_law_611 rfl ?_
  refine q_bipush d_L_law_613 (by decide) ?_
  refine q_icmp_ge (tgt := 738) d_L_law_615 (by decide) ⟨by decide, by decide⟩ ⟨by decide, by decide⟩ (fun _ => ?_) (fun g => absurd g (by decide))
  show RunQ Γ (fun a => Nat.blt a 46) 302 Y_L_law 738 [(7, 0), (8, 0), (40, 0), (41, 0), (42, 0), (43, 0), (44, 0), (45, 0), (46, 0), (47, 0), (48, 0), (49, 0), (50, 0), (51, 0), (52, 0), (53, 0), (0, 1), (0, 0), (0, 39), (0, 5636), (0, 25), (0, 62), (0, 0), (0, 22), (5, 0), (5, 0), (5, 0)] [] LE16
  refine q_iload d_L_law_738 rfl ?_
  refine q_bipush d_L_law_740 (by decide) ?_
  refine q_icmp_ge (tgt := 836) d_L_law_742 (by decide) ⟨by decide, by decide⟩ ⟨by decide, by decide⟩ (fun _ => ?_) (fun g => absurd g (by decide))
  show RunQ Γ (fun a => Nat.blt a 46) 302 Y_L_law 836 [(7, 0), (8, 0), (40, 0), (41, 0), (42, 0), (43, 0), (44, 0), (45, 0), (46, 0), (47, 0), (48, 0), (49, 0), (50, 0), (51, 0), (52, 0), (53, 0), (0, 1), (0, 0), (0, 39), (0, 5636), (0, 25), (0, 62), (0, 0), (0, 22), (5, 0), (5, 0), (5, 0)] [] LE16
  refine q_iload d_L_law_836 rfl ?_
  refine q_bipush d_L_law_838 (by decide) ?_
  refine q_icmp_ge (tgt := 985) d_L_law_840 (by decide) ⟨by decide, by decide⟩ ⟨by decide, by decide⟩ (fun _ => ?_) (fun g => absurd g (by decide))
  show RunQ Γ (fun a => Nat.blt a 46) 302 Y_L_law 985 [(7, 0), (8, 0), (40, 0), (41, 0), (42, 0), (43, 0), (44, 0), (45, 0), (46, 0), (47, 0), (48, 0), (49, 0), (50, 0), (51, 0), (52, 0), (53, 0), (0, 1), (0, 0), (0, 39), (0, 5636), (0, 25), (0, 62), (0, 0), (0, 22), (5, 0), (5, 0), (5, 0)] [] LE16
  refine q_iload d_L_law_985 rfl ?_
  refine q_bipush d_L_law_987 (by decide) ?_
  refine q_icmp_ge (tgt := 1201) d_L_law_989 (by decide) ⟨by decide, by decide⟩ ⟨by decide, by decide⟩ (fun _ => ?_) (fun g => absurd g (by decide))
  show RunQ Γ (fun a => Nat.blt a 46) 302 Y_L_law 1201 [(7, 0), (8, 0), (40, 0), (41, 0), (42, 0), (43, 0), (44, 0), (45, 0), (46, 0), (47, 0), (48, 0), (49, 0), (50, 0), (51, 0), (52, 0), (53, 0), (0, 1), (0, 0), (0, 39), (0, 5636), (0, 25), (0, 62), (0, 0), (0, 22), (5, 0), (5, 0), (5, 0)] [] LE16
  refine q_aload d_L_law_1201 rfl (by decide) ?_
  refine q_bipush d_L_law_1203 (by decide) ?_
  refine q_iald d_L_law_1205 sh_41 (by decide) (by decide) (by decide) (by decide) (by decide) ?_
  rw [show LE16 41 (Int.toNat 6) = (-1) from of_decide_eq_true k14]
  refine q_if_lt (tgt := 1244) d_L_law_1206 (by decide) ⟨by decide, by decide⟩ (fun _ => ?_) (fun g => absurd g (by decide))
  show RunQ Γ (fun a => Nat.blt a 46) 302 Y_L_law 1244 [(7, 0), (8, 0), (40, 0), (41, 0), (42, 0), (43, 0), (44, 0), (45, 0), (46, 0), (47, 0), (48, 0), (49, 0), (50, 0), (51, 0), (52, 0), (53, 0), (0, 1), (0, 0), (0, 39), (0, 5636), (0, 25), (0, 62), (0, 0), (0, 22), (5, 0), (5, 0), (5, 0)] [] LE16
  refine q_aload d_L_law_1244 rfl (by decide) ?_
  refine q_aload d_L_law_1246 rfl (by decide) ?_
  refine q_aload d_L_law_1248 rfl (by decide) ?_
  refine q_aload d_L_law_1250 rfl (by decide) ?_
  refine q_aload d_L_law_1252 rfl (by decide) ?_
  refine q_aload_n d_L_law_1254 rfl (by decide) ?_
  refine q_callS (as := [(45, 0), (43, 0), (48, 0), (46, 0), (42, 0), (40, 0)]) (rest := []) (ls' := [(45, 0), (43, 0), (48, 0), (46, 0), (42, 0), (40, 0), (5, 0)]) (κ1 := 0) (κ2 := 302) (Ψ := fun o D' => o = .inl none ∧ D' = LE17) d_L_law_1255 ck_RL_177 rfl rfl rfl (Nat.le_of_ble_eq_true rfl) (Nat.le_of_ble_eq_true rfl) (by decide) rfl rfl rfl (run_pE_copies (fun a h => h) ⟨.inl 0, _, ckv_ok k15, Nat.zero_le _, rfl, rfl⟩) (fun v2 D2 hq => ?_) (fun n2 D2 hq => by cases hq.1)
  obtain ⟨e1, rfl⟩ := hq
  cases e1
  show RunQ Γ (fun a => Nat.blt a 46) 302 Y_L_law 1258 [(7, 0), (8, 0), (40, 0), (41, 0), (42, 0), (43, 0), (44, 0), (45, 0), (46, 0), (47, 0), (48, 0), (49, 0), (50, 0), (51, 0), (52, 0), (53, 0), (0, 1), (0, 0), (0, 39), (0, 5636), (0, 25), (0, 62), (0, 0), (0, 22), (5, 0), (5, 0), (5, 0)] [] LE17
  refine q_aload d_L_law_1258 rfl (by decide) ?_
  refine q_iconst d_L_law_1260 ?_
  refine q_aload d_L_law_1261 rfl (by decide) ?_
  refine q_iconst d_L_law_1263 ?_
  refine q_iald d_L_law_1264 sh_41 (by decide) (by decide) (by decide) (by decide) (by decide) ?_
  rw [show LE17 41 (Int.toNat 4) = 1 from of_decide_eq_true k16]
  refine q_iast d_L_law_1265 sh_41 (by decide) (by decide) (by decide) (by decide) (by decide) ?_
  show RunQ Γ (fun a => Nat.blt a 46) 302 Y_L_law 1266 [(7, 0), (8, 0), (40, 0), (41, 0), (42, 0), (43, 0), (44, 0), (45, 0), (46, 0), (47, 0), (48, 0), (49, 0), (50, 0), (51, 0), (52, 0), (53, 0), (0, 1), (0, 0), (0, 39), (0, 5636), (0, 25), (0, 62), (0, 0), (0, 22), (5, 0), (5, 0), (5, 0)] [] LE18
  refine q_aload d_L_law_1266 rfl (by decide) ?_
  refine q_iconst d_L_law_1268 ?_
  refine q_aload d_L_law_1269 rfl (by decide) ?_
  refine q_iconst d_L_law_1271 ?_
  refine q_iald d_L_law_1272 sh_41 (by decide) (by decide) (by decide) (by decide) (by decide) ?_
  rw [show LE18 41 (Int.toNat 5) = 0 from of_decide_eq_true k17]
  refine q_iast d_L_law_1273 sh_41 (by decide) (by decide) (by decide) (by decide) (by decide) ?_
  show RunQ Γ (fun a => Nat.blt a 46) 302 Y_L_law 1274 [(7, 0), (8, 0), (40, 0), (41, 0), (42, 0), (43, 0), (44, 0), (45, 0), (46, 0), (47, 0), (48, 0), (49, 0), (50, 0), (51, 0), (52, 0), (53, 0), (0, 1), (0, 0), (0, 39), (0, 5636), (0, 25), (0, 62), (0, 0), (0, 22), (5, 0), (5, 0), (5, 0)] [] LE19
  refine q_aload d_L_law_1274 rfl (by decide) ?_
  refine q_bipush d_L_law_1276 (by decide) ?_
  refine q_iconst d_L_law_1278 ?_
  refine q_iast d_L_law_1279 sh_41 (by decide) (by decide) (by decide) (by decide) (by decide) ?_
  show RunQ Γ (fun a => Nat.blt a 46) 302 Y_L_law 1280 [(7, 0), (8, 0), (40, 0), (41, 0), (42, 0), (43, 0), (44, 0), (45, 0), (46, 0), (47, 0), (48, 0), (49, 0), (50, 0), (51, 0), (52, 0), (53, 0), (0, 1), (0, 0), (0, 39), (0, 5636), (0, 25), (0, 62), (0, 0), (0, 22), (5, 0), (5, 0), (5, 0)] [] LE20
  refine q_aload d_L_law_1280 rfl (by decide) ?_
  refine q_bipush d_L_law_1282 (by decide) ?_
  refine q_iconst d_L_law_1284 ?_
  refine q_iast d_L_law_1285 sh_41 (by decide) (by decide) (by decide) (by decide) (by decide) ?_
  show RunQ Γ (fun a => Nat.blt a 46) 302 Y_L_law 1286 [(7, 0), (8, 0), (40, 0), (41, 0), (42, 0), (43, 0), (44, 0), (45, 0), (46, 0), (47, 0), (48, 0), (49, 0), (50, 0), (51, 0), (52, 0), (53, 0), (0, 1), (0, 0), (0, 39), (0, 5636), (0, 25), (0, 62), (0, 0), (0, 22), (5, 0), (5, 0), (5, 0)] [] LE21
  refine q_aload d_L_law_1286 rfl (by decide) ?_
  refine q_iconst d_L_law_1288 ?_
  refine q_aload d_L_law_1289 rfl (by decide) ?_
  refine q_iconst d_L_law_1291 ?_
  refine q_lald d_L_law_1292 sh_43 (by decide) (by decide) (by decide) (by decide) (by decide) ?_
  rw [show LE21 43 (Int.toNat 2) = 0 from of_decide_eq_true k18]
  refine q_last d_L_law_1293 sh_43 (by decide) (by decide) (by decide) (by decide) (by decide) ?_
  show RunQ Γ (fun a => Nat.blt a 46) 302 Y_L_law 1294 [(7, 0), (8, 0), (40, 0), (41, 0), (42, 0), (43, 0), (44, 0), (45, 0), (46, 0), (47, 0), (48, 0), (49, 0), (50, 0), (51, 0), (52, 0), (53, 0), (0, 1), (0, 0), (0, 39), (0, 5636), (0, 25), (0, 62), (0, 0), (0, 22), (5, 0), (5, 0), (5, 0)] [] LE22
  refine q_aload d_L_law_1294 rfl (by decide) ?_
  refine q_iconst d_L_law_1296 ?_
  refine q_lconst (n := 0) d_L_law_1297 ?_
  show RunQ _ _ _ _ _ _ ((1, 0) :: [(0, 3), (51, 0)]) _
  refine q_last d_L_law_1298 sh_43 (by decide) (by decide) (by decide) (by decide) (by decide) ?_
  show RunQ Γ (fun a => Nat.blt a 46) 302 Y_L_law 1299 [(7, 0), (8, 0), (40, 0), (41, 0), (42, 0), (43, 0), (44, 0), (45, 0), (46, 0), (47, 0), (48, 0), (49, 0), (50, 0), (51, 0), (52, 0), (53, 0), (0, 1), (0, 0), (0, 39), (0, 5636), (0, 25), (0, 62), (0, 0), (0, 22), (5, 0), (5, 0), (5, 0)] [] LE23
  refine q_iconst d_L_law_1299 ?_
  refine q_istore d_L_law_1300 (by decide) rfl ?_
  show RunQ Γ (fun a => Nat.blt a 46) 302 Y_L_law 1302 [(7, 0), (8, 0), (40, 0), (41, 0), (42, 0), (43, 0), (44, 0), (45, 0), (46, 0), (47, 0), (48, 0), (49, 0), (50, 0), (51, 0), (52, 0), (53, 0), (0, 1), (0, 0), (0, 39), (0, 5636), (0, 25), (0, 62), (0, 0), (0, 22), (0, 0), (5, 0), (5, 0)] [] LE23
  refine q_iload d_L_law_1302 rfl ?_
  refine q_bipush d_L_law_1304 (by decide) ?_
  refine q_icmp_ge (tgt := 1321) d_L_law_1306 (by decide) ⟨by decide, by decide⟩ ⟨by decide, by decide⟩ (fun g => absurd g (by decide)) (fun _ => ?_)
  show RunQ Γ (fun a => Nat.blt a 46) 302 Y_L_law 1309 [(7, 0), (8, 0), (40, 0), (41, 0), (42, 0), (43, 0), (44, 0), (45, 0), (46, 0), (47, 0), (48, 0), (49, 0), (50, 0), (51, 0), (52, 0), (53, 0), (0, 1), (0, 0), (0, 39), (0, 5636), (0, 25), (0, 62), (0, 0), (0, 22), (0, 0), (5, 0), (5, 0)] [] LE23
  refine q_aload d_L_law_1309 rfl (by decide) ?_
  refine q_iload d_L_law_1311 rfl ?_
  refine q_iconst d_L_law_1313 ?_
  refine q_iast d_L_law_1314 sh_44 (by decide) (by decide) (by decide) (by decide) (by decide) ?_
  show RunQ Γ (fun a => Nat.blt a 46) 302 Y_L_law 1315 [(7, 0), (8, 0), (40, 0), (41, 0), (42, 0), (43, 0), (44, 0), (45, 0), (46, 0), (47, 0), (48, 0), (49, 0), (50, 0), (51, 0), (52, 0), (53, 0), (0, 1), (0, 0), (0, 39), (0, 5636), (0, 25), (0, 62), (0, 0), (0, 22), (0, 0), (5, 0), (5, 0)] [] LE24
  refine q_iinc d_L_law_1315 rfl (by decide) rfl ?_
  show RunQ Γ (fun a => Nat.blt a 46) 302 Y_L_law 1318 [(7, 0), (8, 0), (40, 0), (41, 0), (42, 0), (43, 0), (44, 0), (45, 0), (46, 0), (47, 0), (48, 0), (49, 0), (50, 0), (51, 0), (52, 0), (53, 0), (0, 1), (0, 0), (0, 39), (0, 5636), (0, 25), (0, 62), (0, 0), (0, 22), (0, 1), (5, 0), (5, 0)] [] LE24
  refine q_goto (tgt := 1302) d_L_law_1318 (by decide) ?_
  refine q_iload d_L_law_1302 rfl ?_
  refine q_bipush d_L_law_1304 (by decide) ?_
  refine q_icmp_ge (tgt := 1321) d_L_law_1306 (by decide) ⟨by decide, by decide⟩ ⟨by decide, by decide⟩ (fun g => absurd g (by decide)) (fun _ => ?_)
  show RunQ Γ (fun a => Nat.blt a 46) 302 Y_L_law 1309 [(7, 0), (8, 0), (40, 0), (41, 0), (42, 0), (43, 0), (44, 0), (45, 0), (46, 0), (47, 0), (48, 0), (49, 0), (50, 0), (51, 0), (52, 0), (53, 0), (0, 1), (0, 0), (0, 39), (0, 5636), (0, 25), (0, 62), (0, 0), (0, 22), (0, 1), (5, 0), (5, 0)] [] LE24
  refine q_aload d_L_law_1309 rfl (by decide) ?_
  refine q_iload d_L_law_1311 rfl ?_
  refine q_iconst d_L_law_1313 ?_
  refine q_iast d_L_law_1314 sh_44 (by decide) (by decide) (by decide) (by decide) (by decide) ?_
  show RunQ Γ (fun a => Nat.blt a 46) 302 Y_L_law 1315 [(7, 0), (8, 0), (40, 0), (41, 0), (42, 0), (43, 0), (44, 0), (45, 0), (46, 0), (47, 0), (48, 0), (49, 0), (50, 0), (51, 0), (52, 0), (53, 0), (0, 1), (0, 0), (0, 39), (0, 5636), (0, 25), (0, 62), (0, 0), (0, 22), (0, 1), (5, 0), (5, 0)] [] LE25
  refine q_iinc d_L_law_1315 rfl (by decide) rfl ?_
  show RunQ Γ (fun a => Nat.blt a 46) 302 Y_L_law 1318 [(7, 0), (8, 0), (40, 0), (41, 0), (42, 0), (43, 0), (44, 0), (45, 0), (46, 0), (47, 0), (48, 0), (49, 0), (50, 0), (51, 0), (52, 0), (53, 0), (0, 1), (0, 0), (0, 39), (0, 5636), (0, 25), (0, 62), (0, 0), (0, 22), (0, 2), (5, 0), (5, 0)] [] LE25
  refine q_goto (tgt := 1302) d_L_law_1318 (by decide) ?_
  refine q_iload d_L_law_1302 rfl ?_
  refine q_bipush d_L_law_1304 (by decide) ?_
  refine q_icmp_ge (tgt := 1321) d_L_law_1306 (by decide) ⟨by decide, by decide⟩ ⟨by decide, by decide⟩ (fun g => absurd g (by decide)) (fun _ => ?_)
  show RunQ Γ (fun a => Nat.blt a 46) 302 Y_L_law 1309 [(7, 0), (8, 0), (40, 0), (41, 0), (42, 0), (43, 0), (44, 0), (45, 0), (46, 0), (47, 0), (48, 0), (49, 0), (50, 0), (51, 0), (52, 0), (53, 0), (0, 1), (0, 0), (0, 39), (0, 5636), (0, 25), (0, 62), (0, 0), (0, 22), (0, 2), (5, 0), (5, 0)] [] LE25
  refine q_aload d_L_law_1309 rfl (by decide) ?_
  refine q_iload d_L_law_1311 rfl ?_
  refine q_iconst d_L_law_1313 ?_
  refine q_iast d_L_law_1314 sh_44 (by decide) (by decide) (by decide) (by decide) (by decide) ?_
  show RunQ Γ (fun a => Nat.blt a 46) 302 Y_L_law 1315 [(7, 0), (8, 0), (40, 0), (41, 0), (42, 0), (43, 0), (44, 0), (45, 0), (46, 0), (47, 0), (48, 0), (49, 0), (50, 0), (51, 0), (52, 0), (53, 0), (0, 1), (0, 0), (0, 39), (0, 5636), (0, 25), (0, 62), (0, 0), (0, 22), (0, 2), (5, 0), (5, 0)] [] LE26
  refine q_iinc d_L_law_1315 rfl (by decide) rfl ?_
  show RunQ Γ (fun a => Nat.blt a 46) 302 Y_L_law 1318 [(7, 0), (8, 0), (40, 0), (41, 0), (42, 0), (43, 0), (44, 0), (45, 0), (46, 0), (47, 0), (48, 0), (49, 0), (50, 0), (51, 0), (52, 0), (53, 0), (0, 1), (0, 0), (0, 39), (0, 5636), (0, 25), (0, 62), (0, 0), (0, 22), (0, 3), (5, 0), (5, 0)] [] LE26
  refine q_goto (tgt := 1302) d_L_law_1318 (by decide) ?_
  refine q_iload d_L_law_1302 rfl ?_
  refine q_bipush d_L_law_1304 (by decide) ?_
  refine q_icmp_ge (tgt := 1321) d_L_law_1306 (by decide) ⟨by decide, by decide⟩ ⟨by decide, by decide⟩ (fun g => absurd g (by decide)) (fun _ => ?_)
  show RunQ Γ (fun a => Nat.blt a 46) 302 Y_L_law 1309 [(7, 0), (8, 0), (40, 0), (41, 0), (42, 0), (43, 0), (44, 0), (45, 0), (46, 0), (47, 0), (48, 0), (49, 0), (50, 0), (51, 0), (52, 0), (53, 0), (0, 1), (0, 0), (0, 39), (0, 5636), (0, 25), (0, 62), (0, 0), (0, 22), (0, 3), (5, 0), (5, 0)] [] LE26
  refine q_aload d_L_law_1309 rfl (by decide) ?_
  refine q_iload d_L_law_1311 rfl ?_
  refine q_iconst d_L_law_1313 ?_
  refine q_iast d_L_law_1314 sh_44 (by decide) (by decide) (by decide) (by decide) (by decide) ?_
  show RunQ Γ (fun a => Nat.blt a 46) 302 Y_L_law 1315 [(7, 0), (8, 0), (40, 0), (41, 0), (42, 0), (43, 0), (44, 0), (45, 0), (46, 0), (47, 0), (48, 0), (49, 0), (50, 0), (51, 0), (52, 0), (53, 0), (0, 1), (0, 0), (0, 39), (0, 5636), (0, 25), (0, 62), (0, 0), (0, 22), (0, 3), (5, 0), (5, 0)] [] LE27
  refine q_iinc d_L_law_1315 rfl (by decide) rfl ?_
  show RunQ Γ (fun a => Nat.blt a 46) 302 Y_L_law 1318 [(7, 0), (8, 0), (40, 0), (41, 0), (42, 0), (43, 0), (44, 0), (45, 0), (46, 0), (47, 0), (48, 0), (49, 0), (50, 0), (51, 0), (52, 0), (53, 0), (0, 1), (0, 0), (0, 39), (0, 5636), (0, 25), (0, 62), (0, 0), (0, 22), (0, 4), (5, 0), (5, 0)] [] LE27
  refine q_goto (tgt := 1302) d_L_law_1318 (by decide) ?_
  refine q_iload d_L_law_1302 rfl ?_
  refine q_bipush d_L_law_1304 (by decide) ?_
  refine q_icmp_ge (tgt := 1321) d_L_law_1306 (by decide) ⟨by decide, by decide⟩ ⟨by decide, by decide⟩ (fun g => absurd g (by decide)) (fun _ => ?_)
  show RunQ Γ (fun a => Nat.blt a 46) 302 Y_L_law 1309 [(7, 0), (8, 0), (40, 0), (41, 0), (42, 0), (43, 0), (44, 0), (45, 0), (46, 0), (47, 0), (48, 0), (49, 0), (50, 0), (51, 0), (52, 0), (53, 0), (0, 1), (0, 0), (0, 39), (0, 5636), (0, 25), (0, 62), (0, 0), (0, 22), (0, 4), (5, 0), (5, 0)] [] LE27
  refine q_aload d_L_law_1309 rfl (by decide) ?_
  refine q_iload d_L_law_1311 rfl ?_
  refine q_iconst d_L_law_1313 ?_
  refine q_iast d_L_law_1314 sh_44 (by decide) (by decide) (by decide) (by decide) (by decide) ?_
  show RunQ Γ (fun a => Nat.blt a 46) 302 Y_L_law 1315 [(7, 0), (8, 0), (40, 0), (41, 0), (42, 0), (43, 0), (44, 0), (45, 0), (46, 0), (47, 0), (48, 0), (49, 0), (50, 0), (51, 0), (52, 0), (53, 0), (0, 1), (0, 0), (0, 39), (0, 5636), (0, 25), (0, 62), (0, 0), (0, 22), (0, 4), (5, 0), (5, 0)] [] LE28
  refine q_iinc d_L_law_1315 rfl (by decide) rfl ?_
  show RunQ Γ (fun a => Nat.blt a 46) 302 Y_L_law 1318 [(7, 0), (8, 0), (40, 0), (41, 0), (42, 0), (43, 0), (44, 0), (45, 0), (46, 0), (47, 0), (48, 0), (49, 0), (50, 0), (51, 0), (52, 0), (53, 0), (0, 1), (0, 0), (0, 39), (0, 5636), (0, 25), (0, 62), (0, 0), (0, 22), (0, 5), (5, 0), (5, 0)] [] LE28
  refine q_goto (tgt := 1302) d_L_law_1318 (by decide) ?_
  refine q_iload d_L_law_1302 rfl ?_
  refine q_bipush d_L_law_1304 (by decide) ?_
  refine q_icmp_ge (tgt := 1321) d_L_law_1306 (by decide) ⟨by decide, by decide⟩ ⟨by decide, by decide⟩ (fun g => absurd g (by decide)) (fun _ => ?_)
  show RunQ Γ (fun a => Nat.blt a 46) 302 Y_L_law 1309 [(7, 0), (8, 0), (40, 0), (41, 0), (42, 0), (43, 0), (44, 0), (45, 0), (46, 0), (47, 0), (48, 0), (49, 0), (50, 0), (51, 0), (52, 0), (53, 0), (0, 1), (0, 0), (0, 39), (0, 5636), (0, 25), (0, 62), (0, 0), (0, 22), (0, 5), (5, 0), (5, 0)] [] LE28
  refine q_aload d_L_law_1309 rfl (by decide) ?_
  refine q_iload d_L_law_1311 rfl ?_
  refine q_iconst d_L_law_1313 ?_
  refine q_iast d_L_law_1314 sh_44 (by decide) (by decide) (by decide) (by decide) (by decide) ?_
  show RunQ Γ (fun a => Nat.blt a 46) 302 Y_L_law 1315 [(7, 0), (8, 0), (40, 0), (41, 0), (42, 0), (43, 0), (44, 0), (45, 0), (46, 0), (47, 0), (48, 0), (49, 0), (50, 0), (51, 0), (52, 0), (53, 0), (0, 1), (0, 0), (0, 39), (0, 5636), (0, 25), (0, 62), (0, 0), (0, 22), (0, 5), (5, 0), (5, 0)] [] LE29
  refine q_iinc d_L_law_1315 rfl (by decide) rfl ?_
  show RunQ Γ (fun a => Nat.blt a 46) 302 Y_L_law 1318 [(7, 0), (8, 0), (40, 0), (41, 0), (42, 0), (43, 0), (44, 0), (45, 0), (46, 0), (47, 0), (48, 0), (49, 0), (50, 0), (51, 0), (52, 0), (53, 0), (0, 1), (0, 0), (0, 39), (0, 5636), (0, 25), (0, 62), (0, 0), (0, 22), (0, 6), (5, 0), (5, 0)] [] LE29
  refine q_goto (tgt := 1302) d_L_law_1318 (by decide) ?_
  refine q_iload d_L_law_1302 rfl ?_
  refine q_bipush d_L_law_1304 (by decide) ?_
  refine q_icmp_ge (tgt := 1321) d_L_law_1306 (by decide) ⟨by decide, by decide⟩ ⟨by decide, by decide⟩ (fun g => absurd g (by decide)) (fun _ => ?_)
  show RunQ Γ (fun a => Nat.blt a 46) 302 Y_L_law 1309 [(7, 0), (8, 0), (40, 0), (41, 0), (42, 0), (43, 0), (44, 0), (45, 0), (46, 0), (47, 0), (48, 0), (49, 0), (50, 0), (51, 0), (52, 0), (53, 0), (0, 1), (0, 0), (0, 39), (0, 5636), (0, 25), (0, 62), (0, 0), (0, 22), (0, 6), (5, 0), (5, 0)] [] LE29
  refine q_aload d_L_law_1309 rfl (by decide) ?_
  refine q_iload d_L_law_1311 rfl ?_
  refine q_iconst d_L_law_1313 ?_
  refine q_iast d_L_law_1314 sh_44 (by decide) (by decide) (by decide) (by decide) (by decide) ?_
  show RunQ Γ (fun a => Nat.blt a 46) 302 Y_L_law 1315 [(7, 0), (8, 0), (40, 0), (41, 0), (42, 0), (43, 0), (44, 0), (45, 0), (46, 0), (47, 0), (48, 0), (49, 0), (50, 0), (51, 0), (52, 0), (53, 0), (0, 1), (0, 0), (0, 39), (0, 5636), (0, 25), (0, 62), (0, 0), (0, 22), (0, 6), (5, 0), (5, 0)] [] LE30
  refine q_iinc d_L_law_1315 rfl (by decide) rfl ?_
  show RunQ Γ (fun a => Nat.blt a 46) 302 Y_L_law 1318 [(7, 0), (8, 0), (40, 0), (41, 0), (42, 0), (43, 0), (44, 0), (45, 0), (46, 0), (47, 0), (48, 0), (49, 0), (50, 0), (51, 0), (52, 0), (53, 0), (0, 1), (0, 0), (0, 39), (0, 5636), (0, 25), (0, 62), (0, 0), (0, 22), (0, 7), (5, 0), (5, 0)] [] LE30
  refine q_goto (tgt := 1302) d_L_law_1318 (by decide) ?_
  refine q_iload d_L_law_1302 rfl ?_
  refine q_bipush d_L_law_1304 (by decide) ?_
  refine q_icmp_ge (tgt := 1321) d_L_law_1306 (by decide) ⟨by decide, by decide⟩ ⟨by decide, by decide⟩ (fun g => absurd g (by decide)) (fun _ => ?_)
  show RunQ Γ (fun a => Nat.blt a 46) 302 Y_L_law 1309 [(7, 0), (8, 0), (40, 0), (41, 0), (42, 0), (43, 0), (44, 0), (45, 0), (46, 0), (47, 0), (48, 0), (49, 0), (50, 0), (51, 0), (52, 0), (53, 0), (0, 1), (0, 0), (0, 39), (0, 5636), (0, 25), (0, 62), (0, 0), (0, 22), (0, 7), (5, 0), (5, 0)] [] LE30
  refine q_aload d_L_law_1309 rfl (by decide) ?_
  refine q_iload d_L_law_1311 rfl ?_
  refine q_iconst d_L_law_1313 ?_
  refine q_iast d_L_law_1314 sh_44 (by decide) (by decide) (by decide) (by decide) (by decide) ?_
  show RunQ Γ (fun a => Nat.blt a 46) 302 Y_L_law 1315 [(7, 0), (8, 0), (40, 0), (41, 0), (42, 0), (43, 0), (44, 0), (45, 0), (46, 0), (47, 0), (48, 0), (49, 0), (50, 0), (51, 0), (52, 0), (53, 0), (0, 1), (0, 0), (0, 39), (0, 5636), (0, 25), (0, 62), (0, 0), (0, 22), (0, 7), (5, 0), (5, 0)] [] LE31
  refine q_iinc d_L_law_1315 rfl (by decide) rfl ?_
  show RunQ Γ (fun a => Nat.blt a 46) 302 Y_L_law 1318 [(7, 0), (8, 0), (40, 0), (41, 0), (42, 0), (43, 0), (44, 0), (45, 0), (46, 0), (47, 0), (48, 0), (49, 0), (50, 0), (51, 0), (52, 0), (53, 0), (0, 1), (0, 0), (0, 39), (0, 5636), (0, 25), (0, 62), (0, 0), (0, 22), (0, 8), (5, 0), (5, 0)] [] LE31
  refine q_goto (tgt := 1302) d_L_law_1318 (by decide) ?_
  refine q_iload d_L_law_1302 rfl ?_
  refine q_bipush d_L_law_1304 (by decide) ?_
  refine q_icmp_ge (tgt := 1321) d_L_law_1306 (by decide) ⟨by decide, by decide⟩ ⟨by decide, by decide⟩ (fun g => absurd g (by decide)) (fun _ => ?_)
  show RunQ Γ (fun a => Nat.blt a 46) 302 Y_L_law 1309 [(7, 0), (8, 0), (40, 0), (41, 0), (42, 0), (43, 0), (44, 0), (45, 0), (46, 0), (47, 0), (48, 0), (49, 0), (50, 0), (51, 0), (52, 0), (53, 0), (0, 1), (0, 0), (0, 39), (0, 5636), (0, 25), (0, 62), (0, 0), (0, 22), (0, 8), (5, 0), (5, 0)] [] LE31
  refine q_aload d_L_law_1309 rfl (by decide) ?_
  refine q_iload d_L_law_1311 rfl ?_
  refine q_iconst d_L_law_1313 ?_
  refine q_iast d_L_law_1314 sh_44 (by decide) (by decide) (by decide) (by decide) (by decide) ?_
  show RunQ Γ (fun a => Nat.blt a 46) 302 Y_L_law 1315 [(7, 0), (8, 0), (40, 0), (41, 0), (42, 0), (43, 0), (44, 0), (45, 0), (46, 0), (47, 0), (48, 0), (49, 0), (50, 0), (51, 0), (52, 0), (53, 0), (0, 1), (0, 0), (0, 39), (0, 5636), (0, 25), (0, 62), (0, 0), (0, 22), (0, 8), (5, 0), (5, 0)] [] LE32
  refine q_iinc d_L_law_1315 rfl (by decide) rfl ?_
  show RunQ Γ (fun a => Nat.blt a 46) 302 Y_L_law 1318 [(7, 0), (8, 0), (40, 0), (41, 0), (42, 0), (43, 0), (44, 0), (45, 0), (46, 0), (47, 0), (48, 0), (49, 0), (50, 0), (51, 0), (52, 0), (53, 0), (0, 1), (0, 0), (0, 39), (0, 5636), (0, 25), (0, 62), (0, 0), (0, 22), (0, 9), (5, 0), (5, 0)] [] LE32
  refine q_goto (tgt := 1302) d_L_law_1318 (by decide) ?_
  refine q_iload d_L_law_1302 rfl ?_
  refine q_bipush d_L_law_1304 (by decide) ?_
  refine q_icmp_ge (tgt := 1321) d_L_law_1306 (by decide) ⟨by decide, by decide⟩ ⟨by decide, by decide⟩ (fun g => absurd g (by decide)) (fun _ => ?_)
  show RunQ Γ (fun a => Nat.blt a 46) 302 Y_L_law 1309 [(7, 0), (8, 0), (40, 0), (41, 0), (42, 0), (43, 0), (44, 0), (45, 0), (46, 0), (47, 0), (48, 0), (49, 0), (50, 0), (51, 0), (52, 0), (53, 0), (0, 1), (0, 0), (0, 39), (0, 5636), (0, 25), (0, 62), (0, 0), (0, 22), (0, 9), (5, 0), (5, 0)] [] LE32
  refine q_aload d_L_law_1309 rfl (by decide) ?_
  refine q_iload d_L_law_1311 rfl ?_
  refine q_iconst d_L_law_1313 ?_
  refine q_iast d_L_law_1314 sh_44 (by decide) (by decide) (by decide) (by decide) (by decide) ?_
  show RunQ Γ (fun a => Nat.blt a 46) 302 Y_L_law 1315 [(7, 0), (8, 0), (40, 0), (41, 0), (42, 0), (43, 0), (44, 0), (45, 0), (46, 0), (47, 0), (48, 0), (49, 0), (50, 0), (51, 0), (52, 0), (53, 0), (0, 1), (0, 0), (0, 39), (0, 5636), (0, 25), (0, 62), (0, 0), (0, 22), (0, 9), (5, 0), (5, 0)] [] LE33
  refine q_iinc d_L_law_1315 rfl (by decide) rfl ?_
  show RunQ Γ (fun a => Nat.blt a 46) 302 Y_L_law 1318 [(7, 0), (8, 0), (40, 0), (41, 0), (42, 0), (43, 0), (44, 0), (45, 0), (46, 0), (47, 0), (48, 0), (49, 0), (50, 0), (51, 0), (52, 0), (53, 0), (0, 1), (0, 0), (0, 39), (0, 5636), (0, 25), (0, 62), (0, 0), (0, 22), (0, 10), (5, 0), (5, 0)] [] LE33
  refine q_goto (tgt := 1302) d_L_law_1318 (by decide) ?_
  refine q_iload d_L_law_1302 rfl ?_
  refine q_bipush d_L_law_1304 (by decide) ?_
  refine q_icmp_ge (tgt := 1321) d_L_law_1306 (by decide) ⟨by decide, by decide⟩ ⟨by decide, by decide⟩ (fun g => absurd g (by decide)) (fun _ => ?_)
  show RunQ Γ (fun a => Nat.blt a 46) 302 Y_L_law 1309 [(7, 0), (8, 0), (40, 0), (41, 0), (42, 0), (43, 0), (44, 0), (45, 0), (46, 0), (47, 0), (48, 0), (49, 0), (50, 0), (51, 0), (52, 0), (53, 0), (0, 1), (0, 0), (0, 39), (0, 5636), (0, 25), (0, 62), (0, 0), (0, 22), (0, 10), (5, 0), (5, 0)] [] LE33
  refine q_aload d_L_law_1309 rfl (by decide) ?_
  refine q_iload d_L_law_1311 rfl ?_
  refine q_iconst d_L_law_1313 ?_
  refine q_iast d_L_law_1314 sh_44 (by decide) (by decide) (by decide) (by decide) (by decide) ?_
  show RunQ Γ (fun a => Nat.blt a 46) 302 Y_L_law 1315 [(7, 0), (8, 0), (40, 0), (41, 0), (42, 0), (43, 0), (44, 0), (45, 0), (46, 0), (47, 0), (48, 0), (49, 0), (50, 0), (51, 0), (52, 0), (53, 0), (0, 1), (0, 0), (0, 39), (0, 5636), (0, 25), (0, 62), (0, 0), (0, 22), (0, 10), (5, 0), (5, 0)] [] LE34
  refine q_iinc d_L_law_1315 rfl (by decide) rfl ?_
  show RunQ Γ (fun a => Nat.blt a 46) 302 Y_L_law 1318 [(7, 0), (8, 0), (40, 0), (41, 0), (42, 0), (43, 0), (44, 0), (45, 0), (46, 0), (47, 0), (48, 0), (49, 0), (50, 0), (51, 0), (52, 0), (53, 0), (0, 1), (0, 0), (0, 39), (0, 5636), (0, 25), (0, 62), (0, 0), (0, 22), (0, 11), (5, 0), (5, 0)] [] LE34
  refine q_goto (tgt := 1302) d_L_law_1318 (by decide) ?_
  refine q_iload d_L_law_1302 rfl ?_
  refine q_bipush d_L_law_1304 (by decide) ?_
  refine q_icmp_ge (tgt := 1321) d_L_law_1306 (by decide) ⟨by decide, by decide⟩ ⟨by decide, by decide⟩ (fun g => absurd g (by decide)) (fun _ => ?_)
  show RunQ Γ (fun a => Nat.blt a 46) 302 Y_L_law 1309 [(7, 0), (8, 0), (40, 0), (41, 0), (42, 0), (43, 0), (44, 0), (45, 0), (46, 0), (47, 0), (48, 0), (49, 0), (50, 0), (51, 0), (52, 0), (53, 0), (0, 1), (0, 0), (0, 39), (0, 5636), (0, 25), (0, 62), (0, 0), (0, 22), (0, 11), (5, 0), (5, 0)] [] LE34
  refine q_aload d_L_law_1309 rfl (by decide) ?_
  refine q_iload d_L_law_1311 rfl ?_
  refine q_iconst d_L_law_1313 ?_
  refine q_iast d_L_law_1314 sh_44 (by decide) (by decide) (by decide) (by decide) (by decide) ?_
  show RunQ Γ (fun a => Nat.blt a 46) 302 Y_L_law 1315 [(7, 0), (8, 0), (40, 0), (41, 0), (42, 0), (43, 0), (44, 0), (45, 0), (46, 0), (47, 0), (48, 0), (49, 0), (50, 0), (51, 0), (52, 0), (53, 0), (0, 1), (0, 0), (0, 39), (0, 5636), (0, 25), (0, 62), (0, 0), (0, 22), (0, 11), (5, 0), (5, 0)] [] LE35
  refine q_iinc d_L_law_1315 rfl (by decide) rfl ?_
  show RunQ Γ (fun a => Nat.blt a 46) 302 Y_L_law 1318 [(7, 0), (8, 0), (40, 0), (41, 0), (42, 0), (43, 0), (44, 0), (45, 0), (46, 0), (47, 0), (48, 0), (49, 0), (50, 0), (51, 0), (52, 0), (53, 0), (0, 1), (0, 0), (0, 39), (0, 5636), (0, 25), (0, 62), (0, 0), (0, 22), (0, 12), (5, 0), (5, 0)] [] LE35
  refine q_goto (tgt := 1302) d_L_law_1318 (by decide) ?_
  refine q_iload d_L_law_1302 rfl ?_
  refine q_bipush d_L_law_1304 (by decide) ?_
  refine q_icmp_ge (tgt := 1321) d_L_law_1306 (by decide) ⟨by decide, by decide⟩ ⟨by decide, by decide⟩ (fun g => absurd g (by decide)) (fun _ => ?_)
  show RunQ Γ (fun a => Nat.blt a 46) 302 Y_L_law 1309 [(7, 0), (8, 0), (40, 0), (41, 0), (42, 0), (43, 0), (44, 0), (45, 0), (46, 0), (47, 0), (48, 0), (49, 0), (50, 0), (51, 0), (52, 0), (53, 0), (0, 1), (0, 0), (0, 39), (0, 5636), (0, 25), (0, 62), (0, 0), (0, 22), (0, 12), (5, 0), (5, 0)] [] LE35
  refine q_aload d_L_law_1309 rfl (by decide) ?_
  refine q_iload d_L_law_1311 rfl ?_
  refine q_iconst d_L_law_1313 ?_
  refine q_iast d_L_law_1314 sh_44 (by decide) (by decide) (by decide) (by decide) (by decide) ?_
  show RunQ Γ (fun a => Nat.blt a 46) 302 Y_L_law 1315 [(7, 0), (8, 0), (40, 0), (41, 0), (42, 0), (43, 0), (44, 0), (45, 0), (46, 0), (47, 0), (48, 0), (49, 0), (50, 0), (51, 0), (52, 0), (53, 0), (0, 1), (0, 0), (0, 39), (0, 5636), (0, 25), (0, 62), (0, 0), (0, 22), (0, 12), (5, 0), (5, 0)] [] LE36
  refine q_iinc d_L_law_1315 rfl (by decide) rfl ?_
  show RunQ Γ (fun a => Nat.blt a 46) 302 Y_L_law 1318 [(7, 0), (8, 0), (40, 0), (41, 0), (42, 0), (43, 0), (44, 0), (45, 0), (46, 0), (47, 0), (48, 0), (49, 0), (50, 0), (51, 0), (52, 0), (53, 0), (0, 1), (0, 0), (0, 39), (0, 5636), (0, 25), (0, 62), (0, 0), (0, 22), (0, 13), (5, 0), (5, 0)] [] LE36
  refine q_goto (tgt := 1302) d_L_law_1318 (by decide) ?_
  refine q_iload d_L_law_1302 rfl ?_
  refine q_bipush d_L_law_1304 (by decide) ?_
  refine q_icmp_ge (tgt := 1321) d_L_law_1306 (by decide) ⟨by decide, by decide⟩ ⟨by decide, by decide⟩ (fun g => absurd g (by decide)) (fun _ => ?_)
  show RunQ Γ (fun a => Nat.blt a 46) 302 Y_L_law 1309 [(7, 0), (8, 0), (40, 0), (41, 0), (42, 0), (43, 0), (44, 0), (45, 0), (46, 0), (47, 0), (48, 0), (49, 0), (50, 0), (51, 0), (52, 0), (53, 0), (0, 1), (0, 0), (0, 39), (0, 5636), (0, 25), (0, 62), (0, 0), (0, 22), (0, 13), (5, 0), (5, 0)] [] LE36
  refine q_aload d_L_law_1309 rfl (by decide) ?_
  refine q_iload d_L_law_1311 rfl ?_
  refine q_iconst d_L_law_1313 ?_
  refine q_iast d_L_law_1314 sh_44 (by decide) (by decide) (by decide) (by decide) (by decide) ?_
  show RunQ Γ (fun a => Nat.blt a 46) 302 Y_L_law 1315 [(7, 0), (8, 0), (40, 0), (41, 0), (42, 0), (43, 0), (44, 0), (45, 0), (46, 0), (47, 0), (48, 0), (49, 0), (50, 0), (51, 0), (52, 0), (53, 0), (0, 1), (0, 0), (0, 39), (0, 5636), (0, 25), (0, 62), (0, 0), (0, 22), (0, 13), (5, 0), (5, 0)] [] LE37
  refine q_iinc d_L_law_1315 rfl (by decide) rfl ?_
  show RunQ Γ (fun a => Nat.blt a 46) 302 Y_L_law 1318 [(7, 0), (8, 0), (40, 0), (41, 0), (42, 0), (43, 0), (44, 0), (45, 0), (46, 0), (47, 0), (48, 0), (49, 0), (50, 0), (51, 0), (52, 0), (53, 0), (0, 1), (0, 0), (0, 39), (0, 5636), (0, 25), (0, 62), (0, 0), (0, 22), (0, 14), (5, 0), (5, 0)] [] LE37
  refine q_goto (tgt := 1302) d_L_law_1318 (by decide) ?_
  refine q_iload d_L_law_1302 rfl ?_
  refine q_bipush d_L_law_1304 (by decide) ?_
  refine q_icmp_ge (tgt := 1321) d_L_law_1306 (by decide) ⟨by decide, by decide⟩ ⟨by decide, by decide⟩ (fun g => absurd g (by decide)) (fun _ => ?_)
  show RunQ Γ (fun a => Nat.blt a 46) 302 Y_L_law 1309 [(7, 0), (8, 0), (40, 0), (41, 0), (42, 0), (43, 0), (44, 0), (45, 0), (46, 0), (47, 0), (48, 0), (49, 0), (50, 0), (51, 0), (52, 0), (53, 0), (0, 1), (0, 0), (0, 39), (0, 5636), (0, 25), (0, 62), (0, 0), (0, 22), (0, 14), (5, 0), (5, 0)] [] LE37
  refine q_aload d_L_law_1309 rfl (by decide) ?_
  refine q_iload d_L_law_1311 rfl ?_
  refine q_iconst d_L_law_1313 ?_
  refine q_iast d_L_law_1314 sh_44 (by decide) (by decide) (by decide) (by decide) (by decide) ?_
  show RunQ Γ (fun a => Nat.blt a 46) 302 Y_L_law 1315 [(7, 0), (8, 0), (40, 0), (41, 0), (42, 0), (43, 0), (44, 0), (45, 0), (46, 0), (47, 0), (48, 0), (49, 0), (50, 0), (51, 0), (52, 0), (53, 0), (0, 1), (0, 0), (0, 39), (0, 5636), (0, 25), (0, 62), (0, 0), (0, 22), (0, 14), (5, 0), (5, 0)] [] LE38
  refine q_iinc d_L_law_1315 rfl (by decide) rfl ?_
  show RunQ Γ (fun a => Nat.blt a 46) 302 Y_L_law 1318 [(7, 0), (8, 0), (40, 0), (41, 0), (42, 0), (43, 0), (44, 0), (45, 0), (46, 0), (47, 0), (48, 0), (49, 0), (50, 0), (51, 0), (52, 0), (53, 0), (0, 1), (0, 0), (0, 39), (0, 5636), (0, 25), (0, 62), (0, 0), (0, 22), (0, 15), (5, 0), (5, 0)] [] LE38
  refine q_goto (tgt := 1302) d_L_law_1318 (by decide) ?_
  refine q_iload d_L_law_1302 rfl ?_
  refine q_bipush d_L_law_1304 (by decide) ?_
  refine q_icmp_ge (tgt := 1321) d_L_law_1306 (by decide) ⟨by decide, by decide⟩ ⟨by decide, by decide⟩ (fun g => absurd g (by decide)) (fun _ => ?_)
  show RunQ Γ (fun a => Nat.blt a 46) 302 Y_L_law 1309 [(7, 0), (8, 0), (40, 0), (41, 0), (42, 0), (43, 0), (44, 0), (45, 0), (46, 0), (47, 0), (48, 0), (49, 0), (50, 0), (51, 0), (52, 0), (53, 0), (0, 1), (0, 0), (0, 39), (0, 5636), (0, 25), (0, 62), (0, 0), (0, 22), (0, 15), (5, 0), (5, 0)] [] LE38
  refine q_aload d_L_law_1309 rfl (by decide) ?_
  refine q_iload d_L_law_1311 rfl ?_
  refine q_iconst d_L_law_1313 ?_
  refine q_iast d_L_law_1314 sh_44 (by decide) (by decide) (by decide) (by decide) (by decide) ?_
  show RunQ Γ (fun a => Nat.blt a 46) 302 Y_L_law 1315 [(7, 0), (8, 0), (40, 0), (41, 0), (42, 0), (43, 0), (44, 0), (45, 0), (46, 0), (47, 0), (48, 0), (49, 0), (50, 0), (51, 0), (52, 0), (53, 0), (0, 1), (0, 0), (0, 39), (0, 5636), (0, 25), (0, 62), (0, 0), (0, 22), (0, 15), (5, 0), (5, 0)] [] LE39
  refine q_iinc d_L_law_1315 rfl (by decide) rfl ?_
  show RunQ Γ (fun a => Nat.blt a 46) 302 Y_L_law 1318 [(7, 0), (8, 0), (40, 0), (41, 0), (42, 0), (43, 0), (44, 0), (45, 0), (46, 0), (47, 0), (48, 0), (49, 0), (50, 0), (51, 0), (52, 0), (53, 0), (0, 1), (0, 0), (0, 39), (0, 5636), (0, 25), (0, 62), (0, 0), (0, 22), (0, 16), (5, 0), (5, 0)] [] LE39
  refine q_goto (tgt := 1302) d_L_law_1318 (by decide) ?_
  refine q_iload d_L_law_1302 rfl ?_
  refine q_bipush d_L_law_1304 (by decide) ?_
  refine q_icmp_ge (tgt := 1321) d_L_law_1306 (by decide) ⟨by decide, by decide⟩ ⟨by decide, by decide⟩ (fun g => absurd g (by decide)) (fun _ => ?_)
  show RunQ Γ (fun a => Nat.blt a 46) 302 Y_L_law 1309 [(7, 0), (8, 0), (40, 0), (41, 0), (42, 0), (43, 0), (44, 0), (45, 0), (46, 0), (47, 0), (48, 0), (49, 0), (50, 0), (51, 0), (52, 0), (53, 0), (0, 1), (0, 0), (0, 39), (0, 5636), (0, 25), (0, 62), (0, 0), (0, 22), (0, 16), (5, 0), (5, 0)] [] LE39
  refine q_aload d_L_law_1309 rfl (by decide) ?_
  refine q_iload d_L_law_1311 rfl ?_
  refine q_iconst d_L_law_1313 ?_
  refine q_iast d_L_law_1314 sh_44 (by decide) (by decide) (by decide) (by decide) (by decide) ?_
  show RunQ Γ (fun a => Nat.blt a 46) 302 Y_L_law 1315 [(7, 0), (8, 0), (40, 0), (41, 0), (42, 0), (43, 0), (44, 0), (45, 0), (46, 0), (47, 0), (48, 0), (49, 0), (50, 0), (51, 0), (52, 0), (53, 0), (0, 1), (0, 0), (0, 39), (0, 5636), (0, 25), (0, 62), (0, 0), (0, 22), (0, 16), (5, 0), (5, 0)] [] LE40
  refine q_iinc d_L_law_1315 rfl (by decide) rfl ?_
  show RunQ Γ (fun a => Nat.blt a 46) 302 Y_L_law 1318 [(7, 0), (8, 0), (40, 0), (41, 0), (42, 0), (43, 0), (44, 0), (45, 0), (46, 0), (47, 0), (48, 0), (49, 0), (50, 0), (51, 0), (52, 0), (53, 0), (0, 1), (0, 0), (0, 39), (0, 5636), (0, 25), (0, 62), (0, 0), (0, 22), (0, 17), (5, 0), (5, 0)] [] LE40
  refine q_goto (tgt := 1302) d_L_law_1318 (by decide) ?_
  refine q_iload d_L_law_1302 rfl ?_
  refine q_bipush d_L_law_1304 (by decide) ?_
  refine q_icmp_ge (tgt := 1321) d_L_law_1306 (by decide) ⟨by decide, by decide⟩ ⟨by decide, by decide⟩ (fun g => absurd g (by decide)) (fun _ => ?_)
  show RunQ Γ (fun a => Nat.blt a 46) 302 Y_L_law 1309 [(7, 0), (8, 0), (40, 0), (41, 0), (42, 0), (43, 0), (44, 0), (45, 0), (46, 0), (47, 0), (48, 0), (49, 0), (50, 0), (51, 0), (52, 0), (53, 0), (0, 1), (0, 0), (0, 39), (0, 5636), (0, 25), (0, 62), (0, 0), (0, 22), (0, 17), (5, 0), (5, 0)] [] LE40
  refine q_aload d_L_law_1309 rfl (by decide) ?_
  refine q_iload d_L_law_1311 rfl ?_
  refine q_iconst d_L_law_1313 ?_
  refine q_iast d_L_law_1314 sh_44 (by decide) (by decide) (by decide) (by decide) (by decide) ?_
  show RunQ Γ (fun a => Nat.blt a 46) 302 Y_L_law 1315 [(7, 0), (8, 0), (40, 0), (41, 0), (42, 0), (43, 0), (44, 0), (45, 0), (46, 0), (47, 0), (48, 0), (49, 0), (50, 0), (51, 0), (52, 0), (53, 0), (0, 1), (0, 0), (0, 39), (0, 5636), (0, 25), (0, 62), (0, 0), (0, 22), (0, 17), (5, 0), (5, 0)] [] LE41
  refine q_iinc d_L_law_1315 rfl (by decide) rfl ?_
  show RunQ Γ (fun a => Nat.blt a 46) 302 Y_L_law 1318 [(7, 0), (8, 0), (40, 0), (41, 0), (42, 0), (43, 0), (44, 0), (45, 0), (46, 0), (47, 0), (48, 0), (49, 0), (50, 0), (51, 0), (52, 0), (53, 0), (0, 1), (0, 0), (0, 39), (0, 5636), (0, 25), (0, 62), (0, 0), (0, 22), (0, 18), (5, 0), (5, 0)] [] LE41
  refine q_goto (tgt := 1302) d_L_law_1318 (by decide) ?_
  refine q_iload d_L_law_1302 rfl ?_
  refine q_bipush d_L_law_1304 (by decide) ?_
  refine q_icmp_ge (tgt := 1321) d_L_law_1306 (by decide) ⟨by decide, by decide⟩ ⟨by decide, by decide⟩ (fun g => absurd g (by decide)) (fun _ => ?_)
  show RunQ Γ (fun a => Nat.blt a 46) 302 Y_L_law 1309 [(7, 0), (8, 0), (40, 0), (41, 0), (42, 0), (43, 0), (44, 0), (45, 0), (46, 0), (47, 0), (48, 0), (49, 0), (50, 0), (51, 0), (52, 0), (53, 0), (0, 1), (0, 0), (0, 39), (0, 5636), (0, 25), (0, 62), (0, 0), (0, 22), (0, 18), (5, 0), (5, 0)] [] LE41
  refine q_aload d_L_law_1309 rfl (by decide) ?_
  refine q_iload d_L_law_1311 rfl ?_
  refine q_iconst d_L_law_1313 ?_
  refine q_iast d_L_law_1314 sh_44 (by decide) (by decide) (by decide) (by decide) (by decide) ?_
  show RunQ Γ (fun a => Nat.blt a 46) 302 Y_L_law 1315 [(7, 0), (8, 0), (40, 0), (41, 0), (42, 0), (43, 0), (44, 0), (45, 0), (46, 0), (47, 0), (48, 0), (49, 0), (50, 0), (51, 0), (52, 0), (53, 0), (0, 1), (0, 0), (0, 39), (0, 5636), (0, 25), (0, 62), (0, 0), (0, 22), (0, 18), (5, 0), (5, 0)] [] LE42
  refine q_iinc d_L_law_1315 rfl (by decide) rfl ?_
  show RunQ Γ (fun a => Nat.blt a 46) 302 Y_L_law 1318 [(7, 0), (8, 0), (40, 0), (41, 0), (42, 0), (43, 0), (44, 0), (45, 0), (46, 0), (47, 0), (48, 0), (49, 0), (50, 0), (51, 0), (52, 0), (53, 0), (0, 1), (0, 0), (0, 39), (0, 5636), (0, 25), (0, 62), (0, 0), (0, 22), (0, 19), (5, 0), (5, 0)] [] LE42
  refine q_goto (tgt := 1302) d_L_law_1318 (by decide) ?_
  refine q_iload d_L_law_1302 rfl ?_
  refine q_bipush d_L_law_1304 (by decide) ?_
  refine q_icmp_ge (tgt := 1321) d_L_law_1306 (by decide) ⟨by decide, by decide⟩ ⟨by decide, by decide⟩ (fun g => absurd g (by decide)) (fun _ => ?_)
  show RunQ Γ (fun a => Nat.blt a 46) 302 Y_L_law 1309 [(7, 0), (8, 0), (40, 0), (41, 0), (42, 0), (43, 0), (44, 0), (45, 0), (46, 0), (47, 0), (48, 0), (49, 0), (50, 0), (51, 0), (52, 0), (53, 0), (0, 1), (0, 0), (0, 39), (0, 5636), (0, 25), (0, 62), (0, 0), (0, 22), (0, 19), (5, 0), (5, 0)] [] LE42
  refine q_aload d_L_law_1309 rfl (by decide) ?_
  refine q_iload d_L_law_1311 rfl ?_
  refine q_iconst d_L_law_1313 ?_
  refine q_iast d_L_law_1314 sh_44 (by decide) (by decide) (by decide) (by decide) (by decide) ?_
  show RunQ Γ (fun a => Nat.blt a 46) 302 Y_L_law 1315 [(7, 0), (8, 0), (40, 0), (41, 0), (42, 0), (43, 0), (44, 0), (45, 0), (46, 0), (47, 0), (48, 0), (49, 0), (50, 0), (51, 0), (52, 0), (53, 0), (0, 1), (0, 0), (0, 39), (0, 5636), (0, 25), (0, 62), (0, 0), (0, 22), (0, 19), (5, 0), (5, 0)] [] LE43
  refine q_iinc d_L_law_1315 rfl (by decide) rfl ?_
  show RunQ Γ (fun a => Nat.blt a 46) 302 Y_L_law 1318 [(7, 0), (8, 0), (40, 0), (41, 0), (42, 0), (43, 0), (44, 0), (45, 0), (46, 0), (47, 0), (48, 0), (49, 0), (50, 0), (51, 0), (52, 0), (53, 0), (0, 1), (0, 0), (0, 39), (0, 5636), (0, 25), (0, 62), (0, 0), (0, 22), (0, 20), (5, 0), (5, 0)] [] LE43
  refine q_goto (tgt := 1302) d_L_law_1318 (by decide) ?_
  refine q_iload d_L_law_1302 rfl ?_
  refine q_bipush d_L_law_1304 (by decide) ?_
  refine q_icmp_ge (tgt := 1321) d_L_law_1306 (by decide) ⟨by decide, by decide⟩ ⟨by decide, by decide⟩ (fun g => absurd g (by decide)) (fun _ => ?_)
  show RunQ Γ (fun a => Nat.blt a 46) 302 Y_L_law 1309 [(7, 0), (8, 0), (40, 0), (41, 0), (42, 0), (43, 0), (44, 0), (45, 0), (46, 0), (47, 0), (48, 0), (49, 0), (50, 0), (51, 0), (52, 0), (53, 0), (0, 1), (0, 0), (0, 39), (0, 5636), (0, 25), (0, 62), (0, 0), (0, 22), (0, 20), (5, 0), (5, 0)] [] LE43
  refine q_aload d_L_law_1309 rfl (by decide) ?_
  refine q_iload d_L_law_1311 rfl ?_
  refine q_iconst d_L_law_1313 ?_
  refine q_iast d_L_law_1314 sh_44 (by decide) (by decide) (by decide) (by decide) (by decide) ?_
  show RunQ Γ (fun a => Nat.blt a 46) 302 Y_L_law 1315 [(7, 0), (8, 0), (40, 0), (41, 0), (42, 0), (43, 0), (44, 0), (45, 0), (46, 0), (47, 0), (48, 0), (49, 0), (50, 0), (51, 0), (52, 0), (53, 0), (0, 1), (0, 0), (0, 39), (0, 5636), (0, 25), (0, 62), (0, 0), (0, 22), (0, 20), (5, 0), (5, 0)] [] LE44
  refine q_iinc d_L_law_1315 rfl (by decide) rfl ?_
  show RunQ Γ (fun a => Nat.blt a 46) 302 Y_L_law 1318 [(7, 0), (8, 0), (40, 0), (41, 0), (42, 0), (43, 0), (44, 0), (45, 0), (46, 0), (47, 0), (48, 0), (49, 0), (50, 0), (51, 0), (52, 0), (53, 0), (0, 1), (0, 0), (0, 39), (0, 5636), (0, 25), (0, 62), (0, 0), (0, 22), (0, 21), (5, 0), (5, 0)] [] LE44
  refine q_goto (tgt := 1302) d_L_law_1318 (by decide) ?_
  refine q_iload d_L_law_1302 rfl ?_
  refine q_bipush d_L_law_1304 (by decide) ?_
  refine q_icmp_ge (tgt := 1321) d_L_law_1306 (by decide) ⟨by decide, by decide⟩ ⟨by decide, by decide⟩ (fun g => absurd g (by decide)) (fun _ => ?_)
  show RunQ Γ (fun a => Nat.blt a 46) 302 Y_L_law 1309 [(7, 0), (8, 0), (40, 0), (41, 0), (42, 0), (43, 0), (44, 0), (45, 0), (46, 0), (47, 0), (48, 0), (49, 0), (50, 0), (51, 0), (52, 0), (53, 0), (0, 1), (0, 0), (0, 39), (0, 5636), (0, 25), (0, 62), (0, 0), (0, 22), (0, 21), (5, 0), (5, 0)] [] LE44
  refine q_aload d_L_law_1309 rfl (by decide) ?_
  refine q_iload d_L_law_1311 rfl ?_
  refine q_iconst d_L_law_1313 ?_
  refine q_iast d_L_law_1314 sh_44 (by decide) (by decide) (by decide) (by decide) (by decide) ?_
  show RunQ Γ (fun a => Nat.blt a 46) 302 Y_L_law 1315 [(7, 0), (8, 0), (40, 0), (41, 0), (42, 0), (43, 0), (44, 0), (45, 0), (46, 0), (47, 0), (48, 0), (49, 0), (50, 0), (51, 0), (52, 0), (53, 0), (0, 1), (0, 0), (0, 39), (0, 5636), (0, 25), (0, 62), (0, 0), (0, 22), (0, 21), (5, 0), (5, 0)] [] LE45
  refine q_iinc d_L_law_1315 rfl (by decide) rfl ?_
  show RunQ Γ (fun a => Nat.blt a 46) 302 Y_L_law 1318 [(7, 0), (8, 0), (40, 0), (41, 0), (42, 0), (43, 0), (44, 0), (45, 0), (46, 0), (47, 0), (48, 0), (49, 0), (50, 0), (51, 0), (52, 0), (53, 0), (0, 1), (0, 0), (0, 39), (0, 5636), (0, 25), (0, 62), (0, 0), (0, 22), (0, 22), (5, 0), (5, 0)] [] LE45
  refine q_goto (tgt := 1302) d_L_law_1318 (by decide) ?_
  refine q_iload d_L_law_1302 rfl ?_
  refine q_bipush d_L_law_1304 (by decide) ?_
  refine q_icmp_ge (tgt := 1321) d_L_law_1306 (by decide) ⟨by decide, by decide⟩ ⟨by decide, by decide⟩ (fun g => absurd g (by decide)) (fun _ => ?_)
  show RunQ Γ (fun a => Nat.blt a 46) 302 Y_L_law 1309 [(7, 0), (8, 0), (40, 0), (41, 0), (42, 0), (43, 0), (44, 0), (45, 0), (46, 0), (47, 0), (48, 0), (49, 0), (50, 0), (51, 0), (52, 0), (53, 0), (0, 1), (0, 0), (0, 39), (0, 5636), (0, 25), (0, 62), (0, 0), (0, 22), (0, 22), (5, 0), (5, 0)] [] LE45
  refine q_aload d_L_law_1309 rfl (by decide) ?_
  refine q_iload d_L_law_1311 rfl ?_
  refine q_iconst d_L_law_1313 ?_
  refine q_iast d_L_law_1314 sh_44 (by decide) (by decide) (by decide) (by decide) (by decide) ?_
  show RunQ Γ (fun a => Nat.blt a 46) 302 Y_L_law 1315 [(7, 0), (8, 0), (40, 0), (41, 0), (42, 0), (43, 0), (44, 0), (45, 0), (46, 0), (47, 0), (48, 0), (49, 0), (50, 0), (51, 0), (52, 0), (53, 0), (0, 1), (0, 0), (0, 39), (0, 5636), (0, 25), (0, 62), (0, 0), (0, 22), (0, 22), (5, 0), (5, 0)] [] LE46
  refine q_iinc d_L_law_1315 rfl (by decide) rfl ?_
  show RunQ Γ (fun a => Nat.blt a 46) 302 Y_L_law 1318 [(7, 0), (8, 0), (40, 0), (41, 0), (42, 0), (43, 0), (44, 0), (45, 0), (46, 0), (47, 0), (48, 0), (49, 0), (50, 0), (51, 0), (52, 0), (53, 0), (0, 1), (0, 0), (0, 39), (0, 5636), (0, 25), (0, 62), (0, 0), (0, 22), (0, 23), (5, 0), (5, 0)] [] LE46
  refine q_goto (tgt := 1302) d_L_law_1318 (by decide) ?_
  refine q_iload d_L_law_1302 rfl ?_
  refine q_bipush d_L_law_1304 (by decide) ?_
  refine q_icmp_ge (tgt := 1321) d_L_law_1306 (by decide) ⟨by decide, by decide⟩ ⟨by decide, by decide⟩ (fun g => absurd g (by decide)) (fun _ => ?_)
  show RunQ Γ (fun a => Nat.blt a 46) 302 Y_L_law 1309 [(7, 0), (8, 0), (40, 0), (41, 0), (42, 0), (43, 0), (44, 0), (45, 0), (46, 0), (47, 0), (48, 0), (49, 0), (50, 0), (51, 0), (52, 0), (53, 0), (0, 1), (0, 0), (0, 39), (0, 5636), (0, 25), (0, 62), (0, 0), (0, 22), (0, 23), (5, 0), (5, 0)] [] LE46
  refine q_aload d_L_law_1309 rfl (by decide) ?_
  refine q_iload d_L_law_1311 rfl ?_
  refine q_iconst d_L_law_1313 ?_
  refine q_iast d_L_law_1314 sh_44 (by decide) (by decide) (by decide) (by decide) (by decide) ?_
  show RunQ Γ (fun a => Nat.blt a 46) 302 Y_L_law 1315 [(7, 0), (8, 0), (40, 0), (41, 0), (42, 0), (43, 0), (44, 0), (45, 0), (46, 0), (47, 0), (48, 0), (49, 0), (50, 0), (51, 0), (52, 0), (53, 0), (0, 1), (0, 0), (0, 39), (0, 5636), (0, 25), (0, 62), (0, 0), (0, 22), (0, 23), (5, 0), (5, 0)] [] LE47
  refine q_iinc d_L_law_1315 rfl (by decide) rfl ?_
  show RunQ Γ (fun a => Nat.blt a 46) 302 Y_L_law 1318 [(7, 0), (8, 0), (40, 0), (41, 0), (42, 0), (43, 0), (44, 0), (45, 0), (46, 0), (47, 0), (48, 0), (49, 0), (50, 0), (51, 0), (52, 0), (53, 0), (0, 1), (0, 0), (0, 39), (0, 5636), (0, 25), (0, 62), (0, 0), (0, 22), (0, 24), (5, 0), (5, 0)] [] LE47
  refine q_goto (tgt := 1302) d_L_law_1318 (by decide) ?_
  refine q_iload d_L_law_1302 rfl ?_
  refine q_bipush d_L_law_1304 (by decide) ?_
  refine q_icmp_ge (tgt := 1321) d_L_law_1306 (by decide) ⟨by decide, by decide⟩ ⟨by decide, by decide⟩ (fun g => absurd g (by decide)) (fun _ => ?_)
  show RunQ Γ (fun a => Nat.blt a 46) 302 Y_L_law 1309 [(7, 0), (8, 0), (40, 0), (41, 0), (42, 0), (43, 0), (44, 0), (45, 0), (46, 0), (47, 0), (48, 0), (49, 0), (50, 0), (51, 0), (52, 0), (53, 0), (0, 1), (0, 0), (0, 39), (0, 5636), (0, 25), (0, 62), (0, 0), (0, 22), (0, 24), (5, 0), (5, 0)] [] LE47
  refine q_aload d_L_law_1309 rfl (by decide) ?_
  refine q_iload d_L_law_1311 rfl ?_
  refine q_iconst d_L_law_1313 ?_
  refine q_iast d_L_law_1314 sh_44 (by decide) (by decide) (by decide) (by decide) (by decide) ?_
  show RunQ Γ (fun a => Nat.blt a 46) 302 Y_L_law 1315 [(7, 0), (8, 0), (40, 0), (41, 0), (42, 0), (43, 0), (44, 0), (45, 0), (46, 0), (47, 0), (48, 0), (49, 0), (50, 0), (51, 0), (52, 0), (53, 0), (0, 1), (0, 0), (0, 39), (0, 5636), (0, 25), (0, 62), (0, 0), (0, 22), (0, 24), (5, 0), (5, 0)] [] LE48
  refine q_iinc d_L_law_1315 rfl (by decide) rfl ?_
  show RunQ Γ (fun a => Nat.blt a 46) 302 Y_L_law 1318 [(7, 0), (8, 0), (40, 0), (41, 0), (42, 0), (43, 0), (44, 0), (45, 0), (46, 0), (47, 0), (48, 0), (49, 0), (50, 0), (51, 0), (52, 0), (53, 0), (0, 1), (0, 0), (0, 39), (0, 5636), (0, 25), (0, 62), (0, 0), (0, 22), (0, 25), (5, 0), (5, 0)] [] LE48
  refine q_goto (tgt := 1302) d_L_law_1318 (by decide) ?_
  refine q_iload d_L_law_1302 rfl ?_
  refine q_bipush d_L_law_1304 (by decide) ?_
  refine q_icmp_ge (tgt := 1321) d_L_law_1306 (by decide) ⟨by decide, by decide⟩ ⟨by decide, by decide⟩ (fun g => absurd g (by decide)) (fun _ => ?_)
  show RunQ Γ (fun a => Nat.blt a 46) 302 Y_L_law 1309 [(7, 0), (8, 0), (40, 0), (41, 0), (42, 0), (43, 0), (44, 0), (45, 0), (46, 0), (47, 0), (48, 0), (49, 0), (50, 0), (51, 0), (52, 0), (53, 0), (0, 1), (0, 0), (0, 39), (0, 5636), (0, 25), (0, 62), (0, 0), (0, 22), (0, 25), (5, 0), (5, 0)] [] LE48
  refine q_aload d_L_law_1309 rfl (by decide) ?_
  refine q_iload d_L_law_1311 rfl ?_
  refine q_iconst d_L_law_1313 ?_
  refine q_iast d_L_law_1314 sh_44 (by decide) (by decide) (by decide) (by decide) (by decide) ?_
  show RunQ Γ (fun a => Nat.blt a 46) 302 Y_L_law 1315 [(7, 0), (8, 0), (40, 0), (41, 0), (42, 0), (43, 0), (44, 0), (45, 0), (46, 0), (47, 0), (48, 0), (49, 0), (50, 0), (51, 0), (52, 0), (53, 0), (0, 1), (0, 0), (0, 39), (0, 5636), (0, 25), (0, 62), (0, 0), (0, 22), (0, 25), (5, 0), (5, 0)] [] LE49
  refine q_iinc d_L_law_1315 rfl (by decide) rfl ?_
  show RunQ Γ (fun a => Nat.blt a 46) 302 Y_L_law 1318 [(7, 0), (8, 0), (40, 0), (41, 0), (42, 0), (43, 0), (44, 0), (45, 0), (46, 0), (47, 0), (48, 0), (49, 0), (50, 0), (51, 0), (52, 0), (53, 0), (0, 1), (0, 0), (0, 39), (0, 5636), (0, 25), (0, 62), (0, 0), (0, 22), (0, 26), (5, 0), (5, 0)] [] LE49
  refine q_goto (tgt := 1302) d_L_law_1318 (by decide) ?_
  refine q_iload d_L_law_1302 rfl ?_
  refine q_bipush d_L_law_1304 (by decide) ?_
  refine q_icmp_ge (tgt := 1321) d_L_law_1306 (by decide) ⟨by decide, by decide⟩ ⟨by decide, by decide⟩ (fun g => absurd g (by decide)) (fun _ => ?_)
  show RunQ Γ (fun a => Nat.blt a 46) 302 Y_L_law 1309 [(7, 0), (8, 0), (40, 0), (41, 0), (42, 0), (43, 0), (44, 0), (45, 0), (46, 0), (47, 0), (48, 0), (49, 0), (50, 0), (51, 0), (52, 0), (53, 0), (0, 1), (0, 0), (0, 39), (0, 5636), (0, 25), (0, 62), (0, 0), (0, 22), (0, 26), (5, 0), (5, 0)] [] LE49
  refine q_aload d_L_law_1309 rfl (by decide) ?_
  refine q_iload d_L_law_1311 rfl ?_
  refine q_iconst d_L_law_1313 ?_
  refine q_iast d_L_law_1314 sh_44 (by decide) (by decide) (by decide) (by decide) (by decide) ?_
  show RunQ Γ (fun a => Nat.blt a 46) 302 Y_L_law 1315 [(7, 0), (8, 0), (40, 0), (41, 0), (42, 0), (43, 0), (44, 0), (45, 0), (46, 0), (47, 0), (48, 0), (49, 0), (50, 0), (51, 0), (52, 0), (53, 0), (0, 1), (0, 0), (0, 39), (0, 5636), (0, 25), (0, 62), (0, 0), (0, 22), (0, 26), (5, 0), (5, 0)] [] LE50
  refine q_iinc d_L_law_1315 rfl (by decide) rfl ?_
  show RunQ Γ (fun a => Nat.blt a 46) 302 Y_L_law 1318 [(7, 0), (8, 0), (40, 0), (41, 0), (42, 0), (43, 0), (44, 0), (45, 0), (46, 0), (47, 0), (48, 0), (49, 0), (50, 0), (51, 0), (52, 0), (53, 0), (0, 1), (0, 0), (0, 39), (0, 5636), (0, 25), (0, 62), (0, 0), (0, 22), (0, 27), (5, 0), (5, 0)] [] LE50
  refine q_goto (tgt := 1302) d_L_law_1318 (by decide) ?_
  refine q_iload d_L_law_1302 rfl ?_
  refine q_bipush d_L_law_1304 (by decide) ?_
  refine q_icmp_ge (tgt := 1321) d_L_law_1306 (by decide) ⟨by decide, by decide⟩ ⟨by decide, by decide⟩ (fun g => absurd g (by decide)) (fun _ => ?_)
  show RunQ Γ (fun a => Nat.blt a 46) 302 Y_L_law 1309 [(7, 0), (8, 0), (40, 0), (41, 0), (42, 0), (43, 0), (44, 0), (45, 0), (46, 0), (47, 0), (48, 0), (49, 0), (50, 0), (51, 0), (52, 0), (53, 0), (0, 1), (0, 0), (0, 39), (0, 5636), (0, 25), (0, 62), (0, 0), (0, 22), (0, 27), (5, 0), (5, 0)] [] LE50
  refine q_aload d_L_law_1309 rfl (by decide) ?_
  refine q_iload d_L_law_1311 rfl ?_
  refine q_iconst d_L_law_1313 ?_
  refine q_iast d_L_law_1314 sh_44 (by decide) (by decide) (by decide) (by decide) (by decide) ?_
  show RunQ Γ (fun a => Nat.blt a 46) 302 Y_L_law 1315 [(7, 0), (8, 0), (40, 0), (41, 0), (42, 0), (43, 0), (44, 0), (45, 0), (46, 0), (47, 0), (48, 0), (49, 0), (50, 0), (51, 0), (52, 0), (53, 0), (0, 1), (0, 0), (0, 39), (0, 5636), (0, 25), (0, 62), (0, 0), (0, 22), (0, 27), (5, 0), (5, 0)] [] LE51
  refine q_iinc d_L_law_1315 rfl (by decide) rfl ?_
  show RunQ Γ (fun a => Nat.blt a 46) 302 Y_L_law 1318 [(7, 0), (8, 0), (40, 0), (41, 0), (42, 0), (43, 0), (44, 0), (45, 0), (46, 0), (47, 0), (48, 0), (49, 0), (50, 0), (51, 0), (52, 0), (53, 0), (0, 1), (0, 0), (0, 39), (0, 5636), (0, 25), (0, 62), (0, 0), (0, 22), (0, 28), (5, 0), (5, 0)] [] LE51
  refine q_goto (tgt := 1302) d_L_law_1318 (by decide) ?_
  refine q_iload d_L_law_1302 rfl ?_
  refine q_bipush d_L_law_1304 (by decide) ?_
  refine q_icmp_ge (tgt := 1321) d_L_law_1306 (by decide) ⟨by decide, by decide⟩ ⟨by decide, by decide⟩ (fun g => absurd g (by decide)) (fun _ => ?_)
  show RunQ Γ (fun a => Nat.blt a 46) 302 Y_L_law 1309 [(7, 0), (8, 0), (40, 0), (41, 0), (42, 0), (43, 0), (44, 0), (45, 0), (46, 0), (47, 0), (48, 0), (49, 0), (50, 0), (51, 0), (52, 0), (53, 0), (0, 1), (0, 0), (0, 39), (0, 5636), (0, 25), (0, 62), (0, 0), (0, 22), (0, 28), (5, 0), (5, 0)] [] LE51
  refine q_aload d_L_law_1309 rfl (by decide) ?_
  refine q_iload d_L_law_1311 rfl ?_
  refine q_iconst d_L_law_1313 ?_
  refine q_iast d_L_law_1314 sh_44 (by decide) (by decide) (by decide) (by decide) (by decide) ?_
  show RunQ Γ (fun a => Nat.blt a 46) 302 Y_L_law 1315 [(7, 0), (8, 0), (40, 0), (41, 0), (42, 0), (43, 0), (44, 0), (45, 0), (46, 0), (47, 0), (48, 0), (49, 0), (50, 0), (51, 0), (52, 0), (53, 0), (0, 1), (0, 0), (0, 39), (0, 5636), (0, 25), (0, 62), (0, 0), (0, 22), (0, 28), (5, 0), (5, 0)] [] LE52
  refine q_iinc d_L_law_1315 rfl (by decide) rfl ?_
  show RunQ Γ (fun a => Nat.blt a 46) 302 Y_L_law 1318 [(7, 0), (8, 0), (40, 0), (41, 0), (42, 0), (43, 0), (44, 0), (45, 0), (46, 0), (47, 0), (48, 0), (49, 0), (50, 0), (51, 0), (52, 0), (53, 0), (0, 1), (0, 0), (0, 39), (0, 5636), (0, 25), (0, 62), (0, 0), (0, 22), (0, 29), (5, 0), (5, 0)] [] LE52
  refine q_goto (tgt := 1302) d_L_law_1318 (by decide) ?_
  refine q_iload d_L_law_1302 rfl ?_
  refine q_bipush d_L_law_1304 (by decide) ?_
  refine q_icmp_ge (tgt := 1321) d_L_law_1306 (by decide) ⟨by decide, by decide⟩ ⟨by decide, by decide⟩ (fun g => absurd g (by decide)) (fun _ => ?_)
  show RunQ Γ (fun a => Nat.blt a 46) 302 Y_L_law 1309 [(7, 0), (8, 0), (40, 0), (41, 0), (42, 0), (43, 0), (44, 0), (45, 0), (46, 0), (47, 0), (48, 0), (49, 0), (50, 0), (51, 0), (52, 0), (53, 0), (0, 1), (0, 0), (0, 39), (0, 5636), (0, 25), (0, 62), (0, 0), (0, 22), (0, 29), (5, 0), (5, 0)] [] LE52
  refine q_aload d_L_law_1309 rfl (by decide) ?_
  refine q_iload d_L_law_1311 rfl ?_
  refine q_iconst d_L_law_1313 ?_
  refine q_iast d_L_law_1314 sh_44 (by decide) (by decide) (by decide) (by decide) (by decide) ?_
  show RunQ Γ (fun a => Nat.blt a 46) 302 Y_L_law 1315 [(7, 0), (8, 0), (40, 0), (41, 0), (42, 0), (43, 0), (44, 0), (45, 0), (46, 0), (47, 0), (48, 0), (49, 0), (50, 0), (51, 0), (52, 0), (53, 0), (0, 1), (0, 0), (0, 39), (0, 5636), (0, 25), (0, 62), (0, 0), (0, 22), (0, 29), (5, 0), (5, 0)] [] LE53
  refine q_iinc d_L_law_1315 rfl (by decide) rfl ?_
  show RunQ Γ (fun a => Nat.blt a 46) 302 Y_L_law 1318 [(7, 0), (8, 0), (40, 0), (41, 0), (42, 0), (43, 0), (44, 0), (45, 0), (46, 0), (47, 0), (48, 0), (49, 0), (50, 0), (51, 0), (52, 0), (53, 0), (0, 1), (0, 0), (0, 39), (0, 5636), (0, 25), (0, 62), (0, 0), (0, 22), (0, 30), (5, 0), (5, 0)] [] LE53
  refine q_goto (tgt := 1302) d_L_law_1318 (by decide) ?_
  refine q_iload d_L_law_1302 rfl ?_
  refine q_bipush d_L_law_1304 (by decide) ?_
  refine q_icmp_ge (tgt := 1321) d_L_law_1306 (by decide) ⟨by decide, by decide⟩ ⟨by decide, by decide⟩ (fun g => absurd g (by decide)) (fun _ => ?_)
  show RunQ Γ (fun a => Nat.blt a 46) 302 Y_L_law 1309 [(7, 0), (8, 0), (40, 0), (41, 0), (42, 0), (43, 0), (44, 0), (45, 0), (46, 0), (47, 0), (48, 0), (49, 0), (50, 0), (51, 0), (52, 0), (53, 0), (0, 1), (0, 0), (0, 39), (0, 5636), (0, 25), (0, 62), (0, 0), (0, 22), (0, 30), (5, 0), (5, 0)] [] LE53
  refine q_aload d_L_law_1309 rfl (by decide) ?_
  refine q_iload d_L_law_1311 rfl ?_
  refine q_iconst d_L_law_1313 ?_
  refine q_iast d_L_law_1314 sh_44 (by decide) (by decide) (by decide) (by decide) (by decide) ?_
  show RunQ Γ (fun a => Nat.blt a 46) 302 Y_L_law 1315 [(7, 0), (8, 0), (40, 0), (41, 0), (42, 0), (43, 0), (44, 0), (45, 0), (46, 0), (47, 0), (48, 0), (49, 0), (50, 0), (51, 0), (52, 0), (53, 0), (0, 1), (0, 0), (0, 39), (0, 5636), (0, 25), (0, 62), (0, 0), (0, 22), (0, 30), (5, 0), (5, 0)] [] LE54
  refine q_iinc d_L_law_1315 rfl (by decide) rfl ?_
  show RunQ Γ (fun a => Nat.blt a 46) 302 Y_L_law 1318 [(7, 0), (8, 0), (40, 0), (41, 0), (42, 0), (43, 0), (44, 0), (45, 0), (46, 0), (47, 0), (48, 0), (49, 0), (50, 0), (51, 0), (52, 0), (53, 0), (0, 1), (0, 0), (0, 39), (0, 5636), (0, 25), (0, 62), (0, 0), (0, 22), (0, 31), (5, 0), (5, 0)] [] LE54
  refine q_goto (tgt := 1302) d_L_law_1318 (by decide) ?_
  refine q_iload d_L_law_1302 rfl ?_
  refine q_bipush d_L_law_1304 (by decide) ?_
  refine q_icmp_ge (tgt := 1321) d_L_law_1306 (by decide) ⟨by decide, by decide⟩ ⟨by decide, by decide⟩ (fun g => absurd g (by decide)) (fun _ => ?_)
  show RunQ Γ (fun a => Nat.blt a 46) 302 Y_L_law 1309 [(7, 0), (8, 0), (40, 0), (41, 0), (42, 0), (43, 0), (44, 0), (45, 0), (46, 0), (47, 0), (48, 0), (49, 0), (50, 0), (51, 0), (52, 0), (53, 0), (0, 1), (0, 0), (0, 39), (0, 5636), (0, 25), (0, 62), (0, 0), (0, 22), (0, 31), (5, 0), (5, 0)] [] LE54
  refine q_aload d_L_law_1309 rfl (by decide) ?_
  refine q_iload d_L_law_1311 rfl ?_
  refine q_iconst d_L_law_1313 ?_
  refine q_iast d_L_law_1314 sh_44 (by decide) (by decide) (by decide) (by decide) (by decide) ?_
  show RunQ Γ (fun a => Nat.blt a 46) 302 Y_L_law 1315 [(7, 0), (8, 0), (40, 0), (41, 0), (42, 0), (43, 0), (44, 0), (45, 0), (46, 0), (47, 0), (48, 0), (49, 0), (50, 0), (51, 0), (52, 0), (53, 0), (0, 1), (0, 0), (0, 39), (0, 5636), (0, 25), (0, 62), (0, 0), (0, 22), (0, 31), (5, 0), (5, 0)] [] LE55
  refine q_iinc d_L_law_1315 rfl (by decide) rfl ?_
  show RunQ Γ (fun a => Nat.blt a 46) 302 Y_L_law 1318 [(7, 0), (8, 0), (40, 0), (41, 0), (42, 0), (43, 0), (44, 0), (45, 0), (46, 0), (47, 0), (48, 0), (49, 0), (50, 0), (51, 0), (52, 0), (53, 0), (0, 1), (0, 0), (0, 39), (0, 5636), (0, 25), (0, 62), (0, 0), (0, 22), (0, 32), (5, 0), (5, 0)] [] LE55
  refine q_goto (tgt := 1302) d_L_law_1318 (by decide) ?_
  refine q_iload d_L_law_1302 rfl ?_
  refine q_bipush d_L_law_1304 (by decide) ?_
  refine q_icmp_ge (tgt := 1321) d_L_law_1306 (by decide) ⟨by decide, by decide⟩ ⟨by decide, by decide⟩ (fun g => absurd g (by decide)) (fun _ => ?_)
  show RunQ Γ (fun a => Nat.blt a 46) 302 Y_L_law 1309 [(7, 0), (8, 0), (40, 0), (41, 0), (42, 0), (43, 0), (44, 0), (45, 0), (46, 0), (47, 0), (48, 0), (49, 0), (50, 0), (51, 0), (52, 0), (53, 0), (0, 1), (0, 0), (0, 39), (0, 5636), (0, 25), (0, 62), (0, 0), (0, 22), (0, 32), (5, 0), (5, 0)] [] LE55
  refine q_aload d_L_law_1309 rfl (by decide) ?_
  refine q_iload d_L_law_1311 rfl ?_
  refine q_iconst d_L_law_1313 ?_
  refine q_iast d_L_law_1314 sh_44 (by decide) (by decide) (by decide) (by decide) (by decide) ?_
  show RunQ Γ (fun a => Nat.blt a 46) 302 Y_L_law 1315 [(7, 0), (8, 0), (40, 0), (41, 0), (42, 0), (43, 0), (44, 0), (45, 0), (46, 0), (47, 0), (48, 0), (49, 0), (50, 0), (51, 0), (52, 0), (53, 0), (0, 1), (0, 0), (0, 39), (0, 5636), (0, 25), (0, 62), (0, 0), (0, 22), (0, 32), (5, 0), (5, 0)] [] LE56
  refine q_iinc d_L_law_1315 rfl (by decide) rfl ?_
  show RunQ Γ (fun a => Nat.blt a 46) 302 Y_L_law 1318 [(7, 0), (8, 0), (40, 0), (41, 0), (42, 0), (43, 0), (44, 0), (45, 0), (46, 0), (47, 0), (48, 0), (49, 0), (50, 0), (51, 0), (52, 0), (53, 0), (0, 1), (0, 0), (0, 39), (0, 5636), (0, 25), (0, 62), (0, 0), (0, 22), (0, 33), (5, 0), (5, 0)] [] LE56
  refine q_goto (tgt := 1302) d_L_law_1318 (by decide) ?_
  refine q_iload d_L_law_1302 rfl ?_
  refine q_bipush d_L_law_1304 (by decide) ?_
  refine q_icmp_ge (tgt := 1321) d_L_law_1306 (by decide) ⟨by decide, by decide⟩ ⟨by decide, by decide⟩ (fun g => absurd g (by decide)) (fun _ => ?_)
  show RunQ Γ (fun a => Nat.blt a 46) 302 Y_L_law 1309 [(7, 0), (8, 0), (40, 0), (41, 0), (42, 0), (43, 0), (44, 0), (45, 0), (46, 0), (47, 0), (48, 0), (49, 0), (50, 0), (51, 0), (52, 0), (53, 0), (0, 1), (0, 0), (0, 39), (0, 5636), (0, 25), (0, 62), (0, 0), (0, 22), (0, 33), (5, 0), (5, 0)] [] LE56
  refine q_aload d_L_law_1309 rfl (by decide) ?_
  refine q_iload d_L_law_1311 rfl ?_
  refine q_iconst d_L_law_1313 ?_
  refine q_iast d_L_law_1314 sh_44 (by decide) (by decide) (by decide) (by decide) (by decide) ?_
  show RunQ Γ (fun a => Nat.blt a 46) 302 Y_L_law 1315 [(7, 0), (8, 0), (40, 0), (41, 0), (42, 0), (43, 0), (44, 0), (45, 0), (46, 0), (47, 0), (48, 0), (49, 0), (50, 0), (51, 0), (52, 0), (53, 0), (0, 1), (0, 0), (0, 39), (0, 5636), (0, 25), (0, 62), (0, 0), (0, 22), (0, 33), (5, 0), (5, 0)] [] LE57
  refine q_iinc d_L_law_1315 rfl (by decide) rfl ?_
  show RunQ Γ (fun a => Nat.blt a 46) 302 Y_L_law 1318 [(7, 0), (8, 0), (40, 0), (41, 0), (42, 0), (43, 0), (44, 0), (45, 0), (46, 0), (47, 0), (48, 0), (49, 0), (50, 0), (51, 0), (52, 0), (53, 0), (0, 1), (0, 0), (0, 39), (0, 5636), (0, 25), (0, 62), (0, 0), (0, 22), (0, 34), (5, 0), (5, 0)] [] LE57
  refine q_goto (tgt := 1302) d_L_law_1318 (by decide) ?_
  refine q_iload d_L_law_1302 rfl ?_
  refine q_bipush d_L_law_1304 (by decide) ?_
  refine q_icmp_ge (tgt := 1321) d_L_law_1306 (by decide) ⟨by decide, by decide⟩ ⟨by decide, by decide⟩ (fun g => absurd g (by decide)) (fun _ => ?_)
  show RunQ Γ (fun a => Nat.blt a 46) 302 Y_L_law 1309 [(7, 0), (8, 0), (40, 0), (41, 0), (42, 0), (43, 0), (44, 0), (45, 0), (46, 0), (47, 0), (48, 0), (49, 0), (50, 0), (51, 0), (52, 0), (53, 0), (0, 1), (0, 0), (0, 39), (0, 5636), (0, 25), (0, 62), (0, 0), (0, 22), (0, 34), (5, 0), (5, 0)] [] LE57
  refine q_aload d_L_law_1309 rfl (by decide) ?_
  refine q_iload d_L_law_1311 rfl ?_
  refine q_iconst d_L_law_1313 ?_
  refine q_iast d_L_law_1314 sh_44 (by decide) (by decide) (by decide) (by decide) (by decide) ?_
  show RunQ Γ (fun a => Nat.blt a 46) 302 Y_L_law 1315 [(7, 0), (8, 0), (40, 0), (41, 0), (42, 0), (43, 0), (44, 0), (45, 0), (46, 0), (47, 0), (48, 0), (49, 0), (50, 0), (51, 0), (52, 0), (53, 0), (0, 1), (0, 0), (0, 39), (0, 5636), (0, 25), (0, 62), (0, 0), (0, 22), (0, 34), (5, 0), (5, 0)] [] LE58
  refine q_iinc d_L_law_1315 rfl (by decide) rfl ?_
  show RunQ Γ (fun a => Nat.blt a 46) 302 Y_L_law 1318 [(7, 0), (8, 0), (40, 0), (41, 0), (42, 0), (43, 0), (44, 0), (45, 0), (46, 0), (47, 0), (48, 0), (49, 0), (50, 0), (51, 0), (52, 0), (53, 0), (0, 1), (0, 0), (0, 39), (0, 5636), (0, 25), (0, 62), (0, 0), (0, 22), (0, 35), (5, 0), (5, 0)] [] LE58
  refine q_goto (tgt := 1302) d_L_law_1318 (by decide) ?_
  refine q_iload d_L_law_1302 rfl ?_
  refine q_bipush d_L_law_1304 (by decide) ?_
  refine q_icmp_ge (tgt := 1321) d_L_law_1306 (by decide) ⟨by decide, by decide⟩ ⟨by decide, by decide⟩ (fun g => absurd g (by decide)) (fun _ => ?_)
  show RunQ Γ (fun a => Nat.blt a 46) 302 Y_L_law 1309 [(7, 0), (8, 0), (40, 0), (41, 0), (42, 0), (43, 0), (44, 0), (45, 0), (46, 0), (47, 0), (48, 0), (49, 0), (50, 0), (51, 0), (52, 0), (53, 0), (0, 1), (0, 0), (0, 39), (0, 5636), (0, 25), (0, 62), (0, 0), (0, 22), (0, 35), (5, 0), (5, 0)] [] LE58
  refine q_aload d_L_law_1309 rfl (by decide) ?_
  refine q_iload d_L_law_1311 rfl ?_
  refine q_iconst d_L_law_1313 ?_
  refine q_iast d_L_law_1314 sh_44 (by decide) (by decide) (by decide) (by decide) (by decide) ?_
  show RunQ Γ (fun a => Nat.blt a 46) 302 Y_L_law 1315 [(7, 0), (8, 0), (40, 0), (41, 0), (42, 0), (43, 0), (44, 0), (45, 0), (46, 0), (47, 0), (48, 0), (49, 0), (50, 0), (51, 0), (52, 0), (53, 0), (0, 1), (0, 0), (0, 39), (0, 5636), (0, 25), (0, 62), (0, 0), (0, 22), (0, 35), (5, 0), (5, 0)] [] LE59
  refine q_iinc d_L_law_1315 rfl (by decide) rfl ?_
  show RunQ Γ (fun a => Nat.blt a 46) 302 Y_L_law 1318 [(7, 0), (8, 0), (40, 0), (41, 0), (42, 0), (43, 0), (44, 0), (45, 0), (46, 0), (47, 0), (48, 0), (49, 0), (50, 0), (51, 0), (52, 0), (53, 0), (0, 1), (0, 0), (0, 39), (0, 5636), (0, 25), (0, 62), (0, 0), (0, 22), (0, 36), (5, 0), (5, 0)] [] LE59
  refine q_goto (tgt := 1302) d_L_law_1318 (by decide) ?_
  refine q_iload d_L_law_1302 rfl ?_
  refine q_bipush d_L_law_1304 (by decide) ?_
  refine q_icmp_ge (tgt := 1321) d_L_law_1306 (by decide) ⟨by decide, by decide⟩ ⟨by decide, by decide⟩ (fun g => absurd g (by decide)) (fun _ => ?_)
  show RunQ Γ (fun a => Nat.blt a 46) 302 Y_L_law 1309 [(7, 0), (8, 0), (40, 0), (41, 0), (42, 0), (43, 0), (44, 0), (45, 0), (46, 0), (47, 0), (48, 0), (49, 0), (50, 0), (51, 0), (52, 0), (53, 0), (0, 1), (0, 0), (0, 39), (0, 5636), (0, 25), (0, 62), (0, 0), (0, 22), (0, 36), (5, 0), (5, 0)] [] LE59
  refine q_aload d_L_law_1309 rfl (by decide) ?_
  refine q_iload d_L_law_1311 rfl ?_
  refine q_iconst d_L_law_1313 ?_
  refine q_iast d_L_law_1314 sh_44 (by decide) (by decide) (by decide) (by decide) (by decide) ?_
  show RunQ Γ (fun a => Nat.blt a 46) 302 Y_L_law 1315 [(7, 0), (8, 0), (40, 0), (41, 0), (42, 0), (43, 0), (44, 0), (45, 0), (46, 0), (47, 0), (48, 0), (49, 0), (50, 0), (51, 0), (52, 0), (53, 0), (0, 1), (0, 0), (0, 39), (0, 5636), (0, 25), (0, 62), (0, 0), (0, 22), (0, 36), (5, 0), (5, 0)] [] LE60
  refine q_iinc d_L_law_1315 rfl (by decide) rfl ?_
  show RunQ Γ (fun a => Nat.blt a 46) 302 Y_L_law 1318 [(7, 0), (8, 0), (40, 0), (41, 0), (42, 0), (43, 0), (44, 0), (45, 0), (46, 0), (47, 0), (48, 0), (49, 0), (50, 0), (51, 0), (52, 0), (53, 0), (0, 1), (0, 0), (0, 39), (0, 5636), (0, 25), (0, 62), (0, 0), (0, 22), (0, 37), (5, 0), (5, 0)] [] LE60
  refine q_goto (tgt := 1302) d_L_law_1318 (by decide) ?_
  refine q_iload d_L_law_1302 rfl ?_
  refine q_bipush d_L_law_1304 (by decide) ?_
  refine q_icmp_ge (tgt := 1321) d_L_law_1306 (by decide) ⟨by decide, by decide⟩ ⟨by decide, by decide⟩ (fun g => absurd g (by decide)) (fun _ => ?_)
  show RunQ Γ (fun a => Nat.blt a 46) 302 Y_L_law 1309 [(7, 0), (8, 0), (40, 0), (41, 0), (42, 0), (43, 0), (44, 0), (45, 0), (46, 0), (47, 0), (48, 0), (49, 0), (50, 0), (51, 0), (52, 0), (53, 0), (0, 1), (0, 0), (0, 39), (0, 5636), (0, 25), (0, 62), (0, 0), (0, 22), (0, 37), (5, 0), (5, 0)] [] LE60
  refine q_aload d_L_law_1309 rfl (by decide) ?_
  refine q_iload d_L_law_1311 rfl ?_
  refine q_iconst d_L_law_1313 ?_
  refine q_iast d_L_law_1314 sh_44 (by decide) (by decide) (by decide) (by decide) (by decide) ?_
  show RunQ Γ (fun a => Nat.blt a 46) 302 Y_L_law 1315 [(7, 0), (8, 0), (40, 0), (41, 0), (42, 0), (43, 0), (44, 0), (45, 0), (46, 0), (47, 0), (48, 0), (49, 0), (50, 0), (51, 0), (52, 0), (53, 0), (0, 1), (0, 0), (0, 39), (0, 5636), (0, 25), (0, 62), (0, 0), (0, 22), (0, 37), (5, 0), (5, 0)] [] LE61
  refine q_iinc d_L_law_1315 rfl (by decide) rfl ?_
  show RunQ Γ (fun a => Nat.blt a 46) 302 Y_L_law 1318 [(7, 0), (8, 0), (40, 0), (41, 0), (42, 0), (43, 0), (44, 0), (45, 0), (46, 0), (47, 0), (48, 0), (49, 0), (50, 0), (51, 0), (52, 0), (53, 0), (0, 1), (0, 0), (0, 39), (0, 5636), (0, 25), (0, 62), (0, 0), (0, 22), (0, 38), (5, 0), (5, 0)] [] LE61
  refine q_goto (tgt := 1302) d_L_law_1318 (by decide) ?_
  refine q_iload d_L_law_1302 rfl ?_
  refine q_bipush d_L_law_1304 (by decide) ?_
  refine q_icmp_ge (tgt := 1321) d_L_law_1306 (by decide) ⟨by decide, by decide⟩ ⟨by decide, by decide⟩ (fun g => absurd g (by decide)) (fun _ => ?_)
  show RunQ Γ (fun a => Nat.blt a 46) 302 Y_L_law 1309 [(7, 0), (8, 0), (40, 0), (41, 0), (42, 0), (43, 0), (44, 0), (45, 0), (46, 0), (47, 0), (48, 0), (49, 0), (50, 0), (51, 0), (52, 0), (53, 0), (0, 1), (0, 0), (0, 39), (0, 5636), (0, 25), (0, 62), (0, 0), (0, 22), (0, 38), (5, 0), (5, 0)] [] LE61
  refine q_aload d_L_law_1309 rfl (by decide) ?_
  refine q_iload d_L_law_1311 rfl ?_
  refine q_iconst d_L_law_1313 ?_
  refine q_iast d_L_law_1314 sh_44 (by decide) (by decide) (by decide) (by decide) (by decide) ?_
  show RunQ Γ (fun a => Nat.blt a 46) 302 Y_L_law 1315 [(7, 0), (8, 0), (40, 0), (41, 0), (42, 0), (43, 0), (44, 0), (45, 0), (46, 0), (47, 0), (48, 0), (49, 0), (50, 0), (51, 0), (52, 0), (53, 0), (0, 1), (0, 0), (0, 39), (0, 5636), (0, 25), (0, 62), (0, 0), (0, 22), (0, 38), (5, 0), (5, 0)] [] LE62
  refine q_iinc d_L_law_1315 rfl (by decide) rfl ?_
  show RunQ Γ (fun a => Nat.blt a 46) 302 Y_L_law 1318 [(7, 0), (8, 0), (40, 0), (41, 0), (42, 0), (43, 0), (44, 0), (45, 0), (46, 0), (47, 0), (48, 0), (49, 0), (50, 0), (51, 0), (52, 0), (53, 0), (0, 1), (0, 0), (0, 39), (0, 5636), (0, 25), (0, 62), (0, 0), (0, 22), (0, 39), (5, 0), (5, 0)] [] LE62
  refine q_goto (tgt := 1302) d_L_law_1318 (by decide) ?_
  refine q_iload d_L_law_1302 rfl ?_
  refine q_bipush d_L_law_1304 (by decide) ?_
  refine q_icmp_ge (tgt := 1321) d_L_law_1306 (by decide) ⟨by decide, by decide⟩ ⟨by decide, by decide⟩ (fun g => absurd g (by decide)) (fun _ => ?_)
  show RunQ Γ (fun a => Nat.blt a 46) 302 Y_L_law 1309 [(7, 0), (8, 0), (40, 0), (41, 0), (42, 0), (43, 0), (44, 0), (45, 0), (46, 0), (47, 0), (48, 0), (49, 0), (50, 0), (51, 0), (52, 0), (53, 0), (0, 1), (0, 0), (0, 39), (0, 5636), (0, 25), (0, 62), (0, 0), (0, 22), (0, 39), (5, 0), (5, 0)] [] LE62
  refine q_aload d_L_law_1309 rfl (by decide) ?_
  refine q_iload d_L_law_1311 rfl ?_
  refine q_iconst d_L_law_1313 ?_
  refine q_iast d_L_law_1314 sh_44 (by decide) (by decide) (by decide) (by decide) (by decide) ?_
  show RunQ Γ (fun a => Nat.blt a 46) 302 Y_L_law 1315 [(7, 0), (8, 0), (40, 0), (41, 0), (42, 0), (43, 0), (44, 0), (45, 0), (46, 0), (47, 0), (48, 0), (49, 0), (50, 0), (51, 0), (52, 0), (53, 0), (0, 1), (0, 0), (0, 39), (0, 5636), (0, 25), (0, 62), (0, 0), (0, 22), (0, 39), (5, 0), (5, 0)] [] LE63
  refine q_iinc d_L_law_1315 rfl (by decide) rfl ?_
  show RunQ Γ (fun a => Nat.blt a 46) 302 Y_L_law 1318 [(7, 0), (8, 0), (40, 0), (41, 0), (42, 0), (43, 0), (44, 0), (45, 0), (46, 0), (47, 0), (48, 0), (49, 0), (50, 0), (51, 0), (52, 0), (53, 0), (0, 1), (0, 0), (0, 39), (0, 5636), (0, 25), (0, 62), (0, 0), (0, 22), (0, 40), (5, 0), (5, 0)] [] LE63
  refine q_goto (tgt := 1302) d_L_law_1318 (by decide) ?_
  refine q_iload d_L_law_1302 rfl ?_
  refine q_bipush d_L_law_1304 (by decide) ?_
  refine q_icmp_ge (tgt := 1321) d_L_law_1306 (by decide) ⟨by decide, by decide⟩ ⟨by decide, by decide⟩ (fun g => absurd g (by decide)) (fun _ => ?_)
  show RunQ Γ (fun a => Nat.blt a 46) 302 Y_L_law 1309 [(7, 0), (8, 0), (40, 0), (41, 0), (42, 0), (43, 0), (44, 0), (45, 0), (46, 0), (47, 0), (48, 0), (49, 0), (50, 0), (51, 0), (52, 0), (53, 0), (0, 1), (0, 0), (0, 39), (0, 5636), (0, 25), (0, 62), (0, 0), (0, 22), (0, 40), (5, 0), (5, 0)] [] LE63
  refine q_aload d_L_law_1309 rfl (by decide) ?_
  refine q_iload d_L_law_1311 rfl ?_
  refine q_iconst d_L_law_1313 ?_
  refine q_iast d_L_law_1314 sh_44 (by decide) (by decide) (by decide) (by decide) (by decide) ?_
  show RunQ Γ (fun a => Nat.blt a 46) 302 Y_L_law 1315 [(7, 0), (8, 0), (40, 0), (41, 0), (42, 0), (43, 0), (44, 0), (45, 0), (46, 0), (47, 0), (48, 0), (49, 0), (50, 0), (51, 0), (52, 0), (53, 0), (0, 1), (0, 0), (0, 39), (0, 5636), (0, 25), (0, 62), (0, 0), (0, 22), (0, 40), (5, 0), (5, 0)] [] LE64
  refine q_iinc d_L_law_1315 rfl (by decide) rfl ?_
  show RunQ Γ (fun a => Nat.blt a 46) 302 Y_L_law 1318 [(7, 0), (8, 0), (40, 0), (41, 0), (42, 0), (43, 0), (44, 0), (45, 0), (46, 0), (47, 0), (48, 0), (49, 0), (50, 0), (51, 0), (52, 0), (53, 0), (0, 1), (0, 0), (0, 39), (0, 5636), (0, 25), (0, 62), (0, 0), (0, 22), (0, 41), (5, 0), (5, 0)] [] LE64
  refine q_goto (tgt := 1302) d_L_law_1318 (by decide) ?_
  refine q_iload d_L_law_1302 rfl ?_
  refine q_bipush d_L_law_1304 (by decide) ?_
  refine q_icmp_ge (tgt := 1321) d_L_law_1306 (by decide) ⟨by decide, by decide⟩ ⟨by decide, by decide⟩ (fun g => absurd g (by decide)) (fun _ => ?_)
  show RunQ Γ (fun a => Nat.blt a 46) 302 Y_L_law 1309 [(7, 0), (8, 0), (40, 0), (41, 0), (42, 0), (43, 0), (44, 0), (45, 0), (46, 0), (47, 0), (48, 0), (49, 0), (50, 0), (51, 0), (52, 0), (53, 0), (0, 1), (0, 0), (0, 39), (0, 5636), (0, 25), (0, 62), (0, 0), (0, 22), (0, 41), (5, 0), (5, 0)] [] LE64
  refine q_aload d_L_law_1309 rfl (by decide) ?_
  refine q_iload d_L_law_1311 rfl ?_
  refine q_iconst d_L_law_1313 ?_
  refine q_iast d_L_law_1314 sh_44 (by decide) (by decide) (by decide) (by decide) (by decide) ?_
  show RunQ Γ (fun a => Nat.blt a 46) 302 Y_L_law 1315 [(7, 0), (8, 0), (40, 0), (41, 0), (42, 0), (43, 0), (44, 0), (45, 0), (46, 0), (47, 0), (48, 0), (49, 0), (50, 0), (51, 0), (52, 0), (53, 0), (0, 1), (0, 0), (0, 39), (0, 5636), (0, 25), (0, 62), (0, 0), (0, 22), (0, 41), (5, 0), (5, 0)] [] LE65
  refine q_iinc d_L_law_1315 rfl (by decide) rfl ?_
  show RunQ Γ (fun a => Nat.blt a 46) 302 Y_L_law 1318 [(7, 0), (8, 0), (40, 0), (41, 0), (42, 0), (43, 0), (44, 0), (45, 0), (46, 0), (47, 0), (48, 0), (49, 0), (50, 0), (51, 0), (52, 0), (53, 0), (0, 1), (0, 0), (0, 39), (0, 5636), (0, 25), (0, 62), (0, 0), (0, 22), (0, 42), (5, 0), (5, 0)] [] LE65
  refine q_goto (tgt := 1302) d_L_law_1318 (by decide) ?_
  refine q_iload d_L_law_1302 rfl ?_
  refine q_bipush d_L_law_1304 (by decide) ?_
  refine q_icmp_ge (tgt := 1321) d_L_law_1306 (by decide) ⟨by decide, by decide⟩ ⟨by decide, by decide⟩ (fun g => absurd g (by decide)) (fun _ => ?_)
  show RunQ Γ (fun a => Nat.blt a 46) 302 Y_L_law 1309 [(7, 0), (8, 0), (40, 0), (41, 0), (42, 0), (43, 0), (44, 0), (45, 0), (46, 0), (47, 0), (48, 0), (49, 0), (50, 0), (51, 0), (52, 0), (53, 0), (0, 1), (0, 0), (0, 39), (0, 5636), (0, 25), (0, 62), (0, 0), (0, 22), (0, 42), (5, 0), (5, 0)] [] LE65
  refine q_aload d_L_law_1309 rfl (by decide) ?_
  refine q_iload d_L_law_1311 rfl ?_
  refine q_iconst d_L_law_1313 ?_
  refine q_iast d_L_law_1314 sh_44 (by decide) (by decide) (by decide) (by decide) (by decide) ?_
  show RunQ Γ (fun a => Nat.blt a 46) 302 Y_L_law 1315 [(7, 0), (8, 0), (40, 0), (41, 0), (42, 0), (43, 0), (44, 0), (45, 0), (46, 0), (47, 0), (48, 0), (49, 0), (50, 0), (51, 0), (52, 0), (53, 0), (0, 1), (0, 0), (0, 39), (0, 5636), (0, 25), (0, 62), (0, 0), (0, 22), (0, 42), (5, 0), (5, 0)] [] LE66
  refine q_iinc d_L_law_1315 rfl (by decide) rfl ?_
  show RunQ Γ (fun a => Nat.blt a 46) 302 Y_L_law 1318 [(7, 0), (8, 0), (40, 0), (41, 0), (42, 0), (43, 0), (44, 0), (45, 0), (46, 0), (47, 0), (48, 0), (49, 0), (50, 0), (51, 0), (52, 0), (53, 0), (0, 1), (0, 0), (0, 39), (0, 5636), (0, 25), (0, 62), (0, 0), (0, 22), (0, 43), (5, 0), (5, 0)] [] LE66
  refine q_goto (tgt := 1302) d_L_law_1318 (by decide) ?_
  refine q_iload d_L_law_1302 rfl ?_
  refine q_bipush d_L_law_1304 (by decide) ?_
  refine q_icmp_ge (tgt := 1321) d_L_law_1306 (by decide) ⟨by decide, by decide⟩ ⟨by decide, by decide⟩ (fun g => absurd g (by decide)) (fun _ => ?_)
  show RunQ Γ (fun a => Nat.blt a 46) 302 Y_L_law 1309 [(7, 0), (8, 0), (40, 0), (41, 0), (42, 0), (43, 0), (44, 0), (45, 0), (46, 0), (47, 0), (48, 0), (49, 0), (50, 0), (51, 0), (52, 0), (53, 0), (0, 1), (0, 0), (0, 39), (0, 5636), (0, 25), (0, 62), (0, 0), (0, 22), (0, 43), (5, 0), (5, 0)] [] LE66
  refine q_aload d_L_law_1309 rfl (by decide) ?_
  refine q_iload d_L_law_1311 rfl ?_
  refine q_iconst d_L_law_1313 ?_
  refine q_iast d_L_law_1314 sh_44 (by decide) (by decide) (by decide) (by decide) (by decide) ?_
  show RunQ Γ (fun a => Nat.blt a 46) 302 Y_L_law 1315 [(7, 0), (8, 0), (40, 0), (41, 0), (42, 0), (43, 0), (44, 0), (45, 0), (46, 0), (47, 0), (48, 0), (49, 0), (50, 0), (51, 0), (52, 0), (53, 0), (0, 1), (0, 0), (0, 39), (0, 5636), (0, 25), (0, 62), (0, 0), (0, 22), (0, 43), (5, 0), (5, 0)] [] LE67
  refine q_iinc d_L_law_1315 rfl (by decide) rfl ?_
  show RunQ Γ (fun a => Nat.blt a 46) 302 Y_L_law 1318 [(7, 0), (8, 0), (40, 0), (41, 0), (42, 0), (43, 0), (44, 0), (45, 0), (46, 0), (47, 0), (48, 0), (49, 0), (50, 0), (51, 0), (52, 0), (53, 0), (0, 1), (0, 0), (0, 39), (0, 5636), (0, 25), (0, 62), (0, 0), (0, 22), (0, 44), (5, 0), (5, 0)] [] LE67
  refine q_goto (tgt := 1302) d_L_law_1318 (by decide) ?_
  refine q_iload d_L_law_1302 rfl ?_
  refine q_bipush d_L_law_1304 (by decide) ?_
  refine q_icmp_ge (tgt := 1321) d_L_law_1306 (by decide) ⟨by decide, by decide⟩ ⟨by decide, by decide⟩ (fun g => absurd g (by decide)) (fun _ => ?_)
  show RunQ Γ (fun a => Nat.blt a 46) 302 Y_L_law 1309 [(7, 0), (8, 0), (40, 0), (41, 0), (42, 0), (43, 0), (44, 0), (45, 0), (46, 0), (47, 0), (48, 0), (49, 0), (50, 0), (51, 0), (52, 0), (53, 0), (0, 1), (0, 0), (0, 39), (0, 5636), (0, 25), (0, 62), (0, 0), (0, 22), (0, 44), (5, 0), (5, 0)] [] LE67
  refine q_aload d_L_law_1309 rfl (by decide) ?_
  refine q_iload d_L_law_1311 rfl ?_
  refine q_iconst d_L_law_1313 ?_
  refine q_iast d_L_law_1314 sh_44 (by decide) (by decide) (by decide) (by decide) (by decide) ?_
  show RunQ Γ (fun a => Nat.blt a 46) 302 Y_L_law 1315 [(7, 0), (8, 0), (40, 0), (41, 0), (42, 0), (43, 0), (44, 0), (45, 0), (46, 0), (47, 0), (48, 0), (49, 0), (50, 0), (51, 0), (52, 0), (53, 0), (0, 1), (0, 0), (0, 39), (0, 5636), (0, 25), (0, 62), (0, 0), (0, 22), (0, 44), (5, 0), (5, 0)] [] LE68
  refine q_iinc d_L_law_1315 rfl (by decide) rfl ?_
  show RunQ Γ (fun a => Nat.blt a 46) 302 Y_L_law 1318 [(7, 0), (8, 0), (40, 0), (41, 0), (42, 0), (43, 0), (44, 0), (45, 0), (46, 0), (47, 0), (48, 0), (49, 0), (50, 0), (51, 0), (52, 0), (53, 0), (0, 1), (0, 0), (0, 39), (0, 5636), (0, 25), (0, 62), (0, 0), (0, 22), (0, 45), (5, 0), (5, 0)] [] LE68
  refine q_goto (tgt := 1302) d_L_law_1318 (by decide) ?_
  refine q_iload d_L_law_1302 rfl ?_
  refine q_bipush d_L_law_1304 (by decide) ?_
  refine q_icmp_ge (tgt := 1321) d_L_law_1306 (by decide) ⟨by decide, by decide⟩ ⟨by decide, by decide⟩ (fun g => absurd g (by decide)) (fun _ => ?_)
  show RunQ Γ (fun a => Nat.blt a 46) 302 Y_L_law 1309 [(7, 0), (8, 0), (40, 0), (41, 0), (42, 0), (43, 0), (44, 0), (45, 0), (46, 0), (47, 0), (48, 0), (49, 0), (50, 0), (51, 0), (52, 0), (53, 0), (0, 1), (0, 0), (0, 39), (0, 5636), (0, 25), (0, 62), (0, 0), (0, 22), (0, 45), (5, 0), (5, 0)] [] LE68
  refine q_aload d_L_law_1309 rfl (by decide) ?_
  refine q_iload d_L_law_1311 rfl ?_
  refine q_iconst d_L_law_1313 ?_
  refine q_iast d_L_law_1314 sh_44 (by decide) (by decide) (by decide) (by decide) (by decide) ?_
  show RunQ Γ (fun a => Nat.blt a 46) 302 Y_L_law 1315 [(7, 0), (8, 0), (40, 0), (41, 0), (42, 0), (43, 0), (44, 0), (45, 0), (46, 0), (47, 0), (48, 0), (49, 0), (50, 0), (51, 0), (52, 0), (53, 0), (0, 1), (0, 0), (0, 39), (0, 5636), (0, 25), (0, 62), (0, 0), (0, 22), (0, 45), (5, 0), (5, 0)] [] LE69
  refine q_iinc d_L_law_1315 rfl (by decide) rfl ?_
  show RunQ Γ (fun a => Nat.blt a 46) 302 Y_L_law 1318 [(7, 0), (8, 0), (40, 0), (41, 0), (42, 0), (43, 0), (44, 0), (45, 0), (46, 0), (47, 0), (48, 0), (49, 0), (50, 0), (51, 0), (52, 0), (53, 0), (0, 1), (0, 0), (0, 39), (0, 5636), (0, 25), (0, 62), (0, 0), (0, 22), (0, 46), (5, 0), (5, 0)] [] LE69
  refine q_goto (tgt := 1302) d_L_law_1318 (by decide) ?_
  refine q_iload d_L_law_1302 rfl ?_
  refine q_bipush d_L_law_1304 (by decide) ?_
  refine q_icmp_ge (tgt := 1321) d_L_law_1306 (by decide) ⟨by decide, by decide⟩ ⟨by decide, by decide⟩ (fun g => absurd g (by decide)) (fun _ => ?_)
  show RunQ Γ (fun a => Nat.blt a 46) 302 Y_L_law 1309 [(7, 0), (8, 0), (40, 0), (41, 0), (42, 0), (43, 0), (44, 0), (45, 0), (46, 0), (47, 0), (48, 0), (49, 0), (50, 0), (51, 0), (52, 0), (53, 0), (0, 1), (0, 0), (0, 39), (0, 5636), (0, 25), (0, 62), (0, 0), (0, 22), (0, 46), (5, 0), (5, 0)] [] LE69
  refine q_aload d_L_law_1309 rfl (by decide) ?_
  refine q_iload d_L_law_1311 rfl ?_
  refine q_iconst d_L_law_1313 ?_
  refine q_iast d_L_law_1314 sh_44 (by decide) (by decide) (by decide) (by decide) (by decide) ?_
  show RunQ Γ (fun a => Nat.blt a 46) 302 Y_L_law 1315 [(7, 0), (8, 0), (40, 0), (41, 0), (42, 0), (43, 0), (44, 0), (45, 0), (46, 0), (47, 0), (48, 0), (49, 0), (50, 0), (51, 0), (52, 0), (53, 0), (0, 1), (0, 0), (0, 39), (0, 5636), (0, 25), (0, 62), (0, 0), (0, 22), (0, 46), (5, 0), (5, 0)] [] LE70
  refine q_iinc d_L_law_1315 rfl (by decide) rfl ?_
  show RunQ Γ (fun a => Nat.blt a 46) 302 Y_L_law 1318 [(7, 0), (8, 0), (40, 0), (41, 0), (42, 0), (43, 0), (44, 0), (45, 0), (46, 0), (47, 0), (48, 0), (49, 0), (50, 0), (51, 0), (52, 0), (53, 0), (0, 1), (0, 0), (0, 39), (0, 5636), (0, 25), (0, 62), (0, 0), (0, 22), (0, 47), (5, 0), (5, 0)] [] LE70
  refine q_goto (tgt := 1302) d_L_law_1318 (by decide) ?_
  refine q_iload d_L_law_1302 rfl ?_
  refine q_bipush d_L_law_1304 (by decide) ?_
  refine q_icmp_ge (tgt := 1321) d_L_law_1306 (by decide) ⟨by decide, by decide⟩ ⟨by decide, by decide⟩ (fun g => absurd g (by decide)) (fun _ => ?_)
  show RunQ Γ (fun a => Nat.blt a 46) 302 Y_L_law 1309 [(7, 0), (8, 0), (40, 0), (41, 0), (42, 0), (43, 0), (44, 0), (45, 0), (46, 0), (47, 0), (48, 0), (49, 0), (50, 0), (51, 0), (52, 0), (53, 0), (0, 1), (0, 0), (0, 39), (0, 5636), (0, 25), (0, 62), (0, 0), (0, 22), (0, 47), (5, 0), (5, 0)] [] LE70
  refine q_aload d_L_law_1309 rfl (by decide) ?_
  refine q_iload d_L_law_1311 rfl ?_
  refine q_iconst d_L_law_1313 ?_
  refine q_iast d_L_law_1314 sh_44 (by decide) (by decide) (by decide) (by decide) (by decide) ?_
  show RunQ Γ (fun a => Nat.blt a 46) 302 Y_L_law 1315 [(7, 0), (8, 0), (40, 0), (41, 0), (42, 0), (43, 0), (44, 0), (45, 0), (46, 0), (47, 0), (48, 0), (49, 0), (50, 0), (51, 0), (52, 0), (53, 0), (0, 1), (0, 0), (0, 39), (0, 5636), (0, 25), (0, 62), (0, 0), (0, 22), (0, 47), (5, 0), (5, 0)] [] LE71
  refine q_iinc d_L_law_1315 rfl (by decide) rfl ?_
  show RunQ Γ (fun a => Nat.blt a 46) 302 Y_L_law 1318 [(7, 0), (8, 0), (40, 0), (41, 0), (42, 0), (43, 0), (44, 0), (45, 0), (46, 0), (47, 0), (48, 0), (49, 0), (50, 0), (51, 0), (52, 0), (53, 0), (0, 1), (0, 0), (0, 39), (0, 5636), (0, 25), (0, 62), (0, 0), (0, 22), (0, 48), (5, 0), (5, 0)] [] LE71
  refine q_goto (tgt := 1302) d_L_law_1318 (by decide) ?_
  refine q_iload d_L_law_1302 rfl ?_
  refine q_bipush d_L_law_1304 (by decide) ?_
  refine q_icmp_ge (tgt := 1321) d_L_law_1306 (by decide) ⟨by decide, by decide⟩ ⟨by decide, by decide⟩ (fun g => absurd g (by decide)) (fun _ => ?_)
  show RunQ Γ (fun a => Nat.blt a 46) 302 Y_L_law 1309 [(7, 0), (8, 0), (40, 0), (41, 0), (42, 0), (43, 0), (44, 0), (45, 0), (46, 0), (47, 0), (48, 0), (49, 0), (50, 0), (51, 0), (52, 0), (53, 0), (0, 1), (0, 0), (0, 39), (0, 5636), (0, 25), (0, 62), (0, 0), (0, 22), (0, 48), (5, 0), (5, 0)] [] LE71
  refine q_aload d_L_law_1309 rfl (by decide) ?_
  refine q_iload d_L_law_1311 rfl ?_
  refine q_iconst d_L_law_1313 ?_
  refine q_iast d_L_law_1314 sh_44 (by decide) (by decide) (by decide) (by decide) (by decide) ?_
  show RunQ Γ (fun a => Nat.blt a 46) 302 Y_L_law 1315 [(7, 0), (8, 0), (40, 0), (41, 0), (42, 0), (43, 0), (44, 0), (45, 0), (46, 0), (47, 0), (48, 0), (49, 0), (50, 0), (51, 0), (52, 0), (53, 0), (0, 1), (0, 0), (0, 39), (0, 5636), (0, 25), (0, 62), (0, 0), (0, 22), (0, 48), (5, 0), (5, 0)] [] LE72
  refine q_iinc d_L_law_1315 rfl (by decide) rfl ?_
  show RunQ Γ (fun a => Nat.blt a 46) 302 Y_L_law 1318 [(7, 0), (8, 0), (40, 0), (41, 0), (42, 0), (43, 0), (44, 0), (45, 0), (46, 0), (47, 0), (48, 0), (49, 0), (50, 0), (51, 0), (52, 0), (53, 0), (0, 1), (0, 0), (0, 39), (0, 5636), (0, 25), (0, 62), (0, 0), (0, 22), (0, 49), (5, 0), (5, 0)] [] LE72
  refine q_goto (tgt := 1302) d_L_law_1318 (by decide) ?_
  refine q_iload d_L_law_1302 rfl ?_
  refine q_bipush d_L_law_1304 (by decide) ?_
  refine q_icmp_ge (tgt := 1321) d_L_law_1306 (by decide) ⟨by decide, by decide⟩ ⟨by decide, by decide⟩ (fun g => absurd g (by decide)) (fun _ => ?_)
  show RunQ Γ (fun a => Nat.blt a 46) 302 Y_L_law 1309 [(7, 0), (8, 0), (40, 0), (41, 0), (42, 0), (43, 0), (44, 0), (45, 0), (46, 0), (47, 0), (48, 0), (49, 0), (50, 0), (51, 0), (52, 0), (53, 0), (0, 1), (0, 0), (0, 39), (0, 5636), (0, 25), (0, 62), (0, 0), (0, 22), (0, 49), (5, 0), (5, 0)] [] LE72
  refine q_aload d_L_law_1309 rfl (by decide) ?_
  refine q_iload d_L_law_1311 rfl ?_
  refine q_iconst d_L_law_1313 ?_
  refine q_iast d_L_law_1314 sh_44 (by decide) (by decide) (by decide) (by decide) (by decide) ?_
  show RunQ Γ (fun a => Nat.blt a 46) 302 Y_L_law 1315 [(7, 0), (8, 0), (40, 0), (41, 0), (42, 0), (43, 0), (44, 0), (45, 0), (46, 0), (47, 0), (48, 0), (49, 0), (50, 0), (51, 0), (52, 0), (53, 0), (0, 1), (0, 0), (0, 39), (0, 5636), (0, 25), (0, 62), (0, 0), (0, 22), (0, 49), (5, 0), (5, 0)] [] LE73
  refine q_iinc d_L_law_1315 rfl (by decide) rfl ?_
  show RunQ Γ (fun a => Nat.blt a 46) 302 Y_L_law 1318 [(7, 0), (8, 0), (40, 0), (41, 0), (42, 0), (43, 0), (44, 0), (45, 0), (46, 0), (47, 0), (48, 0), (49, 0), (50, 0), (51, 0), (52, 0), (53, 0), (0, 1), (0, 0), (0, 39), (0, 5636), (0, 25), (0, 62), (0, 0), (0, 22), (0, 50), (5, 0), (5, 0)] [] LE73
  refine q_goto (tgt := 1302) d_L_law_1318 (by decide) ?_
  refine q_iload d_L_law_1302 rfl ?_
  refine q_bipush d_L_law_1304 (by decide) ?_
  refine q_icmp_ge (tgt := 1321) d_L_law_1306 (by decide) ⟨by decide, by decide⟩ ⟨by decide, by decide⟩ (fun g => absurd g (by decide)) (fun _ => ?_)
  show RunQ Γ (fun a => Nat.blt a 46) 302 Y_L_law 1309 [(7, 0), (8, 0), (40, 0), (41, 0), (42, 0), (43, 0), (44, 0), (45, 0), (46, 0), (47, 0), (48, 0), (49, 0), (50, 0), (51, 0), (52, 0), (53, 0), (0, 1), (0, 0), (0, 39), (0, 5636), (0, 25), (0, 62), (0, 0), (0, 22), (0, 50), (5, 0), (5, 0)] [] LE73
  refine q_aload d_L_law_1309 rfl (by decide) ?_
  refine q_iload d_L_law_1311 rfl ?_
  refine q_iconst d_L_law_1313 ?_
  refine q_iast d_L_law_1314 sh_44 (by decide) (by decide) (by decide) (by decide) (by decide) ?_
  show RunQ Γ (fun a => Nat.blt a 46) 302 Y_L_law 1315 [(7, 0), (8, 0), (40, 0), (41, 0), (42, 0), (43, 0), (44, 0), (45, 0), (46, 0), (47, 0), (48, 0), (49, 0), (50, 0), (51, 0), (52, 0), (53, 0), (0, 1), (0, 0), (0, 39), (0, 5636), (0, 25), (0, 62), (0, 0), (0, 22), (0, 50), (5, 0), (5, 0)] [] LE74
  refine q_iinc d_L_law_1315 rfl (by decide) rfl ?_
  show RunQ Γ (fun a => Nat.blt a 46) 302 Y_L_law 1318 [(7, 0), (8, 0), (40, 0), (41, 0), (42, 0), (43, 0), (44, 0), (45, 0), (46, 0), (47, 0), (48, 0), (49, 0), (50, 0), (51, 0), (52, 0), (53, 0), (0, 1), (0, 0), (0, 39), (0, 5636), (0, 25), (0, 62), (0, 0), (0, 22), (0, 51), (5, 0), (5, 0)] [] LE74
  refine q_goto (tgt := 1302) d_L_law_1318 (by decide) ?_
  refine q_iload d_L_law_1302 rfl ?_
  refine q_bipush d_L_law_1304 (by decide) ?_
  refine q_icmp_ge (tgt := 1321) d_L_law_1306 (by decide) ⟨by decide, by decide⟩ ⟨by decide, by decide⟩ (fun g => absurd g (by decide)) (fun _ => ?_)
  show RunQ Γ (fun a => Nat.blt a 46) 302 Y_L_law 1309 [(7, 0), (8, 0), (40, 0), (41, 0), (42, 0), (43, 0), (44, 0), (45, 0), (46, 0), (47, 0), (48, 0), (49, 0), (50, 0), (51, 0), (52, 0), (53, 0), (0, 1), (0, 0), (0, 39), (0, 5636), (0, 25), (0, 62), (0, 0), (0, 22), (0, 51), (5, 0), (5, 0)] [] LE74
  refine q_aload d_L_law_1309 rfl (by decide) ?_
  refine q_iload d_L_law_1311 rfl ?_
  refine q_iconst d_L_law_1313 ?_
  refine q_iast d_L_law_1314 sh_44 (by decide) (by decide) (by decide) (by decide) (by decide) ?_
  show RunQ Γ (fun a => Nat.blt a 46) 302 Y_L_law 1315 [(7, 0), (8, 0), (40, 0), (41, 0), (42, 0), (43, 0), (44, 0), (45, 0), (46, 0), (47, 0), (48, 0), (49, 0), (50, 0), (51, 0), (52, 0), (53, 0), (0, 1), (0, 0), (0, 39), (0, 5636), (0, 25), (0, 62), (0, 0), (0, 22), (0, 51), (5, 0), (5, 0)] [] LE75
  refine q_iinc d_L_law_1315 rfl (by decide) rfl ?_
  show RunQ Γ (fun a => Nat.blt a 46) 302 Y_L_law 1318 [(7, 0), (8, 0), (40, 0), (41, 0), (42, 0), (43, 0), (44, 0), (45, 0), (46, 0), (47, 0), (48, 0), (49, 0), (50, 0), (51, 0), (52, 0), (53, 0), (0, 1), (0, 0), (0, 39), (0, 5636), (0, 25), (0, 62), (0, 0), (0, 22), (0, 52), (5, 0), (5, 0)] [] LE75
  refine q_goto (tgt := 1302) d_L_law_1318 (by decide) ?_
  refine q_iload d_L_law_1302 rfl ?_
  refine q_bipush d_L_law_1304 (by decide) ?_
  refine q_icmp_ge (tgt := 1321) d_L_law_1306 (by decide) ⟨by decide, by decide⟩ ⟨by decide, by decide⟩ (fun g => absurd g (by decide)) (fun _ => ?_)
  show RunQ Γ (fun a => Nat.blt a 46) 302 Y_L_law 1309 [(7, 0), (8, 0), (40, 0), (41, 0), (42, 0), (43, 0), (44, 0), (45, 0), (46, 0), (47, 0), (48, 0), (49, 0), (50, 0), (51, 0), (52, 0), (53, 0), (0, 1), (0, 0), (0, 39), (0, 5636), (0, 25), (0, 62), (0, 0), (0, 22), (0, 52), (5, 0), (5, 0)] [] LE75
  refine q_aload d_L_law_1309 rfl (by decide) ?_
  refine q_iload d_L_law_1311 rfl ?_
  refine q_iconst d_L_law_1313 ?_
  refine q_iast d_L_law_1314 sh_44 (by decide) (by decide) (by decide) (by decide) (by decide) ?_
  show RunQ Γ (fun a => Nat.blt a 46) 302 Y_L_law 1315 [(7, 0), (8, 0), (40, 0), (41, 0), (42, 0), (43, 0), (44, 0), (45, 0), (46, 0), (47, 0), (48, 0), (49, 0), (50, 0), (51, 0), (52, 0), (53, 0), (0, 1), (0, 0), (0, 39), (0, 5636), (0, 25), (0, 62), (0, 0), (0, 22), (0, 52), (5, 0), (5, 0)] [] LE76
  refine q_iinc d_L_law_1315 rfl (by decide) rfl ?_
  show RunQ Γ (fun a => Nat.blt a 46) 302 Y_L_law 1318 [(7, 0), (8, 0), (40, 0), (41, 0), (42, 0), (43, 0), (44, 0), (45, 0), (46, 0), (47, 0), (48, 0), (49, 0), (50, 0), (51, 0), (52, 0), (53, 0), (0, 1), (0, 0), (0, 39), (0, 5636), (0, 25), (0, 62), (0, 0), (0, 22), (0, 53), (5, 0), (5, 0)] [] LE76
  refine q_goto (tgt := 1302) d_L_law_1318 (by decide) ?_
  refine q_iload d_L_law_1302 rfl ?_
  refine q_bipush d_L_law_1304 (by decide) ?_
  refine q_icmp_ge (tgt := 1321) d_L_law_1306 (by decide) ⟨by decide, by decide⟩ ⟨by decide, by decide⟩ (fun g => absurd g (by decide)) (fun _ => ?_)
  show RunQ Γ (fun a => Nat.blt a 46) 302 Y_L_law 1309 [(7, 0), (8, 0), (40, 0), (41, 0), (42, 0), (43, 0), (44, 0), (45, 0), (46, 0), (47, 0), (48, 0), (49, 0), (50, 0), (51, 0), (52, 0), (53, 0), (0, 1), (0, 0), (0, 39), (0, 5636), (0, 25), (0, 62), (0, 0), (0, 22), (0, 53), (5, 0), (5, 0)] [] LE76
  refine q_aload d_L_law_1309 rfl (by decide) ?_
  refine q_iload d_L_law_1311 rfl ?_
  refine q_iconst d_L_law_1313 ?_
  refine q_iast d_L_law_1314 sh_44 (by decide) (by decide) (by decide) (by decide) (by decide) ?_
  show RunQ Γ (fun a => Nat.blt a 46) 302 Y_L_law 1315 [(7, 0), (8, 0), (40, 0), (41, 0), (42, 0), (43, 0), (44, 0), (45, 0), (46, 0), (47, 0), (48, 0), (49, 0), (50, 0), (51, 0), (52, 0), (53, 0), (0, 1), (0, 0), (0, 39), (0, 5636), (0, 25), (0, 62), (0, 0), (0, 22), (0, 53), (5, 0), (5, 0)] [] LE77
  refine q_iinc d_L_law_1315 rfl (by decide) rfl ?_
  show RunQ Γ (fun a => Nat.blt a 46) 302 Y_L_law 1318 [(7, 0), (8, 0), (40, 0), (41, 0), (42, 0), (43, 0), (44, 0), (45, 0), (46, 0), (47, 0), (48, 0), (49, 0), (50, 0), (51, 0), (52, 0), (53, 0), (0, 1), (0, 0), (0, 39), (0, 5636), (0, 25), (0, 62), (0, 0), (0, 22), (0, 54), (5, 0), (5, 0)] [] LE77
  refine q_goto (tgt := 1302) d_L_law_1318 (by decide) ?_
  refine q_iload d_L_law_1302 rfl ?_
  refine q_bipush d_L_law_1304 (by decide) ?_
  refine q_icmp_ge (tgt := 1321) d_L_law_1306 (by decide) ⟨by decide, by decide⟩ ⟨by decide, by decide⟩ (fun g => absurd g (by decide)) (fun _ => ?_)
  show RunQ Γ (fun a => Nat.blt a 46) 302 Y_L_law 1309 [(7, 0), (8, 0), (40, 0), (41, 0), (42, 0), (43, 0), (44, 0), (45, 0), (46, 0), (47, 0), (48, 0), (49, 0), (50, 0), (51, 0), (52, 0), (53, 0), (0, 1), (0, 0), (0, 39), (0, 5636), (0, 25), (0, 62), (0, 0), (0, 22), (0, 54), (5, 0), (5, 0)] [] LE77
  refine q_aload d_L_law_1309 rfl (by decide) ?_
  refine q_iload d_L_law_1311 rfl ?_
  refine q_iconst d_L_law_1313 ?_
  refine q_iast d_L_law_1314 sh_44 (by decide) (by decide) (by decide) (by decide) (by decide) ?_
  show RunQ Γ (fun a => Nat.blt a 46) 302 Y_L_law 1315 [(7, 0), (8, 0), (40, 0), (41, 0), (42, 0), (43, 0), (44, 0), (45, 0), (46, 0), (47, 0), (48, 0), (49, 0), (50, 0), (51, 0), (52, 0), (53, 0), (0, 1), (0, 0), (0, 39), (0, 5636), (0, 25), (0, 62), (0, 0), (0, 22), (0, 54), (5, 0), (5, 0)] [] LE78
  refine q_iinc d_L_law_1315 rfl (by decide) rfl ?_
  show RunQ Γ (fun a => Nat.blt a 46) 302 Y_L_law 1318 [(7, 0), (8, 0), (40, 0), (41, 0), (42, 0), (43, 0), (44, 0), (45, 0), (46, 0), (47, 0), (48, 0), (49, 0), (50, 0), (51, 0), (52, 0), (53, 0), (0, 1), (0, 0), (0, 39), (0, 5636), (0, 25), (0, 62), (0, 0), (0, 22), (0, 55), (5, 0), (5, 0)] [] LE78
  refine q_goto (tgt := 1302) d_L_law_1318 (by decide) ?_
  refine q_iload d_L_law_1302 rfl ?_
  refine q_bipush d_L_law_1304 (by decide) ?_
  refine q_icmp_ge (tgt := 1321) d_L_law_1306 (by decide) ⟨by decide, by decide⟩ ⟨by decide, by decide⟩ (fun g => absurd g (by decide)) (fun _ => ?_)
  show RunQ Γ (fun a => Nat.blt a 46) 302 Y_L_law 1309 [(7, 0), (8, 0), (40, 0), (41, 0), (42, 0), (43, 0), (44, 0), (45, 0), (46, 0), (47, 0), (48, 0), (49, 0), (50, 0), (51, 0), (52, 0), (53, 0), (0, 1), (0, 0), (0, 39), (0, 5636), (0, 25), (0, 62), (0, 0), (0, 22), (0, 55), (5, 0), (5, 0)] [] LE78
  refine q_aload d_L_law_1309 rfl (by decide) ?_
  refine q_iload d_L_law_1311 rfl ?_
  refine q_iconst d_L_law_1313 ?_
  refine q_iast d_L_law_1314 sh_44 (by decide) (by decide) (by decide) (by decide) (by decide) ?_
  show RunQ Γ (fun a => Nat.blt a 46) 302 Y_L_law 1315 [(7, 0), (8, 0), (40, 0), (41, 0), (42, 0), (43, 0), (44, 0), (45, 0), (46, 0), (47, 0), (48, 0), (49, 0), (50, 0), (51, 0), (52, 0), (53, 0), (0, 1), (0, 0), (0, 39), (0, 5636), (0, 25), (0, 62), (0, 0), (0, 22), (0, 55), (5, 0), (5, 0)] [] LE79
  refine q_iinc d_L_law_1315 rfl (by decide) rfl ?_
  show RunQ Γ (fun a => Nat.blt a 46) 302 Y_L_law 1318 [(7, 0), (8, 0), (40, 0), (41, 0), (42, 0), (43, 0), (44, 0), (45, 0), (46, 0), (47, 0), (48, 0), (49, 0), (50, 0), (51, 0), (52, 0), (53, 0), (0, 1), (0, 0), (0, 39), (0, 5636), (0, 25), (0, 62), (0, 0), (0, 22), (0, 56), (5, 0), (5, 0)] [] LE79
  refine q_goto (tgt := 1302) d_L_law_1318 (by decide) ?_
  refine q_iload d_L_law_1302 rfl ?_
  refine q_bipush d_L_law_1304 (by decide) ?_
  refine q_icmp_ge (tgt := 1321) d_L_law_1306 (by decide) ⟨by decide, by decide⟩ ⟨by decide, by decide⟩ (fun g => absurd g (by decide)) (fun _ => ?_)
  show RunQ Γ (fun a => Nat.blt a 46) 302 Y_L_law 1309 [(7, 0), (8, 0), (40, 0), (41, 0), (42, 0), (43, 0), (44, 0), (45, 0), (46, 0), (47, 0), (48, 0), (49, 0), (50, 0), (51, 0), (52, 0), (53, 0), (0, 1), (0, 0), (0, 39), (0, 5636), (0, 25), (0, 62), (0, 0), (0, 22), (0, 56), (5, 0), (5, 0)] [] LE79
  refine q_aload d_L_law_1309 rfl (by decide) ?_
  refine q_iload d_L_law_1311 rfl ?_
  refine q_iconst d_L_law_1313 ?_
  refine q_iast d_L_law_1314 sh_44 (by decide) (by decide) (by decide) (by decide) (by decide) ?_
  show RunQ Γ (fun a => Nat.blt a 46) 302 Y_L_law 1315 [(7, 0), (8, 0), (40, 0), (41, 0), (42, 0), (43, 0), (44, 0), (45, 0), (46, 0), (47, 0), (48, 0), (49, 0), (50, 0), (51, 0), (52, 0), (53, 0), (0, 1), (0, 0), (0, 39), (0, 5636), (0, 25), (0, 62), (0, 0), (0, 22), (0, 56), (5, 0), (5, 0)] [] LE80
  refine q_iinc d_L_law_1315 rfl (by decide) rfl ?_
  show RunQ Γ (fun a => Nat.blt a 46) 302 Y_L_law 1318 [(7, 0), (8, 0), (40, 0), (41, 0), (42, 0), (43, 0), (44, 0), (45, 0), (46, 0), (47, 0), (48, 0), (49, 0), (50, 0), (51, 0), (52, 0), (53, 0), (0, 1), (0, 0), (0, 39), (0, 5636), (0, 25), (0, 62), (0, 0), (0, 22), (0, 57), (5, 0), (5, 0)] [] LE80
  refine q_goto (tgt := 1302) d_L_law_1318 (by decide) ?_
  refine q_iload d_L_law_1302 rfl ?_
  refine q_bipush d_L_law_1304 (by decide) ?_
  refine q_icmp_ge (tgt := 1321) d_L_law_1306 (by decide) ⟨by decide, by decide⟩ ⟨by decide, by decide⟩ (fun g => absurd g (by decide)) (fun _ => ?_)
  show RunQ Γ (fun a => Nat.blt a 46) 302 Y_L_law 1309 [(7, 0), (8, 0), (40, 0), (41, 0), (42, 0), (43, 0), (44, 0), (45, 0), (46, 0), (47, 0), (48, 0), (49, 0), (50, 0), (51, 0), (52, 0), (53, 0), (0, 1), (0, 0), (0, 39), (0, 5636), (0, 25), (0, 62), (0, 0), (0, 22), (0, 57), (5, 0), (5, 0)] [] LE80
  refine q_aload d_L_law_1309 rfl (by decide) ?_
  refine q_iload d_L_law_1311 rfl ?_
  refine q_iconst d_L_law_1313 ?_
  refine q_iast d_L_law_1314 sh_44 (by decide) (by decide) (by decide) (by decide) (by decide) ?_
  show RunQ Γ (fun a => Nat.blt a 46) 302 Y_L_law 1315 [(7, 0), (8, 0), (40, 0), (41, 0), (42, 0), (43, 0), (44, 0), (45, 0), (46, 0), (47, 0), (48, 0), (49, 0), (50, 0), (51, 0), (52, 0), (53, 0), (0, 1), (0, 0), (0, 39), (0, 5636), (0, 25), (0, 62), (0, 0), (0, 22), (0, 57), (5, 0), (5, 0)] [] LE81
  refine q_iinc d_L_law_1315 rfl (by decide) rfl ?_
  show RunQ Γ (fun a => Nat.blt a 46) 302 Y_L_law 1318 [(7, 0), (8, 0), (40, 0), (41, 0), (42, 0), (43, 0), (44, 0), (45, 0), (46, 0), (47, 0), (48, 0), (49, 0), (50, 0), (51, 0), (52, 0), (53, 0), (0, 1), (0, 0), (0, 39), (0, 5636), (0, 25), (0, 62), (0, 0), (0, 22), (0, 58), (5, 0), (5, 0)] [] LE81
  refine q_goto (tgt := 1302) d_L_law_1318 (by decide) ?_
  refine q_iload d_L_law_1302 rfl ?_
  refine q_bipush d_L_law_1304 (by decide) ?_
  refine q_icmp_ge (tgt := 1321) d_L_law_1306 (by decide) ⟨by decide, by decide⟩ ⟨by decide, by decide⟩ (fun g => absurd g (by decide)) (fun _ => ?_)
  show RunQ Γ (fun a => Nat.blt a 46) 302 Y_L_law 1309 [(7, 0), (8, 0), (40, 0), (41, 0), (42, 0), (43, 0), (44, 0), (45, 0), (46, 0), (47, 0), (48, 0), (49, 0), (50, 0), (51, 0), (52, 0), (53, 0), (0, 1), (0, 0), (0, 39), (0, 5636), (0, 25), (0, 62), (0, 0), (0, 22), (0, 58), (5, 0), (5, 0)] [] LE81
  refine q_aload d_L_law_1309 rfl (by decide) ?_
  refine q_iload d_L_law_1311 rfl ?_
  refine q_iconst d_L_law_1313 ?_
  refine q_iast d_L_law_1314 sh_44 (by decide) (by decide) (by decide) (by decide) (by decide) ?_
  show RunQ Γ (fun a => Nat.blt a 46) 302 Y_L_law 1315 [(7, 0), (8, 0), (40, 0), (41, 0), (42, 0), (43, 0), (44, 0), (45, 0), (46, 0), (47, 0), (48, 0), (49, 0), (50, 0), (51, 0), (52, 0), (53, 0), (0, 1), (0, 0), (0, 39), (0, 5636), (0, 25), (0, 62), (0, 0), (0, 22), (0, 58), (5, 0), (5, 0)] [] LE82
  refine q_iinc d_L_law_1315 rfl (by decide) rfl ?_
  show RunQ Γ (fun a => Nat.blt a 46) 302 Y_L_law 1318 [(7, 0), (8, 0), (40, 0), (41, 0), (42, 0), (43, 0), (44, 0), (45, 0), (46, 0), (47, 0), (48, 0), (49, 0), (50, 0), (51, 0), (52, 0), (53, 0), (0, 1), (0, 0), (0, 39), (0, 5636), (0, 25), (0, 62), (0, 0), (0, 22), (0, 59), (5, 0), (5, 0)] [] LE82
  refine q_goto (tgt := 1302) d_L_law_1318 (by decide) ?_
  refine q_iload d_L_law_1302 rfl ?_
  refine q_bipush d_L_law_1304 (by decide) ?_
  refine q_icmp_ge (tgt := 1321) d_L_law_1306 (by decide) ⟨by decide, by decide⟩ ⟨by decide, by decide⟩ (fun g => absurd g (by decide)) (fun _ => ?_)
  show RunQ Γ (fun a => Nat.blt a 46) 302 Y_L_law 1309 [(7, 0), (8, 0), (40, 0), (41, 0), (42, 0), (43, 0), (44, 0), (45, 0), (46, 0), (47, 0), (48, 0), (49, 0), (50, 0), (51, 0), (52, 0), (53, 0), (0, 1), (0, 0), (0, 39), (0, 5636), (0, 25), (0, 62), (0, 0), (0, 22), (0, 59), (5, 0), (5, 0)] [] LE82
  refine q_aload d_L_law_1309 rfl (by decide) ?_
  refine q_iload d_L_law_1311 rfl ?_
  refine q_iconst d_L_law_1313 ?_
  refine q_iast d_L_law_1314 sh_44 (by decide) (by decide) (by decide) (by decide) (by decide) ?_
  show RunQ Γ (fun a => Nat.blt a 46) 302 Y_L_law 1315 [(7, 0), (8, 0), (40, 0), (41, 0), (42, 0), (43, 0), (44, 0), (45, 0), (46, 0), (47, 0), (48, 0), (49, 0), (50, 0), (51, 0), (52, 0), (53, 0), (0, 1), (0, 0), (0, 39), (0, 5636), (0, 25), (0, 62), (0, 0), (0, 22), (0, 59), (5, 0), (5, 0)] [] LE83
  refine q_iinc d_L_law_1315 rfl (by decide) rfl ?_
  show RunQ Γ (fun a => Nat.blt a 46) 302 Y_L_law 1318 [(7, 0), (8, 0), (40, 0), (41, 0), (42, 0), (43, 0), (44, 0), (45, 0), (46, 0), (47, 0), (48, 0), (49, 0), (50, 0), (51, 0), (52, 0), (53, 0), (0, 1), (0, 0), (0, 39), (0, 5636), (0, 25), (0, 62), (0, 0), (0, 22), (0, 60), (5, 0), (5, 0)] [] LE83
  refine q_goto (tgt := 1302) d_L_law_1318 (by decide) ?_
  refine q_iload d_L_law_1302 rfl ?_
  refine q_bipush d_L_law_1304 (by decide) ?_
  refine q_icmp_ge (tgt := 1321) d_L_law_1306 (by decide) ⟨by decide, by decide⟩ ⟨by decide, by decide⟩ (fun _ => ?_) (fun g => absurd g (by decide))
  show RunQ Γ (fun a => Nat.blt a 46) 302 Y_L_law 1321 [(7, 0), (8, 0), (40, 0), (41, 0), (42, 0), (43, 0), (44, 0), (45, 0), (46, 0), (47, 0), (48, 0), (49, 0), (50, 0), (51, 0), (52, 0), (53, 0), (0, 1), (0, 0), (0, 39), (0, 5636), (0, 25), (0, 62), (0, 0), (0, 22), (0, 60), (5, 0), (5, 0)] [] LE83
  refine q_aload_n d_L_law_1321 rfl (by decide) ?_
  refine q_callV (a := 0) (z := 0) (as := []) (rest := []) (ls' := [(8, 0)]) (κ1 := 0) (κ2 := 302) (Ψ := fun o D' => o = .inl (some (0, 0)) ∧ D' = LE84) d_L_law_1322 ck_RL_221 rfl sh_0 rfl (by decide) (by decide) rfl rfl (Nat.le_of_ble_eq_true rfl) (Nat.le_of_ble_eq_true rfl) (by decide) rfl rfl rfl (run_pH_crash (cov20 (fun a h => h)) ⟨.inl 0, _, ckv_ok k19, Nat.zero_le _, rfl, rfl⟩) (fun v2 D2 hq => ?_) (fun n2 D2 hq => by cases hq.1)
  obtain ⟨e1, rfl⟩ := hq
  cases e1
  show RunQ Γ (fun a => Nat.blt a 46) 302 Y_L_law 1325 [(7, 0), (8, 0), (40, 0), (41, 0), (42, 0), (43, 0), (44, 0), (45, 0), (46, 0), (47, 0), (48, 0), (49, 0), (50, 0), (51, 0), (52, 0), (53, 0), (0, 1), (0, 0), (0, 39), (0, 5636), (0, 25), (0, 62), (0, 0), (0, 22), (0, 60), (5, 0), (5, 0)] [(0, 0)] LE84
  refine q_aload d_L_law_1325 rfl (by decide) ?_
  refine q_bipush d_L_law_1327 (by decide) ?_
  refine q_iald d_L_law_1329 sh_41 (by decide) (by decide) (by decide) (by decide) (by decide) ?_
  rw [show LE84 41 (Int.toNat 7) = 0 from of_decide_eq_true k20]
  refine q_icmp_ne (tgt := 1360) d_L_law_1330 (by decide) ⟨by decide, by decide⟩ ⟨by decide, by decide⟩ (fun g => absurd g (by decide)) (fun _ => ?_)
  show RunQ Γ (fun a => Nat.blt a 46) 302 Y_L_law 1333 [(7, 0), (8, 0), (40, 0), (41, 0), (42, 0), (43, 0), (44, 0), (45, 0), (46, 0), (47, 0), (48, 0), (49, 0), (50, 0), (51, 0), (52, 0), (53, 0), (0, 1), (0, 0), (0, 39), (0, 5636), (0, 25), (0, 62), (0, 0), (0, 22), (0, 60), (5, 0), (5, 0)] [] LE84
  refine q_aload_n d_L_law_1333 rfl (by decide) ?_
  refine q_callV (a := 0) (z := 0) (as := []) (rest := []) (ls' := [(8, 0)]) (κ1 := 0) (κ2 := 302) (Ψ := fun o D' => o = .inl (some (1, 0)) ∧ D' = LE84) d_L_law_1334 ck_RL_145 rfl sh_0 rfl (by decide) (by decide) rfl rfl (Nat.le_of_ble_eq_true rfl) (Nat.le_of_ble_eq_true rfl) (by decide) rfl rfl rfl (run_pH_dirty (cov20 (fun a h => h)) (show 0 = (pH_dirty LE84) from (of_decide_eq_true k21).symm) ⟨rfl, rfl⟩) (fun v2 D2 hq => ?_) (fun n2 D2 hq => by cases hq.1)
  obtain ⟨e1, rfl⟩ := hq
  cases e1
  show RunQ Γ (fun a => Nat.blt a 46) 302 Y_L_law 1337 [(7, 0), (8, 0), (40, 0), (41, 0), (42, 0), (43, 0), (44, 0), (45, 0), (46, 0), (47, 0), (48, 0), (49, 0), (50, 0), (51, 0), (52, 0), (53, 0), (0, 1), (0, 0), (0, 39), (0, 5636), (0, 25), (0, 62), (0, 0), (0, 22), (0, 60), (5, 0), (5, 0)] [(1, 0)] LE84
  refine q_lconst (n := 0) d_L_law_1337 ?_
  show RunQ _ _ _ _ _ _ ((1, 0) :: [(1, 0)]) _
  refine q_lcmp d_L_law_1338 ⟨by decide, by decide⟩ ⟨by decide, by decide⟩ ?_
  show RunQ Γ (fun a => Nat.blt a 46) 302 Y_L_law 1339 [(7, 0), (8, 0), (40, 0), (41, 0), (42, 0), (43, 0), (44, 0), (45, 0), (46, 0), (47, 0), (48, 0), (49, 0), (50, 0), (51, 0), (52, 0), (53, 0), (0, 1), (0, 0), (0, 39), (0, 5636), (0, 25), (0, 62), (0, 0), (0, 22), (0, 60), (5, 0), (5, 0)] [(0, 0)] LE84
  refine q_if_ne (tgt := 1360) d_L_law_1339 (by decide) ⟨by decide, by decide⟩ (fun g => absurd g (by decide)) (fun _ => ?_)
  show RunQ Γ (fun a => Nat.blt a 46) 302 Y_L_law 1342 [(7, 0), (8, 0), (40, 0), (41, 0), (42, 0), (43, 0), (44, 0), (45, 0), (46, 0), (47, 0), (48, 0), (49, 0), (50, 0), (51, 0), (52, 0), (53, 0), (0, 1), (0, 0), (0, 39), (0, 5636), (0, 25), (0, 62), (0, 0), (0, 22), (0, 60), (5, 0), (5, 0)] [] LE84
  refine q_aload_n d_L_law_1342 rfl (by decide) ?_
  refine q_aload d_L_law_1343 rfl (by decide) ?_
  refine q_callS (as := [(8, 0), (49, 0)]) (rest := []) (ls' := [(8, 0), (49, 0), (5, 0), (5, 0), (5, 0), (5, 0), (5, 0), (5, 0), (5, 0), (5, 0), (5, 0), (5, 0)]) (κ1 := (0 + 2)) (κ2 := 300) (Ψ := fun o D' => o = .inl (some (1, 244152)) ∧ D' = LE85) d_L_law_1345 ck_RL_125 rfl rfl rfl (Nat.le_of_ble_eq_true rfl) (Nat.le_of_ble_eq_true rfl) (by decide) rfl rfl rfl (run_pE_file (κ := 0) (fun a h => h) ⟨.inl 244152, _, ckv_ok k22, Nat.zero_le _, rfl, rfl⟩) (fun v2 D2 hq => ?_) (fun n2 D2 hq => by cases hq.1)
  obtain ⟨e1, rfl⟩ := hq
  cases e1
  show RunQ Γ (fun a => Nat.blt a 46) 300 Y_L_law 1348 [(7, 0), (8, 0), (40, 0), (41, 0), (42, 0), (43, 0), (44, 0), (45, 0), (46, 0), (47, 0), (48, 0), (49, 0), (50, 0), (51, 0), (52, 0), (53, 0), (0, 1), (0, 0), (0, 39), (0, 5636), (0, 25), (0, 62), (0, 0), (0, 22), (0, 60), (5, 0), (5, 0)] [(1, 244152)] LE85
  refine q_aload d_L_law_1348 rfl (by decide) ?_
  refine q_iconst d_L_law_1350 ?_
  refine q_lald d_L_law_1351 sh_42 (by decide) (by decide) (by decide) (by decide) (by decide) ?_
  rw [show LE85 42 (Int.toNat 1) = 244152 from of_decide_eq_true k23]
  refine q_lcmp d_L_law_1352 ⟨by decide, by decide⟩ ⟨by decide, by decide⟩ ?_
  show RunQ Γ (fun a => Nat.blt a 46) 300 Y_L_law 1353 [(7, 0), (8, 0), (40, 0), (41, 0), (42, 0), (43, 0), (44, 0), (45, 0), (46, 0), (47, 0), (48, 0), (49, 0), (50, 0), (51, 0), (52, 0), (53, 0), (0, 1), (0, 0), (0, 39), (0, 5636), (0, 25), (0, 62), (0, 0), (0, 22), (0, 60), (5, 0), (5, 0)] [(0, 0)] LE85
  refine q_if_ne (tgt := 1360) d_L_law_1353 (by decide) ⟨by decide, by decide⟩ (fun g => absurd g (by decide)) (fun _ => ?_)
  show RunQ Γ (fun a => Nat.blt a 46) 300 Y_L_law 1356 [(7, 0), (8, 0), (40, 0), (41, 0), (42, 0), (43, 0), (44, 0), (45, 0), (46, 0), (47, 0), (48, 0), (49, 0), (50, 0), (51, 0), (52, 0), (53, 0), (0, 1), (0, 0), (0, 39), (0, 5636), (0, 25), (0, 62), (0, 0), (0, 22), (0, 60), (5, 0), (5, 0)] [] LE85
  refine q_iconst d_L_law_1356 ?_
  refine q_goto (tgt := 1361) d_L_law_1357 (by decide) ?_
  refine q_istore d_L_law_1361 (by decide) rfl ?_
  show RunQ Γ (fun a => Nat.blt a 46) 300 Y_L_law 1363 [(7, 0), (8, 0), (40, 0), (41, 0), (42, 0), (43, 0), (44, 0), (45, 0), (46, 0), (47, 0), (48, 0), (49, 0), (50, 0), (51, 0), (52, 0), (53, 0), (0, 1), (0, 0), (0, 39), (0, 5636), (0, 25), (0, 62), (0, 0), (0, 22), (0, 60), (5, 0), (5, 0)] [] LE85
  refine q_iload d_L_law_1363 rfl ?_
  refine q_if_eq (tgt := 1487) d_L_law_1365 (by decide) ⟨by decide, by decide⟩ (fun g => absurd g (by decide)) (fun _ => ?_)
  show RunQ Γ (fun a => Nat.blt a 46) 300 Y_L_law 1368 [(7, 0), (8, 0), (40, 0), (41, 0), (42, 0), (43, 0), (44, 0), (45, 0), (46, 0), (47, 0), (48, 0), (49, 0), (50, 0), (51, 0), (52, 0), (53, 0), (0, 1), (0, 0), (0, 39), (0, 5636), (0, 25), (0, 62), (0, 0), (0, 22), (0, 60), (5, 0), (5, 0)] [] LE85
  refine q_aload_n d_L_law_1368 rfl (by decide) ?_
  refine q_aload d_L_law_1369 rfl (by decide) ?_
  refine q_callS (as := [(8, 0), (49, 0)]) (rest := []) (ls' := [(8, 0), (49, 0)]) (κ1 := (0 + 2)) (κ2 := 298) (Ψ := fun o D' => o = .inl (some (0, 1)) ∧ D' = LE86) d_L_law_1371 ck_RL_224 rfl rfl rfl (Nat.le_of_ble_eq_true rfl) (Nat.le_of_ble_eq_true rfl) (by decide) rfl rfl rfl (run_pE_isFile (κ := 0) (fun a h => h) ⟨.inl 1, _, ckv_ok k24, Nat.zero_le _, rfl, rfl⟩) (fun v2 D2 hq => ?_) (fun n2 D2 hq => by cases hq.1)
  obtain ⟨e1, rfl⟩ := hq
  cases e1
  show RunQ Γ (fun a => Nat.blt a 46) 298 Y_L_law 1374 [(7, 0), (8, 0), (40, 0), (41, 0), (42, 0), (43, 0), (44, 0), (45, 0), (46, 0), (47, 0), (48, 0), (49, 0), (50, 0), (51, 0), (52, 0), (53, 0), (0, 1), (0, 0), (0, 39), (0, 5636), (0, 25), (0, 62), (0, 0), (0, 22), (0, 60), (5, 0), (5, 0)] [(0, 1)] LE86
  refine q_if_eq (tgt := 1487) d_L_law_1374 (by decide) ⟨by decide, by decide⟩ (fun g => absurd g (by decide)) (fun _ => ?_)
  show RunQ Γ (fun a => Nat.blt a 46) 298 Y_L_law 1377 [(7, 0), (8, 0), (40, 0), (41, 0), (42, 0), (43, 0), (44, 0), (45, 0), (46, 0), (47, 0), (48, 0), (49, 0), (50, 0), (51, 0), (52, 0), (53, 0), (0, 1), (0, 0), (0, 39), (0, 5636), (0, 25), (0, 62), (0, 0), (0, 22), (0, 60), (5, 0), (5, 0)] [] LE86
  refine q_aload_n d_L_law_1377 rfl (by decide) ?_
  refine q_aload_n d_L_law_1378 rfl (by decide) ?_
  refine q_aload d_L_law_1379 rfl (by decide) ?_
  refine q_aload d_L_law_1381 rfl (by decide) ?_
  refine q_aload d_L_law_1383 rfl (by decide) ?_
  refine q_aload d_L_law_1385 rfl (by decide) ?_
  refine q_callS (as := [(8, 0), (40, 0), (43, 0), (46, 0), (49, 0), (51, 0)]) (rest := []) (ls' := [(8, 0), (40, 0), (43, 0), (46, 0), (49, 0), (51, 0), (5, 0), (5, 0), (5, 0), (5, 0), (5, 0), (5, 0), (5, 0), (5, 0), (5, 0), (5, 0), (5, 0)]) (κ1 := (0 + 196)) (κ2 := 102) (Ψ := fun o D' => o = .inl (some (0, 1)) ∧ D' = LE87) d_L_law_1387 ck_RL_182 rfl rfl rfl (Nat.le_of_ble_eq_true rfl) (Nat.le_of_ble_eq_true rfl) (by decide) rfl rfl rfl (run_pE_isTree (κ := 0) (fun a h => h) ⟨.inl 1, _, ckv_ok k25, Nat.zero_le _, rfl, rfl⟩) (fun v2 D2 hq => ?_) (fun n2 D2 hq => by cases hq.1)
  obtain ⟨e1, rfl⟩ := hq
  cases e1
  show RunQ Γ (fun a => Nat.blt a 46) 102 Y_L_law 1390 [(7, 0), (8, 0), (40, 0), (41, 0), (42, 0), (43, 0), (44, 0), (45, 0), (46, 0), (47, 0), (48, 0), (49, 0), (50, 0), (51, 0), (52, 0), (53, 0), (0, 1), (0, 0), (0, 39), (0, 5636), (0, 25), (0, 62), (0, 0), (0, 22), (0, 60), (5, 0), (5, 0)] [(0, 1)] LE87
  exact q_done (of_decide_eq_true k26)
