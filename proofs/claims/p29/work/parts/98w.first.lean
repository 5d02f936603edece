/-! the law's start, step by step -/
abbrev Y_L_law : YT := (cL_law, 27, (some .boolean), yL_law, [], 11)
theorem nk_RL_9_0 : NK RL 9 7 8 [5, 10, 14, 15, 16, 18, 23, 4] := ⟨RX7, TX7, tyX7, rfl, ws_X7, tyX7_ok, KW.at (i := 54) (by decide +kernel) rfl, KW.at (i := 55) (by decide +kernel) rfl, KW.at (i := 36) (by decide +kernel) rfl, rfl, rfl⟩
theorem mk_X7_init : MK Y_X7_init 0 := ⟨KW.at (i := 36) (by decide +kernel) rfl, KW.at (i := 58) (by decide +kernel) rfl, ⟨by decide +kernel, by decide +kernel⟩, by decide +kernel, by decide +kernel, rfl, by decide⟩
theorem cki_RL_181 : CKI RL 181 Y_X7_init 0 := ⟨rfl, rfl, KW.at (i := 56) (by decide +kernel) rfl, KW.at (i := 57) (by decide +kernel) rfl, mk_X7_init⟩
theorem d_L_law_0 : decode cL_law 0 = .ok (.new 9, 3) := by decide +kernel
theorem d_L_law_3 : decode cL_law 3 = .ok (.dup, 1) := by decide +kernel
theorem d_L_law_4 : decode cL_law 4 = .ok (.invokespecial 181, 3) := by decide +kernel
theorem d_L_law_7 : decode cL_law 7 = .ok (.astore_n 1, 1) := by decide +kernel
theorem d_L_law_8 : decode cL_law 8 = .ok (.bipush 60, 2) := by decide +kernel
theorem d_L_law_10 : decode cL_law 10 = .ok (.newarray .long, 2) := by decide +kernel
theorem d_L_law_12 : decode cL_law 12 = .ok (.astore_n 2, 1) := by decide +kernel
theorem d_L_law_13 : decode cL_law 13 = .ok (.bipush 60, 2) := by decide +kernel
theorem d_L_law_15 : decode cL_law 15 = .ok (.newarray .long, 2) := by decide +kernel
theorem sh_33 : SH.getD 33 (9, 0, []) = (3, 60, []) := rfl
theorem d_L_law_17 : decode cL_law 17 = .ok (.astore_n 3, 1) := by decide +kernel
theorem d_L_law_18 : decode cL_law 18 = .ok (.bipush 60, 2) := by decide +kernel
theorem d_L_law_20 : decode cL_law 20 = .ok (.newarray .long, 2) := by decide +kernel
theorem sh_34 : SH.getD 34 (9, 0, []) = (3, 60, []) := rfl
theorem d_L_law_22 : decode cL_law 22 = .ok (.astore 4, 2) := by decide +kernel
theorem d_L_law_24 : decode cL_law 24 = .ok (.bipush 40, 2) := by decide +kernel
theorem d_L_law_26 : decode cL_law 26 = .ok (.newarray .long, 2) := by decide +kernel
theorem d_L_law_28 : decode cL_law 28 = .ok (.astore 5, 2) := by decide +kernel
theorem d_L_law_30 : decode cL_law 30 = .ok (.bipush 40, 2) := by decide +kernel
theorem d_L_law_32 : decode cL_law 32 = .ok (.newarray .long, 2) := by decide +kernel
theorem sh_36 : SH.getD 36 (9, 0, []) = (3, 40, []) := rfl
theorem d_L_law_34 : decode cL_law 34 = .ok (.astore 6, 2) := by decide +kernel
theorem d_L_law_36 : decode cL_law 36 = .ok (.bipush 40, 2) := by decide +kernel
theorem d_L_law_38 : decode cL_law 38 = .ok (.newarray .long, 2) := by decide +kernel
theorem sh_37 : SH.getD 37 (9, 0, []) = (3, 40, []) := rfl
theorem d_L_law_40 : decode cL_law 40 = .ok (.astore 7, 2) := by decide +kernel
theorem d_L_law_42 : decode cL_law 42 = .ok (.bipush 40, 2) := by decide +kernel
theorem d_L_law_44 : decode cL_law 44 = .ok (.newarray .int, 2) := by decide +kernel
theorem d_L_law_46 : decode cL_law 46 = .ok (.astore 8, 2) := by decide +kernel
theorem d_L_law_48 : decode cL_law 48 = .ok (.bipush 40, 2) := by decide +kernel
theorem d_L_law_50 : decode cL_law 50 = .ok (.newarray .int, 2) := by decide +kernel
theorem sh_39 : SH.getD 39 (9, 0, []) = (1, 40, []) := rfl
theorem d_L_law_52 : decode cL_law 52 = .ok (.astore 9, 2) := by decide +kernel
theorem d_L_law_54 : decode cL_law 54 = .ok (.bipush 40, 2) := by decide +kernel
theorem d_L_law_56 : decode cL_law 56 = .ok (.newarray .int, 2) := by decide +kernel
theorem sh_40 : SH.getD 40 (9, 0, []) = (1, 40, []) := rfl
theorem d_L_law_58 : decode cL_law 58 = .ok (.astore 10, 2) := by decide +kernel
theorem d_L_law_60 : decode cL_law 60 = .ok (.bipush 13, 2) := by decide +kernel
theorem d_L_law_62 : decode cL_law 62 = .ok (.newarray .int, 2) := by decide +kernel
theorem d_L_law_64 : decode cL_law 64 = .ok (.astore 11, 2) := by decide +kernel
theorem d_L_law_66 : decode cL_law 66 = .ok (.iconst 2, 1) := by decide +kernel
theorem d_L_law_67 : decode cL_law 67 = .ok (.newarray .long, 2) := by decide +kernel
theorem sh_42 : SH.getD 42 (9, 0, []) = (3, 2, []) := rfl
theorem d_L_law_69 : decode cL_law 69 = .ok (.astore 12, 2) := by decide +kernel
theorem d_L_law_71 : decode cL_law 71 = .ok (.iconst 4, 1) := by decide +kernel
theorem d_L_law_72 : decode cL_law 72 = .ok (.newarray .long, 2) := by decide +kernel
theorem d_L_law_74 : decode cL_law 74 = .ok (.astore 13, 2) := by decide +kernel
theorem d_L_law_76 : decode cL_law 76 = .ok (.bipush 60, 2) := by decide +kernel
theorem d_L_law_78 : decode cL_law 78 = .ok (.newarray .int, 2) := by decide +kernel
theorem sh_44 : SH.getD 44 (9, 0, []) = (1, 60, []) := rfl
theorem d_L_law_80 : decode cL_law 80 = .ok (.astore 14, 2) := by decide +kernel
theorem d_L_law_82 : decode cL_law 82 = .ok (.bipush 60, 2) := by decide +kernel
theorem d_L_law_84 : decode cL_law 84 = .ok (.newarray .int, 2) := by decide +kernel
theorem sh_45 : SH.getD 45 (9, 0, []) = (1, 60, []) := rfl
theorem d_L_law_86 : decode cL_law 86 = .ok (.astore 15, 2) := by decide +kernel
theorem d_L_law_88 : decode cL_law 88 = .ok (.aload_n 2, 1) := by decide +kernel
theorem d_L_law_89 : decode cL_law 89 = .ok (.iconst 0, 1) := by decide +kernel
theorem d_L_law_90 : decode cL_law 90 = .ok (.iconst 0, 1) := by decide +kernel
theorem d_L_law_91 : decode cL_law 91 = .ok (.iconst 0, 1) := by decide +kernel
theorem d_L_law_92 : decode cL_law 92 = .ok (.iconst (-1), 1) := by decide +kernel
theorem d_L_law_93 : decode cL_law 93 = .ok (.iconst 0, 1) := by decide +kernel
theorem d_L_law_94 : decode cL_law 94 = .ok (.invokestatic 157, 3) := by decide +kernel
theorem mk_L_key : MK Y_L_key 4 := ⟨KW.at (i := 35) (by decide +kernel) rfl, KW.at (i := 936) (by decide +kernel) rfl, ⟨by decide +kernel, by decide +kernel⟩, by decide +kernel, by decide +kernel, rfl, by decide⟩
theorem sm_L_key : KW (.static (yN Y_L_key)) := KW.at (i := 935) (by decide +kernel) rfl
theorem ck_RL_157 : CKS RL 157 Y_L_key 4 := ⟨KW.at (i := 934) (by decide +kernel) rfl, sm_L_key, mk_L_key⟩
theorem d_L_law_97 : decode cL_law 97 = .ok (.lastore, 1) := by decide +kernel
theorem d_L_law_98 : decode cL_law 98 = .ok (.aload 4, 2) := by decide +kernel
theorem d_L_law_100 : decode cL_law 100 = .ok (.iconst 0, 1) := by decide +kernel
theorem d_L_law_101 : decode cL_law 101 = .ok (.aload_n 2, 1) := by decide +kernel
theorem d_L_law_102 : decode cL_law 102 = .ok (.iconst 0, 1) := by decide +kernel
theorem d_L_law_103 : decode cL_law 103 = .ok (.laload, 1) := by decide +kernel
theorem d_L_law_104 : decode cL_law 104 = .ok (.lastore, 1) := by decide +kernel
theorem d_L_law_105 : decode cL_law 105 = .ok (.aload 11, 2) := by decide +kernel
theorem d_L_law_107 : decode cL_law 107 = .ok (.iconst 0, 1) := by decide +kernel
theorem d_L_law_108 : decode cL_law 108 = .ok (.iconst 1, 1) := by decide +kernel
theorem d_L_law_109 : decode cL_law 109 = .ok (.iastore, 1) := by decide +kernel
theorem d_L_law_110 : decode cL_law 110 = .ok (.aload 11, 2) := by decide +kernel
theorem d_L_law_112 : decode cL_law 112 = .ok (.iconst 4, 1) := by decide +kernel
theorem d_L_law_113 : decode cL_law 113 = .ok (.iconst 1, 1) := by decide +kernel
theorem d_L_law_114 : decode cL_law 114 = .ok (.iastore, 1) := by decide +kernel
theorem d_L_law_115 : decode cL_law 115 = .ok (.aload 11, 2) := by decide +kernel
theorem d_L_law_117 : decode cL_law 117 = .ok (.bipush 6, 2) := by decide +kernel
theorem d_L_law_119 : decode cL_law 119 = .ok (.iconst (-1), 1) := by decide +kernel
theorem d_L_law_120 : decode cL_law 120 = .ok (.iastore, 1) := by decide +kernel
theorem d_L_law_121 : decode cL_law 121 = .ok (.aload 12, 2) := by decide +kernel
theorem d_L_law_123 : decode cL_law 123 = .ok (.iconst 1, 1) := by decide +kernel
theorem d_L_law_124 : decode cL_law 124 = .ok (.aload_n 1, 1) := by decide +kernel
theorem d_L_law_125 : decode cL_law 125 = .ok (.aload 11, 2) := by decide +kernel
theorem d_L_law_127 : decode cL_law 127 = .ok (.invokestatic 125, 3) := by decide +kernel
theorem d_L_law_130 : decode cL_law 130 = .ok (.lastore, 1) := by decide +kernel
theorem d_L_law_131 : decode cL_law 131 = .ok (.aload 11, 2) := by decide +kernel
theorem d_L_law_133 : decode cL_law 133 = .ok (.bipush 12, 2) := by decide +kernel
theorem d_L_law_135 : decode cL_law 135 = .ok (.iaload, 1) := by decide +kernel
theorem d_L_law_136 : decode cL_law 136 = .ok (.iconst 1, 1) := by decide +kernel
theorem d_L_law_137 : decode cL_law 137 = .ok (.if_icmp .ne 40, 3) := by decide +kernel
theorem d_L_law_140 : decode cL_law 140 = .ok (.aload_n 1, 1) := by decide +kernel
theorem d_L_law_141 : decode cL_law 141 = .ok (.aload_n 2, 1) := by decide +kernel
theorem d_L_law_142 : decode cL_law 142 = .ok (.aload 5, 2) := by decide +kernel
theorem d_L_law_144 : decode cL_law 144 = .ok (.aload 8, 2) := by decide +kernel
theorem d_L_law_146 : decode cL_law 146 = .ok (.aload 11, 2) := by decide +kernel
theorem d_L_law_148 : decode cL_law 148 = .ok (.aload 13, 2) := by decide +kernel
theorem d_L_law_150 : decode cL_law 150 = .ok (.invokestatic 182, 3) := by decide +kernel
theorem sm_L_isTree : KW (.static (yN Y_L_isTree)) := KW.at (i := 997) (by decide +kernel) rfl
theorem ck_RL_182 : CKS RL 182 Y_L_isTree 6 := ⟨KW.at (i := 996) (by decide +kernel) rfl, sm_L_isTree, mk_L_isTree⟩
theorem d_L_law_153 : decode cL_law 153 = .ok (.ifCond .eq 24, 3) := by decide +kernel
theorem d_L_law_156 : decode cL_law 156 = .ok (.aload_n 1, 1) := by decide +kernel
theorem d_L_law_157 : decode cL_law 157 = .ok (.invokevirtual 145, 3) := by decide +kernel
theorem mk_X7_dirty : MK Y_X7_dirty 0 := ⟨KW.at (i := 36) (by decide +kernel) rfl, KW.at (i := 454) (by decide +kernel) rfl, ⟨by decide +kernel, by decide +kernel⟩, by decide +kernel, by decide +kernel, rfl, by decide⟩
theorem vm_X7_dirty : KW (.instanceMethod (yN Y_X7_dirty)) ∧ KW (.selects (yN Y_X7_dirty).cls (yN Y_X7_dirty) (yN Y_X7_dirty)) := ⟨KW.at (i := 452) (by decide +kernel) rfl, KW.at (i := 453) (by decide +kernel) rfl⟩
theorem ck_RL_145 : CKV RL 145 Y_X7_dirty 0 := ⟨KW.at (i := 451) (by decide +kernel) rfl, vm_X7_dirty.1, vm_X7_dirty.2, mk_X7_dirty⟩
theorem d_L_law_160 : decode cL_law 160 = .ok (.lconst 0, 1) := by decide +kernel
theorem d_L_law_161 : decode cL_law 161 = .ok (.lcmp, 1) := by decide +kernel
theorem d_L_law_162 : decode cL_law 162 = .ok (.ifCond .ne 15, 3) := by decide +kernel
theorem d_L_law_165 : decode cL_law 165 = .ok (.aload_n 1, 1) := by decide +kernel
theorem d_L_law_166 : decode cL_law 166 = .ok (.invokevirtual 186, 3) := by decide +kernel
theorem mk_X7_takeNotice : MK Y_X7_takeNotice 0 := ⟨KW.at (i := 36) (by decide +kernel) rfl, KW.at (i := 440) (by decide +kernel) rfl, ⟨by decide +kernel, by decide +kernel⟩, by decide +kernel, by decide +kernel, rfl, by decide⟩
theorem vm_X7_takeNotice : KW (.instanceMethod (yN Y_X7_takeNotice)) ∧ KW (.selects (yN Y_X7_takeNotice).cls (yN Y_X7_takeNotice) (yN Y_X7_takeNotice)) := ⟨KW.at (i := 438) (by decide +kernel) rfl, KW.at (i := 439) (by decide +kernel) rfl⟩
theorem ck_RL_186 : CKV RL 186 Y_X7_takeNotice 0 := ⟨KW.at (i := 437) (by decide +kernel) rfl, vm_X7_takeNotice.1, vm_X7_takeNotice.2, mk_X7_takeNotice⟩
theorem d_L_law_169 : decode cL_law 169 = .ok (.iconst (-1), 1) := by decide +kernel
theorem d_L_law_170 : decode cL_law 170 = .ok (.if_icmp .ne 7, 3) := by decide +kernel
theorem d_L_law_173 : decode cL_law 173 = .ok (.iconst 1, 1) := by decide +kernel
theorem d_L_law_174 : decode cL_law 174 = .ok (.goto 4, 3) := by decide +kernel
theorem d_L_law_178 : decode cL_law 178 = .ok (.istore 16, 2) := by decide +kernel
theorem d_L_law_180 : decode cL_law 180 = .ok (.iconst 0, 1) := by decide +kernel
theorem d_L_law_181 : decode cL_law 181 = .ok (.istore 17, 2) := by decide +kernel
theorem d_L_law_183 : decode cL_law 183 = .ok (.iload 17, 2) := by decide +kernel
theorem d_L_law_185 : decode cL_law 185 = .ok (.bipush 56, 2) := by decide +kernel
theorem d_L_law_187 : decode cL_law 187 = .ok (.if_icmp .ge 1309, 3) := by decide +kernel
theorem d_L_law_190 : decode cL_law 190 = .ok (.iload 16, 2) := by decide +kernel
theorem d_L_law_192 : decode cL_law 192 = .ok (.ifCond .eq 1304, 3) := by decide +kernel
theorem d_L_law_195 : decode cL_law 195 = .ok (.aload_n 0, 1) := by decide +kernel
theorem d_L_law_196 : decode cL_law 196 = .ok (.iconst 4, 1) := by decide +kernel
theorem d_L_law_197 : decode cL_law 197 = .ok (.iload 17, 2) := by decide +kernel
theorem d_L_law_199 : decode cL_law 199 = .ok (.imul, 1) := by decide +kernel
theorem d_L_law_200 : decode cL_law 200 = .ok (.bipush 40, 2) := by decide +kernel
theorem d_L_law_202 : decode cL_law 202 = .ok (.invokestatic 189, 3) := by decide +kernel
theorem mk_L_part : MK Y_L_part 3 := ⟨KW.at (i := 35) (by decide +kernel) rfl, KW.at (i := 514) (by decide +kernel) rfl, ⟨by decide +kernel, by decide +kernel⟩, by decide +kernel, by decide +kernel, rfl, by decide⟩
theorem sm_L_part : KW (.static (yN Y_L_part)) := KW.at (i := 513) (by decide +kernel) rfl
theorem ck_RL_189 : CKS RL 189 Y_L_part 3 := ⟨KW.at (i := 512) (by decide +kernel) rfl, sm_L_part, mk_L_part⟩
theorem d_L_law_205 : decode cL_law 205 = .ok (.istore 18, 2) := by decide +kernel
theorem d_L_law_207 : decode cL_law 207 = .ok (.aload_n 0, 1) := by decide +kernel
theorem d_L_law_208 : decode cL_law 208 = .ok (.iconst 4, 1) := by decide +kernel
theorem d_L_law_209 : decode cL_law 209 = .ok (.iload 17, 2) := by decide +kernel
theorem d_L_law_211 : decode cL_law 211 = .ok (.imul, 1) := by decide +kernel
theorem d_L_law_212 : decode cL_law 212 = .ok (.iconst 1, 1) := by decide +kernel
theorem d_L_law_213 : decode cL_law 213 = .ok (.iadd, 1) := by decide +kernel
theorem d_L_law_214 : decode cL_law 214 = .ok (.sipush 6000, 3) := by decide +kernel
theorem d_L_law_217 : decode cL_law 217 = .ok (.invokestatic 189, 3) := by decide +kernel
theorem d_L_law_220 : decode cL_law 220 = .ok (.istore 19, 2) := by decide +kernel
theorem d_L_law_222 : decode cL_law 222 = .ok (.aload_n 0, 1) := by decide +kernel
theorem d_L_law_223 : decode cL_law 223 = .ok (.iconst 4, 1) := by decide +kernel
theorem d_L_law_224 : decode cL_law 224 = .ok (.iload 17, 2) := by decide +kernel
theorem d_L_law_226 : decode cL_law 226 = .ok (.imul, 1) := by decide +kernel
theorem d_L_law_227 : decode cL_law 227 = .ok (.iconst 2, 1) := by decide +kernel
theorem d_L_law_228 : decode cL_law 228 = .ok (.iadd, 1) := by decide +kernel
theorem d_L_law_229 : decode cL_law 229 = .ok (.sipush 7000, 3) := by decide +kernel
theorem d_L_law_232 : decode cL_law 232 = .ok (.invokestatic 189, 3) := by decide +kernel
theorem d_L_law_235 : decode cL_law 235 = .ok (.istore 20, 2) := by decide +kernel
theorem d_L_law_237 : decode cL_law 237 = .ok (.aload_n 0, 1) := by decide +kernel
theorem d_L_law_238 : decode cL_law 238 = .ok (.iconst 4, 1) := by decide +kernel
theorem d_L_law_239 : decode cL_law 239 = .ok (.iload 17, 2) := by decide +kernel
theorem d_L_law_241 : decode cL_law 241 = .ok (.imul, 1) := by decide +kernel
theorem d_L_law_242 : decode cL_law 242 = .ok (.iconst 3, 1) := by decide +kernel
theorem d_L_law_243 : decode cL_law 243 = .ok (.iadd, 1) := by decide +kernel
theorem d_L_law_244 : decode cL_law 244 = .ok (.sipush 8000, 3) := by decide +kernel
theorem d_L_law_247 : decode cL_law 247 = .ok (.invokestatic 189, 3) := by decide +kernel
theorem d_L_law_250 : decode cL_law 250 = .ok (.istore 21, 2) := by decide +kernel
theorem d_L_law_252 : decode cL_law 252 = .ok (.iload 19, 2) := by decide +kernel
theorem d_L_law_254 : decode cL_law 254 = .ok (.bipush 20, 2) := by decide +kernel
theorem d_L_law_256 : decode cL_law 256 = .ok (.irem, 1) := by decide +kernel
theorem d_L_law_257 : decode cL_law 257 = .ok (.ifCond .ne 8, 3) := by decide +kernel
theorem d_L_law_260 : decode cL_law 260 = .ok (.bipush 60, 2) := by decide +kernel
theorem d_L_law_262 : decode cL_law 262 = .ok (.goto 22, 3) := by decide +kernel
theorem d_L_law_284 : decode cL_law 284 = .ok (.istore 22, 2) := by decide +kernel
theorem d_L_law_286 : decode cL_law 286 = .ok (.iload 21, 2) := by decide +kernel
theorem d_L_law_288 : decode cL_law 288 = .ok (.bipush 30, 2) := by decide +kernel
theorem d_L_law_290 : decode cL_law 290 = .ok (.irem, 1) := by decide +kernel
theorem d_L_law_291 : decode cL_law 291 = .ok (.ifCond .ne 9, 3) := by decide +kernel
theorem d_L_law_294 : decode cL_law 294 = .ok (.sipush 10000, 3) := by decide +kernel
theorem d_L_law_297 : decode cL_law 297 = .ok (.goto 8, 3) := by decide +kernel
theorem d_L_law_305 : decode cL_law 305 = .ok (.istore 23, 2) := by decide +kernel
theorem d_L_law_307 : decode cL_law 307 = .ok (.iload 18, 2) := by decide +kernel
theorem d_L_law_309 : decode cL_law 309 = .ok (.bipush 11, 2) := by decide +kernel
theorem d_L_law_311 : decode cL_law 311 = .ok (.if_icmp .ge 39, 3) := by decide +kernel
theorem d_L_law_350 : decode cL_law 350 = .ok (.iload 18, 2) := by decide +kernel
theorem d_L_law_352 : decode cL_law 352 = .ok (.bipush 13, 2) := by decide +kernel
theorem d_L_law_354 : decode cL_law 354 = .ok (.if_icmp .ge 23, 3) := by decide +kernel
theorem d_L_law_377 : decode cL_law 377 = .ok (.iload 18, 2) := by decide +kernel
theorem d_L_law_379 : decode cL_law 379 = .ok (.bipush 15, 2) := by decide +kernel
theorem d_L_law_381 : decode cL_law 381 = .ok (.if_icmp .ge 27, 3) := by decide +kernel
theorem d_L_law_408 : decode cL_law 408 = .ok (.iload 18, 2) := by decide +kernel
theorem d_L_law_410 : decode cL_law 410 = .ok (.bipush 25, 2) := by decide +kernel
theorem d_L_law_412 : decode cL_law 412 = .ok (.if_icmp .ge 156, 3) := by decide +kernel
theorem d_L_law_568 : decode cL_law 568 = .ok (.iload 18, 2) := by decide +kernel
theorem d_L_law_570 : decode cL_law 570 = .ok (.bipush 27, 2) := by decide +kernel
theorem d_L_law_572 : decode cL_law 572 = .ok (.if_icmp .ge 39, 3) := by decide +kernel
theorem d_L_law_611 : decode cL_law 611 = .ok (.iload 18, 2) := by decide +kernel
theorem d_L_law_613 : decode cL_law 613 = .ok (.bipush 30, 2) := by decide +kernel
theorem d_L_law_615 : decode cL_law 615 = .ok (.if_icmp .ge 123, 3) := by decide +kernel
theorem d_L_law_738 : decode cL_law 738 = .ok (.iload 18, 2) := by decide +kernel
theorem d_L_law_740 : decode cL_law 740 = .ok (.bipush 32, 2) := by decide +kernel
theorem d_L_law_742 : decode cL_law 742 = .ok (.if_icmp .ge 94, 3) := by decide +kernel
theorem d_L_law_745 : decode cL_law 745 = .ok (.aload 11, 2) := by decide +kernel
theorem d_L_law_747 : decode cL_law 747 = .ok (.bipush 9, 2) := by decide +kernel
theorem d_L_law_749 : decode cL_law 749 = .ok (.iaload, 1) := by decide +kernel
theorem d_L_law_750 : decode cL_law 750 = .ok (.ifCond .ne 7, 3) := by decide +kernel
theorem d_L_law_753 : decode cL_law 753 = .ok (.iconst (-1), 1) := by decide +kernel
theorem d_L_law_754 : decode cL_law 754 = .ok (.goto 7, 3) := by decide +kernel
theorem d_L_law_761 : decode cL_law 761 = .ok (.istore 24, 2) := by decide +kernel
theorem d_L_law_763 : decode cL_law 763 = .ok (.iconst 0, 1) := by decide +kernel
theorem d_L_law_764 : decode cL_law 764 = .ok (.istore 25, 2) := by decide +kernel
theorem d_L_law_766 : decode cL_law 766 = .ok (.iload 25, 2) := by decide +kernel
theorem d_L_law_768 : decode cL_law 768 = .ok (.aload 11, 2) := by decide +kernel
theorem d_L_law_770 : decode cL_law 770 = .ok (.bipush 9, 2) := by decide +kernel
theorem d_L_law_772 : decode cL_law 772 = .ok (.iaload, 1) := by decide +kernel
theorem d_L_law_773 : decode cL_law 773 = .ok (.iconst 1, 1) := by decide +kernel
theorem d_L_law_774 : decode cL_law 774 = .ok (.isub, 1) := by decide +kernel
theorem d_L_law_775 : decode cL_law 775 = .ok (.if_icmp .ge 21, 3) := by decide +kernel
theorem d_L_law_796 : decode cL_law 796 = .ok (.aload 11, 2) := by decide +kernel
theorem d_L_law_798 : decode cL_law 798 = .ok (.bipush 9, 2) := by decide +kernel
theorem d_L_law_800 : decode cL_law 800 = .ok (.dup2, 1) := by decide +kernel
theorem d_L_law_801 : decode cL_law 801 = .ok (.iaload, 1) := by decide +kernel
theorem d_L_law_802 : decode cL_law 802 = .ok (.aload 11, 2) := by decide +kernel
theorem d_L_law_804 : decode cL_law 804 = .ok (.bipush 9, 2) := by decide +kernel
theorem d_L_law_806 : decode cL_law 806 = .ok (.iaload, 1) := by decide +kernel
theorem d_L_law_807 : decode cL_law 807 = .ok (.ifCond .ne 7, 3) := by decide +kernel
theorem d_L_law_810 : decode cL_law 810 = .ok (.iconst 0, 1) := by decide +kernel
theorem d_L_law_811 : decode cL_law 811 = .ok (.goto 4, 3) := by decide +kernel
theorem d_L_law_815 : decode cL_law 815 = .ok (.isub, 1) := by decide +kernel
theorem d_L_law_816 : decode cL_law 816 = .ok (.iastore, 1) := by decide +kernel
theorem d_L_law_817 : decode cL_law 817 = .ok (.aload_n 1, 1) := by decide +kernel
theorem d_L_law_818 : decode cL_law 818 = .ok (.invokevirtual 186, 3) := by decide +kernel
theorem d_L_law_821 : decode cL_law 821 = .ok (.iload 24, 2) := by decide +kernel
theorem d_L_law_823 : decode cL_law 823 = .ok (.if_icmp .ne 7, 3) := by decide +kernel
theorem d_L_law_826 : decode cL_law 826 = .ok (.iconst 1, 1) := by decide +kernel
theorem d_L_law_827 : decode cL_law 827 = .ok (.goto 4, 3) := by decide +kernel
theorem d_L_law_831 : decode cL_law 831 = .ok (.istore 16, 2) := by decide +kernel
theorem d_L_law_833 : decode cL_law 833 = .ok (.goto 530, 3) := by decide +kernel
theorem d_L_law_1363 : decode cL_law 1363 = .ok (.iload 16, 2) := by decide +kernel
theorem d_L_law_1365 : decode cL_law 1365 = .ok (.ifCond .eq 122, 3) := by decide +kernel
theorem d_L_law_1368 : decode cL_law 1368 = .ok (.aload_n 1, 1) := by decide +kernel
theorem d_L_law_1369 : decode cL_law 1369 = .ok (.aload 11, 2) := by decide +kernel
theorem d_L_law_1371 : decode cL_law 1371 = .ok (.invokestatic 224, 3) := by decide +kernel
theorem mk_L_isFile : MK Y_L_isFile 2 := ⟨KW.at (i := 35) (by decide +kernel) rfl, KW.at (i := 995) (by decide +kernel) rfl, ⟨by decide +kernel, by decide +kernel⟩, by decide +kernel, by decide +kernel, rfl, by decide⟩
theorem sm_L_isFile : KW (.static (yN Y_L_isFile)) := KW.at (i := 994) (by decide +kernel) rfl
theorem ck_RL_224 : CKS RL 224 Y_L_isFile 2 := ⟨KW.at (i := 993) (by decide +kernel) rfl, sm_L_isFile, mk_L_isFile⟩
theorem d_L_law_1374 : decode cL_law 1374 = .ok (.ifCond .eq 113, 3) := by decide +kernel
theorem d_L_law_1377 : decode cL_law 1377 = .ok (.aload_n 1, 1) := by decide +kernel
theorem d_L_law_1378 : decode cL_law 1378 = .ok (.aload_n 2, 1) := by decide +kernel
theorem d_L_law_1379 : decode cL_law 1379 = .ok (.aload 5, 2) := by decide +kernel
theorem d_L_law_1381 : decode cL_law 1381 = .ok (.aload 8, 2) := by decide +kernel
theorem d_L_law_1383 : decode cL_law 1383 = .ok (.aload 11, 2) := by decide +kernel
theorem d_L_law_1385 : decode cL_law 1385 = .ok (.aload 13, 2) := by decide +kernel
theorem d_L_law_1387 : decode cL_law 1387 = .ok (.invokestatic 182, 3) := by decide +kernel
theorem d_L_law_1390 : decode cL_law 1390 = .ok (.ifCond .eq 97, 3) := by decide +kernel
theorem m_ghost {Γ : GG} {n0 mc ms : Nat} {y : YT} {pc : Nat} {ls st : List PV} {n : Nat} {M : MP} {D D' : DD} (h : ∀ a, a < n → D' a = D a) (k : RunM Γ n0 mc ms y pc ls st n M D') : RunM Γ n0 mc ms y pc ls st n M D := by
  intro p e R s m args below meth c H locs lsm q C hN hz hH hS hl h3 h4
  refine k p e R s m args below meth c H locs lsm q C hN hz ?_ hS hl h3 h4
  unfold HN wsn at hH ⊢
  have e1 : (List.range n).map (fun a => (gB Γ + a, cellN Γ M D' a)) = (List.range n).map (fun a => (gB Γ + a, cellN Γ M D a)) := by
    apply List.map_congr_left
    intro a ha
    rw [cellN_congr (D := D) (D' := D') (M := M) (M' := M) (h a (List.mem_range.mp ha)) (fun _ => rfl)]
  rw [e1]
  exact hH
set_option maxRecDepth 20000 in
set_option maxHeartbeats 4000000 in
theorem law_first {Γ : GG} (hL : gL Γ = 4) (hX : gX Γ = XS) : RunM Γ 0 600 13000 Y_L_law 0 [(7, 0), (5, 0), (5, 0), (5, 0), (5, 0), (5, 0), (5, 0), (5, 0), (5, 0), (5, 0), (5, 0), (5, 0), (5, 0), (5, 0), (5, 0), (5, 0), (5, 0), (5, 0), (5, 0), (5, 0), (5, 0), (5, 0), (5, 0), (5, 0), (5, 0), (5, 0), (5, 0)] [] 0 [] Dz := by
  refine m_new (n := 0) d_L_law_0 nk_RL_9_0 sh_0 (by decide) (by decide) (by decide +kernel) (fun _ => rfl) (by decide) ?_
  refine m_dup d_L_law_3 (by decide) ?_
  refine m_callI (a := 0) (z := 0) (as := []) (rest := [(8, 0)]) (ls' := [(8, 0), (5, 0), (5, 0)]) (n := 1) (n1 := 32) (M1 := [(0, 6), (20, 2), (20, 1), (26, 3), (26, 2), (26, 1), (26, 0), (20, 0), (21, 3), (21, 2), (21, 1), (21, 0), (0, 5), (15, 3), (15, 2), (15, 1), (15, 0), (0, 4), (13, 1), (13, 0), (13, 2), (0, 3), (12, 1), (12, 0), (0, 2), (11, 1), (11, 0), (0, 1), (0, 0), (7, 0), (7, 3), (7, 2), (7, 1), (2, 3), (2, 2), (2, 1), (2, 0), (0, 7)]) (Ψ := fun D' => D' = LE1) d_L_law_4 cki_RL_181 rfl rfl rfl (by decide) (Nat.le_of_ble_eq_true rfl) (by decide) rfl (by decide) (by decide) (by decide) (by decide +kernel) (ini_X7_0 (fun a _ _ => rfl) ⟨.inl 0, _, ckv_ok k1, Nat.le_refl _, rfl, rfl⟩) (fun D1 e => ?_)
  subst e
  refine m_ghost (D' := LE2) (fun a h => if_pos h) ?_
  refine m_astore_n d_L_law_7 (by decide) rfl (by decide) ?_
  refine m_bipush d_L_law_8 (by decide) ?_
  refine m_newJ (n := 32) (len := 60) d_L_law_10 sh_32 (by decide) (by decide) (by decide) (by decide +kernel) (fun _ => rfl) ?_
  refine m_astore_n d_L_law_12 (by decide) rfl (by decide) ?_
  refine m_bipush d_L_law_13 (by decide) ?_
  refine m_newJ (n := 33) (len := 60) d_L_law_15 sh_33 (by decide) (by decide) (by decide) (by decide +kernel) (fun _ => rfl) ?_
  refine m_astore_n d_L_law_17 (by decide) rfl (by decide) ?_
  refine m_bipush d_L_law_18 (by decide) ?_
  refine m_newJ (n := 34) (len := 60) d_L_law_20 sh_34 (by decide) (by decide) (by decide) (by decide +kernel) (fun _ => rfl) ?_
  refine m_astore d_L_law_22 (by decide) rfl (by decide) ?_
  refine m_bipush d_L_law_24 (by decide) ?_
  refine m_newJ (n := 35) (len := 40) d_L_law_26 sh_35 (by decide) (by decide) (by decide) (by decide +kernel) (fun _ => rfl) ?_
  refine m_astore d_L_law_28 (by decide) rfl (by decide) ?_
  refine m_bipush d_L_law_30 (by decide) ?_
  refine m_newJ (n := 36) (len := 40) d_L_law_32 sh_36 (by decide) (by decide) (by decide) (by decide +kernel) (fun _ => rfl) ?_
  refine m_astore d_L_law_34 (by decide) rfl (by decide) ?_
  refine m_bipush d_L_law_36 (by decide) ?_
  refine m_newJ (n := 37) (len := 40) d_L_law_38 sh_37 (by decide) (by decide) (by decide) (by decide +kernel) (fun _ => rfl) ?_
  refine m_astore d_L_law_40 (by decide) rfl (by decide) ?_
  refine m_bipush d_L_law_42 (by decide) ?_
  refine m_newI (n := 38) (len := 40) d_L_law_44 sh_38 (by decide) (by decide) (by decide) (by decide +kernel) (fun _ => rfl) ?_
  refine m_astore d_L_law_46 (by decide) rfl (by decide) ?_
  refine m_bipush d_L_law_48 (by decide) ?_
  refine m_newI (n := 39) (len := 40) d_L_law_50 sh_39 (by decide) (by decide) (by decide) (by decide +kernel) (fun _ => rfl) ?_
  refine m_astore d_L_law_52 (by decide) rfl (by decide) ?_
  refine m_bipush d_L_law_54 (by decide) ?_
  refine m_newI (n := 40) (len := 40) d_L_law_56 sh_40 (by decide) (by decide) (by decide) (by decide +kernel) (fun _ => rfl) ?_
  refine m_astore d_L_law_58 (by decide) rfl (by decide) ?_
  refine m_bipush d_L_law_60 (by decide) ?_
  refine m_newI (n := 41) (len := 13) d_L_law_62 sh_41 (by decide) (by decide) (by decide) (by decide +kernel) (fun _ => rfl) ?_
  refine m_astore d_L_law_64 (by decide) rfl (by decide) ?_
  refine m_iconst d_L_law_66 ?_
  refine m_newJ (n := 42) (len := 2) d_L_law_67 sh_42 (by decide) (by decide) (by decide) (by decide +kernel) (fun _ => rfl) ?_
  refine m_astore d_L_law_69 (by decide) rfl (by decide) ?_
  refine m_iconst d_L_law_71 ?_
  refine m_newJ (n := 43) (len := 4) d_L_law_72 sh_43 (by decide) (by decide) (by decide) (by decide +kernel) (fun _ => rfl) ?_
  refine m_astore d_L_law_74 (by decide) rfl (by decide) ?_
  refine m_bipush d_L_law_76 (by decide) ?_
  refine m_newI (n := 44) (len := 60) d_L_law_78 sh_44 (by decide) (by decide) (by decide) (by decide +kernel) (fun _ => rfl) ?_
  refine m_astore d_L_law_80 (by decide) rfl (by decide) ?_
  refine m_bipush d_L_law_82 (by decide) ?_
  refine m_newI (n := 45) (len := 60) d_L_law_84 sh_45 (by decide) (by decide) (by decide) (by decide +kernel) (fun _ => rfl) ?_
  refine m_astore d_L_law_86 (by decide) rfl (by decide) ?_
  refine m_run (κ := 500) (by decide +kernel) (by decide) (by decide) (by decide +kernel) ?_
  show RunQ Γ (fun a => Nat.blt a 46) 500 Y_L_law 88 [(7, 0), (8, 0), (40, 0), (41, 0), (42, 0), (43, 0), (44, 0), (45, 0), (46, 0), (47, 0), (48, 0), (49, 0), (50, 0), (51, 0), (52, 0), (53, 0), (5, 0), (5, 0), (5, 0), (5, 0), (5, 0), (5, 0), (5, 0), (5, 0), (5, 0), (5, 0), (5, 0)] [] LE3
  refine q_aload_n d_L_law_88 rfl (by decide) ?_
  refine q_iconst d_L_law_89 ?_
  refine q_iconst d_L_law_90 ?_
  refine q_iconst d_L_law_91 ?_
  refine q_iconst d_L_law_92 ?_
  refine q_iconst d_L_law_93 ?_
  refine q_callS (as := [(0, 0), (0, 0), (0, (-1)), (0, 0)]) (rest := [(0, 0), (40, 0)]) (ls' := [(0, 0), (0, 0), (0, (-1)), (0, 0)]) (κ1 := 0) (κ2 := 500) (Ψ := fun o D' => o = .inl (some (1, 1)) ∧ D' = LE3) d_L_law_94 ck_RL_157 rfl rfl rfl (Nat.le_of_ble_eq_true rfl) (Nat.le_of_ble_eq_true rfl) (by decide) rfl rfl rfl (run_pE_key (fun a h => h) _ _ _ _ (show 1 = (pE_key 0 0 (-1) 0) from (of_decide_eq_true k2).symm) ⟨rfl, rfl⟩) (fun v2 D2 hq => ?_) (fun n2 D2 hq => by cases hq.1)
  obtain ⟨e1, rfl⟩ := hq
  cases e1
  show RunQ Γ (fun a => Nat.blt a 46) 500 Y_L_law 97 [(7, 0), (8, 0), (40, 0), (41, 0), (42, 0), (43, 0), (44, 0), (45, 0), (46, 0), (47, 0), (48, 0), (49, 0), (50, 0), (51, 0), (52, 0), (53, 0), (5, 0), (5, 0), (5, 0), (5, 0), (5, 0), (5, 0), (5, 0), (5, 0), (5, 0), (5, 0), (5, 0)] [(1, 1), (0, 0), (40, 0)] LE3
  refine q_last d_L_law_97 sh_32 (by decide) (by decide) (by decide) (by decide) (by decide) ?_
  show RunQ Γ (fun a => Nat.blt a 46) 500 Y_L_law 98 [(7, 0), (8, 0), (40, 0), (41, 0), (42, 0), (43, 0), (44, 0), (45, 0), (46, 0), (47, 0), (48, 0), (49, 0), (50, 0), (51, 0), (52, 0), (53, 0), (5, 0), (5, 0), (5, 0), (5, 0), (5, 0), (5, 0), (5, 0), (5, 0), (5, 0), (5, 0), (5, 0)] [] LE4
  refine q_aload d_L_law_98 rfl (by decide) ?_
  refine q_iconst d_L_law_100 ?_
  refine q_aload_n d_L_law_101 rfl (by decide) ?_
  refine q_iconst d_L_law_102 ?_
  refine q_lald d_L_law_103 sh_32 (by decide) (by decide) (by decide) (by decide) (by decide) ?_
  rw [show LE4 32 (Int.toNat 0) = 1 from of_decide_eq_true k3]
  refine q_last d_L_law_104 sh_34 (by decide) (by decide) (by decide) (by decide) (by decide) ?_
  show RunQ Γ (fun a => Nat.blt a 46) 500 Y_L_law 105 [(7, 0), (8, 0), (40, 0), (41, 0), (42, 0), (43, 0), (44, 0), (45, 0), (46, 0), (47, 0), (48, 0), (49, 0), (50, 0), (51, 0), (52, 0), (53, 0), (5, 0), (5, 0), (5, 0), (5, 0), (5, 0), (5, 0), (5, 0), (5, 0), (5, 0), (5, 0), (5, 0)] [] LE5
  refine q_aload d_L_law_105 rfl (by decide) ?_
  refine q_iconst d_L_law_107 ?_
  refine q_iconst d_L_law_108 ?_
  refine q_iast d_L_law_109 sh_41 (by decide) (by decide) (by decide) (by decide) (by decide) ?_
  show RunQ Γ (fun a => Nat.blt a 46) 500 Y_L_law 110 [(7, 0), (8, 0), (40, 0), (41, 0), (42, 0), (43, 0), (44, 0), (45, 0), (46, 0), (47, 0), (48, 0), (49, 0), (50, 0), (51, 0), (52, 0), (53, 0), (5, 0), (5, 0), (5, 0), (5, 0), (5, 0), (5, 0), (5, 0), (5, 0), (5, 0), (5, 0), (5, 0)] [] LE6
  refine q_aload d_L_law_110 rfl (by decide) ?_
  refine q_iconst d_L_law_112 ?_
  refine q_iconst d_L_law_113 ?_
  refine q_iast d_L_law_114 sh_41 (by decide) (by decide) (by decide) (by decide) (by decide) ?_
  show RunQ Γ (fun a => Nat.blt a 46) 500 Y_L_law 115 [(7, 0), (8, 0), (40, 0), (41, 0), (42, 0), (43, 0), (44, 0), (45, 0), (46, 0), (47, 0), (48, 0), (49, 0), (50, 0), (51, 0), (52, 0), (53, 0), (5, 0), (5, 0), (5, 0), (5, 0), (5, 0), (5, 0), (5, 0), (5, 0), (5, 0), (5, 0), (5, 0)] [] LE7
  refine q_aload d_L_law_115 rfl (by decide) ?_
  refine q_bipush d_L_law_117 (by decide) ?_
  refine q_iconst d_L_law_119 ?_
  refine q_iast d_L_law_120 sh_41 (by decide) (by decide) (by decide) (by decide) (by decide) ?_
  show RunQ Γ (fun a => Nat.blt a 46) 500 Y_L_law 121 [(7, 0), (8, 0), (40, 0), (41, 0), (42, 0), (43, 0), (44, 0), (45, 0), (46, 0), (47, 0), (48, 0), (49, 0), (50, 0), (51, 0), (52, 0), (53, 0), (5, 0), (5, 0), (5, 0), (5, 0), (5, 0), (5, 0), (5, 0), (5, 0), (5, 0), (5, 0), (5, 0)] [] LE8
  refine q_aload d_L_law_121 rfl (by decide) ?_
  refine q_iconst d_L_law_123 ?_
  refine q_aload_n d_L_law_124 rfl (by decide) ?_
  refine q_aload d_L_law_125 rfl (by decide) ?_
  refine q_callS (as := [(8, 0), (49, 0)]) (rest := [(0, 1), (50, 0)]) (ls' := [(8, 0), (49, 0), (5, 0), (5, 0), (5, 0), (5, 0), (5, 0), (5, 0), (5, 0), (5, 0), (5, 0), (5, 0)]) (κ1 := (0 + 2)) (κ2 := 498) (Ψ := fun o D' => o = .inl (some (1, 244152)) ∧ D' = LE9) d_L_law_127 ck_RL_125 rfl rfl rfl (Nat.le_of_ble_eq_true rfl) (Nat.le_of_ble_eq_true rfl) (by decide) rfl rfl rfl (run_pE_file (κ := 0) (fun a h => h) ⟨.inl 244152, _, ckv_ok k4, Nat.zero_le _, rfl, rfl⟩) (fun v2 D2 hq => ?_) (fun n2 D2 hq => by cases hq.1)
  obtain ⟨e1, rfl⟩ := hq
  cases e1
  show RunQ Γ (fun a => Nat.blt a 46) 498 Y_L_law 130 [(7, 0), (8, 0), (40, 0), (41, 0), (42, 0), (43, 0), (44, 0), (45, 0), (46, 0), (47, 0), (48, 0), (49, 0), (50, 0), (51, 0), (52, 0), (53, 0), (5, 0), (5, 0), (5, 0), (5, 0), (5, 0), (5, 0), (5, 0), (5, 0), (5, 0), (5, 0), (5, 0)] [(1, 244152), (0, 1), (50, 0)] LE9
  refine q_last d_L_law_130 sh_42 (by decide) (by decide) (by decide) (by decide) (by decide) ?_
  show RunQ Γ (fun a => Nat.blt a 46) 498 Y_L_law 131 [(7, 0), (8, 0), (40, 0), (41, 0), (42, 0), (43, 0), (44, 0), (45, 0), (46, 0), (47, 0), (48, 0), (49, 0), (50, 0), (51, 0), (52, 0), (53, 0), (5, 0), (5, 0), (5, 0), (5, 0), (5, 0), (5, 0), (5, 0), (5, 0), (5, 0), (5, 0), (5, 0)] [] LE10
  refine q_aload d_L_law_131 rfl (by decide) ?_
  refine q_bipush d_L_law_133 (by decide) ?_
  refine q_iald d_L_law_135 sh_41 (by decide) (by decide) (by decide) (by decide) (by decide) ?_
  rw [show LE10 41 (Int.toNat 12) = 1 from of_decide_eq_true k5]
  refine q_iconst d_L_law_136 ?_
  refine q_icmp_ne (tgt := 177) d_L_law_137 (by decide) ⟨by decide, by decide⟩ ⟨by decide, by decide⟩ (fun g => absurd g (by decide)) (fun _ => ?_)
  show RunQ Γ (fun a => Nat.blt a 46) 498 Y_L_law 140 [(7, 0), (8, 0), (40, 0), (41, 0), (42, 0), (43, 0), (44, 0), (45, 0), (46, 0), (47, 0), (48, 0), (49, 0), (50, 0), (51, 0), (52, 0), (53, 0), (5, 0), (5, 0), (5, 0), (5, 0), (5, 0), (5, 0), (5, 0), (5, 0), (5, 0), (5, 0), (5, 0)] [] LE10
  refine q_aload_n d_L_law_140 rfl (by decide) ?_
  refine q_aload_n d_L_law_141 rfl (by decide) ?_
  refine q_aload d_L_law_142 rfl (by decide) ?_
  refine q_aload d_L_law_144 rfl (by decide) ?_
  refine q_aload d_L_law_146 rfl (by decide) ?_
  refine q_aload d_L_law_148 rfl (by decide) ?_
  refine q_callS (as := [(8, 0), (40, 0), (43, 0), (46, 0), (49, 0), (51, 0)]) (rest := []) (ls' := [(8, 0), (40, 0), (43, 0), (46, 0), (49, 0), (51, 0), (5, 0), (5, 0), (5, 0), (5, 0), (5, 0), (5, 0), (5, 0), (5, 0), (5, 0), (5, 0), (5, 0)]) (κ1 := (0 + 196)) (κ2 := 302) (Ψ := fun o D' => o = .inl (some (0, 1)) ∧ D' = LE11) d_L_law_150 ck_RL_182 rfl rfl rfl (Nat.le_of_ble_eq_true rfl) (Nat.le_of_ble_eq_true rfl) (by decide) rfl rfl rfl (run_pE_isTree (κ := 0) (fun a h => h) ⟨.inl 1, _, ckv_ok k6, Nat.zero_le _, rfl, rfl⟩) (fun v2 D2 hq => ?_) (fun n2 D2 hq => by cases hq.1)
  obtain ⟨e1, rfl⟩ := hq
  cases e1
  show RunQ Γ (fun a => Nat.blt a 46) 302 Y_L_law 153 [(7, 0), (8, 0), (40, 0), (41, 0), (42, 0), (43, 0), (44, 0), (45, 0), (46, 0), (47, 0), (48, 0), (49, 0), (50, 0), (51, 0), (52, 0), (53, 0), (5, 0), (5, 0), (5, 0), (5, 0), (5, 0), (5, 0), (5, 0), (5, 0), (5, 0), (5, 0), (5, 0)] [(0, 1)] LE11
  refine q_if_eq (tgt := 177) d_L_law_153 (by decide) ⟨by decide, by decide⟩ (fun g => absurd g (by decide)) (fun _ => ?_)
  show RunQ Γ (fun a => Nat.blt a 46) 302 Y_L_law 156 [(7, 0), (8, 0), (40, 0), (41, 0), (42, 0), (43, 0), (44, 0), (45, 0), (46, 0), (47, 0), (48, 0), (49, 0), (50, 0), (51, 0), (52, 0), (53, 0), (5, 0), (5, 0), (5, 0), (5, 0), (5, 0), (5, 0), (5, 0), (5, 0), (5, 0), (5, 0), (5, 0)] [] LE11
  refine q_aload_n d_L_law_156 rfl (by decide) ?_
  refine q_callV (a := 0) (z := 0) (as := []) (rest := []) (ls' := [(8, 0)]) (κ1 := 0) (κ2 := 302) (Ψ := fun o D' => o = .inl (some (1, 0)) ∧ D' = LE11) d_L_law_157 ck_RL_145 rfl sh_0 rfl (by decide) (by decide) rfl rfl (Nat.le_of_ble_eq_true rfl) (Nat.le_of_ble_eq_true rfl) (by decide) rfl rfl rfl (run_pH_dirty (cov20 (fun a h => h)) (show 0 = (pH_dirty LE11) from (of_decide_eq_true k7).symm) ⟨rfl, rfl⟩) (fun v2 D2 hq => ?_) (fun n2 D2 hq => by cases hq.1)
  obtain ⟨e1, rfl⟩ := hq
  cases e1
  show RunQ Γ (fun a => Nat.blt a 46) 302 Y_L_law 160 [(7, 0), (8, 0), (40, 0), (41, 0), (42, 0), (43, 0), (44, 0), (45, 0), (46, 0), (47, 0), (48, 0), (49, 0), (50, 0), (51, 0), (52, 0), (53, 0), (5, 0), (5, 0), (5, 0), (5, 0), (5, 0), (5, 0), (5, 0), (5, 0), (5, 0), (5, 0), (5, 0)] [(1, 0)] LE11
  refine q_lconst (n := 0) d_L_law_160 ?_
  show RunQ _ _ _ _ _ _ ((1, 0) :: [(1, 0)]) _
  refine q_lcmp d_L_law_161 ⟨by decide, by decide⟩ ⟨by decide, by decide⟩ ?_
  show RunQ Γ (fun a => Nat.blt a 46) 302 Y_L_law 162 [(7, 0), (8, 0), (40, 0), (41, 0), (42, 0), (43, 0), (44, 0), (45, 0), (46, 0), (47, 0), (48, 0), (49, 0), (50, 0), (51, 0), (52, 0), (53, 0), (5, 0), (5, 0), (5, 0), (5, 0), (5, 0), (5, 0), (5, 0), (5, 0), (5, 0), (5, 0), (5, 0)] [(0, 0)] LE11
  refine q_if_ne (tgt := 177) d_L_law_162 (by decide) ⟨by decide, by decide⟩ (fun g => absurd g (by decide)) (fun _ => ?_)
  show RunQ Γ (fun a => Nat.blt a 46) 302 Y_L_law 165 [(7, 0), (8, 0), (40, 0), (41, 0), (42, 0), (43, 0), (44, 0), (45, 0), (46, 0), (47, 0), (48, 0), (49, 0), (50, 0), (51, 0), (52, 0), (53, 0), (5, 0), (5, 0), (5, 0), (5, 0), (5, 0), (5, 0), (5, 0), (5, 0), (5, 0), (5, 0), (5, 0)] [] LE11
  refine q_aload_n d_L_law_165 rfl (by decide) ?_
  refine q_callV (a := 0) (z := 0) (as := []) (rest := []) (ls' := [(8, 0), (5, 0)]) (κ1 := 0) (κ2 := 302) (Ψ := fun o D' => o = .inl (some (0, (-1))) ∧ D' = LE12) d_L_law_166 ck_RL_186 rfl sh_0 rfl (by decide) (by decide) rfl rfl (Nat.le_of_ble_eq_true rfl) (Nat.le_of_ble_eq_true rfl) (by decide) rfl rfl rfl (run_pH_takeNotice (cov20 (fun a h => h)) ⟨.inl (-1), _, ckv_ok k8, Nat.zero_le _, rfl, rfl⟩) (fun v2 D2 hq => ?_) (fun n2 D2 hq => by cases hq.1)
  obtain ⟨e1, rfl⟩ := hq
  cases e1
  show RunQ Γ (fun a => Nat.blt a 46) 302 Y_L_law 169 [(7, 0), (8, 0), (40, 0), (41, 0), (42, 0), (43, 0), (44, 0), (45, 0), (46, 0), (47, 0), (48, 0), (49, 0), (50, 0), (51, 0), (52, 0), (53, 0), (5, 0), (5, 0), (5, 0), (5, 0), (5, 0), (5, 0), (5, 0), (5, 0), (5, 0), (5, 0), (5, 0)] [(0, (-1))] LE12
  refine q_iconst d_L_law_169 ?_
  refine q_icmp_ne (tgt := 177) d_L_law_170 (by decide) ⟨by decide, by decide⟩ ⟨by decide, by decide⟩ (fun g => absurd g (by decide)) (fun _ => ?_)
  show RunQ Γ (fun a => Nat.blt a 46) 302 Y_L_law 173 [(7, 0), (8, 0), (40, 0), (41, 0), (42, 0), (43, 0), (44, 0), (45, 0), (46, 0), (47, 0), (48, 0), (49, 0), (50, 0), (51, 0), (52, 0), (53, 0), (5, 0), (5, 0), (5, 0), (5, 0), (5, 0), (5, 0), (5, 0), (5, 0), (5, 0), (5, 0), (5, 0)] [] LE12
  refine q_iconst d_L_law_173 ?_
  refine q_goto (tgt := 178) d_L_law_174 (by decide) ?_
  refine q_istore d_L_law_178 (by decide) rfl ?_
  show RunQ Γ (fun a => Nat.blt a 46) 302 Y_L_law 180 [(7, 0), (8, 0), (40, 0), (41, 0), (42, 0), (43, 0), (44, 0), (45, 0), (46, 0), (47, 0), (48, 0), (49, 0), (50, 0), (51, 0), (52, 0), (53, 0), (0, 1), (5, 0), (5, 0), (5, 0), (5, 0), (5, 0), (5, 0), (5, 0), (5, 0), (5, 0), (5, 0)] [] LE12
  refine q_iconst d_L_law_180 ?_
  refine q_istore d_L_law_181 (by decide) rfl ?_
  show RunQ Γ (fun a => Nat.blt a 46) 302 Y_L_law 183 [(7, 0), (8, 0), (40, 0), (41, 0), (42, 0), (43, 0), (44, 0), (45, 0), (46, 0), (47, 0), (48, 0), (49, 0), (50, 0), (51, 0), (52, 0), (53, 0), (0, 1), (0, 0), (5, 0), (5, 0), (5, 0), (5, 0), (5, 0), (5, 0), (5, 0), (5, 0), (5, 0)] [] LE12
  refine q_iload d_L_law_183 rfl ?_
  refine q_bipush d_L_law_185 (by decide) ?_
  refine q_icmp_ge (tgt := 1496) d_L_law_187 (by decide) ⟨by decide, by decide⟩ ⟨by decide, by decide⟩ (fun g => absurd g (by decide)) (fun _ => ?_)
  show RunQ Γ (fun a => Nat.blt a 46) 302 Y_L_law 190 [(7, 0), (8, 0), (40, 0), (41, 0), (42, 0), (43, 0), (44, 0), (45, 0), (46, 0), (47, 0), (48, 0), (49, 0), (50, 0), (51, 0), (52, 0), (53, 0), (0, 1), (0, 0), (5, 0), (5, 0), (5, 0), (5, 0), (5, 0), (5, 0), (5, 0), (5, 0), (5, 0)] [] LE12
  refine q_iload d_L_law_190 rfl ?_
  refine q_if_eq (tgt := 1496) d_L_law_192 (by decide) ⟨by decide, by decide⟩ (fun g => absurd g (by decide)) (fun _ => ?_)
  show RunQ Γ (fun a => Nat.blt a 46) 302 Y_L_law 195 [(7, 0), (8, 0), (40, 0), (41, 0), (42, 0), (43, 0), (44, 0), (45, 0), (46, 0), (47, 0), (48, 0), (49, 0), (50, 0), (51, 0), (52, 0), (53, 0), (0, 1), (0, 0), (5, 0), (5, 0), (5, 0), (5, 0), (5, 0), (5, 0), (5, 0), (5, 0), (5, 0)] [] LE12
  refine q_aload_n d_L_law_195 rfl (by decide) ?_
  refine q_iconst d_L_law_196 ?_
  refine q_iload d_L_law_197 rfl ?_
  refine q_imul d_L_law_199 ?_
  show RunQ Γ (fun a => Nat.blt a 46) 302 Y_L_law 200 [(7, 0), (8, 0), (40, 0), (41, 0), (42, 0), (43, 0), (44, 0), (45, 0), (46, 0), (47, 0), (48, 0), (49, 0), (50, 0), (51, 0), (52, 0), (53, 0), (0, 1), (0, 0), (5, 0), (5, 0), (5, 0), (5, 0), (5, 0), (5, 0), (5, 0), (5, 0), (5, 0)] [(0, 0), (7, 0)] LE12
  refine q_bipush d_L_law_200 (by decide) ?_
  refine q_callS (as := [(7, 0), (0, 0), (0, 40)]) (rest := []) (ls' := [(7, 0), (0, 0), (0, 40), (5, 0)]) (κ1 := 0) (κ2 := 302) (Ψ := fun o D' => o = .inl (some (0, 30)) ∧ D' = LE13) d_L_law_202 ck_RL_189 rfl rfl rfl (Nat.le_of_ble_eq_true rfl) (Nat.le_of_ble_eq_true rfl) (by decide) rfl rfl rfl (run_pE_part (fun a h => h) (by rw [hL]; decide) _ _ (by rw [hX, hL]; exact ⟨.inl 30, _, ckv_ok k9, Nat.zero_le _, rfl, rfl⟩)) (fun v2 D2 hq => ?_) (fun n2 D2 hq => by cases hq.1)
  obtain ⟨e1, rfl⟩ := hq
  cases e1
  show RunQ Γ (fun a => Nat.blt a 46) 302 Y_L_law 205 [(7, 0), (8, 0), (40, 0), (41, 0), (42, 0), (43, 0), (44, 0), (45, 0), (46, 0), (47, 0), (48, 0), (49, 0), (50, 0), (51, 0), (52, 0), (53, 0), (0, 1), (0, 0), (5, 0), (5, 0), (5, 0), (5, 0), (5, 0), (5, 0), (5, 0), (5, 0), (5, 0)] [(0, 30)] LE13
  refine q_istore d_L_law_205 (by decide) rfl ?_
  show RunQ Γ (fun a => Nat.blt a 46) 302 Y_L_law 207 [(7, 0), (8, 0), (40, 0), (41, 0), (42, 0), (43, 0), (44, 0), (45, 0), (46, 0), (47, 0), (48, 0), (49, 0), (50, 0), (51, 0), (52, 0), (53, 0), (0, 1), (0, 0), (0, 30), (5, 0), (5, 0), (5, 0), (5, 0), (5, 0), (5, 0), (5, 0), (5, 0)] [] LE13
  refine q_aload_n d_L_law_207 rfl (by decide) ?_
  refine q_iconst d_L_law_208 ?_
  refine q_iload d_L_law_209 rfl ?_
  refine q_imul d_L_law_211 ?_
  show RunQ Γ (fun a => Nat.blt a 46) 302 Y_L_law 212 [(7, 0), (8, 0), (40, 0), (41, 0), (42, 0), (43, 0), (44, 0), (45, 0), (46, 0), (47, 0), (48, 0), (49, 0), (50, 0), (51, 0), (52, 0), (53, 0), (0, 1), (0, 0), (0, 30), (5, 0), (5, 0), (5, 0), (5, 0), (5, 0), (5, 0), (5, 0), (5, 0)] [(0, 0), (7, 0)] LE13
  refine q_iconst d_L_law_212 ?_
  refine q_iadd d_L_law_213 ?_
  show RunQ Γ (fun a => Nat.blt a 46) 302 Y_L_law 214 [(7, 0), (8, 0), (40, 0), (41, 0), (42, 0), (43, 0), (44, 0), (45, 0), (46, 0), (47, 0), (48, 0), (49, 0), (50, 0), (51, 0), (52, 0), (53, 0), (0, 1), (0, 0), (0, 30), (5, 0), (5, 0), (5, 0), (5, 0), (5, 0), (5, 0), (5, 0), (5, 0)] [(0, 1), (7, 0)] LE13
  refine q_sipush d_L_law_214 (by decide) ?_
  refine q_callS (as := [(7, 0), (0, 1), (0, 6000)]) (rest := []) (ls' := [(7, 0), (0, 1), (0, 6000), (5, 0)]) (κ1 := 0) (κ2 := 302) (Ψ := fun o D' => o = .inl (some (0, 0)) ∧ D' = LE14) d_L_law_217 ck_RL_189 rfl rfl rfl (Nat.le_of_ble_eq_true rfl) (Nat.le_of_ble_eq_true rfl) (by decide) rfl rfl rfl (run_pE_part (fun a h => h) (by rw [hL]; decide) _ _ (by rw [hX, hL]; exact ⟨.inl 0, _, ckv_ok k10, Nat.zero_le _, rfl, rfl⟩)) (fun v2 D2 hq => ?_) (fun n2 D2 hq => by cases hq.1)
  obtain ⟨e1, rfl⟩ := hq
  cases e1
  show RunQ Γ (fun a => Nat.blt a 46) 302 Y_L_law 220 [(7, 0), (8, 0), (40, 0), (41, 0), (42, 0), (43, 0), (44, 0), (45, 0), (46, 0), (47, 0), (48, 0), (49, 0), (50, 0), (51, 0), (52, 0), (53, 0), (0, 1), (0, 0), (0, 30), (5, 0), (5, 0), (5, 0), (5, 0), (5, 0), (5, 0), (5, 0), (5, 0)] [(0, 0)] LE14
  refine q_istore d_L_law_220 (by decide) rfl ?_
  show RunQ Γ (fun a => Nat.blt a 46) 302 Y_L_law 222 [(7, 0), (8, 0), (40, 0), (41, 0), (42, 0), (43, 0), (44, 0), (45, 0), (46, 0), (47, 0), (48, 0), (49, 0), (50, 0), (51, 0), (52, 0), (53, 0), (0, 1), (0, 0), (0, 30), (0, 0), (5, 0), (5, 0), (5, 0), (5, 0), (5, 0), (5, 0), (5, 0)] [] LE14
  refine q_aload_n d_L_law_222 rfl (by decide) ?_
  refine q_iconst d_L_law_223 ?_
  refine q_iload d_L_law_224 rfl ?_
  refine q_imul d_L_law_226 ?_
  show RunQ Γ (fun a => Nat.blt a 46) 302 Y_L_law 227 [(7, 0), (8, 0), (40, 0), (41, 0), (42, 0), (43, 0), (44, 0), (45, 0), (46, 0), (47, 0), (48, 0), (49, 0), (50, 0), (51, 0), (52, 0), (53, 0), (0, 1), (0, 0), (0, 30), (0, 0), (5, 0), (5, 0), (5, 0), (5, 0), (5, 0), (5, 0), (5, 0)] [(0, 0), (7, 0)] LE14
  refine q_iconst d_L_law_227 ?_
  refine q_iadd d_L_law_228 ?_
  show RunQ Γ (fun a => Nat.blt a 46) 302 Y_L_law 229 [(7, 0), (8, 0), (40, 0), (41, 0), (42, 0), (43, 0), (44, 0), (45, 0), (46, 0), (47, 0), (48, 0), (49, 0), (50, 0), (51, 0), (52, 0), (53, 0), (0, 1), (0, 0), (0, 30), (0, 0), (5, 0), (5, 0), (5, 0), (5, 0), (5, 0), (5, 0), (5, 0)] [(0, 2), (7, 0)] LE14
  refine q_sipush d_L_law_229 (by decide) ?_
  refine q_callS (as := [(7, 0), (0, 2), (0, 7000)]) (rest := []) (ls' := [(7, 0), (0, 2), (0, 7000), (5, 0)]) (κ1 := 0) (κ2 := 302) (Ψ := fun o D' => o = .inl (some (0, 0)) ∧ D' = LE15) d_L_law_232 ck_RL_189 rfl rfl rfl (Nat.le_of_ble_eq_true rfl) (Nat.le_of_ble_eq_true rfl) (by decide) rfl rfl rfl (run_pE_part (fun a h => h) (by rw [hL]; decide) _ _ (by rw [hX, hL]; exact ⟨.inl 0, _, ckv_ok k11, Nat.zero_le _, rfl, rfl⟩)) (fun v2 D2 hq => ?_) (fun n2 D2 hq => by cases hq.1)
  obtain ⟨e1, rfl⟩ := hq
  cases e1
  show RunQ Γ (fun a => Nat.blt a 46) 302 Y_L_law 235 [(7, 0), (8, 0), (40, 0), (41, 0), (42, 0), (43, 0), (44, 0), (45, 0), (46, 0), (47, 0), (48, 0), (49, 0), (50, 0), (51, 0), (52, 0), (53, 0), (0, 1), (0, 0), (0, 30), (0, 0), (5, 0), (5, 0), (5, 0), (5, 0), (5, 0), (5, 0), (5, 0)] [(0, 0)] LE15
  refine q_istore d_L_law_235 (by decide) rfl ?_
  show RunQ Γ (fun a => Nat.blt a 46) 302 Y_L_law 237 [(7, 0), (8, 0), (40, 0), (41, 0), (42, 0), (43, 0), (44, 0), (45, 0), (46, 0), (47, 0), (48, 0), (49, 0), (50, 0), (51, 0), (52, 0), (53, 0), (0, 1), (0, 0), (0, 30), (0, 0), (0, 0), (5, 0), (5, 0), (5, 0), (5, 0), (5, 0), (5, 0)] [] LE15
  refine q_aload_n d_L_law_237 rfl (by decide) ?_
  refine q_iconst d_L_law_238 ?_
  refine q_iload d_L_law_239 rfl ?_
  refine q_imul d_L_law_241 ?_
  show RunQ Γ (fun a => Nat.blt a 46) 302 Y_L_law 242 [(7, 0), (8, 0), (40, 0), (41, 0), (42, 0), (43, 0), (44, 0), (45, 0), (46, 0), (47, 0), (48, 0), (49, 0), (50, 0), (51, 0), (52, 0), (53, 0), (0, 1), (0, 0), (0, 30), (0, 0), (0, 0), (5, 0), (5, 0), (5, 0), (5, 0), (5, 0), (5, 0)] [(0, 0), (7, 0)] LE15
  refine q_iconst d_L_law_242 ?_
  refine q_iadd d_L_law_243 ?_
  show RunQ Γ (fun a => Nat.blt a 46) 302 Y_L_law 244 [(7, 0), (8, 0), (40, 0), (41, 0), (42, 0), (43, 0), (44, 0), (45, 0), (46, 0), (47, 0), (48, 0), (49, 0), (50, 0), (51, 0), (52, 0), (53, 0), (0, 1), (0, 0), (0, 30), (0, 0), (0, 0), (5, 0), (5, 0), (5, 0), (5, 0), (5, 0), (5, 0)] [(0, 3), (7, 0)] LE15
  refine q_sipush d_L_law_244 (by decide) ?_
  refine q_callS (as := [(7, 0), (0, 3), (0, 8000)]) (rest := []) (ls' := [(7, 0), (0, 3), (0, 8000), (5, 0)]) (κ1 := 0) (κ2 := 302) (Ψ := fun o D' => o = .inl (some (0, 0)) ∧ D' = LE16) d_L_law_247 ck_RL_189 rfl rfl rfl (Nat.le_of_ble_eq_true rfl) (Nat.le_of_ble_eq_true rfl) (by decide) rfl rfl rfl (run_pE_part (fun a h => h) (by rw [hL]; decide) _ _ (by rw [hX, hL]; exact ⟨.inl 0, _, ckv_ok k12, Nat.zero_le _, rfl, rfl⟩)) (fun v2 D2 hq => ?_) (fun n2 D2 hq => by cases hq.1)
  obtain ⟨e1, rfl⟩ := hq
  cases e1
  show RunQ Γ (fun a => Nat.blt a 46) 302 Y_L_law 250 [(7, 0), (8, 0), (40, 0), (41, 0), (42, 0), (43, 0), (44, 0), (45, 0), (46, 0), (47, 0), (48, 0), (49, 0), (50, 0), (51, 0), (52, 0), (53, 0), (0, 1), (0, 0), (0, 30), (0, 0), (0, 0), (5, 0), (5, 0), (5, 0), (5, 0), (5, 0), (5, 0)] [(0, 0)] LE16
  refine q_istore d_L_law_250 (by decide) rfl ?_
  show RunQ Γ (fun a => Nat.blt a 46) 302 Y_L_law 252 [(7, 0), (8, 0), (40, 0), (41, 0), (42, 0), (43, 0), (44, 0), (45, 0), (46, 0), (47, 0), (48, 0), (49, 0), (50, 0), (51, 0), (52, 0), (53, 0), (0, 1), (0, 0), (0, 30), (0, 0), (0, 0), (0, 0), (5, 0), (5, 0), (5, 0), (5, 0), (5, 0)] [] LE16
  refine q_iload d_L_law_252 rfl ?_
  refine q_bipush d_L_law_254 (by decide) ?_
  refine q_irem d_L_law_256 ⟨by decide, by decide⟩ ⟨by decide, by decide⟩ (by decide) ?_
  show RunQ Γ (fun a => Nat.blt a 46) 302 Y_L_law 257 [(7, 0), (8, 0), (40, 0), (41, 0), (42, 0), (43, 0), (44, 0), (45, 0), (46, 0), (47, 0), (48, 0), (49, 0), (50, 0), (51, 0), (52, 0), (53, 0), (0, 1), (0, 0), (0, 30), (0, 0), (0, 0), (0, 0), (5, 0), (5, 0), (5, 0), (5, 0), (5, 0)] [(0, 0)] LE16
  refine q_if_ne (tgt := 265) d_L_law_257 (by decide) ⟨by decide, by decide⟩ (fun g => absurd g (by decide)) (fun _ => ?_)
  show RunQ Γ (fun a => Nat.blt a 46) 302 Y_L_law 260 [(7, 0), (8, 0), (40, 0), (41, 0), (42, 0), (43, 0), (44, 0), (45, 0), (46, 0), (47, 0), (48, 0), (49, 0), (50, 0), (51, 0), (52, 0), (53, 0), (0, 1), (0, 0), (0, 30), (0, 0), (0, 0), (0, 0), (5, 0), (5, 0), (5, 0), (5, 0), (5, 0)] [] LE16
  refine q_bipush d_L_law_260 (by decide) ?_
  refine q_goto (tgt := 284) d_L_law_262 (by decide) ?_
  refine q_istore d_L_law_284 (by decide) rfl ?_
  show RunQ Γ (fun a => Nat.blt a 46) 302 Y_L_law 286 [(7, 0), (8, 0), (40, 0), (41, 0), (42, 0), (43, 0), (44, 0), (45, 0), (46, 0), (47, 0), (48, 0), (49, 0), (50, 0), (51, 0), (52, 0), (53, 0), (0, 1), (0, 0), (0, 30), (0, 0), (0, 0), (0, 0), (0, 60), (5, 0), (5, 0), (5, 0), (5, 0)] [] LE16
  refine q_iload d_L_law_286 rfl ?_
  refine q_bipush d_L_law_288 (by decide) ?_
  refine q_irem d_L_law_290 ⟨by decide, by decide⟩ ⟨by decide, by decide⟩ (by decide) ?_
  show RunQ Γ (fun a => Nat.blt a 46) 302 Y_L_law 291 [(7, 0), (8, 0), (40, 0), (41, 0), (42, 0), (43, 0), (44, 0), (45, 0), (46, 0), (47, 0), (48, 0), (49, 0), (50, 0), (51, 0), (52, 0), (53, 0), (0, 1), (0, 0), (0, 30), (0, 0), (0, 0), (0, 0), (0, 60), (5, 0), (5, 0), (5, 0), (5, 0)] [(0, 0)] LE16
  refine q_if_ne (tgt := 300) d_L_law_291 (by decide) ⟨by decide, by decide⟩ (fun g => absurd g (by decide)) (fun _ => ?_)
  show RunQ Γ (fun a => Nat.blt a 46) 302 Y_L_law 294 [(7, 0), (8, 0), (40, 0), (41, 0), (42, 0), (43, 0), (44, 0), (45, 0), (46, 0), (47, 0), (48, 0), (49, 0), (50, 0), (51, 0), (52, 0), (53, 0), (0, 1), (0, 0), (0, 30), (0, 0), (0, 0), (0, 0), (0, 60), (5, 0), (5, 0), (5, 0), (5, 0)] [] LE16
  refine q_sipush d_L_law_294 (by decide) ?_
  refine q_goto (tgt := 305) d_L_law_297 (by decide) ?_
  refine q_istore d_L_law_305 (by decide) rfl ?_
  show RunQ Γ (fun a => Nat.blt a 46) 302 Y_L_law 307 [(7, 0), (8, 0), (40, 0), (41, 0), (42, 0), (43, 0), (44, 0), (45, 0), (46, 0), (47, 0), (48, 0), (49, 0), (50, 0), (51, 0), (52, 0), (53, 0), (0, 1), (0, 0), (0, 30), (0, 0), (0, 0), (0, 0), (0, 60), (0, 10000), (5, 0), (5, 0), (5, 0)] [] LE16
  refine q_iload d_L_law_307 rfl ?_
  refine q_bipush d_L_law_309 (by decide) ?_
  refine q_icmp_ge (tgt := 350) d_L_law_311 (by decide) ⟨by decide, by decide⟩ ⟨by decide, by decide⟩ (fun _ => ?_) (fun g => absurd g (by decide))
  show RunQ Γ (fun a => Nat.blt a 46) 302 Y_L_law 350 [(7, 0), (8, 0), (40, 0), (41, 0), (42, 0), (43, 0), (44, 0), (45, 0), (46, 0), (47, 0), (48, 0), (49, 0), (50, 0), (51, 0), (52, 0), (53, 0), (0, 1), (0, 0), (0, 30), (0, 0), (0, 0), (0, 0), (0, 60), (0, 10000), (5, 0), (5, 0), (5, 0)] [] LE16
  refine q_iload d_L_law_350 rfl ?_
  refine q_bipush d_L_law_352 (by decide) ?_
  refine q_icmp_ge (tgt := 377) d_L_law_354 (by decide) ⟨by decide, by decide⟩ ⟨by decide, by decide⟩ (fun _ => ?_) (fun g => absurd g (by decide))
  show RunQ Γ (fun a => Nat.blt a 46) 302 Y_L_law 377 [(7, 0), (8, 0), (40, 0), (41, 0), (42, 0), (43, 0), (44, 0), (45, 0), (46, 0), (47, 0), (48, 0), (49, 0), (50, 0), (51, 0), (52, 0), (53, 0), (0, 1), (0, 0), (0, 30), (0, 0), (0, 0), (0, 0), (0, 60), (0, 10000), (5, 0), (5, 0), (5, 0)] [] LE16
  refine q_iload d_L_law_377 rfl ?_
  refine q_bipush d_L_law_379 (by decide) ?_
  refine q_icmp_ge (tgt := 408) d_L_law_381 (by decide) ⟨by decide, by decide⟩ ⟨by decide, by decide⟩ (fun _ => ?_) (fun g => absurd g (by decide))
  show RunQ Γ (fun a => Nat.blt a 46) 302 Y_L_law 408 [(7, 0), (8, 0), (40, 0), (41, 0), (42, 0), (43, 0), (44, 0), (45, 0), (46, 0), (47, 0), (48, 0), (49, 0), (50, 0), (51, 0), (52, 0), (53, 0), (0, 1), (0, 0), (0, 30), (0, 0), (0, 0), (0, 0), (0, 60), (0, 10000), (5, 0), (5, 0), (5, 0)] [] LE16
  refine q_iload d_L_law_408 rfl ?_
  refine q_bipush d_L_law_410 (by decide) ?_
  refine q_icmp_ge (tgt := 568) d_L_law_412 (by decide) ⟨by decide, by decide⟩ ⟨by decide, by decide⟩ (fun _ => ?_) (fun g => absurd g (by decide))
  show RunQ Γ (fun a => Nat.blt a 46) 302 Y_L_law 568 [(7, 0), (8, 0), (40, 0), (41, 0), (42, 0), (43, 0), (44, 0), (45, 0), (46, 0), (47, 0), (48, 0), (49, 0), (50, 0), (51, 0), (52, 0), (53, 0), (0, 1), (0, 0), (0, 30), (0, 0), (0, 0), (0, 0), (0, 60), (0, 10000), (5, 0), (5, 0), (5, 0)] [] LE16
  refine q_iload d_L_law_568 rfl ?_
  refine q_bipush d_L_law_570 (by decide) ?_
  refine q_icmp_ge (tgt := 611) d_L_law_572 (by decide) ⟨by decide, by decide⟩ ⟨by decide, by decide⟩ (fun _ => ?_) (fun g => absurd g (by decide))
  show RunQ Γ (fun a => Nat.blt a 46) 302 Y_L_law 611 [(7, 0), (8, 0), (40, 0), (41, 0), (42, 0), (43, 0), (44, 0), (45, 0), (46, 0), (47, 0), (48, 0), (49, 0), (50, 0), (51, 0), (52, 0), (53, 0), (0, 1), (0, 0), (0, 30), (0, 0), (0, 0), (0, 0), (0, 60), (0, 10000), (5, 0), (5, 0), (5, 0)] [] LE16
  refine q_iload d_L_law_611 rfl ?_
  refine q_bipush d_L_law_613 (by decide) ?_
  refine q_icmp_ge (tgt := 738) d_L_law_615 (by decide) ⟨by decide, by decide⟩ ⟨by decide, by decide⟩ (fun _ => ?_) (fun g => absurd g (by decide))
  show RunQ Γ (fun a => Nat.blt a 46) 302 Y_L_law 738 [(7, 0), (8, 0), (40, 0), (41, 0), (42, 0), (43, 0), (44, 0), (45, 0), (46, 0), (47, 0), (48, 0), (49, 0), (50, 0), (51, 0), (52, 0), (53, 0), (0, 1), (0, 0), (0, 30), (0, 0), (0, 0), (0, 0), (0, 60), (0, 10000), (5, 0), (5, 0), (5, 0)] [] LE16
  refine q_iload d_L_law_738 rfl ?_
  refine q_bipush d_L_law_740 (by decide) ?_
  refine q_icmp_ge (tgt := 836) d_L_law_742 (by decide) ⟨by decide, by decide⟩ ⟨by decide, by decide⟩ (fun g => absurd g (by decide)) (fun _ => ?_)
  show RunQ Γ (fun a => Nat.blt a 46) 302 Y_L_law 745 [(7, 0), (8, 0), (40, 0), (41, 0), (42, 0), (43, 0), (44, 0), (45, 0), (46, 0), (47, 0), (48, 0), (49, 0), (50, 0), (51, 0), (52, 0), (53, 0), (0, 1), (0, 0), (0, 30), (0, 0), (0, 0), (0, 0), (0, 60), (0, 10000), (5, 0), (5, 0), (5, 0)] [] LE16
  refine q_aload d_L_law_745 rfl (by decide) ?_
  refine q_bipush d_L_law_747 (by decide) ?_
  refine q_iald d_L_law_749 sh_41 (by decide) (by decide) (by decide) (by decide) (by decide) ?_
  rw [show LE16 41 (Int.toNat 9) = 0 from of_decide_eq_true k13]
  refine q_if_ne (tgt := 757) d_L_law_750 (by decide) ⟨by decide, by decide⟩ (fun g => absurd g (by decide)) (fun _ => ?_)
  show RunQ Γ (fun a => Nat.blt a 46) 302 Y_L_law 753 [(7, 0), (8, 0), (40, 0), (41, 0), (42, 0), (43, 0), (44, 0), (45, 0), (46, 0), (47, 0), (48, 0), (49, 0), (50, 0), (51, 0), (52, 0), (53, 0), (0, 1), (0, 0), (0, 30), (0, 0), (0, 0), (0, 0), (0, 60), (0, 10000), (5, 0), (5, 0), (5, 0)] [] LE16
  refine q_iconst d_L_law_753 ?_
  refine q_goto (tgt := 761) d_L_law_754 (by decide) ?_
  refine q_istore d_L_law_761 (by decide) rfl ?_
  show RunQ Γ (fun a => Nat.blt a 46) 302 Y_L_law 763 [(7, 0), (8, 0), (40, 0), (41, 0), (42, 0), (43, 0), (44, 0), (45, 0), (46, 0), (47, 0), (48, 0), (49, 0), (50, 0), (51, 0), (52, 0), (53, 0), (0, 1), (0, 0), (0, 30), (0, 0), (0, 0), (0, 0), (0, 60), (0, 10000), (0, (-1)), (5, 0), (5, 0)] [] LE16
  refine q_iconst d_L_law_763 ?_
  refine q_istore d_L_law_764 (by decide) rfl ?_
  show RunQ Γ (fun a => Nat.blt a 46) 302 Y_L_law 766 [(7, 0), (8, 0), (40, 0), (41, 0), (42, 0), (43, 0), (44, 0), (45, 0), (46, 0), (47, 0), (48, 0), (49, 0), (50, 0), (51, 0), (52, 0), (53, 0), (0, 1), (0, 0), (0, 30), (0, 0), (0, 0), (0, 0), (0, 60), (0, 10000), (0, (-1)), (0, 0), (5, 0)] [] LE16
  refine q_iload d_L_law_766 rfl ?_
  refine q_aload d_L_law_768 rfl (by decide) ?_
  refine q_bipush d_L_law_770 (by decide) ?_
  refine q_iald d_L_law_772 sh_41 (by decide) (by decide) (by decide) (by decide) (by decide) ?_
  rw [show LE16 41 (Int.toNat 9) = 0 from of_decide_eq_true k14]
  refine q_iconst d_L_law_773 ?_
  refine q_isub d_L_law_774 ?_
  show RunQ Γ (fun a => Nat.blt a 46) 302 Y_L_law 775 [(7, 0), (8, 0), (40, 0), (41, 0), (42, 0), (43, 0), (44, 0), (45, 0), (46, 0), (47, 0), (48, 0), (49, 0), (50, 0), (51, 0), (52, 0), (53, 0), (0, 1), (0, 0), (0, 30), (0, 0), (0, 0), (0, 0), (0, 60), (0, 10000), (0, (-1)), (0, 0), (5, 0)] [(0, (-1)), (0, 0)] LE16
  refine q_icmp_ge (tgt := 796) d_L_law_775 (by decide) ⟨by decide, by decide⟩ ⟨by decide, by decide⟩ (fun _ => ?_) (fun g => absurd g (by decide))
  show RunQ Γ (fun a => Nat.blt a 46) 302 Y_L_law 796 [(7, 0), (8, 0), (40, 0), (41, 0), (42, 0), (43, 0), (44, 0), (45, 0), (46, 0), (47, 0), (48, 0), (49, 0), (50, 0), (51, 0), (52, 0), (53, 0), (0, 1), (0, 0), (0, 30), (0, 0), (0, 0), (0, 0), (0, 60), (0, 10000), (0, (-1)), (0, 0), (5, 0)] [] LE16
  refine q_aload d_L_law_796 rfl (by decide) ?_
  refine q_bipush d_L_law_798 (by decide) ?_
  refine q_dup2 d_L_law_800 (by decide) (by decide) ?_
  refine q_iald d_L_law_801 sh_41 (by decide) (by decide) (by decide) (by decide) (by decide) ?_
  rw [show LE16 41 (Int.toNat 9) = 0 from of_decide_eq_true k15]
  refine q_aload d_L_law_802 rfl (by decide) ?_
  refine q_bipush d_L_law_804 (by decide) ?_
  refine q_iald d_L_law_806 sh_41 (by decide) (by decide) (by decide) (by decide) (by decide) ?_
  rw [show LE16 41 (Int.toNat 9) = 0 from of_decide_eq_true k16]
  refine q_if_ne (tgt := 814) d_L_law_807 (by decide) ⟨by decide, by decide⟩ (fun g => absurd g (by decide)) (fun _ => ?_)
  show RunQ Γ (fun a => Nat.blt a 46) 302 Y_L_law 810 [(7, 0), (8, 0), (40, 0), (41, 0), (42, 0), (43, 0), (44, 0), (45, 0), (46, 0), (47, 0), (48, 0), (49, 0), (50, 0), (51, 0), (52, 0), (53, 0), (0, 1), (0, 0), (0, 30), (0, 0), (0, 0), (0, 0), (0, 60), (0, 10000), (0, (-1)), (0, 0), (5, 0)] [(0, 0), (0, 9), (49, 0)] LE16
  refine q_iconst d_L_law_810 ?_
  refine q_goto (tgt := 815) d_L_law_811 (by decide) ?_
  refine q_isub d_L_law_815 ?_
  show RunQ Γ (fun a => Nat.blt a 46) 302 Y_L_law 816 [(7, 0), (8, 0), (40, 0), (41, 0), (42, 0), (43, 0), (44, 0), (45, 0), (46, 0), (47, 0), (48, 0), (49, 0), (50, 0), (51, 0), (52, 0), (53, 0), (0, 1), (0, 0), (0, 30), (0, 0), (0, 0), (0, 0), (0, 60), (0, 10000), (0, (-1)), (0, 0), (5, 0)] [(0, 0), (0, 9), (49, 0)] LE16
  refine q_iast d_L_law_816 sh_41 (by decide) (by decide) (by decide) (by decide) (by decide) ?_
  show RunQ Γ (fun a => Nat.blt a 46) 302 Y_L_law 817 [(7, 0), (8, 0), (40, 0), (41, 0), (42, 0), (43, 0), (44, 0), (45, 0), (46, 0), (47, 0), (48, 0), (49, 0), (50, 0), (51, 0), (52, 0), (53, 0), (0, 1), (0, 0), (0, 30), (0, 0), (0, 0), (0, 0), (0, 60), (0, 10000), (0, (-1)), (0, 0), (5, 0)] [] LE17
  refine q_aload_n d_L_law_817 rfl (by decide) ?_
  refine q_callV (a := 0) (z := 0) (as := []) (rest := []) (ls' := [(8, 0), (5, 0)]) (κ1 := 0) (κ2 := 302) (Ψ := fun o D' => o = .inl (some (0, (-1))) ∧ D' = LE18) d_L_law_818 ck_RL_186 rfl sh_0 rfl (by decide) (by decide) rfl rfl (Nat.le_of_ble_eq_true rfl) (Nat.le_of_ble_eq_true rfl) (by decide) rfl rfl rfl (run_pH_takeNotice (cov20 (fun a h => h)) ⟨.inl (-1), _, ckv_ok k17, Nat.zero_le _, rfl, rfl⟩) (fun v2 D2 hq => ?_) (fun n2 D2 hq => by cases hq.1)
  obtain ⟨e1, rfl⟩ := hq
  cases e1
  show RunQ Γ (fun a => Nat.blt a 46) 302 Y_L_law 821 [(7, 0), (8, 0), (40, 0), (41, 0), (42, 0), (43, 0), (44, 0), (45, 0), (46, 0), (47, 0), (48, 0), (49, 0), (50, 0), (51, 0), (52, 0), (53, 0), (0, 1), (0, 0), (0, 30), (0, 0), (0, 0), (0, 0), (0, 60), (0, 10000), (0, (-1)), (0, 0), (5, 0)] [(0, (-1))] LE18
  refine q_iload d_L_law_821 rfl ?_
  refine q_icmp_ne (tgt := 830) d_L_law_823 (by decide) ⟨by decide, by decide⟩ ⟨by decide, by decide⟩ (fun g => absurd g (by decide)) (fun _ => ?_)
  show RunQ Γ (fun a => Nat.blt a 46) 302 Y_L_law 826 [(7, 0), (8, 0), (40, 0), (41, 0), (42, 0), (43, 0), (44, 0), (45, 0), (46, 0), (47, 0), (48, 0), (49, 0), (50, 0), (51, 0), (52, 0), (53, 0), (0, 1), (0, 0), (0, 30), (0, 0), (0, 0), (0, 0), (0, 60), (0, 10000), (0, (-1)), (0, 0), (5, 0)] [] LE18
  refine q_iconst d_L_law_826 ?_
  refine q_goto (tgt := 831) d_L_law_827 (by decide) ?_
  refine q_istore d_L_law_831 (by decide) rfl ?_
  show RunQ Γ (fun a => Nat.blt a 46) 302 Y_L_law 833 [(7, 0), (8, 0), (40, 0), (41, 0), (42, 0), (43, 0), (44, 0), (45, 0), (46, 0), (47, 0), (48, 0), (49, 0), (50, 0), (51, 0), (52, 0), (53, 0), (0, 1), (0, 0), (0, 30), (0, 0), (0, 0), (0, 0), (0, 60), (0, 10000), (0, (-1)), (0, 0), (5, 0)] [] LE18
  refine q_goto (tgt := 1363) d_L_law_833 (by decide) ?_
  refine q_iload d_L_law_1363 rfl ?_
  refine q_if_eq (tgt := 1487) d_L_law_1365 (by decide) ⟨by decide, by decide⟩ (fun g => absurd g (by decide)) (fun _ => ?_)
  show RunQ Γ (fun a => Nat.blt a 46) 302 Y_L_law 1368 [(7, 0), (8, 0), (40, 0), (41, 0), (42, 0), (43, 0), (44, 0), (45, 0), (46, 0), (47, 0), (48, 0), (49, 0), (50, 0), (51, 0), (52, 0), (53, 0), (0, 1), (0, 0), (0, 30), (0, 0), (0, 0), (0, 0), (0, 60), (0, 10000), (0, (-1)), (0, 0), (5, 0)] [] LE18
  refine q_aload_n d_L_law_1368 rfl (by decide) ?_
  refine q_aload d_L_law_1369 rfl (by decide) ?_
  refine q_callS (as := [(8, 0), (49, 0)]) (rest := []) (ls' := [(8, 0), (49, 0)]) (κ1 := (0 + 2)) (κ2 := 300) (Ψ := fun o D' => o = .inl (some (0, 1)) ∧ D' = LE19) d_L_law_1371 ck_RL_224 rfl rfl rfl (Nat.le_of_ble_eq_true rfl) (Nat.le_of_ble_eq_true rfl) (by decide) rfl rfl rfl (run_pE_isFile (κ := 0) (fun a h => h) ⟨.inl 1, _, ckv_ok k18, Nat.zero_le _, rfl, rfl⟩) (fun v2 D2 hq => ?_) (fun n2 D2 hq => by cases hq.1)
  obtain ⟨e1, rfl⟩ := hq
  cases e1
  show RunQ Γ (fun a => Nat.blt a 46) 300 Y_L_law 1374 [(7, 0), (8, 0), (40, 0), (41, 0), (42, 0), (43, 0), (44, 0), (45, 0), (46, 0), (47, 0), (48, 0), (49, 0), (50, 0), (51, 0), (52, 0), (53, 0), (0, 1), (0, 0), (0, 30), (0, 0), (0, 0), (0, 0), (0, 60), (0, 10000), (0, (-1)), (0, 0), (5, 0)] [(0, 1)] LE19
  refine q_if_eq (tgt := 1487) d_L_law_1374 (by decide) ⟨by decide, by decide⟩ (fun g => absurd g (by decide)) (fun _ => ?_)
  show RunQ Γ (fun a => Nat.blt a 46) 300 Y_L_law 1377 [(7, 0), (8, 0), (40, 0), (41, 0), (42, 0), (43, 0), (44, 0), (45, 0), (46, 0), (47, 0), (48, 0), (49, 0), (50, 0), (51, 0), (52, 0), (53, 0), (0, 1), (0, 0), (0, 30), (0, 0), (0, 0), (0, 0), (0, 60), (0, 10000), (0, (-1)), (0, 0), (5, 0)] [] LE19
  refine q_aload_n d_L_law_1377 rfl (by decide) ?_
  refine q_aload_n d_L_law_1378 rfl (by decide) ?_
  refine q_aload d_L_law_1379 rfl (by decide) ?_
  refine q_aload d_L_law_1381 rfl (by decide) ?_
  refine q_aload d_L_law_1383 rfl (by decide) ?_
  refine q_aload d_L_law_1385 rfl (by decide) ?_
  refine q_callS (as := [(8, 0), (40, 0), (43, 0), (46, 0), (49, 0), (51, 0)]) (rest := []) (ls' := [(8, 0), (40, 0), (43, 0), (46, 0), (49, 0), (51, 0), (5, 0), (5, 0), (5, 0), (5, 0), (5, 0), (5, 0), (5, 0), (5, 0), (5, 0), (5, 0), (5, 0)]) (κ1 := (0 + 196)) (κ2 := 104) (Ψ := fun o D' => o = .inl (some (0, 1)) ∧ D' = LE20) d_L_law_1387 ck_RL_182 rfl rfl rfl (Nat.le_of_ble_eq_true rfl) (Nat.le_of_ble_eq_true rfl) (by decide) rfl rfl rfl (run_pE_isTree (κ := 0) (fun a h => h) ⟨.inl 1, _, ckv_ok k19, Nat.zero_le _, rfl, rfl⟩) (fun v2 D2 hq => ?_) (fun n2 D2 hq => by cases hq.1)
  obtain ⟨e1, rfl⟩ := hq
  cases e1
  show RunQ Γ (fun a => Nat.blt a 46) 104 Y_L_law 1390 [(7, 0), (8, 0), (40, 0), (41, 0), (42, 0), (43, 0), (44, 0), (45, 0), (46, 0), (47, 0), (48, 0), (49, 0), (50, 0), (51, 0), (52, 0), (53, 0), (0, 1), (0, 0), (0, 30), (0, 0), (0, 0), (0, 0), (0, 60), (0, 10000), (0, (-1)), (0, 0), (5, 0)] [(0, 1)] LE20
  exact q_done (of_decide_eq_true k20)
