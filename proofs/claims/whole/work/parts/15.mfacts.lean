/-! the reference: its methods, decoded; words of the tables -/
abbrev Y_X8_thrown : YT := (cX8_thrown, 1, (some .int), yX8_thrown, [], 1)
theorem d_X8_thrown_0 : decode cX8_thrown 0 = .ok (.aload_n 0, 1) := by decide +kernel
theorem d_X8_thrown_1 : decode cX8_thrown 1 = .ok (.getfield 120, 3) := by decide +kernel
theorem ws_X8 : ∀ w ∈ u_ws RX8 TX8 43, KW w := KW.all (by decide +kernel)
theorem fk_RX8_120 : FK RX8 120 8 42 := ⟨RX8, TX8, 43, rfl, by decide, ws_X8, KW.at (i := 1124) (by decide +kernel) rfl⟩
theorem sh_32 : SH.getD 32 (9, 0, []) = (0, 8, [36, 37, 38, 39, 40, 41, 42, 43, 44, 45, 46, 47, 48, 49, 50, 51, 52, 53, 54, 55, 56, 57, 58, 59, 60, 61, 62, 63, 64, 0, 65, 66, 1, 0, 0, 0, 67, 0, 68, 69, 70, 0, 0]) := rfl
theorem d_X8_thrown_4 : decode cX8_thrown 4 = .ok (.ireturn, 1) := by decide +kernel
abbrev Y_X8_make : YT := (cX8_make, 4, (some .int), yX8_make, [], 6)
theorem d_X8_make_0 : decode cX8_make 0 = .ok (.aload_n 0, 1) := by decide +kernel
theorem d_X8_make_1 : decode cX8_make 1 = .ok (.iload_n 1, 1) := by decide +kernel
theorem d_X8_make_2 : decode cX8_make 2 = .ok (.invokevirtual 191, 3) := by decide +kernel
abbrev Y_X8_isKey : YT := (cX8_isKey, 2, (some .boolean), yX8_isKey, [], 2)
theorem mk_X8_isKey : MK Y_X8_isKey 1 := ⟨KW.at (i := 85) (by decide +kernel) rfl, KW.at (i := 1224) (by decide +kernel) rfl, ⟨by decide +kernel, by decide +kernel⟩, by decide +kernel, by decide +kernel, rfl, by decide⟩
theorem vm_X8_isKey : KW (.instanceMethod (yN Y_X8_isKey)) ∧ KW (.selects (yN Y_X8_isKey).cls (yN Y_X8_isKey) (yN Y_X8_isKey)) := ⟨KW.at (i := 1223) (by decide +kernel) rfl, KW.at (i := 36) (by decide +kernel) rfl⟩
theorem ck_RX8_191 : CKV RX8 191 Y_X8_isKey 1 := ⟨KW.at (i := 1221) (by decide +kernel) rfl, vm_X8_isKey.1, vm_X8_isKey.2, mk_X8_isKey⟩
theorem d_X8_isKey_0 : decode cX8_isKey 0 = .ok (.iload_n 1, 1) := by decide +kernel
theorem d_X8_isKey_1 : decode cX8_isKey 1 = .ok (.iconst 0, 1) := by decide +kernel
theorem d_X8_isKey_2 : decode cX8_isKey 2 = .ok (.bipush 79, 2) := by decide +kernel
theorem d_X8_isKey_4 : decode cX8_isKey 4 = .ok (.invokestatic 124, 3) := by decide +kernel
abbrev Y_X8_isIn : YT := (cX8_isIn, 3, (some .boolean), yX8_isIn, [], 1)
theorem mk_X8_isIn : MK Y_X8_isIn 3 := ⟨KW.at (i := 85) (by decide +kernel) rfl, KW.at (i := 1227) (by decide +kernel) rfl, ⟨by decide +kernel, by decide +kernel⟩, by decide +kernel, by decide +kernel, rfl, by decide⟩
theorem sm_X8_isIn : KW (.static (yN Y_X8_isIn)) := KW.at (i := 1226) (by decide +kernel) rfl
theorem ck_RX8_124 : CKS RX8 124 Y_X8_isIn 3 := ⟨KW.at (i := 1225) (by decide +kernel) rfl, sm_X8_isIn, mk_X8_isIn⟩
theorem d_X8_isIn_0 : decode cX8_isIn 0 = .ok (.iload_n 0, 1) := by decide +kernel
theorem d_X8_isIn_1 : decode cX8_isIn 1 = .ok (.iload_n 1, 1) := by decide +kernel
theorem d_X8_isIn_2 : decode cX8_isIn 2 = .ok (.if_icmp .lt 12, 3) := by decide +kernel
theorem d_X8_isIn_14 : decode cX8_isIn 14 = .ok (.iconst 0, 1) := by decide +kernel
theorem d_X8_isIn_15 : decode cX8_isIn 15 = .ok (.ireturn, 1) := by decide +kernel
theorem d_X8_isIn_5 : decode cX8_isIn 5 = .ok (.iload_n 0, 1) := by decide +kernel
theorem d_X8_isIn_6 : decode cX8_isIn 6 = .ok (.iload_n 2, 1) := by decide +kernel
theorem d_X8_isIn_7 : decode cX8_isIn 7 = .ok (.if_icmp .gt 7, 3) := by decide +kernel
theorem d_X8_isIn_10 : decode cX8_isIn 10 = .ok (.iconst 1, 1) := by decide +kernel
theorem d_X8_isIn_11 : decode cX8_isIn 11 = .ok (.goto 4, 3) := by decide +kernel
theorem d_X8_isKey_7 : decode cX8_isKey 7 = .ok (.ifCond .eq 16, 3) := by decide +kernel
theorem d_X8_isKey_23 : decode cX8_isKey 23 = .ok (.iconst 0, 1) := by decide +kernel
theorem d_X8_isKey_24 : decode cX8_isKey 24 = .ok (.ireturn, 1) := by decide +kernel
theorem d_X8_isKey_10 : decode cX8_isKey 10 = .ok (.aload_n 0, 1) := by decide +kernel
theorem d_X8_isKey_11 : decode cX8_isKey 11 = .ok (.getfield 19, 3) := by decide +kernel
theorem fk_RX8_19 : FK RX8 19 8 3 := ⟨RX8, TX8, 43, rfl, by decide, ws_X8, KW.at (i := 1085) (by decide +kernel) rfl⟩
theorem d_X8_isKey_14 : decode cX8_isKey 14 = .ok (.iload_n 1, 1) := by decide +kernel
theorem d_X8_isKey_15 : decode cX8_isKey 15 = .ok (.baload, 1) := by decide +kernel
theorem sh_36 : SH.getD 36 (9, 0, []) = (2, 240, []) := rfl
theorem d_X8_isKey_16 : decode cX8_isKey 16 = .ok (.ifCond .eq 7, 3) := by decide +kernel
theorem d_X8_isKey_19 : decode cX8_isKey 19 = .ok (.iconst 1, 1) := by decide +kernel
theorem d_X8_isKey_20 : decode cX8_isKey 20 = .ok (.goto 4, 3) := by decide +kernel
theorem d_X8_make_5 : decode cX8_make 5 = .ok (.istore_n 3, 1) := by decide +kernel
theorem d_X8_make_6 : decode cX8_make 6 = .ok (.aload_n 0, 1) := by decide +kernel
theorem d_X8_make_7 : decode cX8_make 7 = .ok (.iload_n 3, 1) := by decide +kernel
theorem d_X8_make_8 : decode cX8_make 8 = .ok (.ifCond .ne 7, 3) := by decide +kernel
theorem d_X8_make_40 : decode cX8_make 40 = .ok (.invokevirtual 195, 3) := by decide +kernel
abbrev Y_X8_fails : YT := (cX8_fails, 2, (some .boolean), yX8_fails, [], 1)
theorem mk_X8_fails : MK Y_X8_fails 1 := ⟨KW.at (i := 85) (by decide +kernel) rfl, KW.at (i := 1231) (by decide +kernel) rfl, ⟨by decide +kernel, by decide +kernel⟩, by decide +kernel, by decide +kernel, rfl, by decide⟩
theorem vm_X8_fails : KW (.instanceMethod (yN Y_X8_fails)) ∧ KW (.selects (yN Y_X8_fails).cls (yN Y_X8_fails) (yN Y_X8_fails)) := ⟨KW.at (i := 1230) (by decide +kernel) rfl, KW.at (i := 37) (by decide +kernel) rfl⟩
theorem ck_RX8_195 : CKV RX8 195 Y_X8_fails 1 := ⟨KW.at (i := 1228) (by decide +kernel) rfl, vm_X8_fails.1, vm_X8_fails.2, mk_X8_fails⟩
theorem d_X8_fails_0 : decode cX8_fails 0 = .ok (.aload_n 0, 1) := by decide +kernel
theorem d_X8_fails_1 : decode cX8_fails 1 = .ok (.iload_n 1, 1) := by decide +kernel
theorem d_X8_fails_2 : decode cX8_fails 2 = .ok (.putfield 120, 3) := by decide +kernel
theorem pk_RX8_120 : PK RX8 120 8 42 .int := ⟨RX8, TX8, 43, tyX8, rfl, by decide, ws_X8, KW.at (i := 1124) (by decide +kernel) rfl, tyX8_ok, nmX8, rfl, rfl⟩
theorem d_X8_fails_5 : decode cX8_fails 5 = .ok (.iload_n 1, 1) := by decide +kernel
theorem d_X8_fails_6 : decode cX8_fails 6 = .ok (.ifCond .le 7, 3) := by decide +kernel
theorem d_X8_fails_13 : decode cX8_fails 13 = .ok (.iconst 0, 1) := by decide +kernel
theorem d_X8_fails_14 : decode cX8_fails 14 = .ok (.ireturn, 1) := by decide +kernel
theorem d_X8_fails_9 : decode cX8_fails 9 = .ok (.iconst 1, 1) := by decide +kernel
theorem d_X8_fails_10 : decode cX8_fails 10 = .ok (.goto 4, 3) := by decide +kernel
theorem d_X8_make_43 : decode cX8_make 43 = .ok (.ifCond .eq 5, 3) := by decide +kernel
theorem d_X8_make_48 : decode cX8_make 48 = .ok (.aload_n 0, 1) := by decide +kernel
theorem d_X8_make_49 : decode cX8_make 49 = .ok (.iload_n 1, 1) := by decide +kernel
theorem d_X8_make_50 : decode cX8_make 50 = .ok (.iload_n 2, 1) := by decide +kernel
theorem d_X8_make_51 : decode cX8_make 51 = .ok (.iconst (-1), 1) := by decide +kernel
theorem d_X8_make_52 : decode cX8_make 52 = .ok (.invokevirtual 227, 3) := by decide +kernel
abbrev Y_X8_makes : YT := (cX8_makes, 5, (some .int), yX8_makes, [], 5)
theorem mk_X8_makes : MK Y_X8_makes 3 := ⟨KW.at (i := 85) (by decide +kernel) rfl, KW.at (i := 1313) (by decide +kernel) rfl, ⟨by decide +kernel, by decide +kernel⟩, by decide +kernel, by decide +kernel, rfl, by decide⟩
theorem vm_X8_makes : KW (.instanceMethod (yN Y_X8_makes)) ∧ KW (.selects (yN Y_X8_makes).cls (yN Y_X8_makes) (yN Y_X8_makes)) := ⟨KW.at (i := 1312) (by decide +kernel) rfl, KW.at (i := 54) (by decide +kernel) rfl⟩
theorem ck_RX8_227 : CKV RX8 227 Y_X8_makes 3 := ⟨KW.at (i := 1310) (by decide +kernel) rfl, vm_X8_makes.1, vm_X8_makes.2, mk_X8_makes⟩
theorem d_X8_makes_0 : decode cX8_makes 0 = .ok (.aload_n 0, 1) := by decide +kernel
theorem d_X8_makes_1 : decode cX8_makes 1 = .ok (.getfield 16, 3) := by decide +kernel
theorem fk_RX8_16 : FK RX8 16 8 2 := ⟨RX8, TX8, 43, rfl, by decide, ws_X8, KW.at (i := 1084) (by decide +kernel) rfl⟩
theorem d_X8_makes_4 : decode cX8_makes 4 = .ok (.iconst 0, 1) := by decide +kernel
theorem d_X8_makes_5 : decode cX8_makes 5 = .ok (.iaload, 1) := by decide +kernel
theorem sh_35 : SH.getD 35 (9, 0, []) = (1, 3, []) := rfl
theorem d_X8_makes_6 : decode cX8_makes 6 = .ok (.istore 4, 2) := by decide +kernel
theorem d_X8_makes_8 : decode cX8_makes 8 = .ok (.aload_n 0, 1) := by decide +kernel
theorem d_X8_makes_9 : decode cX8_makes 9 = .ok (.invokevirtual 211, 3) := by decide +kernel
abbrev Y_X8_writesGot : YT := (cX8_writesGot, 2, none, yX8_writesGot, [], 2)
theorem mk_X8_writesGot : MK Y_X8_writesGot 0 := ⟨KW.at (i := 85) (by decide +kernel) rfl, KW.at (i := 1317) (by decide +kernel) rfl, ⟨by decide +kernel, by decide +kernel⟩, by decide +kernel, by decide +kernel, rfl, by decide⟩
theorem vm_X8_writesGot : KW (.instanceMethod (yN Y_X8_writesGot)) ∧ KW (.selects (yN Y_X8_writesGot).cls (yN Y_X8_writesGot) (yN Y_X8_writesGot)) := ⟨KW.at (i := 1316) (by decide +kernel) rfl, KW.at (i := 55) (by decide +kernel) rfl⟩
theorem ck_RX8_211 : CKV RX8 211 Y_X8_writesGot 0 := ⟨KW.at (i := 1314) (by decide +kernel) rfl, vm_X8_writesGot.1, vm_X8_writesGot.2, mk_X8_writesGot⟩
theorem d_X8_writesGot_0 : decode cX8_writesGot 0 = .ok (.iconst 0, 1) := by decide +kernel
theorem d_X8_writesGot_1 : decode cX8_writesGot 1 = .ok (.istore_n 1, 1) := by decide +kernel
theorem d_X8_writesGot_2 : decode cX8_writesGot 2 = .ok (.iload_n 1, 1) := by decide +kernel
theorem d_X8_writesGot_3 : decode cX8_writesGot 3 = .ok (.aload_n 0, 1) := by decide +kernel
theorem d_X8_writesGot_4 : decode cX8_writesGot 4 = .ok (.getfield 146, 3) := by decide +kernel
theorem fk_RX8_146 : FK RX8 146 8 37 := ⟨RX8, TX8, 43, rfl, by decide, ws_X8, KW.at (i := 1119) (by decide +kernel) rfl⟩
theorem d_X8_writesGot_7 : decode cX8_writesGot 7 = .ok (.if_icmp .ge 19, 3) := by decide +kernel
theorem d_X8_writesGot_26 : decode cX8_writesGot 26 = .ok (.return_, 1) := by decide +kernel
theorem d_X8_writesGot_10 : decode cX8_writesGot 10 = .ok (.aload_n 0, 1) := by decide +kernel
theorem d_X8_writesGot_11 : decode cX8_writesGot 11 = .ok (.aload_n 0, 1) := by decide +kernel
theorem d_X8_writesGot_12 : decode cX8_writesGot 12 = .ok (.getfield 110, 3) := by decide +kernel
theorem fk_RX8_110 : FK RX8 110 8 39 := ⟨RX8, TX8, 43, rfl, by decide, ws_X8, KW.at (i := 1121) (by decide +kernel) rfl⟩
theorem d_X8_writesGot_15 : decode cX8_writesGot 15 = .ok (.iload_n 1, 1) := by decide +kernel
theorem d_X8_writesGot_16 : decode cX8_writesGot 16 = .ok (.iaload, 1) := by decide +kernel
theorem sh_66 : SH.getD 66 (9, 0, []) = (1, 8, []) := rfl
theorem d_X8_writesGot_17 : decode cX8_writesGot 17 = .ok (.invokevirtual 152, 3) := by decide +kernel
abbrev Y_X8_writes : YT := (cX8_writes, 4, none, yX8_writes, [], 1)
theorem mk_X8_writes : MK Y_X8_writes 1 := ⟨KW.at (i := 85) (by decide +kernel) rfl, KW.at (i := 1321) (by decide +kernel) rfl, ⟨by decide +kernel, by decide +kernel⟩, by decide +kernel, by decide +kernel, rfl, by decide⟩
theorem vm_X8_writes : KW (.instanceMethod (yN Y_X8_writes)) ∧ KW (.selects (yN Y_X8_writes).cls (yN Y_X8_writes) (yN Y_X8_writes)) := ⟨KW.at (i := 1320) (by decide +kernel) rfl, KW.at (i := 56) (by decide +kernel) rfl⟩
theorem ck_RX8_152 : CKV RX8 152 Y_X8_writes 1 := ⟨KW.at (i := 1318) (by decide +kernel) rfl, vm_X8_writes.1, vm_X8_writes.2, mk_X8_writes⟩
theorem d_X8_writes_0 : decode cX8_writes 0 = .ok (.aload_n 0, 1) := by decide +kernel
theorem d_X8_writes_1 : decode cX8_writes 1 = .ok (.getfield 7, 3) := by decide +kernel
theorem fk_RX8_7 : FK RX8 7 8 0 := ⟨RX8, TX8, 43, rfl, by decide, ws_X8, KW.at (i := 1082) (by decide +kernel) rfl⟩
theorem d_X8_writes_4 : decode cX8_writes 4 = .ok (.iload_n 1, 1) := by decide +kernel
theorem d_X8_writes_5 : decode cX8_writes 5 = .ok (.iaload, 1) := by decide +kernel
theorem sh_33 : SH.getD 33 (9, 0, []) = (1, 3072, []) := rfl
theorem d_X8_writes_6 : decode cX8_writes 6 = .ok (.ifCond .ge 13, 3) := by decide +kernel
theorem d_X8_writes_25 : decode cX8_writes 25 = .ok (.istore_n 2, 1) := by decide +kernel
theorem d_X8_writes_26 : decode cX8_writes 26 = .ok (.iload_n 1, 1) := by decide +kernel
theorem d_X8_writes_27 : decode cX8_writes 27 = .ok (.istore_n 3, 1) := by decide +kernel
theorem d_X8_writes_28 : decode cX8_writes 28 = .ok (.iload_n 3, 1) := by decide +kernel
theorem d_X8_writes_29 : decode cX8_writes 29 = .ok (.iload_n 1, 1) := by decide +kernel
theorem d_X8_writes_30 : decode cX8_writes 30 = .ok (.iload_n 2, 1) := by decide +kernel
theorem d_X8_writes_31 : decode cX8_writes 31 = .ok (.iadd, 1) := by decide +kernel
theorem d_X8_writes_32 : decode cX8_writes 32 = .ok (.if_icmp .ge 19, 3) := by decide +kernel
theorem d_X8_writes_51 : decode cX8_writes 51 = .ok (.return_, 1) := by decide +kernel
theorem d_X8_writes_35 : decode cX8_writes 35 = .ok (.aload_n 0, 1) := by decide +kernel
theorem d_X8_writes_36 : decode cX8_writes 36 = .ok (.getfield 86, 3) := by decide +kernel
theorem fk_RX8_86 : FK RX8 86 8 25 := ⟨RX8, TX8, 43, rfl, by decide, ws_X8, KW.at (i := 1107) (by decide +kernel) rfl⟩
theorem d_X8_writes_39 : decode cX8_writes 39 = .ok (.iload_n 3, 1) := by decide +kernel
theorem d_X8_writes_40 : decode cX8_writes 40 = .ok (.bipush 16, 2) := by decide +kernel
theorem d_X8_writes_42 : decode cX8_writes 42 = .ok (.idiv, 1) := by decide +kernel
theorem d_X8_writes_43 : decode cX8_writes 43 = .ok (.iconst 1, 1) := by decide +kernel
theorem d_X8_writes_44 : decode cX8_writes 44 = .ok (.bastore, 1) := by decide +kernel
theorem sh_58 : SH.getD 58 (9, 0, []) = (2, 64, []) := rfl
theorem d_X8_writes_45 : decode cX8_writes 45 = .ok (.iinc 3 1, 3) := by decide +kernel
theorem d_X8_writes_48 : decode cX8_writes 48 = .ok (.goto (-20), 3) := by decide +kernel
theorem d_X8_writes_19 : decode cX8_writes 19 = .ok (.aload_n 0, 1) := by decide +kernel
theorem d_X8_writes_20 : decode cX8_writes 20 = .ok (.getfield 7, 3) := by decide +kernel
theorem d_X8_writes_23 : decode cX8_writes 23 = .ok (.iload_n 1, 1) := by decide +kernel
theorem d_X8_writes_24 : decode cX8_writes 24 = .ok (.iaload, 1) := by decide +kernel
theorem d_X8_writes_9 : decode cX8_writes 9 = .ok (.aload_n 0, 1) := by decide +kernel
theorem d_X8_writes_10 : decode cX8_writes 10 = .ok (.getfield 7, 3) := by decide +kernel
theorem d_X8_writes_13 : decode cX8_writes 13 = .ok (.iload_n 1, 1) := by decide +kernel
theorem d_X8_writes_14 : decode cX8_writes 14 = .ok (.iaload, 1) := by decide +kernel
theorem d_X8_writes_15 : decode cX8_writes 15 = .ok (.ineg, 1) := by decide +kernel
theorem d_X8_writes_16 : decode cX8_writes 16 = .ok (.goto 9, 3) := by decide +kernel
theorem d_X8_writesGot_20 : decode cX8_writesGot 20 = .ok (.iinc 1 1, 3) := by decide +kernel
theorem d_X8_writesGot_23 : decode cX8_writesGot 23 = .ok (.goto (-21), 3) := by decide +kernel
theorem d_X8_makes_12 : decode cX8_makes 12 = .ok (.aload_n 0, 1) := by decide +kernel
theorem d_X8_makes_13 : decode cX8_makes 13 = .ok (.getfield 16, 3) := by decide +kernel
theorem d_X8_makes_16 : decode cX8_makes 16 = .ok (.iconst 0, 1) := by decide +kernel
theorem d_X8_makes_17 : decode cX8_makes 17 = .ok (.dup2, 1) := by decide +kernel
theorem d_X8_makes_18 : decode cX8_makes 18 = .ok (.iaload, 1) := by decide +kernel
theorem d_X8_makes_19 : decode cX8_makes 19 = .ok (.iconst 1, 1) := by decide +kernel
theorem d_X8_makes_20 : decode cX8_makes 20 = .ok (.iadd, 1) := by decide +kernel
theorem d_X8_makes_21 : decode cX8_makes 21 = .ok (.iastore, 1) := by decide +kernel
theorem d_X8_makes_22 : decode cX8_makes 22 = .ok (.aload_n 0, 1) := by decide +kernel
theorem d_X8_makes_23 : decode cX8_makes 23 = .ok (.getfield 19, 3) := by decide +kernel
theorem d_X8_makes_26 : decode cX8_makes 26 = .ok (.iload 4, 2) := by decide +kernel
theorem d_X8_makes_28 : decode cX8_makes 28 = .ok (.iconst 1, 1) := by decide +kernel
theorem d_X8_makes_29 : decode cX8_makes 29 = .ok (.bastore, 1) := by decide +kernel
theorem d_X8_makes_30 : decode cX8_makes 30 = .ok (.aload_n 0, 1) := by decide +kernel
theorem d_X8_makes_31 : decode cX8_makes 31 = .ok (.getfield 23, 3) := by decide +kernel
theorem fk_RX8_23 : FK RX8 23 8 4 := ⟨RX8, TX8, 43, rfl, by decide, ws_X8, KW.at (i := 1086) (by decide +kernel) rfl⟩
theorem d_X8_makes_34 : decode cX8_makes 34 = .ok (.iload 4, 2) := by decide +kernel
theorem d_X8_makes_36 : decode cX8_makes 36 = .ok (.iload_n 1, 1) := by decide +kernel
theorem d_X8_makes_37 : decode cX8_makes 37 = .ok (.iastore, 1) := by decide +kernel
theorem sh_37 : SH.getD 37 (9, 0, []) = (1, 240, []) := rfl
theorem d_X8_makes_38 : decode cX8_makes 38 = .ok (.aload_n 0, 1) := by decide +kernel
theorem d_X8_makes_39 : decode cX8_makes 39 = .ok (.getfield 26, 3) := by decide +kernel
theorem fk_RX8_26 : FK RX8 26 8 5 := ⟨RX8, TX8, 43, rfl, by decide, ws_X8, KW.at (i := 1087) (by decide +kernel) rfl⟩
theorem d_X8_makes_42 : decode cX8_makes 42 = .ok (.iload 4, 2) := by decide +kernel
theorem d_X8_makes_44 : decode cX8_makes 44 = .ok (.iload_n 2, 1) := by decide +kernel
theorem d_X8_makes_45 : decode cX8_makes 45 = .ok (.iastore, 1) := by decide +kernel
theorem sh_38 : SH.getD 38 (9, 0, []) = (1, 240, []) := rfl
theorem d_X8_makes_46 : decode cX8_makes 46 = .ok (.aload_n 0, 1) := by decide +kernel
theorem d_X8_makes_47 : decode cX8_makes 47 = .ok (.getfield 29, 3) := by decide +kernel
theorem fk_RX8_29 : FK RX8 29 8 6 := ⟨RX8, TX8, 43, rfl, by decide, ws_X8, KW.at (i := 1088) (by decide +kernel) rfl⟩
theorem d_X8_makes_50 : decode cX8_makes 50 = .ok (.iload 4, 2) := by decide +kernel
theorem d_X8_makes_52 : decode cX8_makes 52 = .ok (.iload_n 3, 1) := by decide +kernel
theorem d_X8_makes_53 : decode cX8_makes 53 = .ok (.iastore, 1) := by decide +kernel
theorem sh_39 : SH.getD 39 (9, 0, []) = (1, 240, []) := rfl
theorem d_X8_makes_54 : decode cX8_makes 54 = .ok (.aload_n 0, 1) := by decide +kernel
theorem d_X8_makes_55 : decode cX8_makes 55 = .ok (.getfield 32, 3) := by decide +kernel
theorem fk_RX8_32 : FK RX8 32 8 7 := ⟨RX8, TX8, 43, rfl, by decide, ws_X8, KW.at (i := 1089) (by decide +kernel) rfl⟩
theorem d_X8_makes_58 : decode cX8_makes 58 = .ok (.iload 4, 2) := by decide +kernel
theorem d_X8_makes_60 : decode cX8_makes 60 = .ok (.aload_n 0, 1) := by decide +kernel
theorem d_X8_makes_61 : decode cX8_makes 61 = .ok (.getfield 110, 3) := by decide +kernel
theorem d_X8_makes_64 : decode cX8_makes 64 = .ok (.iconst 0, 1) := by decide +kernel
theorem d_X8_makes_65 : decode cX8_makes 65 = .ok (.iaload, 1) := by decide +kernel
theorem d_X8_makes_66 : decode cX8_makes 66 = .ok (.iastore, 1) := by decide +kernel
theorem sh_40 : SH.getD 40 (9, 0, []) = (1, 240, []) := rfl
theorem d_X8_makes_67 : decode cX8_makes 67 = .ok (.aload_n 0, 1) := by decide +kernel
theorem d_X8_makes_68 : decode cX8_makes 68 = .ok (.getfield 35, 3) := by decide +kernel
theorem fk_RX8_35 : FK RX8 35 8 8 := ⟨RX8, TX8, 43, rfl, by decide, ws_X8, KW.at (i := 1090) (by decide +kernel) rfl⟩
theorem d_X8_makes_71 : decode cX8_makes 71 = .ok (.iload 4, 2) := by decide +kernel
theorem d_X8_makes_73 : decode cX8_makes 73 = .ok (.aload_n 0, 1) := by decide +kernel
theorem d_X8_makes_74 : decode cX8_makes 74 = .ok (.getfield 35, 3) := by decide +kernel
theorem d_X8_makes_77 : decode cX8_makes 77 = .ok (.iload_n 1, 1) := by decide +kernel
theorem d_X8_makes_78 : decode cX8_makes 78 = .ok (.iaload, 1) := by decide +kernel
theorem sh_41 : SH.getD 41 (9, 0, []) = (1, 240, []) := rfl
theorem d_X8_makes_79 : decode cX8_makes 79 = .ok (.iastore, 1) := by decide +kernel
theorem d_X8_makes_80 : decode cX8_makes 80 = .ok (.aload_n 0, 1) := by decide +kernel
theorem d_X8_makes_81 : decode cX8_makes 81 = .ok (.getfield 38, 3) := by decide +kernel
theorem fk_RX8_38 : FK RX8 38 8 9 := ⟨RX8, TX8, 43, rfl, by decide, ws_X8, KW.at (i := 1091) (by decide +kernel) rfl⟩
theorem d_X8_makes_84 : decode cX8_makes 84 = .ok (.iload 4, 2) := by decide +kernel
theorem d_X8_makes_86 : decode cX8_makes 86 = .ok (.iconst 0, 1) := by decide +kernel
theorem d_X8_makes_87 : decode cX8_makes 87 = .ok (.iastore, 1) := by decide +kernel
theorem sh_42 : SH.getD 42 (9, 0, []) = (1, 240, []) := rfl
theorem d_X8_makes_88 : decode cX8_makes 88 = .ok (.aload_n 0, 1) := by decide +kernel
theorem d_X8_makes_89 : decode cX8_makes 89 = .ok (.getfield 41, 3) := by decide +kernel
theorem fk_RX8_41 : FK RX8 41 8 10 := ⟨RX8, TX8, 43, rfl, by decide, ws_X8, KW.at (i := 1092) (by decide +kernel) rfl⟩
theorem d_X8_makes_92 : decode cX8_makes 92 = .ok (.iload 4, 2) := by decide +kernel
theorem d_X8_makes_94 : decode cX8_makes 94 = .ok (.iconst (-1), 1) := by decide +kernel
theorem d_X8_makes_95 : decode cX8_makes 95 = .ok (.iastore, 1) := by decide +kernel
theorem sh_43 : SH.getD 43 (9, 0, []) = (1, 240, []) := rfl
theorem d_X8_makes_96 : decode cX8_makes 96 = .ok (.aload_n 0, 1) := by decide +kernel
theorem d_X8_makes_97 : decode cX8_makes 97 = .ok (.getfield 56, 3) := by decide +kernel
theorem fk_RX8_56 : FK RX8 56 8 15 := ⟨RX8, TX8, 43, rfl, by decide, ws_X8, KW.at (i := 1097) (by decide +kernel) rfl⟩
theorem d_X8_makes_100 : decode cX8_makes 100 = .ok (.iload 4, 2) := by decide +kernel
theorem d_X8_makes_102 : decode cX8_makes 102 = .ok (.iconst 0, 1) := by decide +kernel
theorem d_X8_makes_103 : decode cX8_makes 103 = .ok (.iastore, 1) := by decide +kernel
theorem sh_48 : SH.getD 48 (9, 0, []) = (1, 240, []) := rfl
theorem d_X8_makes_104 : decode cX8_makes 104 = .ok (.aload_n 0, 1) := by decide +kernel
theorem d_X8_makes_105 : decode cX8_makes 105 = .ok (.getfield 59, 3) := by decide +kernel
theorem fk_RX8_59 : FK RX8 59 8 16 := ⟨RX8, TX8, 43, rfl, by decide, ws_X8, KW.at (i := 1098) (by decide +kernel) rfl⟩
theorem d_X8_makes_108 : decode cX8_makes 108 = .ok (.iload 4, 2) := by decide +kernel
theorem d_X8_makes_110 : decode cX8_makes 110 = .ok (.iconst (-1), 1) := by decide +kernel
theorem d_X8_makes_111 : decode cX8_makes 111 = .ok (.iastore, 1) := by decide +kernel
theorem sh_49 : SH.getD 49 (9, 0, []) = (1, 240, []) := rfl
theorem d_X8_makes_112 : decode cX8_makes 112 = .ok (.aload_n 0, 1) := by decide +kernel
theorem d_X8_makes_113 : decode cX8_makes 113 = .ok (.iload_n 1, 1) := by decide +kernel
theorem d_X8_makes_114 : decode cX8_makes 114 = .ok (.iload 4, 2) := by decide +kernel
theorem d_X8_makes_116 : decode cX8_makes 116 = .ok (.iload_n 2, 1) := by decide +kernel
theorem d_X8_makes_117 : decode cX8_makes 117 = .ok (.iconst 1, 1) := by decide +kernel
theorem d_X8_makes_118 : decode cX8_makes 118 = .ok (.invokevirtual 214, 3) := by decide +kernel
abbrev Y_X8_enters : YT := (cX8_enters, 11, none, yX8_enters, [], 4)
theorem mk_X8_enters : MK Y_X8_enters 4 := ⟨KW.at (i := 85) (by decide +kernel) rfl, KW.at (i := 1325) (by decide +kernel) rfl, ⟨by decide +kernel, by decide +kernel⟩, by decide +kernel, by decide +kernel, rfl, by decide⟩
theorem vm_X8_enters : KW (.instanceMethod (yN Y_X8_enters)) ∧ KW (.selects (yN Y_X8_enters).cls (yN Y_X8_enters) (yN Y_X8_enters)) := ⟨KW.at (i := 1324) (by decide +kernel) rfl, KW.at (i := 57) (by decide +kernel) rfl⟩
theorem ck_RX8_214 : CKV RX8 214 Y_X8_enters 4 := ⟨KW.at (i := 1322) (by decide +kernel) rfl, vm_X8_enters.1, vm_X8_enters.2, mk_X8_enters⟩
theorem d_X8_enters_0 : decode cX8_enters 0 = .ok (.iload 4, 2) := by decide +kernel
theorem d_X8_enters_2 : decode cX8_enters 2 = .ok (.istore 5, 2) := by decide +kernel
theorem d_X8_enters_4 : decode cX8_enters 4 = .ok (.aload_n 0, 1) := by decide +kernel
theorem d_X8_enters_5 : decode cX8_enters 5 = .ok (.iload_n 1, 1) := by decide +kernel
theorem d_X8_enters_6 : decode cX8_enters 6 = .ok (.iload_n 3, 1) := by decide +kernel
theorem d_X8_enters_7 : decode cX8_enters 7 = .ok (.invokevirtual 169, 3) := by decide +kernel
abbrev Y_X8_leafFor : YT := (cX8_leafFor, 5, (some .int), yX8_leafFor, [], 2)
theorem mk_X8_leafFor : MK Y_X8_leafFor 2 := ⟨KW.at (i := 85) (by decide +kernel) rfl, KW.at (i := 1274) (by decide +kernel) rfl, ⟨by decide +kernel, by decide +kernel⟩, by decide +kernel, by decide +kernel, rfl, by decide⟩
theorem vm_X8_leafFor : KW (.instanceMethod (yN Y_X8_leafFor)) ∧ KW (.selects (yN Y_X8_leafFor).cls (yN Y_X8_leafFor) (yN Y_X8_leafFor)) := ⟨KW.at (i := 1273) (by decide +kernel) rfl, KW.at (i := 45) (by decide +kernel) rfl⟩
theorem ck_RX8_169 : CKV RX8 169 Y_X8_leafFor 2 := ⟨KW.at (i := 1271) (by decide +kernel) rfl, vm_X8_leafFor.1, vm_X8_leafFor.2, mk_X8_leafFor⟩
theorem d_X8_leafFor_0 : decode cX8_leafFor 0 = .ok (.iconst 0, 1) := by decide +kernel
theorem d_X8_leafFor_1 : decode cX8_leafFor 1 = .ok (.istore_n 3, 1) := by decide +kernel
theorem d_X8_leafFor_2 : decode cX8_leafFor 2 = .ok (.iconst 0, 1) := by decide +kernel
theorem d_X8_leafFor_3 : decode cX8_leafFor 3 = .ok (.istore 4, 2) := by decide +kernel
theorem d_X8_leafFor_5 : decode cX8_leafFor 5 = .ok (.iload 4, 2) := by decide +kernel
theorem d_X8_leafFor_7 : decode cX8_leafFor 7 = .ok (.aload_n 0, 1) := by decide +kernel
theorem d_X8_leafFor_8 : decode cX8_leafFor 8 = .ok (.getfield 38, 3) := by decide +kernel
theorem d_X8_leafFor_11 : decode cX8_leafFor 11 = .ok (.iload_n 1, 1) := by decide +kernel
theorem d_X8_leafFor_12 : decode cX8_leafFor 12 = .ok (.iaload, 1) := by decide +kernel
theorem d_X8_leafFor_13 : decode cX8_leafFor 13 = .ok (.if_icmp .ge 43, 3) := by decide +kernel
theorem d_X8_leafFor_56 : decode cX8_leafFor 56 = .ok (.iload_n 3, 1) := by decide +kernel
theorem d_X8_leafFor_57 : decode cX8_leafFor 57 = .ok (.ireturn, 1) := by decide +kernel
theorem d_X8_leafFor_16 : decode cX8_leafFor 16 = .ok (.aload_n 0, 1) := by decide +kernel
theorem d_X8_leafFor_17 : decode cX8_leafFor 17 = .ok (.getfield 53, 3) := by decide +kernel
theorem fk_RX8_53 : FK RX8 53 8 14 := ⟨RX8, TX8, 43, rfl, by decide, ws_X8, KW.at (i := 1096) (by decide +kernel) rfl⟩
theorem d_X8_leafFor_20 : decode cX8_leafFor 20 = .ok (.bipush 32, 2) := by decide +kernel
theorem d_X8_leafFor_22 : decode cX8_leafFor 22 = .ok (.iload_n 1, 1) := by decide +kernel
theorem d_X8_leafFor_23 : decode cX8_leafFor 23 = .ok (.imul, 1) := by decide +kernel
theorem d_X8_leafFor_24 : decode cX8_leafFor 24 = .ok (.aload_n 0, 1) := by decide +kernel
theorem d_X8_leafFor_25 : decode cX8_leafFor 25 = .ok (.iload_n 1, 1) := by decide +kernel
theorem d_X8_leafFor_26 : decode cX8_leafFor 26 = .ok (.iload 4, 2) := by decide +kernel
theorem d_X8_leafFor_28 : decode cX8_leafFor 28 = .ok (.invokevirtual 159, 3) := by decide +kernel
abbrev Y_X8_start : YT := (cX8_start, 5, (some .int), yX8_start, [], 1)
theorem mk_X8_start : MK Y_X8_start 2 := ⟨KW.at (i := 85) (by decide +kernel) rfl, KW.at (i := 1262) (by decide +kernel) rfl, ⟨by decide +kernel, by decide +kernel⟩, by decide +kernel, by decide +kernel, rfl, by decide⟩
theorem vm_X8_start : KW (.instanceMethod (yN Y_X8_start)) ∧ KW (.selects (yN Y_X8_start).cls (yN Y_X8_start) (yN Y_X8_start)) := ⟨KW.at (i := 1261) (by decide +kernel) rfl, KW.at (i := 42) (by decide +kernel) rfl⟩
theorem ck_RX8_159 : CKV RX8 159 Y_X8_start 2 := ⟨KW.at (i := 1259) (by decide +kernel) rfl, vm_X8_start.1, vm_X8_start.2, mk_X8_start⟩
theorem d_X8_start_0 : decode cX8_start 0 = .ok (.iconst 0, 1) := by decide +kernel
theorem d_X8_start_1 : decode cX8_start 1 = .ok (.istore_n 3, 1) := by decide +kernel
theorem d_X8_start_2 : decode cX8_start 2 = .ok (.iconst 0, 1) := by decide +kernel
theorem d_X8_start_3 : decode cX8_start 3 = .ok (.istore 4, 2) := by decide +kernel
theorem d_X8_start_5 : decode cX8_start 5 = .ok (.iload 4, 2) := by decide +kernel
theorem d_X8_start_7 : decode cX8_start 7 = .ok (.iload_n 2, 1) := by decide +kernel
theorem d_X8_start_8 : decode cX8_start 8 = .ok (.if_icmp .ge 24, 3) := by decide +kernel
theorem d_X8_start_32 : decode cX8_start 32 = .ok (.iload_n 3, 1) := by decide +kernel
theorem d_X8_start_33 : decode cX8_start 33 = .ok (.ireturn, 1) := by decide +kernel
theorem d_X8_start_11 : decode cX8_start 11 = .ok (.iload_n 3, 1) := by decide +kernel
theorem d_X8_start_12 : decode cX8_start 12 = .ok (.aload_n 0, 1) := by decide +kernel
theorem d_X8_start_13 : decode cX8_start 13 = .ok (.getfield 47, 3) := by decide +kernel
theorem fk_RX8_47 : FK RX8 47 8 12 := ⟨RX8, TX8, 43, rfl, by decide, ws_X8, KW.at (i := 1094) (by decide +kernel) rfl⟩
theorem d_X8_start_16 : decode cX8_start 16 = .ok (.bipush 8, 2) := by decide +kernel
theorem d_X8_start_18 : decode cX8_start 18 = .ok (.iload_n 1, 1) := by decide +kernel
theorem d_X8_start_19 : decode cX8_start 19 = .ok (.imul, 1) := by decide +kernel
theorem d_X8_start_20 : decode cX8_start 20 = .ok (.iload 4, 2) := by decide +kernel
theorem d_X8_start_22 : decode cX8_start 22 = .ok (.iadd, 1) := by decide +kernel
theorem d_X8_start_23 : decode cX8_start 23 = .ok (.iaload, 1) := by decide +kernel
theorem sh_45 : SH.getD 45 (9, 0, []) = (1, 1920, []) := rfl
theorem d_X8_start_24 : decode cX8_start 24 = .ok (.iadd, 1) := by decide +kernel
theorem d_X8_start_25 : decode cX8_start 25 = .ok (.istore_n 3, 1) := by decide +kernel
theorem d_X8_start_26 : decode cX8_start 26 = .ok (.iinc 4 1, 3) := by decide +kernel
theorem d_X8_start_29 : decode cX8_start 29 = .ok (.goto (-24), 3) := by decide +kernel
theorem d_X8_leafFor_31 : decode cX8_leafFor 31 = .ok (.iadd, 1) := by decide +kernel
theorem d_X8_leafFor_32 : decode cX8_leafFor 32 = .ok (.iaload, 1) := by decide +kernel
theorem sh_47 : SH.getD 47 (9, 0, []) = (1, 7680, []) := rfl
theorem d_X8_leafFor_33 : decode cX8_leafFor 33 = .ok (.invokestatic 166, 3) := by decide +kernel
abbrev Y_X8_rank : YT := (cX8_rank, 1, (some .int), yX8_rank, [], 1)
theorem mk_X8_rank : MK Y_X8_rank 1 := ⟨KW.at (i := 85) (by decide +kernel) rfl, KW.at (i := 1277) (by decide +kernel) rfl, ⟨by decide +kernel, by decide +kernel⟩, by decide +kernel, by decide +kernel, rfl, by decide⟩
theorem sm_X8_rank : KW (.static (yN Y_X8_rank)) := KW.at (i := 1276) (by decide +kernel) rfl
theorem ck_RX8_166 : CKS RX8 166 Y_X8_rank 1 := ⟨KW.at (i := 1275) (by decide +kernel) rfl, sm_X8_rank, mk_X8_rank⟩
theorem d_X8_rank_0 : decode cX8_rank 0 = .ok (.sipush 10000, 3) := by decide +kernel
theorem d_X8_rank_3 : decode cX8_rank 3 = .ok (.bipush 7, 2) := by decide +kernel
theorem d_X8_rank_5 : decode cX8_rank 5 = .ok (.iload_n 0, 1) := by decide +kernel
theorem d_X8_rank_6 : decode cX8_rank 6 = .ok (.imul, 1) := by decide +kernel
theorem d_X8_rank_7 : decode cX8_rank 7 = .ok (.bipush 64, 2) := by decide +kernel
theorem d_X8_rank_9 : decode cX8_rank 9 = .ok (.irem, 1) := by decide +kernel
theorem d_X8_rank_10 : decode cX8_rank 10 = .ok (.imul, 1) := by decide +kernel
theorem d_X8_rank_11 : decode cX8_rank 11 = .ok (.iload_n 0, 1) := by decide +kernel
theorem d_X8_rank_12 : decode cX8_rank 12 = .ok (.iadd, 1) := by decide +kernel
theorem d_X8_rank_13 : decode cX8_rank 13 = .ok (.ireturn, 1) := by decide +kernel
theorem d_X8_leafFor_36 : decode cX8_leafFor 36 = .ok (.iload_n 2, 1) := by decide +kernel
theorem d_X8_leafFor_37 : decode cX8_leafFor 37 = .ok (.invokestatic 166, 3) := by decide +kernel
theorem d_X8_leafFor_40 : decode cX8_leafFor 40 = .ok (.if_icmp .ge 8, 3) := by decide +kernel
theorem d_X8_leafFor_49 : decode cX8_leafFor 49 = .ok (.istore_n 3, 1) := by decide +kernel
theorem d_X8_leafFor_50 : decode cX8_leafFor 50 = .ok (.iinc 4 1, 3) := by decide +kernel
theorem d_X8_leafFor_53 : decode cX8_leafFor 53 = .ok (.goto (-48), 3) := by decide +kernel
theorem d_X8_leafFor_48 : decode cX8_leafFor 48 = .ok (.iload_n 3, 1) := by decide +kernel
theorem d_X8_leafFor_43 : decode cX8_leafFor 43 = .ok (.iload 4, 2) := by decide +kernel
theorem d_X8_leafFor_45 : decode cX8_leafFor 45 = .ok (.goto 4, 3) := by decide +kernel
theorem d_X8_enters_10 : decode cX8_enters 10 = .ok (.istore 6, 2) := by decide +kernel
theorem d_X8_enters_12 : decode cX8_enters 12 = .ok (.aload_n 0, 1) := by decide +kernel
theorem d_X8_enters_13 : decode cX8_enters 13 = .ok (.iload_n 1, 1) := by decide +kernel
theorem d_X8_enters_14 : decode cX8_enters 14 = .ok (.iload_n 3, 1) := by decide +kernel
theorem d_X8_enters_15 : decode cX8_enters 15 = .ok (.invokevirtual 172, 3) := by decide +kernel
abbrev Y_X8_isSplit : YT := (cX8_isSplit, 3, (some .boolean), yX8_isSplit, [], 3)
theorem mk_X8_isSplit : MK Y_X8_isSplit 2 := ⟨KW.at (i := 85) (by decide +kernel) rfl, KW.at (i := 1270) (by decide +kernel) rfl, ⟨by decide +kernel, by decide +kernel⟩, by decide +kernel, by decide +kernel, rfl, by decide⟩
theorem vm_X8_isSplit : KW (.instanceMethod (yN Y_X8_isSplit)) ∧ KW (.selects (yN Y_X8_isSplit).cls (yN Y_X8_isSplit) (yN Y_X8_isSplit)) := ⟨KW.at (i := 1269) (by decide +kernel) rfl, KW.at (i := 44) (by decide +kernel) rfl⟩
theorem ck_RX8_172 : CKV RX8 172 Y_X8_isSplit 2 := ⟨KW.at (i := 1267) (by decide +kernel) rfl, vm_X8_isSplit.1, vm_X8_isSplit.2, mk_X8_isSplit⟩
theorem d_X8_isSplit_0 : decode cX8_isSplit 0 = .ok (.aload_n 0, 1) := by decide +kernel
theorem d_X8_isSplit_1 : decode cX8_isSplit 1 = .ok (.getfield 38, 3) := by decide +kernel
theorem d_X8_isSplit_4 : decode cX8_isSplit 4 = .ok (.iload_n 1, 1) := by decide +kernel
theorem d_X8_isSplit_5 : decode cX8_isSplit 5 = .ok (.iaload, 1) := by decide +kernel
theorem d_X8_isSplit_6 : decode cX8_isSplit 6 = .ok (.ifCond .le 27, 3) := by decide +kernel
theorem d_X8_isSplit_33 : decode cX8_isSplit 33 = .ok (.iconst 0, 1) := by decide +kernel
theorem d_X8_isSplit_34 : decode cX8_isSplit 34 = .ok (.ireturn, 1) := by decide +kernel
theorem d_X8_isSplit_9 : decode cX8_isSplit 9 = .ok (.aload_n 0, 1) := by decide +kernel
theorem d_X8_isSplit_10 : decode cX8_isSplit 10 = .ok (.getfield 47, 3) := by decide +kernel
theorem d_X8_isSplit_13 : decode cX8_isSplit 13 = .ok (.bipush 8, 2) := by decide +kernel
theorem d_X8_isSplit_15 : decode cX8_isSplit 15 = .ok (.iload_n 1, 1) := by decide +kernel
theorem d_X8_isSplit_16 : decode cX8_isSplit 16 = .ok (.imul, 1) := by decide +kernel
theorem d_X8_isSplit_17 : decode cX8_isSplit 17 = .ok (.aload_n 0, 1) := by decide +kernel
theorem d_X8_isSplit_18 : decode cX8_isSplit 18 = .ok (.iload_n 1, 1) := by decide +kernel
theorem d_X8_isSplit_19 : decode cX8_isSplit 19 = .ok (.iload_n 2, 1) := by decide +kernel
theorem d_X8_isSplit_20 : decode cX8_isSplit 20 = .ok (.invokevirtual 169, 3) := by decide +kernel
theorem d_X8_isSplit_23 : decode cX8_isSplit 23 = .ok (.iadd, 1) := by decide +kernel
theorem d_X8_isSplit_24 : decode cX8_isSplit 24 = .ok (.iaload, 1) := by decide +kernel
theorem d_X8_isSplit_25 : decode cX8_isSplit 25 = .ok (.iconst 4, 1) := by decide +kernel
theorem d_X8_isSplit_26 : decode cX8_isSplit 26 = .ok (.if_icmp .ne 7, 3) := by decide +kernel
theorem d_X8_isSplit_29 : decode cX8_isSplit 29 = .ok (.iconst 1, 1) := by decide +kernel
theorem d_X8_isSplit_30 : decode cX8_isSplit 30 = .ok (.goto 4, 3) := by decide +kernel
theorem d_X8_enters_18 : decode cX8_enters 18 = .ok (.istore 7, 2) := by decide +kernel
theorem d_X8_enters_20 : decode cX8_enters 20 = .ok (.aload_n 0, 1) := by decide +kernel
theorem d_X8_enters_21 : decode cX8_enters 21 = .ok (.getfield 38, 3) := by decide +kernel
theorem d_X8_enters_24 : decode cX8_enters 24 = .ok (.iload_n 1, 1) := by decide +kernel
theorem d_X8_enters_25 : decode cX8_enters 25 = .ok (.iaload, 1) := by decide +kernel
theorem d_X8_enters_26 : decode cX8_enters 26 = .ok (.ifCond .ne 36, 3) := by decide +kernel
theorem d_X8_enters_62 : decode cX8_enters 62 = .ok (.aload_n 0, 1) := by decide +kernel
theorem d_X8_enters_63 : decode cX8_enters 63 = .ok (.iload_n 1, 1) := by decide +kernel
theorem d_X8_enters_64 : decode cX8_enters 64 = .ok (.iload 6, 2) := by decide +kernel
theorem d_X8_enters_66 : decode cX8_enters 66 = .ok (.invokevirtual 159, 3) := by decide +kernel
theorem d_X8_enters_69 : decode cX8_enters 69 = .ok (.istore 8, 2) := by decide +kernel
theorem d_X8_enters_71 : decode cX8_enters 71 = .ok (.iload 8, 2) := by decide +kernel
theorem d_X8_enters_73 : decode cX8_enters 73 = .ok (.aload_n 0, 1) := by decide +kernel
theorem d_X8_enters_74 : decode cX8_enters 74 = .ok (.getfield 47, 3) := by decide +kernel
theorem d_X8_enters_77 : decode cX8_enters 77 = .ok (.bipush 8, 2) := by decide +kernel
theorem d_X8_enters_79 : decode cX8_enters 79 = .ok (.iload_n 1, 1) := by decide +kernel
theorem d_X8_enters_80 : decode cX8_enters 80 = .ok (.imul, 1) := by decide +kernel
theorem d_X8_enters_81 : decode cX8_enters 81 = .ok (.iload 6, 2) := by decide +kernel
theorem d_X8_enters_83 : decode cX8_enters 83 = .ok (.iadd, 1) := by decide +kernel
theorem d_X8_enters_84 : decode cX8_enters 84 = .ok (.iaload, 1) := by decide +kernel
theorem d_X8_enters_85 : decode cX8_enters 85 = .ok (.iadd, 1) := by decide +kernel
theorem d_X8_enters_86 : decode cX8_enters 86 = .ok (.istore 9, 2) := by decide +kernel
theorem d_X8_enters_88 : decode cX8_enters 88 = .ok (.iload 8, 2) := by decide +kernel
theorem d_X8_enters_90 : decode cX8_enters 90 = .ok (.iload 9, 2) := by decide +kernel
theorem d_X8_enters_92 : decode cX8_enters 92 = .ok (.if_icmp .ge 31, 3) := by decide +kernel
theorem d_X8_enters_95 : decode cX8_enters 95 = .ok (.aload_n 0, 1) := by decide +kernel
theorem d_X8_enters_96 : decode cX8_enters 96 = .ok (.getfield 53, 3) := by decide +kernel
theorem d_X8_enters_99 : decode cX8_enters 99 = .ok (.bipush 32, 2) := by decide +kernel
theorem d_X8_enters_101 : decode cX8_enters 101 = .ok (.iload_n 1, 1) := by decide +kernel
theorem d_X8_enters_102 : decode cX8_enters 102 = .ok (.imul, 1) := by decide +kernel
theorem d_X8_enters_103 : decode cX8_enters 103 = .ok (.iload 8, 2) := by decide +kernel
theorem d_X8_enters_105 : decode cX8_enters 105 = .ok (.iadd, 1) := by decide +kernel
theorem d_X8_enters_106 : decode cX8_enters 106 = .ok (.iaload, 1) := by decide +kernel
theorem d_X8_enters_107 : decode cX8_enters 107 = .ok (.invokestatic 166, 3) := by decide +kernel
theorem d_X8_enters_110 : decode cX8_enters 110 = .ok (.iload_n 3, 1) := by decide +kernel
theorem d_X8_enters_111 : decode cX8_enters 111 = .ok (.invokestatic 166, 3) := by decide +kernel
theorem d_X8_enters_114 : decode cX8_enters 114 = .ok (.if_icmp .ge 9, 3) := by decide +kernel
theorem d_X8_enters_117 : decode cX8_enters 117 = .ok (.iinc 8 1, 3) := by decide +kernel
theorem d_X8_enters_120 : decode cX8_enters 120 = .ok (.goto (-32), 3) := by decide +kernel
theorem d_X8_enters_123 : decode cX8_enters 123 = .ok (.aload_n 0, 1) := by decide +kernel
theorem d_X8_enters_124 : decode cX8_enters 124 = .ok (.iload_n 1, 1) := by decide +kernel
theorem d_X8_enters_125 : decode cX8_enters 125 = .ok (.invokevirtual 163, 3) := by decide +kernel
abbrev Y_X8_entries : YT := (cX8_entries, 2, (some .int), yX8_entries, [], 2)
theorem mk_X8_entries : MK Y_X8_entries 1 := ⟨KW.at (i := 85) (by decide +kernel) rfl, KW.at (i := 1258) (by decide +kernel) rfl, ⟨by decide +kernel, by decide +kernel⟩, by decide +kernel, by decide +kernel, rfl, by decide⟩
theorem vm_X8_entries : KW (.instanceMethod (yN Y_X8_entries)) ∧ KW (.selects (yN Y_X8_entries).cls (yN Y_X8_entries) (yN Y_X8_entries)) := ⟨KW.at (i := 1257) (by decide +kernel) rfl, KW.at (i := 41) (by decide +kernel) rfl⟩
theorem ck_RX8_163 : CKV RX8 163 Y_X8_entries 1 := ⟨KW.at (i := 1255) (by decide +kernel) rfl, vm_X8_entries.1, vm_X8_entries.2, mk_X8_entries⟩
theorem d_X8_entries_0 : decode cX8_entries 0 = .ok (.aload_n 0, 1) := by decide +kernel
theorem d_X8_entries_1 : decode cX8_entries 1 = .ok (.iload_n 1, 1) := by decide +kernel
theorem d_X8_entries_2 : decode cX8_entries 2 = .ok (.aload_n 0, 1) := by decide +kernel
theorem d_X8_entries_3 : decode cX8_entries 3 = .ok (.getfield 38, 3) := by decide +kernel
theorem d_X8_entries_6 : decode cX8_entries 6 = .ok (.iload_n 1, 1) := by decide +kernel
theorem d_X8_entries_7 : decode cX8_entries 7 = .ok (.iaload, 1) := by decide +kernel
theorem d_X8_entries_8 : decode cX8_entries 8 = .ok (.invokevirtual 159, 3) := by decide +kernel
theorem d_X8_entries_11 : decode cX8_entries 11 = .ok (.ireturn, 1) := by decide +kernel
theorem d_X8_enters_128 : decode cX8_enters 128 = .ok (.istore 10, 2) := by decide +kernel
theorem d_X8_enters_130 : decode cX8_enters 130 = .ok (.iload 10, 2) := by decide +kernel
theorem d_X8_enters_132 : decode cX8_enters 132 = .ok (.iload 8, 2) := by decide +kernel
theorem d_X8_enters_134 : decode cX8_enters 134 = .ok (.if_icmp .le 61, 3) := by decide +kernel
theorem d_X8_enters_137 : decode cX8_enters 137 = .ok (.aload_n 0, 1) := by decide +kernel
theorem d_X8_enters_138 : decode cX8_enters 138 = .ok (.getfield 50, 3) := by decide +kernel
theorem fk_RX8_50 : FK RX8 50 8 13 := ⟨RX8, TX8, 43, rfl, by decide, ws_X8, KW.at (i := 1095) (by decide +kernel) rfl⟩
theorem d_X8_enters_141 : decode cX8_enters 141 = .ok (.bipush 32, 2) := by decide +kernel
theorem d_X8_enters_143 : decode cX8_enters 143 = .ok (.iload_n 1, 1) := by decide +kernel
theorem d_X8_enters_144 : decode cX8_enters 144 = .ok (.imul, 1) := by decide +kernel
theorem d_X8_enters_145 : decode cX8_enters 145 = .ok (.iload 10, 2) := by decide +kernel
theorem d_X8_enters_147 : decode cX8_enters 147 = .ok (.iadd, 1) := by decide +kernel
theorem d_X8_enters_148 : decode cX8_enters 148 = .ok (.aload_n 0, 1) := by decide +kernel
theorem d_X8_enters_149 : decode cX8_enters 149 = .ok (.getfield 50, 3) := by decide +kernel
theorem d_X8_enters_152 : decode cX8_enters 152 = .ok (.bipush 32, 2) := by decide +kernel
theorem d_X8_enters_154 : decode cX8_enters 154 = .ok (.iload_n 1, 1) := by decide +kernel
theorem d_X8_enters_155 : decode cX8_enters 155 = .ok (.imul, 1) := by decide +kernel
theorem d_X8_enters_156 : decode cX8_enters 156 = .ok (.iload 10, 2) := by decide +kernel
theorem d_X8_enters_158 : decode cX8_enters 158 = .ok (.iadd, 1) := by decide +kernel
theorem d_X8_enters_159 : decode cX8_enters 159 = .ok (.iconst 1, 1) := by decide +kernel
theorem d_X8_enters_160 : decode cX8_enters 160 = .ok (.isub, 1) := by decide +kernel
theorem d_X8_enters_161 : decode cX8_enters 161 = .ok (.iaload, 1) := by decide +kernel
theorem sh_46 : SH.getD 46 (9, 0, []) = (1, 7680, []) := rfl
theorem d_X8_enters_162 : decode cX8_enters 162 = .ok (.iastore, 1) := by decide +kernel
theorem d_X8_enters_163 : decode cX8_enters 163 = .ok (.aload_n 0, 1) := by decide +kernel
theorem d_X8_enters_164 : decode cX8_enters 164 = .ok (.getfield 53, 3) := by decide +kernel
theorem d_X8_enters_167 : decode cX8_enters 167 = .ok (.bipush 32, 2) := by decide +kernel
theorem d_X8_enters_169 : decode cX8_enters 169 = .ok (.iload_n 1, 1) := by decide +kernel
theorem d_X8_enters_170 : decode cX8_enters 170 = .ok (.imul, 1) := by decide +kernel
theorem d_X8_enters_171 : decode cX8_enters 171 = .ok (.iload 10, 2) := by decide +kernel
theorem d_X8_enters_173 : decode cX8_enters 173 = .ok (.iadd, 1) := by decide +kernel
theorem d_X8_enters_174 : decode cX8_enters 174 = .ok (.aload_n 0, 1) := by decide +kernel
theorem d_X8_enters_175 : decode cX8_enters 175 = .ok (.getfield 53, 3) := by decide +kernel
theorem d_X8_enters_178 : decode cX8_enters 178 = .ok (.bipush 32, 2) := by decide +kernel
theorem d_X8_enters_180 : decode cX8_enters 180 = .ok (.iload_n 1, 1) := by decide +kernel
theorem d_X8_enters_181 : decode cX8_enters 181 = .ok (.imul, 1) := by decide +kernel
theorem d_X8_enters_182 : decode cX8_enters 182 = .ok (.iload 10, 2) := by decide +kernel
theorem d_X8_enters_184 : decode cX8_enters 184 = .ok (.iadd, 1) := by decide +kernel
theorem d_X8_enters_185 : decode cX8_enters 185 = .ok (.iconst 1, 1) := by decide +kernel
theorem d_X8_enters_186 : decode cX8_enters 186 = .ok (.isub, 1) := by decide +kernel
theorem d_X8_enters_187 : decode cX8_enters 187 = .ok (.iaload, 1) := by decide +kernel
theorem d_X8_enters_188 : decode cX8_enters 188 = .ok (.iastore, 1) := by decide +kernel
theorem d_X8_enters_189 : decode cX8_enters 189 = .ok (.iinc 10 (-1), 3) := by decide +kernel
theorem d_X8_enters_192 : decode cX8_enters 192 = .ok (.goto (-62), 3) := by decide +kernel
theorem d_X8_enters_195 : decode cX8_enters 195 = .ok (.aload_n 0, 1) := by decide +kernel
theorem d_X8_enters_196 : decode cX8_enters 196 = .ok (.getfield 50, 3) := by decide +kernel
theorem d_X8_enters_199 : decode cX8_enters 199 = .ok (.bipush 32, 2) := by decide +kernel
theorem d_X8_enters_201 : decode cX8_enters 201 = .ok (.iload_n 1, 1) := by decide +kernel
theorem d_X8_enters_202 : decode cX8_enters 202 = .ok (.imul, 1) := by decide +kernel
theorem d_X8_enters_203 : decode cX8_enters 203 = .ok (.iload 8, 2) := by decide +kernel
theorem d_X8_enters_205 : decode cX8_enters 205 = .ok (.iadd, 1) := by decide +kernel
theorem d_X8_enters_206 : decode cX8_enters 206 = .ok (.iload_n 2, 1) := by decide +kernel
theorem d_X8_enters_207 : decode cX8_enters 207 = .ok (.iastore, 1) := by decide +kernel
theorem d_X8_enters_208 : decode cX8_enters 208 = .ok (.aload_n 0, 1) := by decide +kernel
theorem d_X8_enters_209 : decode cX8_enters 209 = .ok (.getfield 53, 3) := by decide +kernel
theorem d_X8_enters_212 : decode cX8_enters 212 = .ok (.bipush 32, 2) := by decide +kernel
theorem d_X8_enters_214 : decode cX8_enters 214 = .ok (.iload_n 1, 1) := by decide +kernel
theorem d_X8_enters_215 : decode cX8_enters 215 = .ok (.imul, 1) := by decide +kernel
theorem d_X8_enters_216 : decode cX8_enters 216 = .ok (.iload 8, 2) := by decide +kernel
theorem d_X8_enters_218 : decode cX8_enters 218 = .ok (.iadd, 1) := by decide +kernel
theorem d_X8_enters_219 : decode cX8_enters 219 = .ok (.iload_n 3, 1) := by decide +kernel
theorem d_X8_enters_220 : decode cX8_enters 220 = .ok (.iastore, 1) := by decide +kernel
theorem d_X8_enters_221 : decode cX8_enters 221 = .ok (.aload_n 0, 1) := by decide +kernel
theorem d_X8_enters_222 : decode cX8_enters 222 = .ok (.getfield 47, 3) := by decide +kernel
theorem d_X8_enters_225 : decode cX8_enters 225 = .ok (.bipush 8, 2) := by decide +kernel
theorem d_X8_enters_227 : decode cX8_enters 227 = .ok (.iload_n 1, 1) := by decide +kernel
theorem d_X8_enters_228 : decode cX8_enters 228 = .ok (.imul, 1) := by decide +kernel
theorem d_X8_enters_229 : decode cX8_enters 229 = .ok (.iload 6, 2) := by decide +kernel
theorem d_X8_enters_231 : decode cX8_enters 231 = .ok (.iadd, 1) := by decide +kernel
theorem d_X8_enters_232 : decode cX8_enters 232 = .ok (.dup2, 1) := by decide +kernel
theorem d_X8_enters_233 : decode cX8_enters 233 = .ok (.iaload, 1) := by decide +kernel
theorem d_X8_enters_234 : decode cX8_enters 234 = .ok (.iconst 1, 1) := by decide +kernel
theorem d_X8_enters_235 : decode cX8_enters 235 = .ok (.iadd, 1) := by decide +kernel
theorem d_X8_enters_236 : decode cX8_enters 236 = .ok (.iastore, 1) := by decide +kernel
theorem d_X8_enters_237 : decode cX8_enters 237 = .ok (.aload_n 0, 1) := by decide +kernel
theorem d_X8_enters_238 : decode cX8_enters 238 = .ok (.aload_n 0, 1) := by decide +kernel
theorem d_X8_enters_239 : decode cX8_enters 239 = .ok (.getfield 44, 3) := by decide +kernel
theorem fk_RX8_44 : FK RX8 44 8 11 := ⟨RX8, TX8, 43, rfl, by decide, ws_X8, KW.at (i := 1093) (by decide +kernel) rfl⟩
theorem d_X8_enters_242 : decode cX8_enters 242 = .ok (.bipush 8, 2) := by decide +kernel
theorem d_X8_enters_244 : decode cX8_enters 244 = .ok (.iload_n 1, 1) := by decide +kernel
theorem d_X8_enters_245 : decode cX8_enters 245 = .ok (.imul, 1) := by decide +kernel
theorem d_X8_enters_246 : decode cX8_enters 246 = .ok (.iload 6, 2) := by decide +kernel
theorem d_X8_enters_248 : decode cX8_enters 248 = .ok (.iadd, 1) := by decide +kernel
theorem d_X8_enters_249 : decode cX8_enters 249 = .ok (.iaload, 1) := by decide +kernel
theorem sh_44 : SH.getD 44 (9, 0, []) = (1, 1920, []) := rfl
theorem d_X8_enters_250 : decode cX8_enters 250 = .ok (.invokevirtual 152, 3) := by decide +kernel
theorem d_X8_enters_253 : decode cX8_enters 253 = .ok (.iload 7, 2) := by decide +kernel
theorem d_X8_enters_255 : decode cX8_enters 255 = .ok (.ifCond .eq 173, 3) := by decide +kernel
theorem d_X8_enters_428 : decode cX8_enters 428 = .ok (.aload_n 0, 1) := by decide +kernel
theorem d_X8_enters_429 : decode cX8_enters 429 = .ok (.aload_n 0, 1) := by decide +kernel
theorem d_X8_enters_430 : decode cX8_enters 430 = .ok (.getfield 32, 3) := by decide +kernel
theorem d_X8_enters_433 : decode cX8_enters 433 = .ok (.iload_n 1, 1) := by decide +kernel
theorem d_X8_enters_434 : decode cX8_enters 434 = .ok (.iaload, 1) := by decide +kernel
theorem d_X8_enters_435 : decode cX8_enters 435 = .ok (.invokevirtual 152, 3) := by decide +kernel
theorem d_X8_enters_438 : decode cX8_enters 438 = .ok (.return_, 1) := by decide +kernel
theorem d_X8_enters_258 : decode cX8_enters 258 = .ok (.aload_n 0, 1) := by decide +kernel
theorem d_X8_enters_259 : decode cX8_enters 259 = .ok (.getfield 38, 3) := by decide +kernel
theorem d_X8_enters_262 : decode cX8_enters 262 = .ok (.iload_n 1, 1) := by decide +kernel
theorem d_X8_enters_263 : decode cX8_enters 263 = .ok (.iaload, 1) := by decide +kernel
theorem d_X8_enters_264 : decode cX8_enters 264 = .ok (.iconst 1, 1) := by decide +kernel
theorem d_X8_enters_265 : decode cX8_enters 265 = .ok (.if_icmp .ne 19, 3) := by decide +kernel
theorem d_X8_enters_284 : decode cX8_enters 284 = .ok (.aload_n 0, 1) := by decide +kernel
theorem d_X8_enters_285 : decode cX8_enters 285 = .ok (.getfield 38, 3) := by decide +kernel
theorem d_X8_enters_288 : decode cX8_enters 288 = .ok (.iload_n 1, 1) := by decide +kernel
theorem d_X8_enters_289 : decode cX8_enters 289 = .ok (.iaload, 1) := by decide +kernel
theorem d_X8_enters_290 : decode cX8_enters 290 = .ok (.istore 10, 2) := by decide +kernel
theorem d_X8_enters_292 : decode cX8_enters 292 = .ok (.iload 10, 2) := by decide +kernel
theorem d_X8_enters_294 : decode cX8_enters 294 = .ok (.iload 6, 2) := by decide +kernel
theorem d_X8_enters_296 : decode cX8_enters 296 = .ok (.iconst 1, 1) := by decide +kernel
theorem d_X8_enters_297 : decode cX8_enters 297 = .ok (.iadd, 1) := by decide +kernel
theorem d_X8_enters_298 : decode cX8_enters 298 = .ok (.if_icmp .le 61, 3) := by decide +kernel
theorem d_X8_enters_301 : decode cX8_enters 301 = .ok (.aload_n 0, 1) := by decide +kernel
theorem d_X8_enters_302 : decode cX8_enters 302 = .ok (.getfield 44, 3) := by decide +kernel
theorem d_X8_enters_305 : decode cX8_enters 305 = .ok (.bipush 8, 2) := by decide +kernel
theorem d_X8_enters_307 : decode cX8_enters 307 = .ok (.iload_n 1, 1) := by decide +kernel
theorem d_X8_enters_308 : decode cX8_enters 308 = .ok (.imul, 1) := by decide +kernel
theorem d_X8_enters_309 : decode cX8_enters 309 = .ok (.iload 10, 2) := by decide +kernel
theorem d_X8_enters_311 : decode cX8_enters 311 = .ok (.iadd, 1) := by decide +kernel
theorem d_X8_enters_312 : decode cX8_enters 312 = .ok (.aload_n 0, 1) := by decide +kernel
theorem d_X8_enters_313 : decode cX8_enters 313 = .ok (.getfield 44, 3) := by decide +kernel
theorem d_X8_enters_316 : decode cX8_enters 316 = .ok (.bipush 8, 2) := by decide +kernel
theorem d_X8_enters_318 : decode cX8_enters 318 = .ok (.iload_n 1, 1) := by decide +kernel
theorem d_X8_enters_319 : decode cX8_enters 319 = .ok (.imul, 1) := by decide +kernel
theorem d_X8_enters_320 : decode cX8_enters 320 = .ok (.iload 10, 2) := by decide +kernel
theorem d_X8_enters_322 : decode cX8_enters 322 = .ok (.iadd, 1) := by decide +kernel
theorem d_X8_enters_323 : decode cX8_enters 323 = .ok (.iconst 1, 1) := by decide +kernel
theorem d_X8_enters_324 : decode cX8_enters 324 = .ok (.isub, 1) := by decide +kernel
theorem d_X8_enters_325 : decode cX8_enters 325 = .ok (.iaload, 1) := by decide +kernel
theorem d_X8_enters_326 : decode cX8_enters 326 = .ok (.iastore, 1) := by decide +kernel
theorem d_X8_enters_327 : decode cX8_enters 327 = .ok (.aload_n 0, 1) := by decide +kernel
theorem d_X8_enters_328 : decode cX8_enters 328 = .ok (.getfield 47, 3) := by decide +kernel
theorem d_X8_enters_331 : decode cX8_enters 331 = .ok (.bipush 8, 2) := by decide +kernel
theorem d_X8_enters_333 : decode cX8_enters 333 = .ok (.iload_n 1, 1) := by decide +kernel
theorem d_X8_enters_334 : decode cX8_enters 334 = .ok (.imul, 1) := by decide +kernel
theorem d_X8_enters_335 : decode cX8_enters 335 = .ok (.iload 10, 2) := by decide +kernel
theorem d_X8_enters_337 : decode cX8_enters 337 = .ok (.iadd, 1) := by decide +kernel
theorem d_X8_enters_338 : decode cX8_enters 338 = .ok (.aload_n 0, 1) := by decide +kernel
theorem d_X8_enters_339 : decode cX8_enters 339 = .ok (.getfield 47, 3) := by decide +kernel
theorem d_X8_enters_342 : decode cX8_enters 342 = .ok (.bipush 8, 2) := by decide +kernel
theorem d_X8_enters_344 : decode cX8_enters 344 = .ok (.iload_n 1, 1) := by decide +kernel
theorem d_X8_enters_345 : decode cX8_enters 345 = .ok (.imul, 1) := by decide +kernel
theorem d_X8_enters_346 : decode cX8_enters 346 = .ok (.iload 10, 2) := by decide +kernel
theorem d_X8_enters_348 : decode cX8_enters 348 = .ok (.iadd, 1) := by decide +kernel
theorem d_X8_enters_349 : decode cX8_enters 349 = .ok (.iconst 1, 1) := by decide +kernel
theorem d_X8_enters_350 : decode cX8_enters 350 = .ok (.isub, 1) := by decide +kernel
theorem d_X8_enters_351 : decode cX8_enters 351 = .ok (.iaload, 1) := by decide +kernel
theorem d_X8_enters_352 : decode cX8_enters 352 = .ok (.iastore, 1) := by decide +kernel
theorem d_X8_enters_353 : decode cX8_enters 353 = .ok (.iinc 10 (-1), 3) := by decide +kernel
theorem d_X8_enters_356 : decode cX8_enters 356 = .ok (.goto (-64), 3) := by decide +kernel
theorem d_X8_enters_359 : decode cX8_enters 359 = .ok (.aload_n 0, 1) := by decide +kernel
theorem d_X8_enters_360 : decode cX8_enters 360 = .ok (.getfield 44, 3) := by decide +kernel
theorem d_X8_enters_363 : decode cX8_enters 363 = .ok (.bipush 8, 2) := by decide +kernel
theorem d_X8_enters_365 : decode cX8_enters 365 = .ok (.iload_n 1, 1) := by decide +kernel
theorem d_X8_enters_366 : decode cX8_enters 366 = .ok (.imul, 1) := by decide +kernel
theorem d_X8_enters_367 : decode cX8_enters 367 = .ok (.iload 6, 2) := by decide +kernel
theorem d_X8_enters_369 : decode cX8_enters 369 = .ok (.iadd, 1) := by decide +kernel
theorem d_X8_enters_370 : decode cX8_enters 370 = .ok (.iconst 1, 1) := by decide +kernel
theorem d_X8_enters_371 : decode cX8_enters 371 = .ok (.iadd, 1) := by decide +kernel
theorem d_X8_enters_372 : decode cX8_enters 372 = .ok (.aload_n 0, 1) := by decide +kernel
theorem d_X8_enters_373 : decode cX8_enters 373 = .ok (.getfield 110, 3) := by decide +kernel
theorem d_X8_enters_376 : decode cX8_enters 376 = .ok (.iload 5, 2) := by decide +kernel
theorem d_X8_enters_378 : decode cX8_enters 378 = .ok (.iaload, 1) := by decide +kernel
theorem d_X8_enters_379 : decode cX8_enters 379 = .ok (.iastore, 1) := by decide +kernel
theorem d_X8_enters_380 : decode cX8_enters 380 = .ok (.aload_n 0, 1) := by decide +kernel
theorem d_X8_enters_381 : decode cX8_enters 381 = .ok (.getfield 47, 3) := by decide +kernel
theorem d_X8_enters_384 : decode cX8_enters 384 = .ok (.bipush 8, 2) := by decide +kernel
theorem d_X8_enters_386 : decode cX8_enters 386 = .ok (.iload_n 1, 1) := by decide +kernel
theorem d_X8_enters_387 : decode cX8_enters 387 = .ok (.imul, 1) := by decide +kernel
theorem d_X8_enters_388 : decode cX8_enters 388 = .ok (.iload 6, 2) := by decide +kernel
theorem d_X8_enters_390 : decode cX8_enters 390 = .ok (.iadd, 1) := by decide +kernel
theorem d_X8_enters_391 : decode cX8_enters 391 = .ok (.iconst 1, 1) := by decide +kernel
theorem d_X8_enters_392 : decode cX8_enters 392 = .ok (.iadd, 1) := by decide +kernel
theorem d_X8_enters_393 : decode cX8_enters 393 = .ok (.iconst 2, 1) := by decide +kernel
theorem d_X8_enters_394 : decode cX8_enters 394 = .ok (.iastore, 1) := by decide +kernel
theorem d_X8_enters_395 : decode cX8_enters 395 = .ok (.aload_n 0, 1) := by decide +kernel
theorem d_X8_enters_396 : decode cX8_enters 396 = .ok (.getfield 47, 3) := by decide +kernel
theorem d_X8_enters_399 : decode cX8_enters 399 = .ok (.bipush 8, 2) := by decide +kernel
theorem d_X8_enters_401 : decode cX8_enters 401 = .ok (.iload_n 1, 1) := by decide +kernel
theorem d_X8_enters_402 : decode cX8_enters 402 = .ok (.imul, 1) := by decide +kernel
theorem d_X8_enters_403 : decode cX8_enters 403 = .ok (.iload 6, 2) := by decide +kernel
theorem d_X8_enters_405 : decode cX8_enters 405 = .ok (.iadd, 1) := by decide +kernel
theorem d_X8_enters_406 : decode cX8_enters 406 = .ok (.iconst 3, 1) := by decide +kernel
theorem d_X8_enters_407 : decode cX8_enters 407 = .ok (.iastore, 1) := by decide +kernel
theorem d_X8_enters_408 : decode cX8_enters 408 = .ok (.aload_n 0, 1) := by decide +kernel
theorem d_X8_enters_409 : decode cX8_enters 409 = .ok (.getfield 38, 3) := by decide +kernel
theorem d_X8_enters_412 : decode cX8_enters 412 = .ok (.iload_n 1, 1) := by decide +kernel
theorem d_X8_enters_413 : decode cX8_enters 413 = .ok (.dup2, 1) := by decide +kernel
theorem d_X8_enters_414 : decode cX8_enters 414 = .ok (.iaload, 1) := by decide +kernel
theorem d_X8_enters_415 : decode cX8_enters 415 = .ok (.iconst 1, 1) := by decide +kernel
theorem d_X8_enters_416 : decode cX8_enters 416 = .ok (.iadd, 1) := by decide +kernel
theorem d_X8_enters_417 : decode cX8_enters 417 = .ok (.iastore, 1) := by decide +kernel
theorem d_X8_enters_418 : decode cX8_enters 418 = .ok (.aload_n 0, 1) := by decide +kernel
theorem d_X8_enters_419 : decode cX8_enters 419 = .ok (.aload_n 0, 1) := by decide +kernel
theorem d_X8_enters_420 : decode cX8_enters 420 = .ok (.getfield 41, 3) := by decide +kernel
theorem d_X8_enters_423 : decode cX8_enters 423 = .ok (.iload_n 1, 1) := by decide +kernel
theorem d_X8_enters_424 : decode cX8_enters 424 = .ok (.iaload, 1) := by decide +kernel
theorem d_X8_enters_425 : decode cX8_enters 425 = .ok (.invokevirtual 152, 3) := by decide +kernel
theorem d_X8_enters_268 : decode cX8_enters 268 = .ok (.aload_n 0, 1) := by decide +kernel
theorem d_X8_enters_269 : decode cX8_enters 269 = .ok (.getfield 41, 3) := by decide +kernel
theorem d_X8_enters_272 : decode cX8_enters 272 = .ok (.iload_n 1, 1) := by decide +kernel
theorem d_X8_enters_273 : decode cX8_enters 273 = .ok (.aload_n 0, 1) := by decide +kernel
theorem d_X8_enters_274 : decode cX8_enters 274 = .ok (.getfield 110, 3) := by decide +kernel
theorem d_X8_enters_277 : decode cX8_enters 277 = .ok (.iload 5, 2) := by decide +kernel
theorem d_X8_enters_279 : decode cX8_enters 279 = .ok (.iaload, 1) := by decide +kernel
theorem d_X8_enters_280 : decode cX8_enters 280 = .ok (.iastore, 1) := by decide +kernel
theorem d_X8_enters_281 : decode cX8_enters 281 = .ok (.iinc 5 1, 3) := by decide +kernel
theorem d_X8_enters_29 : decode cX8_enters 29 = .ok (.aload_n 0, 1) := by decide +kernel
theorem d_X8_enters_30 : decode cX8_enters 30 = .ok (.getfield 38, 3) := by decide +kernel
theorem d_X8_enters_33 : decode cX8_enters 33 = .ok (.iload_n 1, 1) := by decide +kernel
theorem d_X8_enters_34 : decode cX8_enters 34 = .ok (.iconst 1, 1) := by decide +kernel
theorem d_X8_enters_35 : decode cX8_enters 35 = .ok (.iastore, 1) := by decide +kernel
theorem d_X8_enters_36 : decode cX8_enters 36 = .ok (.aload_n 0, 1) := by decide +kernel
theorem d_X8_enters_37 : decode cX8_enters 37 = .ok (.getfield 44, 3) := by decide +kernel
theorem d_X8_enters_40 : decode cX8_enters 40 = .ok (.bipush 8, 2) := by decide +kernel
theorem d_X8_enters_42 : decode cX8_enters 42 = .ok (.iload_n 1, 1) := by decide +kernel
theorem d_X8_enters_43 : decode cX8_enters 43 = .ok (.imul, 1) := by decide +kernel
theorem d_X8_enters_44 : decode cX8_enters 44 = .ok (.aload_n 0, 1) := by decide +kernel
theorem d_X8_enters_45 : decode cX8_enters 45 = .ok (.getfield 110, 3) := by decide +kernel
theorem d_X8_enters_48 : decode cX8_enters 48 = .ok (.iload 5, 2) := by decide +kernel
theorem d_X8_enters_50 : decode cX8_enters 50 = .ok (.iaload, 1) := by decide +kernel
theorem d_X8_enters_51 : decode cX8_enters 51 = .ok (.iastore, 1) := by decide +kernel
theorem d_X8_enters_52 : decode cX8_enters 52 = .ok (.aload_n 0, 1) := by decide +kernel
theorem d_X8_enters_53 : decode cX8_enters 53 = .ok (.getfield 47, 3) := by decide +kernel
theorem d_X8_enters_56 : decode cX8_enters 56 = .ok (.bipush 8, 2) := by decide +kernel
theorem d_X8_enters_58 : decode cX8_enters 58 = .ok (.iload_n 1, 1) := by decide +kernel
theorem d_X8_enters_59 : decode cX8_enters 59 = .ok (.imul, 1) := by decide +kernel
theorem d_X8_enters_60 : decode cX8_enters 60 = .ok (.iconst 0, 1) := by decide +kernel
theorem d_X8_enters_61 : decode cX8_enters 61 = .ok (.iastore, 1) := by decide +kernel
theorem d_X8_makes_121 : decode cX8_makes 121 = .ok (.aload_n 0, 1) := by decide +kernel
theorem d_X8_makes_122 : decode cX8_makes 122 = .ok (.getfield 83, 3) := by decide +kernel
theorem fk_RX8_83 : FK RX8 83 8 24 := ⟨RX8, TX8, 43, rfl, by decide, ws_X8, KW.at (i := 1106) (by decide +kernel) rfl⟩
theorem d_X8_makes_125 : decode cX8_makes 125 = .ok (.aload_n 0, 1) := by decide +kernel
theorem d_X8_makes_126 : decode cX8_makes 126 = .ok (.getfield 35, 3) := by decide +kernel
theorem d_X8_makes_129 : decode cX8_makes 129 = .ok (.iload_n 1, 1) := by decide +kernel
theorem d_X8_makes_130 : decode cX8_makes 130 = .ok (.iaload, 1) := by decide +kernel
theorem d_X8_makes_131 : decode cX8_makes 131 = .ok (.dup2, 1) := by decide +kernel
theorem d_X8_makes_132 : decode cX8_makes 132 = .ok (.iaload, 1) := by decide +kernel
theorem sh_57 : SH.getD 57 (9, 0, []) = (1, 768, []) := rfl
theorem d_X8_makes_133 : decode cX8_makes 133 = .ok (.iconst 1, 1) := by decide +kernel
theorem d_X8_makes_134 : decode cX8_makes 134 = .ok (.iadd, 1) := by decide +kernel
theorem d_X8_makes_135 : decode cX8_makes 135 = .ok (.iastore, 1) := by decide +kernel
theorem d_X8_makes_136 : decode cX8_makes 136 = .ok (.aload_n 0, 1) := by decide +kernel
theorem d_X8_makes_137 : decode cX8_makes 137 = .ok (.aload_n 0, 1) := by decide +kernel
theorem d_X8_makes_138 : decode cX8_makes 138 = .ok (.getfield 80, 3) := by decide +kernel
theorem fk_RX8_80 : FK RX8 80 8 23 := ⟨RX8, TX8, 43, rfl, by decide, ws_X8, KW.at (i := 1105) (by decide +kernel) rfl⟩
theorem d_X8_makes_141 : decode cX8_makes 141 = .ok (.aload_n 0, 1) := by decide +kernel
theorem d_X8_makes_142 : decode cX8_makes 142 = .ok (.getfield 35, 3) := by decide +kernel
theorem d_X8_makes_145 : decode cX8_makes 145 = .ok (.iload_n 1, 1) := by decide +kernel
theorem d_X8_makes_146 : decode cX8_makes 146 = .ok (.iaload, 1) := by decide +kernel
theorem d_X8_makes_147 : decode cX8_makes 147 = .ok (.iaload, 1) := by decide +kernel
theorem sh_56 : SH.getD 56 (9, 0, []) = (1, 768, []) := rfl
theorem d_X8_makes_148 : decode cX8_makes 148 = .ok (.invokevirtual 152, 3) := by decide +kernel
theorem d_X8_makes_151 : decode cX8_makes 151 = .ok (.aload_n 0, 1) := by decide +kernel
theorem d_X8_makes_152 : decode cX8_makes 152 = .ok (.iload_n 1, 1) := by decide +kernel
theorem d_X8_makes_153 : decode cX8_makes 153 = .ok (.iconst 1, 1) := by decide +kernel
theorem d_X8_makes_154 : decode cX8_makes 154 = .ok (.invokevirtual 218, 3) := by decide +kernel
abbrev Y_X8_changes : YT := (cX8_changes, 4, none, yX8_changes, [], 2)
theorem mk_X8_changes : MK Y_X8_changes 2 := ⟨KW.at (i := 85) (by decide +kernel) rfl, KW.at (i := 1329) (by decide +kernel) rfl, ⟨by decide +kernel, by decide +kernel⟩, by decide +kernel, by decide +kernel, rfl, by decide⟩
theorem vm_X8_changes : KW (.instanceMethod (yN Y_X8_changes)) ∧ KW (.selects (yN Y_X8_changes).cls (yN Y_X8_changes) (yN Y_X8_changes)) := ⟨KW.at (i := 1328) (by decide +kernel) rfl, KW.at (i := 58) (by decide +kernel) rfl⟩
theorem ck_RX8_218 : CKV RX8 218 Y_X8_changes 2 := ⟨KW.at (i := 1326) (by decide +kernel) rfl, vm_X8_changes.1, vm_X8_changes.2, mk_X8_changes⟩
theorem d_X8_changes_0 : decode cX8_changes 0 = .ok (.aload_n 0, 1) := by decide +kernel
theorem d_X8_changes_1 : decode cX8_changes 1 = .ok (.iload_n 1, 1) := by decide +kernel
theorem d_X8_changes_2 : decode cX8_changes 2 = .ok (.iload_n 2, 1) := by decide +kernel
theorem d_X8_changes_3 : decode cX8_changes 3 = .ok (.invokevirtual 188, 3) := by decide +kernel
abbrev Y_X8_tells : YT := (cX8_tells, 3, none, yX8_tells, [], 1)
theorem mk_X8_tells : MK Y_X8_tells 2 := ⟨KW.at (i := 85) (by decide +kernel) rfl, KW.at (i := 1333) (by decide +kernel) rfl, ⟨by decide +kernel, by decide +kernel⟩, by decide +kernel, by decide +kernel, rfl, by decide⟩
theorem vm_X8_tells : KW (.instanceMethod (yN Y_X8_tells)) ∧ KW (.selects (yN Y_X8_tells).cls (yN Y_X8_tells) (yN Y_X8_tells)) := ⟨KW.at (i := 1332) (by decide +kernel) rfl, KW.at (i := 59) (by decide +kernel) rfl⟩
theorem ck_RX8_188 : CKV RX8 188 Y_X8_tells 2 := ⟨KW.at (i := 1330) (by decide +kernel) rfl, vm_X8_tells.1, vm_X8_tells.2, mk_X8_tells⟩
theorem d_X8_tells_0 : decode cX8_tells 0 = .ok (.aload_n 0, 1) := by decide +kernel
theorem d_X8_tells_1 : decode cX8_tells 1 = .ok (.getfield 89, 3) := by decide +kernel
theorem fk_RX8_89 : FK RX8 89 8 26 := ⟨RX8, TX8, 43, rfl, by decide, ws_X8, KW.at (i := 1108) (by decide +kernel) rfl⟩
theorem d_X8_tells_4 : decode cX8_tells 4 = .ok (.iload_n 1, 1) := by decide +kernel
theorem d_X8_tells_5 : decode cX8_tells 5 = .ok (.iaload, 1) := by decide +kernel
theorem sh_59 : SH.getD 59 (9, 0, []) = (1, 80, []) := rfl
theorem d_X8_tells_6 : decode cX8_tells 6 = .ok (.iload_n 2, 1) := by decide +kernel
theorem d_X8_tells_7 : decode cX8_tells 7 = .ok (.iand, 1) := by decide +kernel
theorem d_X8_tells_8 : decode cX8_tells 8 = .ok (.ifCond .eq 49, 3) := by decide +kernel
theorem d_X8_tells_57 : decode cX8_tells 57 = .ok (.return_, 1) := by decide +kernel
theorem d_X8_tells_11 : decode cX8_tells 11 = .ok (.aload_n 0, 1) := by decide +kernel
theorem d_X8_tells_12 : decode cX8_tells 12 = .ok (.getfield 95, 3) := by decide +kernel
theorem fk_RX8_95 : FK RX8 95 8 28 := ⟨RX8, TX8, 43, rfl, by decide, ws_X8, KW.at (i := 1110) (by decide +kernel) rfl⟩
theorem d_X8_tells_15 : decode cX8_tells 15 = .ok (.iload_n 1, 1) := by decide +kernel
theorem d_X8_tells_16 : decode cX8_tells 16 = .ok (.baload, 1) := by decide +kernel
theorem sh_61 : SH.getD 61 (9, 0, []) = (2, 80, []) := rfl
theorem d_X8_tells_17 : decode cX8_tells 17 = .ok (.ifCond .ne 40, 3) := by decide +kernel
theorem d_X8_tells_20 : decode cX8_tells 20 = .ok (.aload_n 0, 1) := by decide +kernel
theorem d_X8_tells_21 : decode cX8_tells 21 = .ok (.getfield 95, 3) := by decide +kernel
theorem d_X8_tells_24 : decode cX8_tells 24 = .ok (.iload_n 1, 1) := by decide +kernel
theorem d_X8_tells_25 : decode cX8_tells 25 = .ok (.iconst 1, 1) := by decide +kernel
theorem d_X8_tells_26 : decode cX8_tells 26 = .ok (.bastore, 1) := by decide +kernel
theorem d_X8_tells_27 : decode cX8_tells 27 = .ok (.aload_n 0, 1) := by decide +kernel
theorem d_X8_tells_28 : decode cX8_tells 28 = .ok (.getfield 98, 3) := by decide +kernel
theorem fk_RX8_98 : FK RX8 98 8 30 := ⟨RX8, TX8, 43, rfl, by decide, ws_X8, KW.at (i := 1112) (by decide +kernel) rfl⟩
theorem d_X8_tells_31 : decode cX8_tells 31 = .ok (.aload_n 0, 1) := by decide +kernel
theorem d_X8_tells_32 : decode cX8_tells 32 = .ok (.getfield 185, 3) := by decide +kernel
theorem fk_RX8_185 : FK RX8 185 8 29 := ⟨RX8, TX8, 43, rfl, by decide, ws_X8, KW.at (i := 1111) (by decide +kernel) rfl⟩
theorem d_X8_tells_35 : decode cX8_tells 35 = .ok (.iload_n 1, 1) := by decide +kernel
theorem d_X8_tells_36 : decode cX8_tells 36 = .ok (.iastore, 1) := by decide +kernel
theorem sh_62 : SH.getD 62 (9, 0, []) = (1, 80, []) := rfl
theorem d_X8_tells_37 : decode cX8_tells 37 = .ok (.aload_n 0, 1) := by decide +kernel
theorem d_X8_tells_38 : decode cX8_tells 38 = .ok (.getfield 101, 3) := by decide +kernel
theorem fk_RX8_101 : FK RX8 101 8 31 := ⟨RX8, TX8, 43, rfl, by decide, ws_X8, KW.at (i := 1113) (by decide +kernel) rfl⟩
theorem d_X8_tells_41 : decode cX8_tells 41 = .ok (.aload_n 0, 1) := by decide +kernel
theorem d_X8_tells_42 : decode cX8_tells 42 = .ok (.getfield 185, 3) := by decide +kernel
theorem d_X8_tells_45 : decode cX8_tells 45 = .ok (.iload_n 2, 1) := by decide +kernel
theorem d_X8_tells_46 : decode cX8_tells 46 = .ok (.iastore, 1) := by decide +kernel
theorem sh_63 : SH.getD 63 (9, 0, []) = (1, 80, []) := rfl
theorem d_X8_tells_47 : decode cX8_tells 47 = .ok (.aload_n 0, 1) := by decide +kernel
theorem d_X8_tells_48 : decode cX8_tells 48 = .ok (.dup, 1) := by decide +kernel
theorem d_X8_tells_49 : decode cX8_tells 49 = .ok (.getfield 185, 3) := by decide +kernel
theorem d_X8_tells_52 : decode cX8_tells 52 = .ok (.iconst 1, 1) := by decide +kernel
theorem d_X8_tells_53 : decode cX8_tells 53 = .ok (.iadd, 1) := by decide +kernel
theorem d_X8_tells_54 : decode cX8_tells 54 = .ok (.putfield 185, 3) := by decide +kernel
theorem pk_RX8_185 : PK RX8 185 8 29 .int := ⟨RX8, TX8, 43, tyX8, rfl, by decide, ws_X8, KW.at (i := 1111) (by decide +kernel) rfl, tyX8_ok, nmX8, rfl, rfl⟩
theorem d_X8_changes_6 : decode cX8_changes 6 = .ok (.aload_n 0, 1) := by decide +kernel
theorem d_X8_changes_7 : decode cX8_changes 7 = .ok (.getfield 23, 3) := by decide +kernel
theorem d_X8_changes_10 : decode cX8_changes 10 = .ok (.iload_n 1, 1) := by decide +kernel
theorem d_X8_changes_11 : decode cX8_changes 11 = .ok (.iaload, 1) := by decide +kernel
theorem d_X8_changes_12 : decode cX8_changes 12 = .ok (.istore_n 3, 1) := by decide +kernel
theorem d_X8_changes_13 : decode cX8_changes 13 = .ok (.iload_n 3, 1) := by decide +kernel
theorem d_X8_changes_14 : decode cX8_changes 14 = .ok (.iconst (-1), 1) := by decide +kernel
theorem d_X8_changes_15 : decode cX8_changes 15 = .ok (.if_icmp .eq 28, 3) := by decide +kernel
theorem d_X8_changes_43 : decode cX8_changes 43 = .ok (.return_, 1) := by decide +kernel
theorem d_X8_changes_18 : decode cX8_changes 18 = .ok (.aload_n 0, 1) := by decide +kernel
theorem d_X8_changes_19 : decode cX8_changes 19 = .ok (.getfield 92, 3) := by decide +kernel
theorem fk_RX8_92 : FK RX8 92 8 27 := ⟨RX8, TX8, 43, rfl, by decide, ws_X8, KW.at (i := 1109) (by decide +kernel) rfl⟩
theorem d_X8_changes_22 : decode cX8_changes 22 = .ok (.iload_n 3, 1) := by decide +kernel
theorem d_X8_changes_23 : decode cX8_changes 23 = .ok (.baload, 1) := by decide +kernel
theorem sh_60 : SH.getD 60 (9, 0, []) = (2, 80, []) := rfl
theorem d_X8_changes_24 : decode cX8_changes 24 = .ok (.ifCond .eq 9, 3) := by decide +kernel
theorem d_X8_changes_33 : decode cX8_changes 33 = .ok (.aload_n 0, 1) := by decide +kernel
theorem d_X8_changes_34 : decode cX8_changes 34 = .ok (.getfield 23, 3) := by decide +kernel
theorem d_X8_changes_37 : decode cX8_changes 37 = .ok (.iload_n 3, 1) := by decide +kernel
theorem d_X8_changes_38 : decode cX8_changes 38 = .ok (.iaload, 1) := by decide +kernel
theorem d_X8_changes_39 : decode cX8_changes 39 = .ok (.istore_n 3, 1) := by decide +kernel
theorem d_X8_changes_40 : decode cX8_changes 40 = .ok (.goto (-27), 3) := by decide +kernel
theorem d_X8_changes_27 : decode cX8_changes 27 = .ok (.aload_n 0, 1) := by decide +kernel
theorem d_X8_changes_28 : decode cX8_changes 28 = .ok (.iload_n 3, 1) := by decide +kernel
theorem d_X8_changes_29 : decode cX8_changes 29 = .ok (.iload_n 2, 1) := by decide +kernel
theorem d_X8_changes_30 : decode cX8_changes 30 = .ok (.invokevirtual 188, 3) := by decide +kernel
theorem d_X8_makes_157 : decode cX8_makes 157 = .ok (.iload 4, 2) := by decide +kernel
theorem d_X8_makes_159 : decode cX8_makes 159 = .ok (.ireturn, 1) := by decide +kernel
theorem d_X8_make_55 : decode cX8_make 55 = .ok (.ireturn, 1) := by decide +kernel
theorem d_X8_make_46 : decode cX8_make 46 = .ok (.iconst 0, 1) := by decide +kernel
theorem d_X8_make_47 : decode cX8_make 47 = .ok (.ireturn, 1) := by decide +kernel
theorem d_X8_make_15 : decode cX8_make 15 = .ok (.iload_n 2, 1) := by decide +kernel
theorem d_X8_make_16 : decode cX8_make 16 = .ok (.invokestatic 221, 3) := by decide +kernel
abbrev Y_X8_isName : YT := (cX8_isName, 1, (some .boolean), yX8_isName, [], 2)
theorem mk_X8_isName : MK Y_X8_isName 1 := ⟨KW.at (i := 85) (by decide +kernel) rfl, KW.at (i := 1246) (by decide +kernel) rfl, ⟨by decide +kernel, by decide +kernel⟩, by decide +kernel, by decide +kernel, rfl, by decide⟩
theorem sm_X8_isName : KW (.static (yN Y_X8_isName)) := KW.at (i := 1245) (by decide +kernel) rfl
theorem ck_RX8_221 : CKS RX8 221 Y_X8_isName 1 := ⟨KW.at (i := 1244) (by decide +kernel) rfl, sm_X8_isName, mk_X8_isName⟩
theorem d_X8_isName_0 : decode cX8_isName 0 = .ok (.iload_n 0, 1) := by decide +kernel
theorem d_X8_isName_1 : decode cX8_isName 1 = .ok (.iconst 0, 1) := by decide +kernel
theorem d_X8_isName_2 : decode cX8_isName 2 = .ok (.sipush 9999, 3) := by decide +kernel
theorem d_X8_isName_5 : decode cX8_isName 5 = .ok (.invokestatic 124, 3) := by decide +kernel
theorem d_X8_isName_8 : decode cX8_isName 8 = .ok (.ireturn, 1) := by decide +kernel
theorem d_X8_make_19 : decode cX8_make 19 = .ok (.ifCond .ne 7, 3) := by decide +kernel
theorem d_X8_make_26 : decode cX8_make 26 = .ok (.aload_n 0, 1) := by decide +kernel
theorem d_X8_make_27 : decode cX8_make 27 = .ok (.iload_n 1, 1) := by decide +kernel
theorem d_X8_make_28 : decode cX8_make 28 = .ok (.iload_n 2, 1) := by decide +kernel
theorem d_X8_make_29 : decode cX8_make 29 = .ok (.invokevirtual 224, 3) := by decide +kernel
abbrev Y_X8_cannotMake : YT := (cX8_cannotMake, 3, (some .boolean), yX8_cannotMake, [], 5)
theorem mk_X8_cannotMake : MK Y_X8_cannotMake 2 := ⟨KW.at (i := 85) (by decide +kernel) rfl, KW.at (i := 1250) (by decide +kernel) rfl, ⟨by decide +kernel, by decide +kernel⟩, by decide +kernel, by decide +kernel, rfl, by decide⟩
theorem vm_X8_cannotMake : KW (.instanceMethod (yN Y_X8_cannotMake)) ∧ KW (.selects (yN Y_X8_cannotMake).cls (yN Y_X8_cannotMake) (yN Y_X8_cannotMake)) := ⟨KW.at (i := 1249) (by decide +kernel) rfl, KW.at (i := 39) (by decide +kernel) rfl⟩
theorem ck_RX8_224 : CKV RX8 224 Y_X8_cannotMake 2 := ⟨KW.at (i := 1247) (by decide +kernel) rfl, vm_X8_cannotMake.1, vm_X8_cannotMake.2, mk_X8_cannotMake⟩
theorem d_X8_cannotMake_0 : decode cX8_cannotMake 0 = .ok (.aload_n 0, 1) := by decide +kernel
theorem d_X8_cannotMake_1 : decode cX8_cannotMake 1 = .ok (.getfield 29, 3) := by decide +kernel
theorem d_X8_cannotMake_4 : decode cX8_cannotMake 4 = .ok (.iload_n 1, 1) := by decide +kernel
theorem d_X8_cannotMake_5 : decode cX8_cannotMake 5 = .ok (.iaload, 1) := by decide +kernel
theorem d_X8_cannotMake_6 : decode cX8_cannotMake 6 = .ok (.iconst (-1), 1) := by decide +kernel
theorem d_X8_cannotMake_7 : decode cX8_cannotMake 7 = .ok (.if_icmp .ne 33, 3) := by decide +kernel
theorem d_X8_cannotMake_40 : decode cX8_cannotMake 40 = .ok (.iconst 1, 1) := by decide +kernel
theorem d_X8_cannotMake_41 : decode cX8_cannotMake 41 = .ok (.ireturn, 1) := by decide +kernel
theorem d_X8_cannotMake_10 : decode cX8_cannotMake 10 = .ok (.aload_n 0, 1) := by decide +kernel
theorem d_X8_cannotMake_11 : decode cX8_cannotMake 11 = .ok (.iload_n 1, 1) := by decide +kernel
theorem d_X8_cannotMake_12 : decode cX8_cannotMake 12 = .ok (.iload_n 2, 1) := by decide +kernel
theorem d_X8_cannotMake_13 : decode cX8_cannotMake 13 = .ok (.invokevirtual 179, 3) := by decide +kernel
abbrev Y_X8_entryOf : YT := (cX8_entryOf, 5, (some .int), yX8_entryOf, [], 3)
theorem mk_X8_entryOf : MK Y_X8_entryOf 2 := ⟨KW.at (i := 85) (by decide +kernel) rfl, KW.at (i := 1254) (by decide +kernel) rfl, ⟨by decide +kernel, by decide +kernel⟩, by decide +kernel, by decide +kernel, rfl, by decide⟩
theorem vm_X8_entryOf : KW (.instanceMethod (yN Y_X8_entryOf)) ∧ KW (.selects (yN Y_X8_entryOf).cls (yN Y_X8_entryOf) (yN Y_X8_entryOf)) := ⟨KW.at (i := 1253) (by decide +kernel) rfl, KW.at (i := 40) (by decide +kernel) rfl⟩
theorem ck_RX8_179 : CKV RX8 179 Y_X8_entryOf 2 := ⟨KW.at (i := 1251) (by decide +kernel) rfl, vm_X8_entryOf.1, vm_X8_entryOf.2, mk_X8_entryOf⟩
theorem d_X8_entryOf_0 : decode cX8_entryOf 0 = .ok (.iconst (-1), 1) := by decide +kernel
theorem d_X8_entryOf_1 : decode cX8_entryOf 1 = .ok (.istore_n 3, 1) := by decide +kernel
theorem d_X8_entryOf_2 : decode cX8_entryOf 2 = .ok (.iconst 0, 1) := by decide +kernel
theorem d_X8_entryOf_3 : decode cX8_entryOf 3 = .ok (.istore 4, 2) := by decide +kernel
theorem d_X8_entryOf_5 : decode cX8_entryOf 5 = .ok (.iload 4, 2) := by decide +kernel
theorem d_X8_entryOf_7 : decode cX8_entryOf 7 = .ok (.aload_n 0, 1) := by decide +kernel
theorem d_X8_entryOf_8 : decode cX8_entryOf 8 = .ok (.iload_n 1, 1) := by decide +kernel
theorem d_X8_entryOf_9 : decode cX8_entryOf 9 = .ok (.invokevirtual 163, 3) := by decide +kernel
theorem d_X8_entryOf_12 : decode cX8_entryOf 12 = .ok (.if_icmp .ge 32, 3) := by decide +kernel
theorem d_X8_entryOf_44 : decode cX8_entryOf 44 = .ok (.iload_n 3, 1) := by decide +kernel
theorem d_X8_entryOf_45 : decode cX8_entryOf 45 = .ok (.ireturn, 1) := by decide +kernel
theorem d_X8_entryOf_15 : decode cX8_entryOf 15 = .ok (.aload_n 0, 1) := by decide +kernel
theorem d_X8_entryOf_16 : decode cX8_entryOf 16 = .ok (.getfield 53, 3) := by decide +kernel
theorem d_X8_entryOf_19 : decode cX8_entryOf 19 = .ok (.bipush 32, 2) := by decide +kernel
theorem d_X8_entryOf_21 : decode cX8_entryOf 21 = .ok (.iload_n 1, 1) := by decide +kernel
theorem d_X8_entryOf_22 : decode cX8_entryOf 22 = .ok (.imul, 1) := by decide +kernel
theorem d_X8_entryOf_23 : decode cX8_entryOf 23 = .ok (.iload 4, 2) := by decide +kernel
theorem d_X8_entryOf_25 : decode cX8_entryOf 25 = .ok (.iadd, 1) := by decide +kernel
theorem d_X8_entryOf_26 : decode cX8_entryOf 26 = .ok (.iaload, 1) := by decide +kernel
theorem d_X8_entryOf_27 : decode cX8_entryOf 27 = .ok (.iload_n 2, 1) := by decide +kernel
theorem d_X8_entryOf_28 : decode cX8_entryOf 28 = .ok (.if_icmp .ne 8, 3) := by decide +kernel
theorem d_X8_entryOf_37 : decode cX8_entryOf 37 = .ok (.istore_n 3, 1) := by decide +kernel
theorem d_X8_entryOf_38 : decode cX8_entryOf 38 = .ok (.iinc 4 1, 3) := by decide +kernel
theorem d_X8_entryOf_41 : decode cX8_entryOf 41 = .ok (.goto (-36), 3) := by decide +kernel
theorem d_X8_entryOf_36 : decode cX8_entryOf 36 = .ok (.iload_n 3, 1) := by decide +kernel
theorem d_X8_entryOf_31 : decode cX8_entryOf 31 = .ok (.iload 4, 2) := by decide +kernel
theorem d_X8_entryOf_33 : decode cX8_entryOf 33 = .ok (.goto 4, 3) := by decide +kernel
theorem d_X8_cannotMake_16 : decode cX8_cannotMake 16 = .ok (.iconst (-1), 1) := by decide +kernel
theorem d_X8_cannotMake_17 : decode cX8_cannotMake 17 = .ok (.if_icmp .ne 23, 3) := by decide +kernel
theorem d_X8_cannotMake_20 : decode cX8_cannotMake 20 = .ok (.aload_n 0, 1) := by decide +kernel
theorem d_X8_cannotMake_21 : decode cX8_cannotMake 21 = .ok (.iload_n 1, 1) := by decide +kernel
theorem d_X8_cannotMake_22 : decode cX8_cannotMake 22 = .ok (.iload_n 2, 1) := by decide +kernel
theorem d_X8_cannotMake_23 : decode cX8_cannotMake 23 = .ok (.invokevirtual 201, 3) := by decide +kernel
abbrev Y_X8_isFull : YT := (cX8_isFull, 3, (some .boolean), yX8_isFull, [], 4)
theorem mk_X8_isFull : MK Y_X8_isFull 2 := ⟨KW.at (i := 85) (by decide +kernel) rfl, KW.at (i := 1266) (by decide +kernel) rfl, ⟨by decide +kernel, by decide +kernel⟩, by decide +kernel, by decide +kernel, rfl, by decide⟩
theorem vm_X8_isFull : KW (.instanceMethod (yN Y_X8_isFull)) ∧ KW (.selects (yN Y_X8_isFull).cls (yN Y_X8_isFull) (yN Y_X8_isFull)) := ⟨KW.at (i := 1265) (by decide +kernel) rfl, KW.at (i := 43) (by decide +kernel) rfl⟩
theorem ck_RX8_201 : CKV RX8 201 Y_X8_isFull 2 := ⟨KW.at (i := 1263) (by decide +kernel) rfl, vm_X8_isFull.1, vm_X8_isFull.2, mk_X8_isFull⟩
theorem d_X8_isFull_0 : decode cX8_isFull 0 = .ok (.aload_n 0, 1) := by decide +kernel
theorem d_X8_isFull_1 : decode cX8_isFull 1 = .ok (.iload_n 1, 1) := by decide +kernel
theorem d_X8_isFull_2 : decode cX8_isFull 2 = .ok (.iload_n 2, 1) := by decide +kernel
theorem d_X8_isFull_3 : decode cX8_isFull 3 = .ok (.invokevirtual 172, 3) := by decide +kernel
theorem d_X8_isFull_6 : decode cX8_isFull 6 = .ok (.ifCond .eq 18, 3) := by decide +kernel
theorem d_X8_isFull_24 : decode cX8_isFull 24 = .ok (.iconst 0, 1) := by decide +kernel
theorem d_X8_isFull_25 : decode cX8_isFull 25 = .ok (.ireturn, 1) := by decide +kernel
theorem d_X8_isFull_9 : decode cX8_isFull 9 = .ok (.aload_n 0, 1) := by decide +kernel
theorem d_X8_isFull_10 : decode cX8_isFull 10 = .ok (.getfield 38, 3) := by decide +kernel
theorem d_X8_isFull_13 : decode cX8_isFull 13 = .ok (.iload_n 1, 1) := by decide +kernel
theorem d_X8_isFull_14 : decode cX8_isFull 14 = .ok (.iaload, 1) := by decide +kernel
theorem d_X8_isFull_15 : decode cX8_isFull 15 = .ok (.bipush 8, 2) := by decide +kernel
theorem d_X8_isFull_17 : decode cX8_isFull 17 = .ok (.if_icmp .ne 7, 3) := by decide +kernel
theorem d_X8_isFull_20 : decode cX8_isFull 20 = .ok (.iconst 1, 1) := by decide +kernel
theorem d_X8_isFull_21 : decode cX8_isFull 21 = .ok (.goto 4, 3) := by decide +kernel
theorem d_X8_cannotMake_26 : decode cX8_cannotMake 26 = .ok (.ifCond .ne 14, 3) := by decide +kernel
theorem d_X8_cannotMake_29 : decode cX8_cannotMake 29 = .ok (.aload_n 0, 1) := by decide +kernel
theorem d_X8_cannotMake_30 : decode cX8_cannotMake 30 = .ok (.getfield 16, 3) := by decide +kernel
theorem d_X8_cannotMake_33 : decode cX8_cannotMake 33 = .ok (.iconst 0, 1) := by decide +kernel
theorem d_X8_cannotMake_34 : decode cX8_cannotMake 34 = .ok (.iaload, 1) := by decide +kernel
theorem d_X8_cannotMake_35 : decode cX8_cannotMake 35 = .ok (.bipush 80, 2) := by decide +kernel
theorem d_X8_cannotMake_37 : decode cX8_cannotMake 37 = .ok (.if_icmp .ne 5, 3) := by decide +kernel
theorem d_X8_cannotMake_42 : decode cX8_cannotMake 42 = .ok (.aload_n 0, 1) := by decide +kernel
theorem d_X8_cannotMake_43 : decode cX8_cannotMake 43 = .ok (.iconst 0, 1) := by decide +kernel
theorem d_X8_cannotMake_44 : decode cX8_cannotMake 44 = .ok (.putfield 146, 3) := by decide +kernel
theorem pk_RX8_146 : PK RX8 146 8 37 .int := ⟨RX8, TX8, 43, tyX8, rfl, by decide, ws_X8, KW.at (i := 1119) (by decide +kernel) rfl, tyX8_ok, nmX8, rfl, rfl⟩
theorem d_X8_cannotMake_47 : decode cX8_cannotMake 47 = .ok (.aload_n 0, 1) := by decide +kernel
theorem d_X8_cannotMake_48 : decode cX8_cannotMake 48 = .ok (.bipush 6, 2) := by decide +kernel
theorem d_X8_cannotMake_50 : decode cX8_cannotMake 50 = .ok (.invokevirtual 176, 3) := by decide +kernel
abbrev Y_X8_wants : YT := (cX8_wants, 2, none, yX8_wants, [], 1)
theorem mk_X8_wants : MK Y_X8_wants 1 := ⟨KW.at (i := 85) (by decide +kernel) rfl, KW.at (i := 1281) (by decide +kernel) rfl, ⟨by decide +kernel, by decide +kernel⟩, by decide +kernel, by decide +kernel, rfl, by decide⟩
theorem vm_X8_wants : KW (.instanceMethod (yN Y_X8_wants)) ∧ KW (.selects (yN Y_X8_wants).cls (yN Y_X8_wants) (yN Y_X8_wants)) := ⟨KW.at (i := 1280) (by decide +kernel) rfl, KW.at (i := 46) (by decide +kernel) rfl⟩
theorem ck_RX8_176 : CKV RX8 176 Y_X8_wants 1 := ⟨KW.at (i := 1278) (by decide +kernel) rfl, vm_X8_wants.1, vm_X8_wants.2, mk_X8_wants⟩
theorem d_X8_wants_0 : decode cX8_wants 0 = .ok (.aload_n 0, 1) := by decide +kernel
theorem d_X8_wants_1 : decode cX8_wants 1 = .ok (.getfield 107, 3) := by decide +kernel
theorem fk_RX8_107 : FK RX8 107 8 38 := ⟨RX8, TX8, 43, rfl, by decide, ws_X8, KW.at (i := 1120) (by decide +kernel) rfl⟩
theorem d_X8_wants_4 : decode cX8_wants 4 = .ok (.aload_n 0, 1) := by decide +kernel
theorem d_X8_wants_5 : decode cX8_wants 5 = .ok (.getfield 146, 3) := by decide +kernel
theorem d_X8_wants_8 : decode cX8_wants 8 = .ok (.iload_n 1, 1) := by decide +kernel
theorem d_X8_wants_9 : decode cX8_wants 9 = .ok (.iastore, 1) := by decide +kernel
theorem sh_65 : SH.getD 65 (9, 0, []) = (1, 8, []) := rfl
theorem d_X8_wants_10 : decode cX8_wants 10 = .ok (.aload_n 0, 1) := by decide +kernel
theorem d_X8_wants_11 : decode cX8_wants 11 = .ok (.dup, 1) := by decide +kernel
theorem d_X8_wants_12 : decode cX8_wants 12 = .ok (.getfield 146, 3) := by decide +kernel
theorem d_X8_wants_15 : decode cX8_wants 15 = .ok (.iconst 1, 1) := by decide +kernel
theorem d_X8_wants_16 : decode cX8_wants 16 = .ok (.iadd, 1) := by decide +kernel
theorem d_X8_wants_17 : decode cX8_wants 17 = .ok (.putfield 146, 3) := by decide +kernel
theorem d_X8_wants_20 : decode cX8_wants 20 = .ok (.return_, 1) := by decide +kernel
theorem d_X8_cannotMake_53 : decode cX8_cannotMake 53 = .ok (.aload_n 0, 1) := by decide +kernel
theorem d_X8_cannotMake_54 : decode cX8_cannotMake 54 = .ok (.iload_n 1, 1) := by decide +kernel
theorem d_X8_cannotMake_55 : decode cX8_cannotMake 55 = .ok (.iload_n 2, 1) := by decide +kernel
theorem d_X8_cannotMake_56 : decode cX8_cannotMake 56 = .ok (.invokevirtual 204, 3) := by decide +kernel
abbrev Y_X8_wantsEntry : YT := (cX8_wantsEntry, 3, none, yX8_wantsEntry, [], 4)
theorem mk_X8_wantsEntry : MK Y_X8_wantsEntry 2 := ⟨KW.at (i := 85) (by decide +kernel) rfl, KW.at (i := 1285) (by decide +kernel) rfl, ⟨by decide +kernel, by decide +kernel⟩, by decide +kernel, by decide +kernel, rfl, by decide⟩
theorem vm_X8_wantsEntry : KW (.instanceMethod (yN Y_X8_wantsEntry)) ∧ KW (.selects (yN Y_X8_wantsEntry).cls (yN Y_X8_wantsEntry) (yN Y_X8_wantsEntry)) := ⟨KW.at (i := 1284) (by decide +kernel) rfl, KW.at (i := 47) (by decide +kernel) rfl⟩
theorem ck_RX8_204 : CKV RX8 204 Y_X8_wantsEntry 2 := ⟨KW.at (i := 1282) (by decide +kernel) rfl, vm_X8_wantsEntry.1, vm_X8_wantsEntry.2, mk_X8_wantsEntry⟩
theorem d_X8_wantsEntry_0 : decode cX8_wantsEntry 0 = .ok (.aload_n 0, 1) := by decide +kernel
theorem d_X8_wantsEntry_1 : decode cX8_wantsEntry 1 = .ok (.getfield 38, 3) := by decide +kernel
theorem d_X8_wantsEntry_4 : decode cX8_wantsEntry 4 = .ok (.iload_n 1, 1) := by decide +kernel
theorem d_X8_wantsEntry_5 : decode cX8_wantsEntry 5 = .ok (.iaload, 1) := by decide +kernel
theorem d_X8_wantsEntry_6 : decode cX8_wantsEntry 6 = .ok (.ifCond .ne 11, 3) := by decide +kernel
theorem d_X8_wantsEntry_17 : decode cX8_wantsEntry 17 = .ok (.aload_n 0, 1) := by decide +kernel
theorem d_X8_wantsEntry_18 : decode cX8_wantsEntry 18 = .ok (.iload_n 1, 1) := by decide +kernel
theorem d_X8_wantsEntry_19 : decode cX8_wantsEntry 19 = .ok (.iload_n 2, 1) := by decide +kernel
theorem d_X8_wantsEntry_20 : decode cX8_wantsEntry 20 = .ok (.invokevirtual 172, 3) := by decide +kernel
theorem d_X8_wantsEntry_23 : decode cX8_wantsEntry 23 = .ok (.ifCond .eq 24, 3) := by decide +kernel
theorem d_X8_wantsEntry_47 : decode cX8_wantsEntry 47 = .ok (.return_, 1) := by decide +kernel
theorem d_X8_wantsEntry_26 : decode cX8_wantsEntry 26 = .ok (.aload_n 0, 1) := by decide +kernel
theorem d_X8_wantsEntry_27 : decode cX8_wantsEntry 27 = .ok (.getfield 38, 3) := by decide +kernel
theorem d_X8_wantsEntry_30 : decode cX8_wantsEntry 30 = .ok (.iload_n 1, 1) := by decide +kernel
theorem d_X8_wantsEntry_31 : decode cX8_wantsEntry 31 = .ok (.iaload, 1) := by decide +kernel
theorem d_X8_wantsEntry_32 : decode cX8_wantsEntry 32 = .ok (.iconst 1, 1) := by decide +kernel
theorem d_X8_wantsEntry_33 : decode cX8_wantsEntry 33 = .ok (.if_icmp .ne 9, 3) := by decide +kernel
theorem d_X8_wantsEntry_42 : decode cX8_wantsEntry 42 = .ok (.aload_n 0, 1) := by decide +kernel
theorem d_X8_wantsEntry_43 : decode cX8_wantsEntry 43 = .ok (.iconst 5, 1) := by decide +kernel
theorem d_X8_wantsEntry_44 : decode cX8_wantsEntry 44 = .ok (.invokevirtual 176, 3) := by decide +kernel
theorem d_X8_wantsEntry_36 : decode cX8_wantsEntry 36 = .ok (.aload_n 0, 1) := by decide +kernel
theorem d_X8_wantsEntry_37 : decode cX8_wantsEntry 37 = .ok (.bipush 9, 2) := by decide +kernel
theorem d_X8_wantsEntry_39 : decode cX8_wantsEntry 39 = .ok (.invokevirtual 176, 3) := by decide +kernel
theorem d_X8_wantsEntry_9 : decode cX8_wantsEntry 9 = .ok (.aload_n 0, 1) := by decide +kernel
theorem d_X8_wantsEntry_10 : decode cX8_wantsEntry 10 = .ok (.iconst 5, 1) := by decide +kernel
theorem d_X8_wantsEntry_11 : decode cX8_wantsEntry 11 = .ok (.invokevirtual 176, 3) := by decide +kernel
theorem d_X8_wantsEntry_14 : decode cX8_wantsEntry 14 = .ok (.goto 33, 3) := by decide +kernel
theorem d_X8_cannotMake_59 : decode cX8_cannotMake 59 = .ok (.aload_n 0, 1) := by decide +kernel
theorem d_X8_cannotMake_60 : decode cX8_cannotMake 60 = .ok (.invokevirtual 207, 3) := by decide +kernel
abbrev Y_X8_gets : YT := (cX8_gets, 4, (some .boolean), yX8_gets, [], 4)
theorem mk_X8_gets : MK Y_X8_gets 0 := ⟨KW.at (i := 85) (by decide +kernel) rfl, KW.at (i := 1289) (by decide +kernel) rfl, ⟨by decide +kernel, by decide +kernel⟩, by decide +kernel, by decide +kernel, rfl, by decide⟩
theorem vm_X8_gets : KW (.instanceMethod (yN Y_X8_gets)) ∧ KW (.selects (yN Y_X8_gets).cls (yN Y_X8_gets) (yN Y_X8_gets)) := ⟨KW.at (i := 1288) (by decide +kernel) rfl, KW.at (i := 48) (by decide +kernel) rfl⟩
theorem ck_RX8_207 : CKV RX8 207 Y_X8_gets 0 := ⟨KW.at (i := 1286) (by decide +kernel) rfl, vm_X8_gets.1, vm_X8_gets.2, mk_X8_gets⟩
theorem d_X8_gets_0 : decode cX8_gets 0 = .ok (.aload_n 0, 1) := by decide +kernel
theorem d_X8_gets_1 : decode cX8_gets 1 = .ok (.getfield 13, 3) := by decide +kernel
theorem fk_RX8_13 : FK RX8 13 8 1 := ⟨RX8, TX8, 43, rfl, by decide, ws_X8, KW.at (i := 1083) (by decide +kernel) rfl⟩
theorem d_X8_gets_4 : decode cX8_gets 4 = .ok (.iconst 0, 1) := by decide +kernel
theorem d_X8_gets_5 : decode cX8_gets 5 = .ok (.iaload, 1) := by decide +kernel
theorem sh_34 : SH.getD 34 (9, 0, []) = (1, 3, []) := rfl
theorem d_X8_gets_6 : decode cX8_gets 6 = .ok (.istore_n 1, 1) := by decide +kernel
theorem d_X8_gets_7 : decode cX8_gets 7 = .ok (.iconst 0, 1) := by decide +kernel
theorem d_X8_gets_8 : decode cX8_gets 8 = .ok (.istore_n 2, 1) := by decide +kernel
theorem d_X8_gets_9 : decode cX8_gets 9 = .ok (.iload_n 2, 1) := by decide +kernel
theorem d_X8_gets_10 : decode cX8_gets 10 = .ok (.sipush 1024, 3) := by decide +kernel
theorem d_X8_gets_13 : decode cX8_gets 13 = .ok (.if_icmp .ge 21, 3) := by decide +kernel
theorem d_X8_gets_16 : decode cX8_gets 16 = .ok (.aload_n 0, 1) := by decide +kernel
theorem d_X8_gets_17 : decode cX8_gets 17 = .ok (.getfield 113, 3) := by decide +kernel
theorem fk_RX8_113 : FK RX8 113 8 40 := ⟨RX8, TX8, 43, rfl, by decide, ws_X8, KW.at (i := 1122) (by decide +kernel) rfl⟩
theorem d_X8_gets_20 : decode cX8_gets 20 = .ok (.iload_n 2, 1) := by decide +kernel
theorem d_X8_gets_21 : decode cX8_gets 21 = .ok (.aload_n 0, 1) := by decide +kernel
theorem d_X8_gets_22 : decode cX8_gets 22 = .ok (.getfield 7, 3) := by decide +kernel
theorem d_X8_gets_25 : decode cX8_gets 25 = .ok (.iload_n 2, 1) := by decide +kernel
theorem d_X8_gets_26 : decode cX8_gets 26 = .ok (.iaload, 1) := by decide +kernel
theorem d_X8_gets_27 : decode cX8_gets 27 = .ok (.iastore, 1) := by decide +kernel
theorem sh_67 : SH.getD 67 (9, 0, []) = (1, 1024, []) := rfl
theorem d_X8_gets_28 : decode cX8_gets 28 = .ok (.iinc 2 1, 3) := by decide +kernel
theorem d_X8_gets_31 : decode cX8_gets 31 = .ok (.goto (-22), 3) := by decide +kernel
theorem d_X8_gets_34 : decode cX8_gets 34 = .ok (.iconst 1, 1) := by decide +kernel
theorem d_X8_gets_35 : decode cX8_gets 35 = .ok (.istore_n 2, 1) := by decide +kernel
theorem d_X8_gets_36 : decode cX8_gets 36 = .ok (.iconst 0, 1) := by decide +kernel
theorem d_X8_gets_37 : decode cX8_gets 37 = .ok (.istore_n 3, 1) := by decide +kernel
theorem d_X8_gets_38 : decode cX8_gets 38 = .ok (.iload_n 3, 1) := by decide +kernel
theorem d_X8_gets_39 : decode cX8_gets 39 = .ok (.aload_n 0, 1) := by decide +kernel
theorem d_X8_gets_40 : decode cX8_gets 40 = .ok (.getfield 146, 3) := by decide +kernel
theorem d_X8_gets_43 : decode cX8_gets 43 = .ok (.if_icmp .ge 45, 3) := by decide +kernel
theorem d_X8_gets_46 : decode cX8_gets 46 = .ok (.iload_n 2, 1) := by decide +kernel
theorem d_X8_gets_47 : decode cX8_gets 47 = .ok (.ifCond .eq 41, 3) := by decide +kernel
theorem d_X8_gets_50 : decode cX8_gets 50 = .ok (.aload_n 0, 1) := by decide +kernel
theorem d_X8_gets_51 : decode cX8_gets 51 = .ok (.getfield 110, 3) := by decide +kernel
theorem d_X8_gets_54 : decode cX8_gets 54 = .ok (.iload_n 3, 1) := by decide +kernel
theorem d_X8_gets_55 : decode cX8_gets 55 = .ok (.aload_n 0, 1) := by decide +kernel
theorem d_X8_gets_56 : decode cX8_gets 56 = .ok (.aload_n 0, 1) := by decide +kernel
theorem d_X8_gets_57 : decode cX8_gets 57 = .ok (.getfield 107, 3) := by decide +kernel
theorem d_X8_gets_60 : decode cX8_gets 60 = .ok (.iload_n 3, 1) := by decide +kernel
theorem d_X8_gets_61 : decode cX8_gets 61 = .ok (.iaload, 1) := by decide +kernel
theorem d_X8_gets_62 : decode cX8_gets 62 = .ok (.invokevirtual 149, 3) := by decide +kernel
abbrev Y_X8_takes : YT := (cX8_takes, 4, (some .int), yX8_takes, [], 3)
theorem mk_X8_takes : MK Y_X8_takes 1 := ⟨KW.at (i := 85) (by decide +kernel) rfl, KW.at (i := 1293) (by decide +kernel) rfl, ⟨by decide +kernel, by decide +kernel⟩, by decide +kernel, by decide +kernel, rfl, by decide⟩
theorem vm_X8_takes : KW (.instanceMethod (yN Y_X8_takes)) ∧ KW (.selects (yN Y_X8_takes).cls (yN Y_X8_takes) (yN Y_X8_takes)) := ⟨KW.at (i := 1292) (by decide +kernel) rfl, KW.at (i := 49) (by decide +kernel) rfl⟩
theorem ck_RX8_149 : CKV RX8 149 Y_X8_takes 1 := ⟨KW.at (i := 1290) (by decide +kernel) rfl, vm_X8_takes.1, vm_X8_takes.2, mk_X8_takes⟩
theorem d_X8_takes_0 : decode cX8_takes 0 = .ok (.aload_n 0, 1) := by decide +kernel
theorem d_X8_takes_1 : decode cX8_takes 1 = .ok (.iload_n 1, 1) := by decide +kernel
theorem d_X8_takes_2 : decode cX8_takes 2 = .ok (.invokevirtual 140, 3) := by decide +kernel
abbrev Y_X8_freeFor : YT := (cX8_freeFor, 3, (some .int), yX8_freeFor, [], 2)
theorem mk_X8_freeFor : MK Y_X8_freeFor 1 := ⟨KW.at (i := 85) (by decide +kernel) rfl, KW.at (i := 1297) (by decide +kernel) rfl, ⟨by decide +kernel, by decide +kernel⟩, by decide +kernel, by decide +kernel, rfl, by decide⟩
theorem vm_X8_freeFor : KW (.instanceMethod (yN Y_X8_freeFor)) ∧ KW (.selects (yN Y_X8_freeFor).cls (yN Y_X8_freeFor) (yN Y_X8_freeFor)) := ⟨KW.at (i := 1296) (by decide +kernel) rfl, KW.at (i := 50) (by decide +kernel) rfl⟩
theorem ck_RX8_140 : CKV RX8 140 Y_X8_freeFor 1 := ⟨KW.at (i := 1294) (by decide +kernel) rfl, vm_X8_freeFor.1, vm_X8_freeFor.2, mk_X8_freeFor⟩
theorem d_X8_freeFor_0 : decode cX8_freeFor 0 = .ok (.iconst 0, 1) := by decide +kernel
theorem d_X8_freeFor_1 : decode cX8_freeFor 1 = .ok (.istore_n 2, 1) := by decide +kernel
theorem d_X8_freeFor_2 : decode cX8_freeFor 2 = .ok (.iload_n 2, 1) := by decide +kernel
theorem d_X8_freeFor_3 : decode cX8_freeFor 3 = .ok (.aload_n 0, 1) := by decide +kernel
theorem d_X8_freeFor_4 : decode cX8_freeFor 4 = .ok (.invokevirtual 132, 3) := by decide +kernel
abbrev Y_X8_units : YT := (cX8_units, 1, (some .int), yX8_units, [], 1)
theorem mk_X8_units : MK Y_X8_units 0 := ⟨KW.at (i := 85) (by decide +kernel) rfl, KW.at (i := 1301) (by decide +kernel) rfl, ⟨by decide +kernel, by decide +kernel⟩, by decide +kernel, by decide +kernel, rfl, by decide⟩
theorem vm_X8_units : KW (.instanceMethod (yN Y_X8_units)) ∧ KW (.selects (yN Y_X8_units).cls (yN Y_X8_units) (yN Y_X8_units)) := ⟨KW.at (i := 1300) (by decide +kernel) rfl, KW.at (i := 51) (by decide +kernel) rfl⟩
theorem ck_RX8_132 : CKV RX8 132 Y_X8_units 0 := ⟨KW.at (i := 1298) (by decide +kernel) rfl, vm_X8_units.1, vm_X8_units.2, mk_X8_units⟩
theorem d_X8_units_0 : decode cX8_units 0 = .ok (.bipush 16, 2) := by decide +kernel
theorem d_X8_units_2 : decode cX8_units 2 = .ok (.aload_n 0, 1) := by decide +kernel
theorem d_X8_units_3 : decode cX8_units 3 = .ok (.getfield 13, 3) := by decide +kernel
theorem d_X8_units_6 : decode cX8_units 6 = .ok (.iconst 0, 1) := by decide +kernel
theorem d_X8_units_7 : decode cX8_units 7 = .ok (.iaload, 1) := by decide +kernel
theorem d_X8_units_8 : decode cX8_units 8 = .ok (.imul, 1) := by decide +kernel
theorem d_X8_units_9 : decode cX8_units 9 = .ok (.ireturn, 1) := by decide +kernel
theorem d_X8_freeFor_7 : decode cX8_freeFor 7 = .ok (.if_icmp .ge 22, 3) := by decide +kernel
theorem d_X8_freeFor_29 : decode cX8_freeFor 29 = .ok (.iconst (-1), 1) := by decide +kernel
theorem d_X8_freeFor_30 : decode cX8_freeFor 30 = .ok (.ireturn, 1) := by decide +kernel
theorem d_X8_freeFor_10 : decode cX8_freeFor 10 = .ok (.aload_n 0, 1) := by decide +kernel
theorem d_X8_freeFor_11 : decode cX8_freeFor 11 = .ok (.getfield 7, 3) := by decide +kernel
theorem d_X8_freeFor_14 : decode cX8_freeFor 14 = .ok (.iload_n 2, 1) := by decide +kernel
theorem d_X8_freeFor_15 : decode cX8_freeFor 15 = .ok (.iaload, 1) := by decide +kernel
theorem d_X8_freeFor_16 : decode cX8_freeFor 16 = .ok (.iload_n 1, 1) := by decide +kernel
theorem d_X8_freeFor_17 : decode cX8_freeFor 17 = .ok (.ineg, 1) := by decide +kernel
theorem d_X8_freeFor_18 : decode cX8_freeFor 18 = .ok (.if_icmp .gt 5, 3) := by decide +kernel
theorem d_X8_freeFor_23 : decode cX8_freeFor 23 = .ok (.iinc 2 1, 3) := by decide +kernel
theorem d_X8_freeFor_26 : decode cX8_freeFor 26 = .ok (.goto (-24), 3) := by decide +kernel
theorem d_X8_freeFor_21 : decode cX8_freeFor 21 = .ok (.iload_n 2, 1) := by decide +kernel
theorem d_X8_freeFor_22 : decode cX8_freeFor 22 = .ok (.ireturn, 1) := by decide +kernel
theorem d_X8_takes_5 : decode cX8_takes 5 = .ok (.istore_n 2, 1) := by decide +kernel
theorem d_X8_takes_6 : decode cX8_takes 6 = .ok (.iload_n 2, 1) := by decide +kernel
theorem d_X8_takes_7 : decode cX8_takes 7 = .ok (.iconst (-1), 1) := by decide +kernel
theorem d_X8_takes_8 : decode cX8_takes 8 = .ok (.if_icmp .ne 27, 3) := by decide +kernel
theorem d_X8_takes_11 : decode cX8_takes 11 = .ok (.aload_n 0, 1) := by decide +kernel
theorem d_X8_takes_12 : decode cX8_takes 12 = .ok (.getfield 13, 3) := by decide +kernel
theorem d_X8_takes_15 : decode cX8_takes 15 = .ok (.iconst 0, 1) := by decide +kernel
theorem d_X8_takes_16 : decode cX8_takes 16 = .ok (.iaload, 1) := by decide +kernel
theorem d_X8_takes_17 : decode cX8_takes 17 = .ok (.bipush 64, 2) := by decide +kernel
theorem d_X8_takes_19 : decode cX8_takes 19 = .ok (.if_icmp .ge 16, 3) := by decide +kernel
theorem d_X8_takes_22 : decode cX8_takes 22 = .ok (.aload_n 0, 1) := by decide +kernel
theorem d_X8_takes_23 : decode cX8_takes 23 = .ok (.invokevirtual 143, 3) := by decide +kernel
abbrev Y_X8_grows : YT := (cX8_grows, 3, none, yX8_grows, [], 2)
theorem mk_X8_grows : MK Y_X8_grows 0 := ⟨KW.at (i := 85) (by decide +kernel) rfl, KW.at (i := 1305) (by decide +kernel) rfl, ⟨by decide +kernel, by decide +kernel⟩, by decide +kernel, by decide +kernel, rfl, by decide⟩
theorem vm_X8_grows : KW (.instanceMethod (yN Y_X8_grows)) ∧ KW (.selects (yN Y_X8_grows).cls (yN Y_X8_grows) (yN Y_X8_grows)) := ⟨KW.at (i := 1304) (by decide +kernel) rfl, KW.at (i := 52) (by decide +kernel) rfl⟩
theorem ck_RX8_143 : CKV RX8 143 Y_X8_grows 0 := ⟨KW.at (i := 1302) (by decide +kernel) rfl, vm_X8_grows.1, vm_X8_grows.2, mk_X8_grows⟩
theorem d_X8_grows_0 : decode cX8_grows 0 = .ok (.aload_n 0, 1) := by decide +kernel
theorem d_X8_grows_1 : decode cX8_grows 1 = .ok (.invokevirtual 132, 3) := by decide +kernel
theorem d_X8_grows_4 : decode cX8_grows 4 = .ok (.istore_n 1, 1) := by decide +kernel
theorem d_X8_grows_5 : decode cX8_grows 5 = .ok (.aload_n 0, 1) := by decide +kernel
theorem d_X8_grows_6 : decode cX8_grows 6 = .ok (.iload_n 1, 1) := by decide +kernel
theorem d_X8_grows_7 : decode cX8_grows 7 = .ok (.invokevirtual 136, 3) := by decide +kernel
abbrev Y_X8_freeAhead : YT := (cX8_freeAhead, 4, (some .int), yX8_freeAhead, [], 1)
theorem mk_X8_freeAhead : MK Y_X8_freeAhead 1 := ⟨KW.at (i := 85) (by decide +kernel) rfl, KW.at (i := 1309) (by decide +kernel) rfl, ⟨by decide +kernel, by decide +kernel⟩, by decide +kernel, by decide +kernel, rfl, by decide⟩
theorem vm_X8_freeAhead : KW (.instanceMethod (yN Y_X8_freeAhead)) ∧ KW (.selects (yN Y_X8_freeAhead).cls (yN Y_X8_freeAhead) (yN Y_X8_freeAhead)) := ⟨KW.at (i := 1308) (by decide +kernel) rfl, KW.at (i := 53) (by decide +kernel) rfl⟩
theorem ck_RX8_136 : CKV RX8 136 Y_X8_freeAhead 1 := ⟨KW.at (i := 1306) (by decide +kernel) rfl, vm_X8_freeAhead.1, vm_X8_freeAhead.2, mk_X8_freeAhead⟩
theorem d_X8_freeAhead_0 : decode cX8_freeAhead 0 = .ok (.iconst (-1), 1) := by decide +kernel
theorem d_X8_freeAhead_1 : decode cX8_freeAhead 1 = .ok (.istore_n 2, 1) := by decide +kernel
theorem d_X8_freeAhead_2 : decode cX8_freeAhead 2 = .ok (.iconst 0, 1) := by decide +kernel
theorem d_X8_freeAhead_3 : decode cX8_freeAhead 3 = .ok (.istore_n 3, 1) := by decide +kernel
theorem d_X8_freeAhead_4 : decode cX8_freeAhead 4 = .ok (.iload_n 3, 1) := by decide +kernel
theorem d_X8_freeAhead_5 : decode cX8_freeAhead 5 = .ok (.iload_n 1, 1) := by decide +kernel
theorem d_X8_freeAhead_6 : decode cX8_freeAhead 6 = .ok (.if_icmp .ge 36, 3) := by decide +kernel
theorem d_X8_freeAhead_42 : decode cX8_freeAhead 42 = .ok (.iload_n 2, 1) := by decide +kernel
theorem d_X8_freeAhead_43 : decode cX8_freeAhead 43 = .ok (.ireturn, 1) := by decide +kernel
theorem d_X8_freeAhead_9 : decode cX8_freeAhead 9 = .ok (.aload_n 0, 1) := by decide +kernel
theorem d_X8_freeAhead_10 : decode cX8_freeAhead 10 = .ok (.getfield 7, 3) := by decide +kernel
theorem d_X8_freeAhead_13 : decode cX8_freeAhead 13 = .ok (.iload_n 3, 1) := by decide +kernel
theorem d_X8_freeAhead_14 : decode cX8_freeAhead 14 = .ok (.iaload, 1) := by decide +kernel
theorem d_X8_freeAhead_15 : decode cX8_freeAhead 15 = .ok (.ifCond .ge 19, 3) := by decide +kernel
theorem d_X8_freeAhead_35 : decode cX8_freeAhead 35 = .ok (.istore_n 2, 1) := by decide +kernel
theorem d_X8_freeAhead_36 : decode cX8_freeAhead 36 = .ok (.iinc 3 1, 3) := by decide +kernel
theorem d_X8_freeAhead_39 : decode cX8_freeAhead 39 = .ok (.goto (-35), 3) := by decide +kernel
theorem d_X8_freeAhead_34 : decode cX8_freeAhead 34 = .ok (.iload_n 2, 1) := by decide +kernel
theorem d_X8_freeAhead_18 : decode cX8_freeAhead 18 = .ok (.iload_n 3, 1) := by decide +kernel
theorem d_X8_freeAhead_19 : decode cX8_freeAhead 19 = .ok (.aload_n 0, 1) := by decide +kernel
theorem d_X8_freeAhead_20 : decode cX8_freeAhead 20 = .ok (.getfield 7, 3) := by decide +kernel
theorem d_X8_freeAhead_23 : decode cX8_freeAhead 23 = .ok (.iload_n 3, 1) := by decide +kernel
theorem d_X8_freeAhead_24 : decode cX8_freeAhead 24 = .ok (.iaload, 1) := by decide +kernel
theorem d_X8_freeAhead_25 : decode cX8_freeAhead 25 = .ok (.isub, 1) := by decide +kernel
theorem d_X8_freeAhead_26 : decode cX8_freeAhead 26 = .ok (.iload_n 1, 1) := by decide +kernel
theorem d_X8_freeAhead_27 : decode cX8_freeAhead 27 = .ok (.if_icmp .ne 7, 3) := by decide +kernel
theorem d_X8_freeAhead_30 : decode cX8_freeAhead 30 = .ok (.iload_n 3, 1) := by decide +kernel
theorem d_X8_freeAhead_31 : decode cX8_freeAhead 31 = .ok (.goto 4, 3) := by decide +kernel
theorem d_X8_grows_10 : decode cX8_grows 10 = .ok (.istore_n 2, 1) := by decide +kernel
theorem d_X8_grows_11 : decode cX8_grows 11 = .ok (.aload_n 0, 1) := by decide +kernel
theorem d_X8_grows_12 : decode cX8_grows 12 = .ok (.getfield 13, 3) := by decide +kernel
theorem d_X8_grows_15 : decode cX8_grows 15 = .ok (.iconst 0, 1) := by decide +kernel
theorem d_X8_grows_16 : decode cX8_grows 16 = .ok (.dup2, 1) := by decide +kernel
theorem d_X8_grows_17 : decode cX8_grows 17 = .ok (.iaload, 1) := by decide +kernel
theorem d_X8_grows_18 : decode cX8_grows 18 = .ok (.iconst 1, 1) := by decide +kernel
theorem d_X8_grows_19 : decode cX8_grows 19 = .ok (.iadd, 1) := by decide +kernel
theorem d_X8_grows_20 : decode cX8_grows 20 = .ok (.iastore, 1) := by decide +kernel
theorem d_X8_grows_21 : decode cX8_grows 21 = .ok (.iload_n 2, 1) := by decide +kernel
theorem d_X8_grows_22 : decode cX8_grows 22 = .ok (.iconst (-1), 1) := by decide +kernel
theorem d_X8_grows_23 : decode cX8_grows 23 = .ok (.if_icmp .ne 14, 3) := by decide +kernel
theorem d_X8_grows_37 : decode cX8_grows 37 = .ok (.aload_n 0, 1) := by decide +kernel
theorem d_X8_grows_38 : decode cX8_grows 38 = .ok (.getfield 7, 3) := by decide +kernel
theorem d_X8_grows_41 : decode cX8_grows 41 = .ok (.iload_n 2, 1) := by decide +kernel
theorem d_X8_grows_42 : decode cX8_grows 42 = .ok (.dup2, 1) := by decide +kernel
theorem d_X8_grows_43 : decode cX8_grows 43 = .ok (.iaload, 1) := by decide +kernel
theorem d_X8_grows_44 : decode cX8_grows 44 = .ok (.bipush 16, 2) := by decide +kernel
theorem d_X8_grows_46 : decode cX8_grows 46 = .ok (.isub, 1) := by decide +kernel
theorem d_X8_grows_47 : decode cX8_grows 47 = .ok (.iastore, 1) := by decide +kernel
theorem d_X8_grows_48 : decode cX8_grows 48 = .ok (.return_, 1) := by decide +kernel
theorem d_X8_grows_26 : decode cX8_grows 26 = .ok (.aload_n 0, 1) := by decide +kernel
theorem d_X8_grows_27 : decode cX8_grows 27 = .ok (.getfield 7, 3) := by decide +kernel
theorem d_X8_grows_30 : decode cX8_grows 30 = .ok (.iload_n 1, 1) := by decide +kernel
theorem d_X8_grows_31 : decode cX8_grows 31 = .ok (.bipush (-16), 2) := by decide +kernel
theorem d_X8_grows_33 : decode cX8_grows 33 = .ok (.iastore, 1) := by decide +kernel
theorem d_X8_grows_34 : decode cX8_grows 34 = .ok (.goto 14, 3) := by decide +kernel
theorem d_X8_takes_26 : decode cX8_takes 26 = .ok (.aload_n 0, 1) := by decide +kernel
theorem d_X8_takes_27 : decode cX8_takes 27 = .ok (.iload_n 1, 1) := by decide +kernel
theorem d_X8_takes_28 : decode cX8_takes 28 = .ok (.invokevirtual 140, 3) := by decide +kernel
theorem d_X8_takes_31 : decode cX8_takes 31 = .ok (.istore_n 2, 1) := by decide +kernel
theorem d_X8_takes_32 : decode cX8_takes 32 = .ok (.goto (-26), 3) := by decide +kernel
theorem d_X8_takes_35 : decode cX8_takes 35 = .ok (.iload_n 2, 1) := by decide +kernel
theorem d_X8_takes_36 : decode cX8_takes 36 = .ok (.iconst (-1), 1) := by decide +kernel
theorem d_X8_takes_37 : decode cX8_takes 37 = .ok (.if_icmp .eq 34, 3) := by decide +kernel
theorem d_X8_takes_71 : decode cX8_takes 71 = .ok (.iload_n 2, 1) := by decide +kernel
theorem d_X8_takes_72 : decode cX8_takes 72 = .ok (.ireturn, 1) := by decide +kernel
theorem d_X8_takes_40 : decode cX8_takes 40 = .ok (.aload_n 0, 1) := by decide +kernel
theorem d_X8_takes_41 : decode cX8_takes 41 = .ok (.getfield 7, 3) := by decide +kernel
theorem d_X8_takes_44 : decode cX8_takes 44 = .ok (.iload_n 2, 1) := by decide +kernel
theorem d_X8_takes_45 : decode cX8_takes 45 = .ok (.iaload, 1) := by decide +kernel
theorem d_X8_takes_46 : decode cX8_takes 46 = .ok (.ineg, 1) := by decide +kernel
theorem d_X8_takes_47 : decode cX8_takes 47 = .ok (.iload_n 1, 1) := by decide +kernel
theorem d_X8_takes_48 : decode cX8_takes 48 = .ok (.isub, 1) := by decide +kernel
theorem d_X8_takes_49 : decode cX8_takes 49 = .ok (.istore_n 3, 1) := by decide +kernel
theorem d_X8_takes_50 : decode cX8_takes 50 = .ok (.aload_n 0, 1) := by decide +kernel
theorem d_X8_takes_51 : decode cX8_takes 51 = .ok (.getfield 7, 3) := by decide +kernel
theorem d_X8_takes_54 : decode cX8_takes 54 = .ok (.iload_n 2, 1) := by decide +kernel
theorem d_X8_takes_55 : decode cX8_takes 55 = .ok (.iload_n 1, 1) := by decide +kernel
theorem d_X8_takes_56 : decode cX8_takes 56 = .ok (.iastore, 1) := by decide +kernel
theorem d_X8_takes_57 : decode cX8_takes 57 = .ok (.iload_n 3, 1) := by decide +kernel
theorem d_X8_takes_58 : decode cX8_takes 58 = .ok (.ifCond .le 13, 3) := by decide +kernel
theorem d_X8_takes_61 : decode cX8_takes 61 = .ok (.aload_n 0, 1) := by decide +kernel
theorem d_X8_takes_62 : decode cX8_takes 62 = .ok (.getfield 7, 3) := by decide +kernel
theorem d_X8_takes_65 : decode cX8_takes 65 = .ok (.iload_n 2, 1) := by decide +kernel
theorem d_X8_takes_66 : decode cX8_takes 66 = .ok (.iload_n 1, 1) := by decide +kernel
theorem d_X8_takes_67 : decode cX8_takes 67 = .ok (.iadd, 1) := by decide +kernel
theorem d_X8_takes_68 : decode cX8_takes 68 = .ok (.iload_n 3, 1) := by decide +kernel
theorem d_X8_takes_69 : decode cX8_takes 69 = .ok (.ineg, 1) := by decide +kernel
theorem d_X8_takes_70 : decode cX8_takes 70 = .ok (.iastore, 1) := by decide +kernel
theorem d_X8_gets_65 : decode cX8_gets 65 = .ok (.iastore, 1) := by decide +kernel
theorem d_X8_gets_66 : decode cX8_gets 66 = .ok (.aload_n 0, 1) := by decide +kernel
theorem d_X8_gets_67 : decode cX8_gets 67 = .ok (.getfield 110, 3) := by decide +kernel
theorem d_X8_gets_70 : decode cX8_gets 70 = .ok (.iload_n 3, 1) := by decide +kernel
theorem d_X8_gets_71 : decode cX8_gets 71 = .ok (.iaload, 1) := by decide +kernel
theorem d_X8_gets_72 : decode cX8_gets 72 = .ok (.iconst (-1), 1) := by decide +kernel
theorem d_X8_gets_73 : decode cX8_gets 73 = .ok (.if_icmp .eq 7, 3) := by decide +kernel
theorem d_X8_gets_81 : decode cX8_gets 81 = .ok (.istore_n 2, 1) := by decide +kernel
theorem d_X8_gets_82 : decode cX8_gets 82 = .ok (.iinc 3 1, 3) := by decide +kernel
theorem d_X8_gets_85 : decode cX8_gets 85 = .ok (.goto (-47), 3) := by decide +kernel
theorem d_X8_gets_80 : decode cX8_gets 80 = .ok (.iconst 0, 1) := by decide +kernel
theorem d_X8_gets_76 : decode cX8_gets 76 = .ok (.iconst 1, 1) := by decide +kernel
theorem d_X8_gets_77 : decode cX8_gets 77 = .ok (.goto 4, 3) := by decide +kernel
theorem d_X8_gets_88 : decode cX8_gets 88 = .ok (.iload_n 2, 1) := by decide +kernel
theorem d_X8_gets_89 : decode cX8_gets 89 = .ok (.ifCond .ne 37, 3) := by decide +kernel
theorem d_X8_gets_126 : decode cX8_gets 126 = .ok (.iload_n 2, 1) := by decide +kernel
theorem d_X8_gets_127 : decode cX8_gets 127 = .ok (.ireturn, 1) := by decide +kernel
theorem d_X8_gets_92 : decode cX8_gets 92 = .ok (.aload_n 0, 1) := by decide +kernel
theorem d_X8_gets_93 : decode cX8_gets 93 = .ok (.getfield 13, 3) := by decide +kernel
theorem d_X8_gets_96 : decode cX8_gets 96 = .ok (.iconst 0, 1) := by decide +kernel
theorem d_X8_gets_97 : decode cX8_gets 97 = .ok (.iload_n 1, 1) := by decide +kernel
theorem d_X8_gets_98 : decode cX8_gets 98 = .ok (.iastore, 1) := by decide +kernel
theorem d_X8_gets_99 : decode cX8_gets 99 = .ok (.iconst 0, 1) := by decide +kernel
theorem d_X8_gets_100 : decode cX8_gets 100 = .ok (.istore_n 3, 1) := by decide +kernel
theorem d_X8_gets_101 : decode cX8_gets 101 = .ok (.iload_n 3, 1) := by decide +kernel
theorem d_X8_gets_102 : decode cX8_gets 102 = .ok (.sipush 1024, 3) := by decide +kernel
theorem d_X8_gets_105 : decode cX8_gets 105 = .ok (.if_icmp .ge 21, 3) := by decide +kernel
theorem d_X8_gets_108 : decode cX8_gets 108 = .ok (.aload_n 0, 1) := by decide +kernel
theorem d_X8_gets_109 : decode cX8_gets 109 = .ok (.getfield 7, 3) := by decide +kernel
theorem d_X8_gets_112 : decode cX8_gets 112 = .ok (.iload_n 3, 1) := by decide +kernel
theorem d_X8_gets_113 : decode cX8_gets 113 = .ok (.aload_n 0, 1) := by decide +kernel
theorem d_X8_gets_114 : decode cX8_gets 114 = .ok (.getfield 113, 3) := by decide +kernel
theorem d_X8_gets_117 : decode cX8_gets 117 = .ok (.iload_n 3, 1) := by decide +kernel
theorem d_X8_gets_118 : decode cX8_gets 118 = .ok (.iaload, 1) := by decide +kernel
theorem d_X8_gets_119 : decode cX8_gets 119 = .ok (.iastore, 1) := by decide +kernel
theorem d_X8_gets_120 : decode cX8_gets 120 = .ok (.iinc 3 1, 3) := by decide +kernel
theorem d_X8_gets_123 : decode cX8_gets 123 = .ok (.goto (-22), 3) := by decide +kernel
theorem d_X8_cannotMake_63 : decode cX8_cannotMake 63 = .ok (.ifCond .ne 7, 3) := by decide +kernel
theorem d_X8_cannotMake_70 : decode cX8_cannotMake 70 = .ok (.iconst 0, 1) := by decide +kernel
theorem d_X8_cannotMake_71 : decode cX8_cannotMake 71 = .ok (.ireturn, 1) := by decide +kernel
theorem d_X8_cannotMake_66 : decode cX8_cannotMake 66 = .ok (.iconst 1, 1) := by decide +kernel
theorem d_X8_cannotMake_67 : decode cX8_cannotMake 67 = .ok (.goto 4, 3) := by decide +kernel
theorem d_X8_make_32 : decode cX8_make 32 = .ok (.ifCond .eq 7, 3) := by decide +kernel
theorem d_X8_make_39 : decode cX8_make 39 = .ok (.iconst 0, 1) := by decide +kernel
theorem d_X8_make_35 : decode cX8_make 35 = .ok (.iconst 3, 1) := by decide +kernel
theorem d_X8_make_36 : decode cX8_make 36 = .ok (.goto 4, 3) := by decide +kernel
theorem d_X8_make_22 : decode cX8_make 22 = .ok (.iconst 2, 1) := by decide +kernel
theorem d_X8_make_23 : decode cX8_make 23 = .ok (.goto 17, 3) := by decide +kernel
theorem d_X8_make_11 : decode cX8_make 11 = .ok (.iconst 1, 1) := by decide +kernel
theorem d_X8_make_12 : decode cX8_make 12 = .ok (.goto 28, 3) := by decide +kernel
abbrev Y_X8_makeLink : YT := (cX8_makeLink, 5, (some .int), yX8_makeLink, [], 6)
theorem d_X8_makeLink_0 : decode cX8_makeLink 0 = .ok (.aload_n 0, 1) := by decide +kernel
theorem d_X8_makeLink_1 : decode cX8_makeLink 1 = .ok (.iload_n 1, 1) := by decide +kernel
theorem d_X8_makeLink_2 : decode cX8_makeLink 2 = .ok (.invokevirtual 191, 3) := by decide +kernel
theorem d_X8_makeLink_5 : decode cX8_makeLink 5 = .ok (.ifCond .eq 15, 3) := by decide +kernel
theorem d_X8_makeLink_21 : decode cX8_makeLink 21 = .ok (.istore 4, 2) := by decide +kernel
theorem d_X8_makeLink_23 : decode cX8_makeLink 23 = .ok (.aload_n 0, 1) := by decide +kernel
theorem d_X8_makeLink_24 : decode cX8_makeLink 24 = .ok (.iload 4, 2) := by decide +kernel
theorem d_X8_makeLink_26 : decode cX8_makeLink 26 = .ok (.ifCond .ne 7, 3) := by decide +kernel
theorem d_X8_makeLink_58 : decode cX8_makeLink 58 = .ok (.invokevirtual 195, 3) := by decide +kernel
theorem d_X8_makeLink_61 : decode cX8_makeLink 61 = .ok (.ifCond .eq 5, 3) := by decide +kernel
theorem d_X8_makeLink_66 : decode cX8_makeLink 66 = .ok (.aload_n 0, 1) := by decide +kernel
theorem d_X8_makeLink_67 : decode cX8_makeLink 67 = .ok (.iload_n 1, 1) := by decide +kernel
theorem d_X8_makeLink_68 : decode cX8_makeLink 68 = .ok (.iload_n 2, 1) := by decide +kernel
theorem d_X8_makeLink_69 : decode cX8_makeLink 69 = .ok (.iload_n 3, 1) := by decide +kernel
theorem d_X8_makeLink_70 : decode cX8_makeLink 70 = .ok (.invokevirtual 227, 3) := by decide +kernel
theorem d_X8_makeLink_73 : decode cX8_makeLink 73 = .ok (.ireturn, 1) := by decide +kernel
theorem d_X8_makeLink_64 : decode cX8_makeLink 64 = .ok (.iconst 0, 1) := by decide +kernel
theorem d_X8_makeLink_65 : decode cX8_makeLink 65 = .ok (.ireturn, 1) := by decide +kernel
theorem d_X8_makeLink_33 : decode cX8_makeLink 33 = .ok (.iload_n 2, 1) := by decide +kernel
theorem d_X8_makeLink_34 : decode cX8_makeLink 34 = .ok (.invokestatic 221, 3) := by decide +kernel
theorem d_X8_makeLink_37 : decode cX8_makeLink 37 = .ok (.ifCond .ne 7, 3) := by decide +kernel
theorem d_X8_makeLink_44 : decode cX8_makeLink 44 = .ok (.aload_n 0, 1) := by decide +kernel
theorem d_X8_makeLink_45 : decode cX8_makeLink 45 = .ok (.iload_n 1, 1) := by decide +kernel
theorem d_X8_makeLink_46 : decode cX8_makeLink 46 = .ok (.iload_n 2, 1) := by decide +kernel
theorem d_X8_makeLink_47 : decode cX8_makeLink 47 = .ok (.invokevirtual 224, 3) := by decide +kernel
theorem d_X8_makeLink_50 : decode cX8_makeLink 50 = .ok (.ifCond .eq 7, 3) := by decide +kernel
theorem d_X8_makeLink_57 : decode cX8_makeLink 57 = .ok (.iconst 0, 1) := by decide +kernel
theorem d_X8_makeLink_53 : decode cX8_makeLink 53 = .ok (.iconst 3, 1) := by decide +kernel
theorem d_X8_makeLink_54 : decode cX8_makeLink 54 = .ok (.goto 4, 3) := by decide +kernel
theorem d_X8_makeLink_40 : decode cX8_makeLink 40 = .ok (.iconst 2, 1) := by decide +kernel
theorem d_X8_makeLink_41 : decode cX8_makeLink 41 = .ok (.goto 17, 3) := by decide +kernel
theorem d_X8_makeLink_29 : decode cX8_makeLink 29 = .ok (.iconst 1, 1) := by decide +kernel
theorem d_X8_makeLink_30 : decode cX8_makeLink 30 = .ok (.goto 28, 3) := by decide +kernel
theorem d_X8_makeLink_20 : decode cX8_makeLink 20 = .ok (.iconst 0, 1) := by decide +kernel
theorem d_X8_makeLink_8 : decode cX8_makeLink 8 = .ok (.aload_n 0, 1) := by decide +kernel
theorem d_X8_makeLink_9 : decode cX8_makeLink 9 = .ok (.iload_n 3, 1) := by decide +kernel
theorem d_X8_makeLink_10 : decode cX8_makeLink 10 = .ok (.invokevirtual 191, 3) := by decide +kernel
theorem d_X8_makeLink_13 : decode cX8_makeLink 13 = .ok (.ifCond .eq 7, 3) := by decide +kernel
theorem d_X8_makeLink_16 : decode cX8_makeLink 16 = .ok (.iconst 1, 1) := by decide +kernel
theorem d_X8_makeLink_17 : decode cX8_makeLink 17 = .ok (.goto 4, 3) := by decide +kernel
abbrev Y_X8_rename : YT := (cX8_rename, 5, (some .int), yX8_rename, [], 6)
theorem d_X8_rename_0 : decode cX8_rename 0 = .ok (.aload_n 0, 1) := by decide +kernel
theorem d_X8_rename_1 : decode cX8_rename 1 = .ok (.iload_n 1, 1) := by decide +kernel
theorem d_X8_rename_2 : decode cX8_rename 2 = .ok (.invokevirtual 191, 3) := by decide +kernel
theorem d_X8_rename_5 : decode cX8_rename 5 = .ok (.istore_n 3, 1) := by decide +kernel
theorem d_X8_rename_6 : decode cX8_rename 6 = .ok (.aload_n 0, 1) := by decide +kernel
theorem d_X8_rename_7 : decode cX8_rename 7 = .ok (.iload_n 3, 1) := by decide +kernel
theorem d_X8_rename_8 : decode cX8_rename 8 = .ok (.ifCond .ne 7, 3) := by decide +kernel
theorem d_X8_rename_40 : decode cX8_rename 40 = .ok (.invokevirtual 195, 3) := by decide +kernel
theorem d_X8_rename_43 : decode cX8_rename 43 = .ok (.ifCond .eq 5, 3) := by decide +kernel
theorem d_X8_rename_48 : decode cX8_rename 48 = .ok (.aload_n 0, 1) := by decide +kernel
theorem d_X8_rename_49 : decode cX8_rename 49 = .ok (.getfield 26, 3) := by decide +kernel
theorem d_X8_rename_52 : decode cX8_rename 52 = .ok (.iload_n 1, 1) := by decide +kernel
theorem d_X8_rename_53 : decode cX8_rename 53 = .ok (.iaload, 1) := by decide +kernel
theorem d_X8_rename_54 : decode cX8_rename 54 = .ok (.istore 4, 2) := by decide +kernel
theorem d_X8_rename_56 : decode cX8_rename 56 = .ok (.aload_n 0, 1) := by decide +kernel
theorem d_X8_rename_57 : decode cX8_rename 57 = .ok (.invokevirtual 211, 3) := by decide +kernel
theorem d_X8_rename_60 : decode cX8_rename 60 = .ok (.aload_n 0, 1) := by decide +kernel
theorem d_X8_rename_61 : decode cX8_rename 61 = .ok (.aload_n 0, 1) := by decide +kernel
theorem d_X8_rename_62 : decode cX8_rename 62 = .ok (.getfield 23, 3) := by decide +kernel
theorem d_X8_rename_65 : decode cX8_rename 65 = .ok (.iload_n 1, 1) := by decide +kernel
theorem d_X8_rename_66 : decode cX8_rename 66 = .ok (.iaload, 1) := by decide +kernel
theorem d_X8_rename_67 : decode cX8_rename 67 = .ok (.iload_n 1, 1) := by decide +kernel
theorem d_X8_rename_68 : decode cX8_rename 68 = .ok (.iload_n 2, 1) := by decide +kernel
theorem d_X8_rename_69 : decode cX8_rename 69 = .ok (.iconst 0, 1) := by decide +kernel
theorem d_X8_rename_70 : decode cX8_rename 70 = .ok (.invokevirtual 214, 3) := by decide +kernel
theorem d_X8_rename_73 : decode cX8_rename 73 = .ok (.aload_n 0, 1) := by decide +kernel
theorem d_X8_rename_74 : decode cX8_rename 74 = .ok (.aload_n 0, 1) := by decide +kernel
theorem d_X8_rename_75 : decode cX8_rename 75 = .ok (.getfield 23, 3) := by decide +kernel
theorem d_X8_rename_78 : decode cX8_rename 78 = .ok (.iload_n 1, 1) := by decide +kernel
theorem d_X8_rename_79 : decode cX8_rename 79 = .ok (.iaload, 1) := by decide +kernel
theorem d_X8_rename_80 : decode cX8_rename 80 = .ok (.iload 4, 2) := by decide +kernel
theorem d_X8_rename_82 : decode cX8_rename 82 = .ok (.invokevirtual 234, 3) := by decide +kernel
abbrev Y_X8_goes : YT := (cX8_goes, 7, none, yX8_goes, [], 4)
theorem mk_X8_goes : MK Y_X8_goes 2 := ⟨KW.at (i := 85) (by decide +kernel) rfl, KW.at (i := 1349) (by decide +kernel) rfl, ⟨by decide +kernel, by decide +kernel⟩, by decide +kernel, by decide +kernel, rfl, by decide⟩
theorem vm_X8_goes : KW (.instanceMethod (yN Y_X8_goes)) ∧ KW (.selects (yN Y_X8_goes).cls (yN Y_X8_goes) (yN Y_X8_goes)) := ⟨KW.at (i := 1348) (by decide +kernel) rfl, KW.at (i := 61) (by decide +kernel) rfl⟩
theorem ck_RX8_234 : CKV RX8 234 Y_X8_goes 2 := ⟨KW.at (i := 1346) (by decide +kernel) rfl, vm_X8_goes.1, vm_X8_goes.2, mk_X8_goes⟩
theorem d_X8_goes_0 : decode cX8_goes 0 = .ok (.aload_n 0, 1) := by decide +kernel
theorem d_X8_goes_1 : decode cX8_goes 1 = .ok (.iload_n 1, 1) := by decide +kernel
theorem d_X8_goes_2 : decode cX8_goes 2 = .ok (.iload_n 2, 1) := by decide +kernel
theorem d_X8_goes_3 : decode cX8_goes 3 = .ok (.invokevirtual 179, 3) := by decide +kernel
theorem d_X8_goes_6 : decode cX8_goes 6 = .ok (.istore_n 3, 1) := by decide +kernel
theorem d_X8_goes_7 : decode cX8_goes 7 = .ok (.iconst 0, 1) := by decide +kernel
theorem d_X8_goes_8 : decode cX8_goes 8 = .ok (.istore 4, 2) := by decide +kernel
theorem d_X8_goes_10 : decode cX8_goes 10 = .ok (.aload_n 0, 1) := by decide +kernel
theorem d_X8_goes_11 : decode cX8_goes 11 = .ok (.iload_n 1, 1) := by decide +kernel
theorem d_X8_goes_12 : decode cX8_goes 12 = .ok (.iload 4, 2) := by decide +kernel
theorem d_X8_goes_14 : decode cX8_goes 14 = .ok (.iconst 1, 1) := by decide +kernel
theorem d_X8_goes_15 : decode cX8_goes 15 = .ok (.iadd, 1) := by decide +kernel
theorem d_X8_goes_16 : decode cX8_goes 16 = .ok (.invokevirtual 159, 3) := by decide +kernel
theorem d_X8_goes_19 : decode cX8_goes 19 = .ok (.iload_n 3, 1) := by decide +kernel
theorem d_X8_goes_20 : decode cX8_goes 20 = .ok (.if_icmp .gt 9, 3) := by decide +kernel
theorem d_X8_goes_23 : decode cX8_goes 23 = .ok (.iinc 4 1, 3) := by decide +kernel
theorem d_X8_goes_26 : decode cX8_goes 26 = .ok (.goto (-16), 3) := by decide +kernel
theorem d_X8_goes_29 : decode cX8_goes 29 = .ok (.aload_n 0, 1) := by decide +kernel
theorem d_X8_goes_30 : decode cX8_goes 30 = .ok (.iload_n 1, 1) := by decide +kernel
theorem d_X8_goes_31 : decode cX8_goes 31 = .ok (.invokevirtual 163, 3) := by decide +kernel
theorem d_X8_goes_34 : decode cX8_goes 34 = .ok (.iconst 1, 1) := by decide +kernel
theorem d_X8_goes_35 : decode cX8_goes 35 = .ok (.isub, 1) := by decide +kernel
theorem d_X8_goes_36 : decode cX8_goes 36 = .ok (.istore 5, 2) := by decide +kernel
theorem d_X8_goes_38 : decode cX8_goes 38 = .ok (.iload_n 3, 1) := by decide +kernel
theorem d_X8_goes_39 : decode cX8_goes 39 = .ok (.istore 6, 2) := by decide +kernel
theorem d_X8_goes_41 : decode cX8_goes 41 = .ok (.iload 6, 2) := by decide +kernel
theorem d_X8_goes_43 : decode cX8_goes 43 = .ok (.iload 5, 2) := by decide +kernel
theorem d_X8_goes_45 : decode cX8_goes 45 = .ok (.if_icmp .ge 61, 3) := by decide +kernel
theorem d_X8_goes_48 : decode cX8_goes 48 = .ok (.aload_n 0, 1) := by decide +kernel
theorem d_X8_goes_49 : decode cX8_goes 49 = .ok (.getfield 50, 3) := by decide +kernel
theorem d_X8_goes_52 : decode cX8_goes 52 = .ok (.bipush 32, 2) := by decide +kernel
theorem d_X8_goes_54 : decode cX8_goes 54 = .ok (.iload_n 1, 1) := by decide +kernel
theorem d_X8_goes_55 : decode cX8_goes 55 = .ok (.imul, 1) := by decide +kernel
theorem d_X8_goes_56 : decode cX8_goes 56 = .ok (.iload 6, 2) := by decide +kernel
theorem d_X8_goes_58 : decode cX8_goes 58 = .ok (.iadd, 1) := by decide +kernel
theorem d_X8_goes_59 : decode cX8_goes 59 = .ok (.aload_n 0, 1) := by decide +kernel
theorem d_X8_goes_60 : decode cX8_goes 60 = .ok (.getfield 50, 3) := by decide +kernel
theorem d_X8_goes_63 : decode cX8_goes 63 = .ok (.bipush 32, 2) := by decide +kernel
theorem d_X8_goes_65 : decode cX8_goes 65 = .ok (.iload_n 1, 1) := by decide +kernel
theorem d_X8_goes_66 : decode cX8_goes 66 = .ok (.imul, 1) := by decide +kernel
theorem d_X8_goes_67 : decode cX8_goes 67 = .ok (.iload 6, 2) := by decide +kernel
theorem d_X8_goes_69 : decode cX8_goes 69 = .ok (.iadd, 1) := by decide +kernel
theorem d_X8_goes_70 : decode cX8_goes 70 = .ok (.iconst 1, 1) := by decide +kernel
theorem d_X8_goes_71 : decode cX8_goes 71 = .ok (.iadd, 1) := by decide +kernel
theorem d_X8_goes_72 : decode cX8_goes 72 = .ok (.iaload, 1) := by decide +kernel
theorem d_X8_goes_73 : decode cX8_goes 73 = .ok (.iastore, 1) := by decide +kernel
theorem d_X8_goes_74 : decode cX8_goes 74 = .ok (.aload_n 0, 1) := by decide +kernel
theorem d_X8_goes_75 : decode cX8_goes 75 = .ok (.getfield 53, 3) := by decide +kernel
theorem d_X8_goes_78 : decode cX8_goes 78 = .ok (.bipush 32, 2) := by decide +kernel
theorem d_X8_goes_80 : decode cX8_goes 80 = .ok (.iload_n 1, 1) := by decide +kernel
theorem d_X8_goes_81 : decode cX8_goes 81 = .ok (.imul, 1) := by decide +kernel
theorem d_X8_goes_82 : decode cX8_goes 82 = .ok (.iload 6, 2) := by decide +kernel
theorem d_X8_goes_84 : decode cX8_goes 84 = .ok (.iadd, 1) := by decide +kernel
theorem d_X8_goes_85 : decode cX8_goes 85 = .ok (.aload_n 0, 1) := by decide +kernel
theorem d_X8_goes_86 : decode cX8_goes 86 = .ok (.getfield 53, 3) := by decide +kernel
theorem d_X8_goes_89 : decode cX8_goes 89 = .ok (.bipush 32, 2) := by decide +kernel
theorem d_X8_goes_91 : decode cX8_goes 91 = .ok (.iload_n 1, 1) := by decide +kernel
theorem d_X8_goes_92 : decode cX8_goes 92 = .ok (.imul, 1) := by decide +kernel
theorem d_X8_goes_93 : decode cX8_goes 93 = .ok (.iload 6, 2) := by decide +kernel
theorem d_X8_goes_95 : decode cX8_goes 95 = .ok (.iadd, 1) := by decide +kernel
theorem d_X8_goes_96 : decode cX8_goes 96 = .ok (.iconst 1, 1) := by decide +kernel
theorem d_X8_goes_97 : decode cX8_goes 97 = .ok (.iadd, 1) := by decide +kernel
theorem d_X8_goes_98 : decode cX8_goes 98 = .ok (.iaload, 1) := by decide +kernel
theorem d_X8_goes_99 : decode cX8_goes 99 = .ok (.iastore, 1) := by decide +kernel
theorem d_X8_goes_100 : decode cX8_goes 100 = .ok (.iinc 6 1, 3) := by decide +kernel
theorem d_X8_goes_103 : decode cX8_goes 103 = .ok (.goto (-62), 3) := by decide +kernel
theorem d_X8_goes_106 : decode cX8_goes 106 = .ok (.aload_n 0, 1) := by decide +kernel
theorem d_X8_goes_107 : decode cX8_goes 107 = .ok (.getfield 47, 3) := by decide +kernel
theorem d_X8_goes_110 : decode cX8_goes 110 = .ok (.bipush 8, 2) := by decide +kernel
theorem d_X8_goes_112 : decode cX8_goes 112 = .ok (.iload_n 1, 1) := by decide +kernel
theorem d_X8_goes_113 : decode cX8_goes 113 = .ok (.imul, 1) := by decide +kernel
theorem d_X8_goes_114 : decode cX8_goes 114 = .ok (.iload 4, 2) := by decide +kernel
theorem d_X8_goes_116 : decode cX8_goes 116 = .ok (.iadd, 1) := by decide +kernel
theorem d_X8_goes_117 : decode cX8_goes 117 = .ok (.dup2, 1) := by decide +kernel
theorem d_X8_goes_118 : decode cX8_goes 118 = .ok (.iaload, 1) := by decide +kernel
theorem d_X8_goes_119 : decode cX8_goes 119 = .ok (.iconst 1, 1) := by decide +kernel
theorem d_X8_goes_120 : decode cX8_goes 120 = .ok (.isub, 1) := by decide +kernel
theorem d_X8_goes_121 : decode cX8_goes 121 = .ok (.iastore, 1) := by decide +kernel
theorem d_X8_goes_122 : decode cX8_goes 122 = .ok (.aload_n 0, 1) := by decide +kernel
theorem d_X8_goes_123 : decode cX8_goes 123 = .ok (.aload_n 0, 1) := by decide +kernel
theorem d_X8_goes_124 : decode cX8_goes 124 = .ok (.getfield 44, 3) := by decide +kernel
theorem d_X8_goes_127 : decode cX8_goes 127 = .ok (.bipush 8, 2) := by decide +kernel
theorem d_X8_goes_129 : decode cX8_goes 129 = .ok (.iload_n 1, 1) := by decide +kernel
theorem d_X8_goes_130 : decode cX8_goes 130 = .ok (.imul, 1) := by decide +kernel
theorem d_X8_goes_131 : decode cX8_goes 131 = .ok (.iload 4, 2) := by decide +kernel
theorem d_X8_goes_133 : decode cX8_goes 133 = .ok (.iadd, 1) := by decide +kernel
theorem d_X8_goes_134 : decode cX8_goes 134 = .ok (.iaload, 1) := by decide +kernel
theorem d_X8_goes_135 : decode cX8_goes 135 = .ok (.invokevirtual 152, 3) := by decide +kernel
theorem d_X8_goes_138 : decode cX8_goes 138 = .ok (.aload_n 0, 1) := by decide +kernel
theorem d_X8_goes_139 : decode cX8_goes 139 = .ok (.getfield 47, 3) := by decide +kernel
theorem d_X8_goes_142 : decode cX8_goes 142 = .ok (.bipush 8, 2) := by decide +kernel
theorem d_X8_goes_144 : decode cX8_goes 144 = .ok (.iload_n 1, 1) := by decide +kernel
theorem d_X8_goes_145 : decode cX8_goes 145 = .ok (.imul, 1) := by decide +kernel
theorem d_X8_goes_146 : decode cX8_goes 146 = .ok (.iload 4, 2) := by decide +kernel
theorem d_X8_goes_148 : decode cX8_goes 148 = .ok (.iadd, 1) := by decide +kernel
theorem d_X8_goes_149 : decode cX8_goes 149 = .ok (.iaload, 1) := by decide +kernel
theorem d_X8_goes_150 : decode cX8_goes 150 = .ok (.ifCond .ne 148, 3) := by decide +kernel
theorem d_X8_goes_298 : decode cX8_goes 298 = .ok (.aload_n 0, 1) := by decide +kernel
theorem d_X8_goes_299 : decode cX8_goes 299 = .ok (.aload_n 0, 1) := by decide +kernel
theorem d_X8_goes_300 : decode cX8_goes 300 = .ok (.getfield 32, 3) := by decide +kernel
theorem d_X8_goes_303 : decode cX8_goes 303 = .ok (.iload_n 1, 1) := by decide +kernel
theorem d_X8_goes_304 : decode cX8_goes 304 = .ok (.iaload, 1) := by decide +kernel
theorem d_X8_goes_305 : decode cX8_goes 305 = .ok (.invokevirtual 152, 3) := by decide +kernel
theorem d_X8_goes_308 : decode cX8_goes 308 = .ok (.return_, 1) := by decide +kernel
theorem d_X8_goes_153 : decode cX8_goes 153 = .ok (.aload_n 0, 1) := by decide +kernel
theorem d_X8_goes_154 : decode cX8_goes 154 = .ok (.aload_n 0, 1) := by decide +kernel
theorem d_X8_goes_155 : decode cX8_goes 155 = .ok (.getfield 44, 3) := by decide +kernel
theorem d_X8_goes_158 : decode cX8_goes 158 = .ok (.bipush 8, 2) := by decide +kernel
theorem d_X8_goes_160 : decode cX8_goes 160 = .ok (.iload_n 1, 1) := by decide +kernel
theorem d_X8_goes_161 : decode cX8_goes 161 = .ok (.imul, 1) := by decide +kernel
theorem d_X8_goes_162 : decode cX8_goes 162 = .ok (.iload 4, 2) := by decide +kernel
theorem d_X8_goes_164 : decode cX8_goes 164 = .ok (.iadd, 1) := by decide +kernel
theorem d_X8_goes_165 : decode cX8_goes 165 = .ok (.iaload, 1) := by decide +kernel
theorem d_X8_goes_166 : decode cX8_goes 166 = .ok (.invokevirtual 182, 3) := by decide +kernel
abbrev Y_X8_gives : YT := (cX8_gives, 5, none, yX8_gives, [], 2)
theorem mk_X8_gives : MK Y_X8_gives 1 := ⟨KW.at (i := 85) (by decide +kernel) rfl, KW.at (i := 1353) (by decide +kernel) rfl, ⟨by decide +kernel, by decide +kernel⟩, by decide +kernel, by decide +kernel, rfl, by decide⟩
theorem vm_X8_gives : KW (.instanceMethod (yN Y_X8_gives)) ∧ KW (.selects (yN Y_X8_gives).cls (yN Y_X8_gives) (yN Y_X8_gives)) := ⟨KW.at (i := 1352) (by decide +kernel) rfl, KW.at (i := 62) (by decide +kernel) rfl⟩
theorem ck_RX8_182 : CKV RX8 182 Y_X8_gives 1 := ⟨KW.at (i := 1350) (by decide +kernel) rfl, vm_X8_gives.1, vm_X8_gives.2, mk_X8_gives⟩
theorem d_X8_gives_0 : decode cX8_gives 0 = .ok (.aload_n 0, 1) := by decide +kernel
theorem d_X8_gives_1 : decode cX8_gives 1 = .ok (.iload_n 1, 1) := by decide +kernel
theorem d_X8_gives_2 : decode cX8_gives 2 = .ok (.invokevirtual 152, 3) := by decide +kernel
theorem d_X8_gives_5 : decode cX8_gives 5 = .ok (.aload_n 0, 1) := by decide +kernel
theorem d_X8_gives_6 : decode cX8_gives 6 = .ok (.dup, 1) := by decide +kernel
theorem d_X8_gives_7 : decode cX8_gives 7 = .ok (.getfield 156, 3) := by decide +kernel
theorem fk_RX8_156 : FK RX8 156 8 41 := ⟨RX8, TX8, 43, rfl, by decide, ws_X8, KW.at (i := 1123) (by decide +kernel) rfl⟩
theorem d_X8_gives_10 : decode cX8_gives 10 = .ok (.aload_n 0, 1) := by decide +kernel
theorem d_X8_gives_11 : decode cX8_gives 11 = .ok (.getfield 7, 3) := by decide +kernel
theorem d_X8_gives_14 : decode cX8_gives 14 = .ok (.iload_n 1, 1) := by decide +kernel
theorem d_X8_gives_15 : decode cX8_gives 15 = .ok (.iaload, 1) := by decide +kernel
theorem d_X8_gives_16 : decode cX8_gives 16 = .ok (.iadd, 1) := by decide +kernel
theorem d_X8_gives_17 : decode cX8_gives 17 = .ok (.putfield 156, 3) := by decide +kernel
theorem pk_RX8_156 : PK RX8 156 8 41 .int := ⟨RX8, TX8, 43, tyX8, rfl, by decide, ws_X8, KW.at (i := 1123) (by decide +kernel) rfl, tyX8_ok, nmX8, rfl, rfl⟩
theorem d_X8_gives_20 : decode cX8_gives 20 = .ok (.aload_n 0, 1) := by decide +kernel
theorem d_X8_gives_21 : decode cX8_gives 21 = .ok (.getfield 7, 3) := by decide +kernel
theorem d_X8_gives_24 : decode cX8_gives 24 = .ok (.iload_n 1, 1) := by decide +kernel
theorem d_X8_gives_25 : decode cX8_gives 25 = .ok (.iaload, 1) := by decide +kernel
theorem d_X8_gives_26 : decode cX8_gives 26 = .ok (.istore_n 2, 1) := by decide +kernel
theorem d_X8_gives_27 : decode cX8_gives 27 = .ok (.iload_n 1, 1) := by decide +kernel
theorem d_X8_gives_28 : decode cX8_gives 28 = .ok (.iload_n 2, 1) := by decide +kernel
theorem d_X8_gives_29 : decode cX8_gives 29 = .ok (.iadd, 1) := by decide +kernel
theorem d_X8_gives_30 : decode cX8_gives 30 = .ok (.istore_n 3, 1) := by decide +kernel
theorem d_X8_gives_31 : decode cX8_gives 31 = .ok (.aload_n 0, 1) := by decide +kernel
theorem d_X8_gives_32 : decode cX8_gives 32 = .ok (.getfield 7, 3) := by decide +kernel
theorem d_X8_gives_35 : decode cX8_gives 35 = .ok (.iload_n 1, 1) := by decide +kernel
theorem d_X8_gives_36 : decode cX8_gives 36 = .ok (.iload_n 2, 1) := by decide +kernel
theorem d_X8_gives_37 : decode cX8_gives 37 = .ok (.ineg, 1) := by decide +kernel
theorem d_X8_gives_38 : decode cX8_gives 38 = .ok (.iastore, 1) := by decide +kernel
theorem d_X8_gives_39 : decode cX8_gives 39 = .ok (.iload_n 3, 1) := by decide +kernel
theorem d_X8_gives_40 : decode cX8_gives 40 = .ok (.aload_n 0, 1) := by decide +kernel
theorem d_X8_gives_41 : decode cX8_gives 41 = .ok (.invokevirtual 132, 3) := by decide +kernel
theorem d_X8_gives_44 : decode cX8_gives 44 = .ok (.if_icmp .ge 34, 3) := by decide +kernel
theorem d_X8_gives_78 : decode cX8_gives 78 = .ok (.aload_n 0, 1) := by decide +kernel
theorem d_X8_gives_79 : decode cX8_gives 79 = .ok (.iload_n 1, 1) := by decide +kernel
theorem d_X8_gives_80 : decode cX8_gives 80 = .ok (.invokevirtual 136, 3) := by decide +kernel
theorem d_X8_gives_83 : decode cX8_gives 83 = .ok (.istore 4, 2) := by decide +kernel
theorem d_X8_gives_85 : decode cX8_gives 85 = .ok (.iload 4, 2) := by decide +kernel
theorem d_X8_gives_87 : decode cX8_gives 87 = .ok (.iconst (-1), 1) := by decide +kernel
theorem d_X8_gives_88 : decode cX8_gives 88 = .ok (.if_icmp .eq 26, 3) := by decide +kernel
theorem d_X8_gives_114 : decode cX8_gives 114 = .ok (.return_, 1) := by decide +kernel
theorem d_X8_gives_91 : decode cX8_gives 91 = .ok (.aload_n 0, 1) := by decide +kernel
theorem d_X8_gives_92 : decode cX8_gives 92 = .ok (.getfield 7, 3) := by decide +kernel
theorem d_X8_gives_95 : decode cX8_gives 95 = .ok (.iload 4, 2) := by decide +kernel
theorem d_X8_gives_97 : decode cX8_gives 97 = .ok (.dup2, 1) := by decide +kernel
theorem d_X8_gives_98 : decode cX8_gives 98 = .ok (.iaload, 1) := by decide +kernel
theorem d_X8_gives_99 : decode cX8_gives 99 = .ok (.aload_n 0, 1) := by decide +kernel
theorem d_X8_gives_100 : decode cX8_gives 100 = .ok (.getfield 7, 3) := by decide +kernel
theorem d_X8_gives_103 : decode cX8_gives 103 = .ok (.iload_n 1, 1) := by decide +kernel
theorem d_X8_gives_104 : decode cX8_gives 104 = .ok (.iaload, 1) := by decide +kernel
theorem d_X8_gives_105 : decode cX8_gives 105 = .ok (.iadd, 1) := by decide +kernel
theorem d_X8_gives_106 : decode cX8_gives 106 = .ok (.iastore, 1) := by decide +kernel
theorem d_X8_gives_107 : decode cX8_gives 107 = .ok (.aload_n 0, 1) := by decide +kernel
theorem d_X8_gives_108 : decode cX8_gives 108 = .ok (.getfield 7, 3) := by decide +kernel
theorem d_X8_gives_111 : decode cX8_gives 111 = .ok (.iload_n 1, 1) := by decide +kernel
theorem d_X8_gives_112 : decode cX8_gives 112 = .ok (.iconst 0, 1) := by decide +kernel
theorem d_X8_gives_113 : decode cX8_gives 113 = .ok (.iastore, 1) := by decide +kernel
theorem d_X8_gives_47 : decode cX8_gives 47 = .ok (.aload_n 0, 1) := by decide +kernel
theorem d_X8_gives_48 : decode cX8_gives 48 = .ok (.getfield 7, 3) := by decide +kernel
theorem d_X8_gives_51 : decode cX8_gives 51 = .ok (.iload_n 3, 1) := by decide +kernel
theorem d_X8_gives_52 : decode cX8_gives 52 = .ok (.iaload, 1) := by decide +kernel
theorem d_X8_gives_53 : decode cX8_gives 53 = .ok (.ifCond .ge 25, 3) := by decide +kernel
theorem d_X8_gives_56 : decode cX8_gives 56 = .ok (.aload_n 0, 1) := by decide +kernel
theorem d_X8_gives_57 : decode cX8_gives 57 = .ok (.getfield 7, 3) := by decide +kernel
theorem d_X8_gives_60 : decode cX8_gives 60 = .ok (.iload_n 1, 1) := by decide +kernel
theorem d_X8_gives_61 : decode cX8_gives 61 = .ok (.dup2, 1) := by decide +kernel
theorem d_X8_gives_62 : decode cX8_gives 62 = .ok (.iaload, 1) := by decide +kernel
theorem d_X8_gives_63 : decode cX8_gives 63 = .ok (.aload_n 0, 1) := by decide +kernel
theorem d_X8_gives_64 : decode cX8_gives 64 = .ok (.getfield 7, 3) := by decide +kernel
theorem d_X8_gives_67 : decode cX8_gives 67 = .ok (.iload_n 3, 1) := by decide +kernel
theorem d_X8_gives_68 : decode cX8_gives 68 = .ok (.iaload, 1) := by decide +kernel
theorem d_X8_gives_69 : decode cX8_gives 69 = .ok (.iadd, 1) := by decide +kernel
theorem d_X8_gives_70 : decode cX8_gives 70 = .ok (.iastore, 1) := by decide +kernel
theorem d_X8_gives_71 : decode cX8_gives 71 = .ok (.aload_n 0, 1) := by decide +kernel
theorem d_X8_gives_72 : decode cX8_gives 72 = .ok (.getfield 7, 3) := by decide +kernel
theorem d_X8_gives_75 : decode cX8_gives 75 = .ok (.iload_n 3, 1) := by decide +kernel
theorem d_X8_gives_76 : decode cX8_gives 76 = .ok (.iconst 0, 1) := by decide +kernel
theorem d_X8_gives_77 : decode cX8_gives 77 = .ok (.iastore, 1) := by decide +kernel
theorem d_X8_goes_169 : decode cX8_goes 169 = .ok (.aload_n 0, 1) := by decide +kernel
theorem d_X8_goes_170 : decode cX8_goes 170 = .ok (.getfield 38, 3) := by decide +kernel
theorem d_X8_goes_173 : decode cX8_goes 173 = .ok (.iload_n 1, 1) := by decide +kernel
theorem d_X8_goes_174 : decode cX8_goes 174 = .ok (.dup2, 1) := by decide +kernel
theorem d_X8_goes_175 : decode cX8_goes 175 = .ok (.iaload, 1) := by decide +kernel
theorem d_X8_goes_176 : decode cX8_goes 176 = .ok (.iconst 1, 1) := by decide +kernel
theorem d_X8_goes_177 : decode cX8_goes 177 = .ok (.isub, 1) := by decide +kernel
theorem d_X8_goes_178 : decode cX8_goes 178 = .ok (.iastore, 1) := by decide +kernel
theorem d_X8_goes_179 : decode cX8_goes 179 = .ok (.iload 4, 2) := by decide +kernel
theorem d_X8_goes_181 : decode cX8_goes 181 = .ok (.istore 6, 2) := by decide +kernel
theorem d_X8_goes_183 : decode cX8_goes 183 = .ok (.iload 6, 2) := by decide +kernel
theorem d_X8_goes_185 : decode cX8_goes 185 = .ok (.aload_n 0, 1) := by decide +kernel
theorem d_X8_goes_186 : decode cX8_goes 186 = .ok (.getfield 38, 3) := by decide +kernel
theorem d_X8_goes_189 : decode cX8_goes 189 = .ok (.iload_n 1, 1) := by decide +kernel
theorem d_X8_goes_190 : decode cX8_goes 190 = .ok (.iaload, 1) := by decide +kernel
theorem d_X8_goes_191 : decode cX8_goes 191 = .ok (.if_icmp .ge 61, 3) := by decide +kernel
theorem d_X8_goes_194 : decode cX8_goes 194 = .ok (.aload_n 0, 1) := by decide +kernel
theorem d_X8_goes_195 : decode cX8_goes 195 = .ok (.getfield 44, 3) := by decide +kernel
theorem d_X8_goes_198 : decode cX8_goes 198 = .ok (.bipush 8, 2) := by decide +kernel
theorem d_X8_goes_200 : decode cX8_goes 200 = .ok (.iload_n 1, 1) := by decide +kernel
theorem d_X8_goes_201 : decode cX8_goes 201 = .ok (.imul, 1) := by decide +kernel
theorem d_X8_goes_202 : decode cX8_goes 202 = .ok (.iload 6, 2) := by decide +kernel
theorem d_X8_goes_204 : decode cX8_goes 204 = .ok (.iadd, 1) := by decide +kernel
theorem d_X8_goes_205 : decode cX8_goes 205 = .ok (.aload_n 0, 1) := by decide +kernel
theorem d_X8_goes_206 : decode cX8_goes 206 = .ok (.getfield 44, 3) := by decide +kernel
theorem d_X8_goes_209 : decode cX8_goes 209 = .ok (.bipush 8, 2) := by decide +kernel
theorem d_X8_goes_211 : decode cX8_goes 211 = .ok (.iload_n 1, 1) := by decide +kernel
theorem d_X8_goes_212 : decode cX8_goes 212 = .ok (.imul, 1) := by decide +kernel
theorem d_X8_goes_213 : decode cX8_goes 213 = .ok (.iload 6, 2) := by decide +kernel
theorem d_X8_goes_215 : decode cX8_goes 215 = .ok (.iadd, 1) := by decide +kernel
theorem d_X8_goes_216 : decode cX8_goes 216 = .ok (.iconst 1, 1) := by decide +kernel
theorem d_X8_goes_217 : decode cX8_goes 217 = .ok (.iadd, 1) := by decide +kernel
theorem d_X8_goes_218 : decode cX8_goes 218 = .ok (.iaload, 1) := by decide +kernel
theorem d_X8_goes_219 : decode cX8_goes 219 = .ok (.iastore, 1) := by decide +kernel
theorem d_X8_goes_220 : decode cX8_goes 220 = .ok (.aload_n 0, 1) := by decide +kernel
theorem d_X8_goes_221 : decode cX8_goes 221 = .ok (.getfield 47, 3) := by decide +kernel
theorem d_X8_goes_224 : decode cX8_goes 224 = .ok (.bipush 8, 2) := by decide +kernel
theorem d_X8_goes_226 : decode cX8_goes 226 = .ok (.iload_n 1, 1) := by decide +kernel
theorem d_X8_goes_227 : decode cX8_goes 227 = .ok (.imul, 1) := by decide +kernel
theorem d_X8_goes_228 : decode cX8_goes 228 = .ok (.iload 6, 2) := by decide +kernel
theorem d_X8_goes_230 : decode cX8_goes 230 = .ok (.iadd, 1) := by decide +kernel
theorem d_X8_goes_231 : decode cX8_goes 231 = .ok (.aload_n 0, 1) := by decide +kernel
theorem d_X8_goes_232 : decode cX8_goes 232 = .ok (.getfield 47, 3) := by decide +kernel
theorem d_X8_goes_235 : decode cX8_goes 235 = .ok (.bipush 8, 2) := by decide +kernel
theorem d_X8_goes_237 : decode cX8_goes 237 = .ok (.iload_n 1, 1) := by decide +kernel
theorem d_X8_goes_238 : decode cX8_goes 238 = .ok (.imul, 1) := by decide +kernel
theorem d_X8_goes_239 : decode cX8_goes 239 = .ok (.iload 6, 2) := by decide +kernel
theorem d_X8_goes_241 : decode cX8_goes 241 = .ok (.iadd, 1) := by decide +kernel
theorem d_X8_goes_242 : decode cX8_goes 242 = .ok (.iconst 1, 1) := by decide +kernel
theorem d_X8_goes_243 : decode cX8_goes 243 = .ok (.iadd, 1) := by decide +kernel
theorem d_X8_goes_244 : decode cX8_goes 244 = .ok (.iaload, 1) := by decide +kernel
theorem d_X8_goes_245 : decode cX8_goes 245 = .ok (.iastore, 1) := by decide +kernel
theorem d_X8_goes_246 : decode cX8_goes 246 = .ok (.iinc 6 1, 3) := by decide +kernel
theorem d_X8_goes_249 : decode cX8_goes 249 = .ok (.goto (-66), 3) := by decide +kernel
theorem d_X8_goes_252 : decode cX8_goes 252 = .ok (.aload_n 0, 1) := by decide +kernel
theorem d_X8_goes_253 : decode cX8_goes 253 = .ok (.getfield 38, 3) := by decide +kernel
theorem d_X8_goes_256 : decode cX8_goes 256 = .ok (.iload_n 1, 1) := by decide +kernel
theorem d_X8_goes_257 : decode cX8_goes 257 = .ok (.iaload, 1) := by decide +kernel
theorem d_X8_goes_258 : decode cX8_goes 258 = .ok (.ifCond .le 13, 3) := by decide +kernel
theorem d_X8_goes_271 : decode cX8_goes 271 = .ok (.aload_n 0, 1) := by decide +kernel
theorem d_X8_goes_272 : decode cX8_goes 272 = .ok (.getfield 38, 3) := by decide +kernel
theorem d_X8_goes_275 : decode cX8_goes 275 = .ok (.iload_n 1, 1) := by decide +kernel
theorem d_X8_goes_276 : decode cX8_goes 276 = .ok (.iaload, 1) := by decide +kernel
theorem d_X8_goes_277 : decode cX8_goes 277 = .ok (.iconst 1, 1) := by decide +kernel
theorem d_X8_goes_278 : decode cX8_goes 278 = .ok (.if_icmp .ne 20, 3) := by decide +kernel
theorem d_X8_goes_281 : decode cX8_goes 281 = .ok (.aload_n 0, 1) := by decide +kernel
theorem d_X8_goes_282 : decode cX8_goes 282 = .ok (.aload_n 0, 1) := by decide +kernel
theorem d_X8_goes_283 : decode cX8_goes 283 = .ok (.getfield 41, 3) := by decide +kernel
theorem d_X8_goes_286 : decode cX8_goes 286 = .ok (.iload_n 1, 1) := by decide +kernel
theorem d_X8_goes_287 : decode cX8_goes 287 = .ok (.iaload, 1) := by decide +kernel
theorem d_X8_goes_288 : decode cX8_goes 288 = .ok (.invokevirtual 182, 3) := by decide +kernel
theorem d_X8_goes_291 : decode cX8_goes 291 = .ok (.aload_n 0, 1) := by decide +kernel
theorem d_X8_goes_292 : decode cX8_goes 292 = .ok (.getfield 41, 3) := by decide +kernel
theorem d_X8_goes_295 : decode cX8_goes 295 = .ok (.iload_n 1, 1) := by decide +kernel
theorem d_X8_goes_296 : decode cX8_goes 296 = .ok (.iconst (-1), 1) := by decide +kernel
theorem d_X8_goes_297 : decode cX8_goes 297 = .ok (.iastore, 1) := by decide +kernel
theorem d_X8_goes_261 : decode cX8_goes 261 = .ok (.aload_n 0, 1) := by decide +kernel
theorem d_X8_goes_262 : decode cX8_goes 262 = .ok (.aload_n 0, 1) := by decide +kernel
theorem d_X8_goes_263 : decode cX8_goes 263 = .ok (.getfield 41, 3) := by decide +kernel
theorem d_X8_goes_266 : decode cX8_goes 266 = .ok (.iload_n 1, 1) := by decide +kernel
theorem d_X8_goes_267 : decode cX8_goes 267 = .ok (.iaload, 1) := by decide +kernel
theorem d_X8_goes_268 : decode cX8_goes 268 = .ok (.invokevirtual 152, 3) := by decide +kernel
theorem d_X8_rename_85 : decode cX8_rename 85 = .ok (.aload_n 0, 1) := by decide +kernel
theorem d_X8_rename_86 : decode cX8_rename 86 = .ok (.getfield 26, 3) := by decide +kernel
theorem d_X8_rename_89 : decode cX8_rename 89 = .ok (.iload_n 1, 1) := by decide +kernel
theorem d_X8_rename_90 : decode cX8_rename 90 = .ok (.iload_n 2, 1) := by decide +kernel
theorem d_X8_rename_91 : decode cX8_rename 91 = .ok (.iastore, 1) := by decide +kernel
theorem d_X8_rename_92 : decode cX8_rename 92 = .ok (.aload_n 0, 1) := by decide +kernel
theorem d_X8_rename_93 : decode cX8_rename 93 = .ok (.aload_n 0, 1) := by decide +kernel
theorem d_X8_rename_94 : decode cX8_rename 94 = .ok (.getfield 32, 3) := by decide +kernel
theorem d_X8_rename_97 : decode cX8_rename 97 = .ok (.iload_n 1, 1) := by decide +kernel
theorem d_X8_rename_98 : decode cX8_rename 98 = .ok (.iaload, 1) := by decide +kernel
theorem d_X8_rename_99 : decode cX8_rename 99 = .ok (.invokevirtual 152, 3) := by decide +kernel
theorem d_X8_rename_102 : decode cX8_rename 102 = .ok (.aload_n 0, 1) := by decide +kernel
theorem d_X8_rename_103 : decode cX8_rename 103 = .ok (.aload_n 0, 1) := by decide +kernel
theorem d_X8_rename_104 : decode cX8_rename 104 = .ok (.getfield 23, 3) := by decide +kernel
theorem d_X8_rename_107 : decode cX8_rename 107 = .ok (.iload_n 1, 1) := by decide +kernel
theorem d_X8_rename_108 : decode cX8_rename 108 = .ok (.iaload, 1) := by decide +kernel
theorem d_X8_rename_109 : decode cX8_rename 109 = .ok (.iconst 1, 1) := by decide +kernel
theorem d_X8_rename_110 : decode cX8_rename 110 = .ok (.invokevirtual 218, 3) := by decide +kernel
theorem d_X8_rename_113 : decode cX8_rename 113 = .ok (.iload 4, 2) := by decide +kernel
theorem d_X8_rename_115 : decode cX8_rename 115 = .ok (.ireturn, 1) := by decide +kernel
theorem d_X8_rename_46 : decode cX8_rename 46 = .ok (.iconst 0, 1) := by decide +kernel
theorem d_X8_rename_47 : decode cX8_rename 47 = .ok (.ireturn, 1) := by decide +kernel
theorem d_X8_rename_15 : decode cX8_rename 15 = .ok (.iload_n 2, 1) := by decide +kernel
theorem d_X8_rename_16 : decode cX8_rename 16 = .ok (.invokestatic 221, 3) := by decide +kernel
theorem d_X8_rename_19 : decode cX8_rename 19 = .ok (.ifCond .ne 7, 3) := by decide +kernel
theorem d_X8_rename_26 : decode cX8_rename 26 = .ok (.aload_n 0, 1) := by decide +kernel
theorem d_X8_rename_27 : decode cX8_rename 27 = .ok (.iload_n 1, 1) := by decide +kernel
theorem d_X8_rename_28 : decode cX8_rename 28 = .ok (.iload_n 2, 1) := by decide +kernel
theorem d_X8_rename_29 : decode cX8_rename 29 = .ok (.invokevirtual 231, 3) := by decide +kernel
abbrev Y_X8_cannotRename : YT := (cX8_cannotRename, 3, (some .boolean), yX8_cannotRename, [], 5)
theorem mk_X8_cannotRename : MK Y_X8_cannotRename 2 := ⟨KW.at (i := 85) (by decide +kernel) rfl, KW.at (i := 1345) (by decide +kernel) rfl, ⟨by decide +kernel, by decide +kernel⟩, by decide +kernel, by decide +kernel, rfl, by decide⟩
theorem vm_X8_cannotRename : KW (.instanceMethod (yN Y_X8_cannotRename)) ∧ KW (.selects (yN Y_X8_cannotRename).cls (yN Y_X8_cannotRename) (yN Y_X8_cannotRename)) := ⟨KW.at (i := 1344) (by decide +kernel) rfl, KW.at (i := 60) (by decide +kernel) rfl⟩
theorem ck_RX8_231 : CKV RX8 231 Y_X8_cannotRename 2 := ⟨KW.at (i := 1342) (by decide +kernel) rfl, vm_X8_cannotRename.1, vm_X8_cannotRename.2, mk_X8_cannotRename⟩
theorem d_X8_cannotRename_0 : decode cX8_cannotRename 0 = .ok (.iload_n 1, 1) := by decide +kernel
theorem d_X8_cannotRename_1 : decode cX8_cannotRename 1 = .ok (.ifCond .eq 32, 3) := by decide +kernel
theorem d_X8_cannotRename_33 : decode cX8_cannotRename 33 = .ok (.iconst 1, 1) := by decide +kernel
theorem d_X8_cannotRename_34 : decode cX8_cannotRename 34 = .ok (.ireturn, 1) := by decide +kernel
theorem d_X8_cannotRename_4 : decode cX8_cannotRename 4 = .ok (.aload_n 0, 1) := by decide +kernel
theorem d_X8_cannotRename_5 : decode cX8_cannotRename 5 = .ok (.aload_n 0, 1) := by decide +kernel
theorem d_X8_cannotRename_6 : decode cX8_cannotRename 6 = .ok (.getfield 23, 3) := by decide +kernel
theorem d_X8_cannotRename_9 : decode cX8_cannotRename 9 = .ok (.iload_n 1, 1) := by decide +kernel
theorem d_X8_cannotRename_10 : decode cX8_cannotRename 10 = .ok (.iaload, 1) := by decide +kernel
theorem d_X8_cannotRename_11 : decode cX8_cannotRename 11 = .ok (.iload_n 2, 1) := by decide +kernel
theorem d_X8_cannotRename_12 : decode cX8_cannotRename 12 = .ok (.invokevirtual 179, 3) := by decide +kernel
theorem d_X8_cannotRename_15 : decode cX8_cannotRename 15 = .ok (.iconst (-1), 1) := by decide +kernel
theorem d_X8_cannotRename_16 : decode cX8_cannotRename 16 = .ok (.if_icmp .ne 17, 3) := by decide +kernel
theorem d_X8_cannotRename_19 : decode cX8_cannotRename 19 = .ok (.aload_n 0, 1) := by decide +kernel
theorem d_X8_cannotRename_20 : decode cX8_cannotRename 20 = .ok (.aload_n 0, 1) := by decide +kernel
theorem d_X8_cannotRename_21 : decode cX8_cannotRename 21 = .ok (.getfield 23, 3) := by decide +kernel
theorem d_X8_cannotRename_24 : decode cX8_cannotRename 24 = .ok (.iload_n 1, 1) := by decide +kernel
theorem d_X8_cannotRename_25 : decode cX8_cannotRename 25 = .ok (.iaload, 1) := by decide +kernel
theorem d_X8_cannotRename_26 : decode cX8_cannotRename 26 = .ok (.iload_n 2, 1) := by decide +kernel
theorem d_X8_cannotRename_27 : decode cX8_cannotRename 27 = .ok (.invokevirtual 201, 3) := by decide +kernel
theorem d_X8_cannotRename_30 : decode cX8_cannotRename 30 = .ok (.ifCond .eq 5, 3) := by decide +kernel
theorem d_X8_cannotRename_35 : decode cX8_cannotRename 35 = .ok (.aload_n 0, 1) := by decide +kernel
theorem d_X8_cannotRename_36 : decode cX8_cannotRename 36 = .ok (.iconst 0, 1) := by decide +kernel
theorem d_X8_cannotRename_37 : decode cX8_cannotRename 37 = .ok (.putfield 146, 3) := by decide +kernel
theorem d_X8_cannotRename_40 : decode cX8_cannotRename 40 = .ok (.aload_n 0, 1) := by decide +kernel
theorem d_X8_cannotRename_41 : decode cX8_cannotRename 41 = .ok (.aload_n 0, 1) := by decide +kernel
theorem d_X8_cannotRename_42 : decode cX8_cannotRename 42 = .ok (.getfield 23, 3) := by decide +kernel
theorem d_X8_cannotRename_45 : decode cX8_cannotRename 45 = .ok (.iload_n 1, 1) := by decide +kernel
theorem d_X8_cannotRename_46 : decode cX8_cannotRename 46 = .ok (.iaload, 1) := by decide +kernel
theorem d_X8_cannotRename_47 : decode cX8_cannotRename 47 = .ok (.iload_n 2, 1) := by decide +kernel
theorem d_X8_cannotRename_48 : decode cX8_cannotRename 48 = .ok (.invokevirtual 204, 3) := by decide +kernel
theorem d_X8_cannotRename_51 : decode cX8_cannotRename 51 = .ok (.aload_n 0, 1) := by decide +kernel
theorem d_X8_cannotRename_52 : decode cX8_cannotRename 52 = .ok (.invokevirtual 207, 3) := by decide +kernel
theorem d_X8_cannotRename_55 : decode cX8_cannotRename 55 = .ok (.ifCond .ne 7, 3) := by decide +kernel
theorem d_X8_cannotRename_62 : decode cX8_cannotRename 62 = .ok (.iconst 0, 1) := by decide +kernel
theorem d_X8_cannotRename_63 : decode cX8_cannotRename 63 = .ok (.ireturn, 1) := by decide +kernel
theorem d_X8_cannotRename_58 : decode cX8_cannotRename 58 = .ok (.iconst 1, 1) := by decide +kernel
theorem d_X8_cannotRename_59 : decode cX8_cannotRename 59 = .ok (.goto 4, 3) := by decide +kernel
theorem d_X8_rename_32 : decode cX8_rename 32 = .ok (.ifCond .eq 7, 3) := by decide +kernel
theorem d_X8_rename_39 : decode cX8_rename 39 = .ok (.iconst 0, 1) := by decide +kernel
theorem d_X8_rename_35 : decode cX8_rename 35 = .ok (.iconst 3, 1) := by decide +kernel
theorem d_X8_rename_36 : decode cX8_rename 36 = .ok (.goto 4, 3) := by decide +kernel
theorem d_X8_rename_22 : decode cX8_rename 22 = .ok (.iconst 2, 1) := by decide +kernel
theorem d_X8_rename_23 : decode cX8_rename 23 = .ok (.goto 17, 3) := by decide +kernel
theorem d_X8_rename_11 : decode cX8_rename 11 = .ok (.iconst 1, 1) := by decide +kernel
theorem d_X8_rename_12 : decode cX8_rename 12 = .ok (.goto 28, 3) := by decide +kernel
abbrev Y_X8_delete : YT := (cX8_delete, 4, (some .int), yX8_delete, [], 5)
theorem d_X8_delete_0 : decode cX8_delete 0 = .ok (.aload_n 0, 1) := by decide +kernel
theorem d_X8_delete_1 : decode cX8_delete 1 = .ok (.iload_n 1, 1) := by decide +kernel
theorem d_X8_delete_2 : decode cX8_delete 2 = .ok (.invokevirtual 191, 3) := by decide +kernel
theorem d_X8_delete_5 : decode cX8_delete 5 = .ok (.istore_n 2, 1) := by decide +kernel
theorem d_X8_delete_6 : decode cX8_delete 6 = .ok (.aload_n 0, 1) := by decide +kernel
theorem d_X8_delete_7 : decode cX8_delete 7 = .ok (.iload_n 2, 1) := by decide +kernel
theorem d_X8_delete_8 : decode cX8_delete 8 = .ok (.ifCond .ne 7, 3) := by decide +kernel
theorem d_X8_delete_33 : decode cX8_delete 33 = .ok (.invokevirtual 195, 3) := by decide +kernel
theorem d_X8_delete_36 : decode cX8_delete 36 = .ok (.ifCond .eq 5, 3) := by decide +kernel
theorem d_X8_delete_41 : decode cX8_delete 41 = .ok (.aload_n 0, 1) := by decide +kernel
theorem d_X8_delete_42 : decode cX8_delete 42 = .ok (.iconst 0, 1) := by decide +kernel
theorem d_X8_delete_43 : decode cX8_delete 43 = .ok (.putfield 156, 3) := by decide +kernel
theorem d_X8_delete_46 : decode cX8_delete 46 = .ok (.iconst 0, 1) := by decide +kernel
theorem d_X8_delete_47 : decode cX8_delete 47 = .ok (.istore_n 3, 1) := by decide +kernel
theorem d_X8_delete_48 : decode cX8_delete 48 = .ok (.iload_n 3, 1) := by decide +kernel
theorem d_X8_delete_49 : decode cX8_delete 49 = .ok (.aload_n 0, 1) := by decide +kernel
theorem d_X8_delete_50 : decode cX8_delete 50 = .ok (.getfield 56, 3) := by decide +kernel
theorem d_X8_delete_53 : decode cX8_delete 53 = .ok (.iload_n 1, 1) := by decide +kernel
theorem d_X8_delete_54 : decode cX8_delete 54 = .ok (.iaload, 1) := by decide +kernel
theorem d_X8_delete_55 : decode cX8_delete 55 = .ok (.if_icmp .ge 35, 3) := by decide +kernel
theorem d_X8_delete_58 : decode cX8_delete 58 = .ok (.aload_n 0, 1) := by decide +kernel
theorem d_X8_delete_59 : decode cX8_delete 59 = .ok (.bipush 8, 2) := by decide +kernel
theorem d_X8_delete_61 : decode cX8_delete 61 = .ok (.iload_n 1, 1) := by decide +kernel
theorem d_X8_delete_62 : decode cX8_delete 62 = .ok (.imul, 1) := by decide +kernel
theorem d_X8_delete_63 : decode cX8_delete 63 = .ok (.iload_n 3, 1) := by decide +kernel
theorem d_X8_delete_64 : decode cX8_delete 64 = .ok (.iadd, 1) := by decide +kernel
theorem d_X8_delete_65 : decode cX8_delete 65 = .ok (.iconst 0, 1) := by decide +kernel
theorem d_X8_delete_66 : decode cX8_delete 66 = .ok (.invokevirtual 240, 3) := by decide +kernel
abbrev Y_X8_givesPieces : YT := (cX8_givesPieces, 4, none, yX8_givesPieces, [], 3)
theorem mk_X8_givesPieces : MK Y_X8_givesPieces 2 := ⟨KW.at (i := 85) (by decide +kernel) rfl, KW.at (i := 1361) (by decide +kernel) rfl, ⟨by decide +kernel, by decide +kernel⟩, by decide +kernel, by decide +kernel, rfl, by decide⟩
theorem vm_X8_givesPieces : KW (.instanceMethod (yN Y_X8_givesPieces)) ∧ KW (.selects (yN Y_X8_givesPieces).cls (yN Y_X8_givesPieces) (yN Y_X8_givesPieces)) := ⟨KW.at (i := 1360) (by decide +kernel) rfl, KW.at (i := 63) (by decide +kernel) rfl⟩
theorem ck_RX8_240 : CKV RX8 240 Y_X8_givesPieces 2 := ⟨KW.at (i := 1358) (by decide +kernel) rfl, vm_X8_givesPieces.1, vm_X8_givesPieces.2, mk_X8_givesPieces⟩
theorem d_X8_givesPieces_0 : decode cX8_givesPieces 0 = .ok (.iload_n 2, 1) := by decide +kernel
theorem d_X8_givesPieces_1 : decode cX8_givesPieces 1 = .ok (.istore_n 3, 1) := by decide +kernel
theorem d_X8_givesPieces_2 : decode cX8_givesPieces 2 = .ok (.iload_n 3, 1) := by decide +kernel
theorem d_X8_givesPieces_3 : decode cX8_givesPieces 3 = .ok (.aload_n 0, 1) := by decide +kernel
theorem d_X8_givesPieces_4 : decode cX8_givesPieces 4 = .ok (.getfield 71, 3) := by decide +kernel
theorem fk_RX8_71 : FK RX8 71 8 20 := ⟨RX8, TX8, 43, rfl, by decide, ws_X8, KW.at (i := 1102) (by decide +kernel) rfl⟩
theorem d_X8_givesPieces_7 : decode cX8_givesPieces 7 = .ok (.iload_n 1, 1) := by decide +kernel
theorem d_X8_givesPieces_8 : decode cX8_givesPieces 8 = .ok (.iaload, 1) := by decide +kernel
theorem sh_53 : SH.getD 53 (9, 0, []) = (1, 1920, []) := rfl
theorem d_X8_givesPieces_9 : decode cX8_givesPieces 9 = .ok (.invokestatic 237, 3) := by decide +kernel
abbrev Y_X8_piecesFor : YT := (cX8_piecesFor, 1, (some .int), yX8_piecesFor, [], 1)
theorem mk_X8_piecesFor : MK Y_X8_piecesFor 1 := ⟨KW.at (i := 85) (by decide +kernel) rfl, KW.at (i := 1364) (by decide +kernel) rfl, ⟨by decide +kernel, by decide +kernel⟩, by decide +kernel, by decide +kernel, rfl, by decide⟩
theorem sm_X8_piecesFor : KW (.static (yN Y_X8_piecesFor)) := KW.at (i := 1363) (by decide +kernel) rfl
theorem ck_RX8_237 : CKS RX8 237 Y_X8_piecesFor 1 := ⟨KW.at (i := 1362) (by decide +kernel) rfl, sm_X8_piecesFor, mk_X8_piecesFor⟩
theorem d_X8_piecesFor_0 : decode cX8_piecesFor 0 = .ok (.iload_n 0, 1) := by decide +kernel
theorem d_X8_piecesFor_1 : decode cX8_piecesFor 1 = .ok (.iconst 2, 1) := by decide +kernel
theorem d_X8_piecesFor_2 : decode cX8_piecesFor 2 = .ok (.if_icmp .ge 7, 3) := by decide +kernel
theorem d_X8_piecesFor_9 : decode cX8_piecesFor 9 = .ok (.iload_n 0, 1) := by decide +kernel
theorem d_X8_piecesFor_10 : decode cX8_piecesFor 10 = .ok (.bipush 8, 2) := by decide +kernel
theorem d_X8_piecesFor_12 : decode cX8_piecesFor 12 = .ok (.iadd, 1) := by decide +kernel
theorem d_X8_piecesFor_13 : decode cX8_piecesFor 13 = .ok (.iconst 1, 1) := by decide +kernel
theorem d_X8_piecesFor_14 : decode cX8_piecesFor 14 = .ok (.isub, 1) := by decide +kernel
theorem d_X8_piecesFor_15 : decode cX8_piecesFor 15 = .ok (.bipush 8, 2) := by decide +kernel
theorem d_X8_piecesFor_17 : decode cX8_piecesFor 17 = .ok (.idiv, 1) := by decide +kernel
theorem d_X8_piecesFor_18 : decode cX8_piecesFor 18 = .ok (.ireturn, 1) := by decide +kernel
theorem d_X8_piecesFor_5 : decode cX8_piecesFor 5 = .ok (.iconst 0, 1) := by decide +kernel
theorem d_X8_piecesFor_6 : decode cX8_piecesFor 6 = .ok (.goto 12, 3) := by decide +kernel
theorem d_X8_givesPieces_12 : decode cX8_givesPieces 12 = .ok (.if_icmp .ge 23, 3) := by decide +kernel
theorem d_X8_givesPieces_35 : decode cX8_givesPieces 35 = .ok (.return_, 1) := by decide +kernel
theorem d_X8_givesPieces_15 : decode cX8_givesPieces 15 = .ok (.aload_n 0, 1) := by decide +kernel
theorem d_X8_givesPieces_16 : decode cX8_givesPieces 16 = .ok (.aload_n 0, 1) := by decide +kernel
theorem d_X8_givesPieces_17 : decode cX8_givesPieces 17 = .ok (.getfield 77, 3) := by decide +kernel
theorem fk_RX8_77 : FK RX8 77 8 22 := ⟨RX8, TX8, 43, rfl, by decide, ws_X8, KW.at (i := 1104) (by decide +kernel) rfl⟩
theorem d_X8_givesPieces_20 : decode cX8_givesPieces 20 = .ok (.iconst 4, 1) := by decide +kernel
theorem d_X8_givesPieces_21 : decode cX8_givesPieces 21 = .ok (.iload_n 1, 1) := by decide +kernel
theorem d_X8_givesPieces_22 : decode cX8_givesPieces 22 = .ok (.imul, 1) := by decide +kernel
theorem d_X8_givesPieces_23 : decode cX8_givesPieces 23 = .ok (.iload_n 3, 1) := by decide +kernel
theorem d_X8_givesPieces_24 : decode cX8_givesPieces 24 = .ok (.iadd, 1) := by decide +kernel
theorem d_X8_givesPieces_25 : decode cX8_givesPieces 25 = .ok (.iaload, 1) := by decide +kernel
theorem sh_55 : SH.getD 55 (9, 0, []) = (1, 7680, []) := rfl
theorem d_X8_givesPieces_26 : decode cX8_givesPieces 26 = .ok (.invokevirtual 182, 3) := by decide +kernel
theorem d_X8_givesPieces_29 : decode cX8_givesPieces 29 = .ok (.iinc 3 1, 3) := by decide +kernel
theorem d_X8_givesPieces_32 : decode cX8_givesPieces 32 = .ok (.goto (-30), 3) := by decide +kernel
theorem d_X8_delete_69 : decode cX8_delete 69 = .ok (.aload_n 0, 1) := by decide +kernel
theorem d_X8_delete_70 : decode cX8_delete 70 = .ok (.aload_n 0, 1) := by decide +kernel
theorem d_X8_delete_71 : decode cX8_delete 71 = .ok (.getfield 74, 3) := by decide +kernel
theorem fk_RX8_74 : FK RX8 74 8 21 := ⟨RX8, TX8, 43, rfl, by decide, ws_X8, KW.at (i := 1103) (by decide +kernel) rfl⟩
theorem d_X8_delete_74 : decode cX8_delete 74 = .ok (.bipush 8, 2) := by decide +kernel
theorem d_X8_delete_76 : decode cX8_delete 76 = .ok (.iload_n 1, 1) := by decide +kernel
theorem d_X8_delete_77 : decode cX8_delete 77 = .ok (.imul, 1) := by decide +kernel
theorem d_X8_delete_78 : decode cX8_delete 78 = .ok (.iload_n 3, 1) := by decide +kernel
theorem d_X8_delete_79 : decode cX8_delete 79 = .ok (.iadd, 1) := by decide +kernel
theorem d_X8_delete_80 : decode cX8_delete 80 = .ok (.iaload, 1) := by decide +kernel
theorem sh_54 : SH.getD 54 (9, 0, []) = (1, 1920, []) := rfl
theorem d_X8_delete_81 : decode cX8_delete 81 = .ok (.invokevirtual 182, 3) := by decide +kernel
theorem d_X8_delete_84 : decode cX8_delete 84 = .ok (.iinc 3 1, 3) := by decide +kernel
theorem d_X8_delete_87 : decode cX8_delete 87 = .ok (.goto (-39), 3) := by decide +kernel
theorem d_X8_delete_90 : decode cX8_delete 90 = .ok (.aload_n 0, 1) := by decide +kernel
theorem d_X8_delete_91 : decode cX8_delete 91 = .ok (.getfield 59, 3) := by decide +kernel
theorem d_X8_delete_94 : decode cX8_delete 94 = .ok (.iload_n 1, 1) := by decide +kernel
theorem d_X8_delete_95 : decode cX8_delete 95 = .ok (.iaload, 1) := by decide +kernel
theorem d_X8_delete_96 : decode cX8_delete 96 = .ok (.iconst (-1), 1) := by decide +kernel
theorem d_X8_delete_97 : decode cX8_delete 97 = .ok (.if_icmp .eq 13, 3) := by decide +kernel
theorem d_X8_delete_110 : decode cX8_delete 110 = .ok (.aload_n 0, 1) := by decide +kernel
theorem d_X8_delete_111 : decode cX8_delete 111 = .ok (.aload_n 0, 1) := by decide +kernel
theorem d_X8_delete_112 : decode cX8_delete 112 = .ok (.getfield 32, 3) := by decide +kernel
theorem d_X8_delete_115 : decode cX8_delete 115 = .ok (.iload_n 1, 1) := by decide +kernel
theorem d_X8_delete_116 : decode cX8_delete 116 = .ok (.iaload, 1) := by decide +kernel
theorem d_X8_delete_117 : decode cX8_delete 117 = .ok (.invokevirtual 182, 3) := by decide +kernel
theorem d_X8_delete_120 : decode cX8_delete 120 = .ok (.aload_n 0, 1) := by decide +kernel
theorem d_X8_delete_121 : decode cX8_delete 121 = .ok (.aload_n 0, 1) := by decide +kernel
theorem d_X8_delete_122 : decode cX8_delete 122 = .ok (.getfield 35, 3) := by decide +kernel
theorem d_X8_delete_125 : decode cX8_delete 125 = .ok (.iload_n 1, 1) := by decide +kernel
theorem d_X8_delete_126 : decode cX8_delete 126 = .ok (.iaload, 1) := by decide +kernel
theorem d_X8_delete_127 : decode cX8_delete 127 = .ok (.invokevirtual 243, 3) := by decide +kernel
abbrev Y_X8_leavesRights : YT := (cX8_leavesRights, 2, none, yX8_leavesRights, [], 3)
theorem mk_X8_leavesRights : MK Y_X8_leavesRights 1 := ⟨KW.at (i := 85) (by decide +kernel) rfl, KW.at (i := 1368) (by decide +kernel) rfl, ⟨by decide +kernel, by decide +kernel⟩, by decide +kernel, by decide +kernel, rfl, by decide⟩
theorem vm_X8_leavesRights : KW (.instanceMethod (yN Y_X8_leavesRights)) ∧ KW (.selects (yN Y_X8_leavesRights).cls (yN Y_X8_leavesRights) (yN Y_X8_leavesRights)) := ⟨KW.at (i := 1367) (by decide +kernel) rfl, KW.at (i := 64) (by decide +kernel) rfl⟩
theorem ck_RX8_243 : CKV RX8 243 Y_X8_leavesRights 1 := ⟨KW.at (i := 1365) (by decide +kernel) rfl, vm_X8_leavesRights.1, vm_X8_leavesRights.2, mk_X8_leavesRights⟩
theorem d_X8_leavesRights_0 : decode cX8_leavesRights 0 = .ok (.aload_n 0, 1) := by decide +kernel
theorem d_X8_leavesRights_1 : decode cX8_leavesRights 1 = .ok (.getfield 83, 3) := by decide +kernel
theorem d_X8_leavesRights_4 : decode cX8_leavesRights 4 = .ok (.iload_n 1, 1) := by decide +kernel
theorem d_X8_leavesRights_5 : decode cX8_leavesRights 5 = .ok (.dup2, 1) := by decide +kernel
theorem d_X8_leavesRights_6 : decode cX8_leavesRights 6 = .ok (.iaload, 1) := by decide +kernel
theorem d_X8_leavesRights_7 : decode cX8_leavesRights 7 = .ok (.iconst 1, 1) := by decide +kernel
theorem d_X8_leavesRights_8 : decode cX8_leavesRights 8 = .ok (.isub, 1) := by decide +kernel
theorem d_X8_leavesRights_9 : decode cX8_leavesRights 9 = .ok (.iastore, 1) := by decide +kernel
theorem d_X8_leavesRights_10 : decode cX8_leavesRights 10 = .ok (.aload_n 0, 1) := by decide +kernel
theorem d_X8_leavesRights_11 : decode cX8_leavesRights 11 = .ok (.aload_n 0, 1) := by decide +kernel
theorem d_X8_leavesRights_12 : decode cX8_leavesRights 12 = .ok (.getfield 80, 3) := by decide +kernel
theorem d_X8_leavesRights_15 : decode cX8_leavesRights 15 = .ok (.iload_n 1, 1) := by decide +kernel
theorem d_X8_leavesRights_16 : decode cX8_leavesRights 16 = .ok (.iaload, 1) := by decide +kernel
theorem d_X8_leavesRights_17 : decode cX8_leavesRights 17 = .ok (.invokevirtual 152, 3) := by decide +kernel
theorem d_X8_leavesRights_20 : decode cX8_leavesRights 20 = .ok (.aload_n 0, 1) := by decide +kernel
theorem d_X8_leavesRights_21 : decode cX8_leavesRights 21 = .ok (.getfield 83, 3) := by decide +kernel
theorem d_X8_leavesRights_24 : decode cX8_leavesRights 24 = .ok (.iload_n 1, 1) := by decide +kernel
theorem d_X8_leavesRights_25 : decode cX8_leavesRights 25 = .ok (.iaload, 1) := by decide +kernel
theorem d_X8_leavesRights_26 : decode cX8_leavesRights 26 = .ok (.ifCond .ne 20, 3) := by decide +kernel
theorem d_X8_leavesRights_46 : decode cX8_leavesRights 46 = .ok (.return_, 1) := by decide +kernel
theorem d_X8_leavesRights_29 : decode cX8_leavesRights 29 = .ok (.aload_n 0, 1) := by decide +kernel
theorem d_X8_leavesRights_30 : decode cX8_leavesRights 30 = .ok (.aload_n 0, 1) := by decide +kernel
theorem d_X8_leavesRights_31 : decode cX8_leavesRights 31 = .ok (.getfield 80, 3) := by decide +kernel
theorem d_X8_leavesRights_34 : decode cX8_leavesRights 34 = .ok (.iload_n 1, 1) := by decide +kernel
theorem d_X8_leavesRights_35 : decode cX8_leavesRights 35 = .ok (.iaload, 1) := by decide +kernel
theorem d_X8_leavesRights_36 : decode cX8_leavesRights 36 = .ok (.invokevirtual 182, 3) := by decide +kernel
theorem d_X8_leavesRights_39 : decode cX8_leavesRights 39 = .ok (.aload_n 0, 1) := by decide +kernel
theorem d_X8_leavesRights_40 : decode cX8_leavesRights 40 = .ok (.getfield 80, 3) := by decide +kernel
theorem d_X8_leavesRights_43 : decode cX8_leavesRights 43 = .ok (.iload_n 1, 1) := by decide +kernel
theorem d_X8_leavesRights_44 : decode cX8_leavesRights 44 = .ok (.iconst (-1), 1) := by decide +kernel
theorem d_X8_leavesRights_45 : decode cX8_leavesRights 45 = .ok (.iastore, 1) := by decide +kernel
theorem d_X8_delete_130 : decode cX8_delete 130 = .ok (.aload_n 0, 1) := by decide +kernel
theorem d_X8_delete_131 : decode cX8_delete 131 = .ok (.aload_n 0, 1) := by decide +kernel
theorem d_X8_delete_132 : decode cX8_delete 132 = .ok (.getfield 23, 3) := by decide +kernel
theorem d_X8_delete_135 : decode cX8_delete 135 = .ok (.iload_n 1, 1) := by decide +kernel
theorem d_X8_delete_136 : decode cX8_delete 136 = .ok (.iaload, 1) := by decide +kernel
theorem d_X8_delete_137 : decode cX8_delete 137 = .ok (.aload_n 0, 1) := by decide +kernel
theorem d_X8_delete_138 : decode cX8_delete 138 = .ok (.getfield 26, 3) := by decide +kernel
theorem d_X8_delete_141 : decode cX8_delete 141 = .ok (.iload_n 1, 1) := by decide +kernel
theorem d_X8_delete_142 : decode cX8_delete 142 = .ok (.iaload, 1) := by decide +kernel
theorem d_X8_delete_143 : decode cX8_delete 143 = .ok (.invokevirtual 234, 3) := by decide +kernel
theorem d_X8_delete_146 : decode cX8_delete 146 = .ok (.aload_n 0, 1) := by decide +kernel
theorem d_X8_delete_147 : decode cX8_delete 147 = .ok (.getfield 19, 3) := by decide +kernel
theorem d_X8_delete_150 : decode cX8_delete 150 = .ok (.iload_n 1, 1) := by decide +kernel
theorem d_X8_delete_151 : decode cX8_delete 151 = .ok (.iconst 0, 1) := by decide +kernel
theorem d_X8_delete_152 : decode cX8_delete 152 = .ok (.bastore, 1) := by decide +kernel
theorem d_X8_delete_153 : decode cX8_delete 153 = .ok (.aload_n 0, 1) := by decide +kernel
theorem d_X8_delete_154 : decode cX8_delete 154 = .ok (.iload_n 1, 1) := by decide +kernel
theorem d_X8_delete_155 : decode cX8_delete 155 = .ok (.invokevirtual 198, 3) := by decide +kernel
abbrev Y_X8_forgets : YT := (cX8_forgets, 4, none, yX8_forgets, [], 1)
theorem mk_X8_forgets : MK Y_X8_forgets 1 := ⟨KW.at (i := 85) (by decide +kernel) rfl, KW.at (i := 1235) (by decide +kernel) rfl, ⟨by decide +kernel, by decide +kernel⟩, by decide +kernel, by decide +kernel, rfl, by decide⟩
theorem vm_X8_forgets : KW (.instanceMethod (yN Y_X8_forgets)) ∧ KW (.selects (yN Y_X8_forgets).cls (yN Y_X8_forgets) (yN Y_X8_forgets)) := ⟨KW.at (i := 1234) (by decide +kernel) rfl, KW.at (i := 38) (by decide +kernel) rfl⟩
theorem ck_RX8_198 : CKV RX8 198 Y_X8_forgets 1 := ⟨KW.at (i := 1232) (by decide +kernel) rfl, vm_X8_forgets.1, vm_X8_forgets.2, mk_X8_forgets⟩
theorem d_X8_forgets_0 : decode cX8_forgets 0 = .ok (.aload_n 0, 1) := by decide +kernel
theorem d_X8_forgets_1 : decode cX8_forgets 1 = .ok (.getfield 89, 3) := by decide +kernel
theorem d_X8_forgets_4 : decode cX8_forgets 4 = .ok (.iload_n 1, 1) := by decide +kernel
theorem d_X8_forgets_5 : decode cX8_forgets 5 = .ok (.iconst 0, 1) := by decide +kernel
theorem d_X8_forgets_6 : decode cX8_forgets 6 = .ok (.iastore, 1) := by decide +kernel
theorem d_X8_forgets_7 : decode cX8_forgets 7 = .ok (.aload_n 0, 1) := by decide +kernel
theorem d_X8_forgets_8 : decode cX8_forgets 8 = .ok (.getfield 92, 3) := by decide +kernel
theorem d_X8_forgets_11 : decode cX8_forgets 11 = .ok (.iload_n 1, 1) := by decide +kernel
theorem d_X8_forgets_12 : decode cX8_forgets 12 = .ok (.iconst 0, 1) := by decide +kernel
theorem d_X8_forgets_13 : decode cX8_forgets 13 = .ok (.bastore, 1) := by decide +kernel
theorem d_X8_forgets_14 : decode cX8_forgets 14 = .ok (.aload_n 0, 1) := by decide +kernel
theorem d_X8_forgets_15 : decode cX8_forgets 15 = .ok (.getfield 95, 3) := by decide +kernel
theorem d_X8_forgets_18 : decode cX8_forgets 18 = .ok (.iload_n 1, 1) := by decide +kernel
theorem d_X8_forgets_19 : decode cX8_forgets 19 = .ok (.iconst 0, 1) := by decide +kernel
theorem d_X8_forgets_20 : decode cX8_forgets 20 = .ok (.bastore, 1) := by decide +kernel
theorem d_X8_forgets_21 : decode cX8_forgets 21 = .ok (.iconst 0, 1) := by decide +kernel
theorem d_X8_forgets_22 : decode cX8_forgets 22 = .ok (.istore_n 2, 1) := by decide +kernel
theorem d_X8_forgets_23 : decode cX8_forgets 23 = .ok (.iconst 0, 1) := by decide +kernel
theorem d_X8_forgets_24 : decode cX8_forgets 24 = .ok (.istore_n 3, 1) := by decide +kernel
theorem d_X8_forgets_25 : decode cX8_forgets 25 = .ok (.iload_n 3, 1) := by decide +kernel
theorem d_X8_forgets_26 : decode cX8_forgets 26 = .ok (.aload_n 0, 1) := by decide +kernel
theorem d_X8_forgets_27 : decode cX8_forgets 27 = .ok (.getfield 185, 3) := by decide +kernel
theorem d_X8_forgets_30 : decode cX8_forgets 30 = .ok (.if_icmp .ge 51, 3) := by decide +kernel
theorem d_X8_forgets_33 : decode cX8_forgets 33 = .ok (.aload_n 0, 1) := by decide +kernel
theorem d_X8_forgets_34 : decode cX8_forgets 34 = .ok (.getfield 98, 3) := by decide +kernel
theorem d_X8_forgets_37 : decode cX8_forgets 37 = .ok (.iload_n 2, 1) := by decide +kernel
theorem d_X8_forgets_38 : decode cX8_forgets 38 = .ok (.aload_n 0, 1) := by decide +kernel
theorem d_X8_forgets_39 : decode cX8_forgets 39 = .ok (.getfield 98, 3) := by decide +kernel
theorem d_X8_forgets_42 : decode cX8_forgets 42 = .ok (.iload_n 3, 1) := by decide +kernel
theorem d_X8_forgets_43 : decode cX8_forgets 43 = .ok (.iaload, 1) := by decide +kernel
theorem d_X8_forgets_44 : decode cX8_forgets 44 = .ok (.iastore, 1) := by decide +kernel
theorem d_X8_forgets_45 : decode cX8_forgets 45 = .ok (.aload_n 0, 1) := by decide +kernel
theorem d_X8_forgets_46 : decode cX8_forgets 46 = .ok (.getfield 101, 3) := by decide +kernel
theorem d_X8_forgets_49 : decode cX8_forgets 49 = .ok (.iload_n 2, 1) := by decide +kernel
theorem d_X8_forgets_50 : decode cX8_forgets 50 = .ok (.aload_n 0, 1) := by decide +kernel
theorem d_X8_forgets_51 : decode cX8_forgets 51 = .ok (.getfield 101, 3) := by decide +kernel
theorem d_X8_forgets_54 : decode cX8_forgets 54 = .ok (.iload_n 3, 1) := by decide +kernel
theorem d_X8_forgets_55 : decode cX8_forgets 55 = .ok (.iaload, 1) := by decide +kernel
theorem d_X8_forgets_56 : decode cX8_forgets 56 = .ok (.iastore, 1) := by decide +kernel
theorem d_X8_forgets_57 : decode cX8_forgets 57 = .ok (.iload_n 2, 1) := by decide +kernel
theorem d_X8_forgets_58 : decode cX8_forgets 58 = .ok (.aload_n 0, 1) := by decide +kernel
theorem d_X8_forgets_59 : decode cX8_forgets 59 = .ok (.getfield 98, 3) := by decide +kernel
theorem d_X8_forgets_62 : decode cX8_forgets 62 = .ok (.iload_n 3, 1) := by decide +kernel
theorem d_X8_forgets_63 : decode cX8_forgets 63 = .ok (.iaload, 1) := by decide +kernel
theorem d_X8_forgets_64 : decode cX8_forgets 64 = .ok (.iload_n 1, 1) := by decide +kernel
theorem d_X8_forgets_65 : decode cX8_forgets 65 = .ok (.if_icmp .ne 7, 3) := by decide +kernel
theorem d_X8_forgets_73 : decode cX8_forgets 73 = .ok (.iadd, 1) := by decide +kernel
theorem d_X8_forgets_74 : decode cX8_forgets 74 = .ok (.istore_n 2, 1) := by decide +kernel
theorem d_X8_forgets_75 : decode cX8_forgets 75 = .ok (.iinc 3 1, 3) := by decide +kernel
theorem d_X8_forgets_78 : decode cX8_forgets 78 = .ok (.goto (-53), 3) := by decide +kernel
theorem d_X8_forgets_72 : decode cX8_forgets 72 = .ok (.iconst 1, 1) := by decide +kernel
theorem d_X8_forgets_68 : decode cX8_forgets 68 = .ok (.iconst 0, 1) := by decide +kernel
theorem d_X8_forgets_69 : decode cX8_forgets 69 = .ok (.goto 4, 3) := by decide +kernel
theorem d_X8_forgets_81 : decode cX8_forgets 81 = .ok (.aload_n 0, 1) := by decide +kernel
theorem d_X8_forgets_82 : decode cX8_forgets 82 = .ok (.iload_n 2, 1) := by decide +kernel
theorem d_X8_forgets_83 : decode cX8_forgets 83 = .ok (.putfield 185, 3) := by decide +kernel
theorem d_X8_forgets_86 : decode cX8_forgets 86 = .ok (.return_, 1) := by decide +kernel
theorem d_X8_delete_158 : decode cX8_delete 158 = .ok (.aload_n 0, 1) := by decide +kernel
theorem d_X8_delete_159 : decode cX8_delete 159 = .ok (.aload_n 0, 1) := by decide +kernel
theorem d_X8_delete_160 : decode cX8_delete 160 = .ok (.getfield 23, 3) := by decide +kernel
theorem d_X8_delete_163 : decode cX8_delete 163 = .ok (.iload_n 1, 1) := by decide +kernel
theorem d_X8_delete_164 : decode cX8_delete 164 = .ok (.iaload, 1) := by decide +kernel
theorem d_X8_delete_165 : decode cX8_delete 165 = .ok (.iconst 1, 1) := by decide +kernel
theorem d_X8_delete_166 : decode cX8_delete 166 = .ok (.invokevirtual 218, 3) := by decide +kernel
theorem d_X8_delete_169 : decode cX8_delete 169 = .ok (.aload_n 0, 1) := by decide +kernel
theorem d_X8_delete_170 : decode cX8_delete 170 = .ok (.getfield 156, 3) := by decide +kernel
theorem d_X8_delete_173 : decode cX8_delete 173 = .ok (.ireturn, 1) := by decide +kernel
theorem d_X8_delete_100 : decode cX8_delete 100 = .ok (.aload_n 0, 1) := by decide +kernel
theorem d_X8_delete_101 : decode cX8_delete 101 = .ok (.aload_n 0, 1) := by decide +kernel
theorem d_X8_delete_102 : decode cX8_delete 102 = .ok (.getfield 59, 3) := by decide +kernel
theorem d_X8_delete_105 : decode cX8_delete 105 = .ok (.iload_n 1, 1) := by decide +kernel
theorem d_X8_delete_106 : decode cX8_delete 106 = .ok (.iaload, 1) := by decide +kernel
theorem d_X8_delete_107 : decode cX8_delete 107 = .ok (.invokevirtual 182, 3) := by decide +kernel
theorem d_X8_delete_39 : decode cX8_delete 39 = .ok (.iconst 0, 1) := by decide +kernel
theorem d_X8_delete_40 : decode cX8_delete 40 = .ok (.ireturn, 1) := by decide +kernel
theorem d_X8_delete_15 : decode cX8_delete 15 = .ok (.iload_n 1, 1) := by decide +kernel
theorem d_X8_delete_16 : decode cX8_delete 16 = .ok (.ifCond .eq 12, 3) := by decide +kernel
theorem d_X8_delete_28 : decode cX8_delete 28 = .ok (.iconst 2, 1) := by decide +kernel
theorem d_X8_delete_29 : decode cX8_delete 29 = .ok (.goto 4, 3) := by decide +kernel
theorem d_X8_delete_19 : decode cX8_delete 19 = .ok (.aload_n 0, 1) := by decide +kernel
theorem d_X8_delete_20 : decode cX8_delete 20 = .ok (.getfield 38, 3) := by decide +kernel
theorem d_X8_delete_23 : decode cX8_delete 23 = .ok (.iload_n 1, 1) := by decide +kernel
theorem d_X8_delete_24 : decode cX8_delete 24 = .ok (.iaload, 1) := by decide +kernel
theorem d_X8_delete_25 : decode cX8_delete 25 = .ok (.ifCond .le 7, 3) := by decide +kernel
theorem d_X8_delete_32 : decode cX8_delete 32 = .ok (.iconst 0, 1) := by decide +kernel
theorem d_X8_delete_11 : decode cX8_delete 11 = .ok (.iconst 1, 1) := by decide +kernel
theorem d_X8_delete_12 : decode cX8_delete 12 = .ok (.goto 21, 3) := by decide +kernel
abbrev Y_X8_find : YT := (cX8_find, 5, (some .int), yX8_find, [], 4)
theorem d_X8_find_0 : decode cX8_find 0 = .ok (.aload_n 0, 1) := by decide +kernel
theorem d_X8_find_1 : decode cX8_find 1 = .ok (.iload_n 1, 1) := by decide +kernel
theorem d_X8_find_2 : decode cX8_find 2 = .ok (.invokevirtual 191, 3) := by decide +kernel
theorem d_X8_find_5 : decode cX8_find 5 = .ok (.istore_n 3, 1) := by decide +kernel
theorem d_X8_find_6 : decode cX8_find 6 = .ok (.aload_n 0, 1) := by decide +kernel
theorem d_X8_find_7 : decode cX8_find 7 = .ok (.iload_n 3, 1) := by decide +kernel
theorem d_X8_find_8 : decode cX8_find 8 = .ok (.ifCond .ne 7, 3) := by decide +kernel
theorem d_X8_find_27 : decode cX8_find 27 = .ok (.invokevirtual 195, 3) := by decide +kernel
theorem d_X8_find_30 : decode cX8_find 30 = .ok (.ifCond .eq 5, 3) := by decide +kernel
theorem d_X8_find_35 : decode cX8_find 35 = .ok (.aload_n 0, 1) := by decide +kernel
theorem d_X8_find_36 : decode cX8_find 36 = .ok (.iload_n 1, 1) := by decide +kernel
theorem d_X8_find_37 : decode cX8_find 37 = .ok (.iload_n 2, 1) := by decide +kernel
theorem d_X8_find_38 : decode cX8_find 38 = .ok (.invokevirtual 179, 3) := by decide +kernel
theorem d_X8_find_41 : decode cX8_find 41 = .ok (.istore 4, 2) := by decide +kernel
theorem d_X8_find_43 : decode cX8_find 43 = .ok (.iload 4, 2) := by decide +kernel
theorem d_X8_find_45 : decode cX8_find 45 = .ok (.iconst (-1), 1) := by decide +kernel
theorem d_X8_find_46 : decode cX8_find 46 = .ok (.if_icmp .ne 7, 3) := by decide +kernel
theorem d_X8_find_53 : decode cX8_find 53 = .ok (.aload_n 0, 1) := by decide +kernel
theorem d_X8_find_54 : decode cX8_find 54 = .ok (.getfield 50, 3) := by decide +kernel
theorem d_X8_find_57 : decode cX8_find 57 = .ok (.bipush 32, 2) := by decide +kernel
theorem d_X8_find_59 : decode cX8_find 59 = .ok (.iload_n 1, 1) := by decide +kernel
theorem d_X8_find_60 : decode cX8_find 60 = .ok (.imul, 1) := by decide +kernel
theorem d_X8_find_61 : decode cX8_find 61 = .ok (.iload 4, 2) := by decide +kernel
theorem d_X8_find_63 : decode cX8_find 63 = .ok (.iadd, 1) := by decide +kernel
theorem d_X8_find_64 : decode cX8_find 64 = .ok (.iaload, 1) := by decide +kernel
theorem d_X8_find_65 : decode cX8_find 65 = .ok (.ireturn, 1) := by decide +kernel
theorem d_X8_find_49 : decode cX8_find 49 = .ok (.iconst (-1), 1) := by decide +kernel
theorem d_X8_find_50 : decode cX8_find 50 = .ok (.goto 15, 3) := by decide +kernel
theorem d_X8_find_33 : decode cX8_find 33 = .ok (.iconst 0, 1) := by decide +kernel
theorem d_X8_find_34 : decode cX8_find 34 = .ok (.ireturn, 1) := by decide +kernel
theorem d_X8_find_15 : decode cX8_find 15 = .ok (.iload_n 2, 1) := by decide +kernel
theorem d_X8_find_16 : decode cX8_find 16 = .ok (.invokestatic 221, 3) := by decide +kernel
theorem d_X8_find_19 : decode cX8_find 19 = .ok (.ifCond .eq 7, 3) := by decide +kernel
theorem d_X8_find_26 : decode cX8_find 26 = .ok (.iconst 2, 1) := by decide +kernel
theorem d_X8_find_22 : decode cX8_find 22 = .ok (.iconst 0, 1) := by decide +kernel
theorem d_X8_find_23 : decode cX8_find 23 = .ok (.goto 4, 3) := by decide +kernel
theorem d_X8_find_11 : decode cX8_find 11 = .ok (.iconst 1, 1) := by decide +kernel
theorem d_X8_find_12 : decode cX8_find 12 = .ok (.goto 15, 3) := by decide +kernel
abbrev Y_X8_subkeyAt : YT := (cX8_subkeyAt, 4, (some .int), yX8_subkeyAt, [], 3)
theorem d_X8_subkeyAt_0 : decode cX8_subkeyAt 0 = .ok (.aload_n 0, 1) := by decide +kernel
theorem d_X8_subkeyAt_1 : decode cX8_subkeyAt 1 = .ok (.iload_n 1, 1) := by decide +kernel
theorem d_X8_subkeyAt_2 : decode cX8_subkeyAt 2 = .ok (.invokevirtual 191, 3) := by decide +kernel
theorem d_X8_subkeyAt_5 : decode cX8_subkeyAt 5 = .ok (.ifCond .eq 22, 3) := by decide +kernel
theorem d_X8_subkeyAt_28 : decode cX8_subkeyAt 28 = .ok (.istore_n 3, 1) := by decide +kernel
theorem d_X8_subkeyAt_29 : decode cX8_subkeyAt 29 = .ok (.aload_n 0, 1) := by decide +kernel
theorem d_X8_subkeyAt_30 : decode cX8_subkeyAt 30 = .ok (.iload_n 3, 1) := by decide +kernel
theorem d_X8_subkeyAt_31 : decode cX8_subkeyAt 31 = .ok (.ifCond .eq 7, 3) := by decide +kernel
theorem d_X8_subkeyAt_39 : decode cX8_subkeyAt 39 = .ok (.invokevirtual 195, 3) := by decide +kernel
theorem d_X8_subkeyAt_42 : decode cX8_subkeyAt 42 = .ok (.ifCond .eq 7, 3) := by decide +kernel
theorem d_X8_subkeyAt_49 : decode cX8_subkeyAt 49 = .ok (.aload_n 0, 1) := by decide +kernel
theorem d_X8_subkeyAt_50 : decode cX8_subkeyAt 50 = .ok (.getfield 50, 3) := by decide +kernel
theorem d_X8_subkeyAt_53 : decode cX8_subkeyAt 53 = .ok (.bipush 32, 2) := by decide +kernel
theorem d_X8_subkeyAt_55 : decode cX8_subkeyAt 55 = .ok (.iload_n 1, 1) := by decide +kernel
theorem d_X8_subkeyAt_56 : decode cX8_subkeyAt 56 = .ok (.imul, 1) := by decide +kernel
theorem d_X8_subkeyAt_57 : decode cX8_subkeyAt 57 = .ok (.iload_n 2, 1) := by decide +kernel
theorem d_X8_subkeyAt_58 : decode cX8_subkeyAt 58 = .ok (.iadd, 1) := by decide +kernel
theorem d_X8_subkeyAt_59 : decode cX8_subkeyAt 59 = .ok (.iaload, 1) := by decide +kernel
theorem d_X8_subkeyAt_60 : decode cX8_subkeyAt 60 = .ok (.ireturn, 1) := by decide +kernel
theorem d_X8_subkeyAt_45 : decode cX8_subkeyAt 45 = .ok (.iconst 0, 1) := by decide +kernel
theorem d_X8_subkeyAt_46 : decode cX8_subkeyAt 46 = .ok (.goto 14, 3) := by decide +kernel
theorem d_X8_subkeyAt_38 : decode cX8_subkeyAt 38 = .ok (.iconst 1, 1) := by decide +kernel
theorem d_X8_subkeyAt_34 : decode cX8_subkeyAt 34 = .ok (.iconst 0, 1) := by decide +kernel
theorem d_X8_subkeyAt_35 : decode cX8_subkeyAt 35 = .ok (.goto 4, 3) := by decide +kernel
theorem d_X8_subkeyAt_27 : decode cX8_subkeyAt 27 = .ok (.iconst 0, 1) := by decide +kernel
theorem d_X8_subkeyAt_8 : decode cX8_subkeyAt 8 = .ok (.iload_n 2, 1) := by decide +kernel
theorem d_X8_subkeyAt_9 : decode cX8_subkeyAt 9 = .ok (.iconst 0, 1) := by decide +kernel
theorem d_X8_subkeyAt_10 : decode cX8_subkeyAt 10 = .ok (.aload_n 0, 1) := by decide +kernel
theorem d_X8_subkeyAt_11 : decode cX8_subkeyAt 11 = .ok (.iload_n 1, 1) := by decide +kernel
theorem d_X8_subkeyAt_12 : decode cX8_subkeyAt 12 = .ok (.invokevirtual 163, 3) := by decide +kernel
theorem d_X8_subkeyAt_15 : decode cX8_subkeyAt 15 = .ok (.iconst 1, 1) := by decide +kernel
theorem d_X8_subkeyAt_16 : decode cX8_subkeyAt 16 = .ok (.isub, 1) := by decide +kernel
theorem d_X8_subkeyAt_17 : decode cX8_subkeyAt 17 = .ok (.invokestatic 124, 3) := by decide +kernel
theorem d_X8_subkeyAt_20 : decode cX8_subkeyAt 20 = .ok (.ifCond .eq 7, 3) := by decide +kernel
theorem d_X8_subkeyAt_23 : decode cX8_subkeyAt 23 = .ok (.iconst 1, 1) := by decide +kernel
theorem d_X8_subkeyAt_24 : decode cX8_subkeyAt 24 = .ok (.goto 4, 3) := by decide +kernel
abbrev Y_X8_list : YT := (cX8_list, 2, (some .int), yX8_list, [], 3)
theorem d_X8_list_0 : decode cX8_list 0 = .ok (.aload_n 0, 1) := by decide +kernel
theorem d_X8_list_1 : decode cX8_list 1 = .ok (.aload_n 0, 1) := by decide +kernel
theorem d_X8_list_2 : decode cX8_list 2 = .ok (.iload_n 1, 1) := by decide +kernel
theorem d_X8_list_3 : decode cX8_list 3 = .ok (.invokevirtual 191, 3) := by decide +kernel
theorem d_X8_list_6 : decode cX8_list 6 = .ok (.ifCond .eq 7, 3) := by decide +kernel
theorem d_X8_list_14 : decode cX8_list 14 = .ok (.invokevirtual 195, 3) := by decide +kernel
theorem d_X8_list_17 : decode cX8_list 17 = .ok (.ifCond .eq 7, 3) := by decide +kernel
theorem d_X8_list_24 : decode cX8_list 24 = .ok (.bipush 10, 2) := by decide +kernel
theorem d_X8_list_26 : decode cX8_list 26 = .ok (.aload_n 0, 1) := by decide +kernel
theorem d_X8_list_27 : decode cX8_list 27 = .ok (.iload_n 1, 1) := by decide +kernel
theorem d_X8_list_28 : decode cX8_list 28 = .ok (.invokevirtual 163, 3) := by decide +kernel
theorem d_X8_list_31 : decode cX8_list 31 = .ok (.imul, 1) := by decide +kernel
theorem d_X8_list_32 : decode cX8_list 32 = .ok (.aload_n 0, 1) := by decide +kernel
theorem d_X8_list_33 : decode cX8_list 33 = .ok (.getfield 38, 3) := by decide +kernel
theorem d_X8_list_36 : decode cX8_list 36 = .ok (.iload_n 1, 1) := by decide +kernel
theorem d_X8_list_37 : decode cX8_list 37 = .ok (.iaload, 1) := by decide +kernel
theorem d_X8_list_38 : decode cX8_list 38 = .ok (.iadd, 1) := by decide +kernel
theorem d_X8_list_39 : decode cX8_list 39 = .ok (.ireturn, 1) := by decide +kernel
theorem d_X8_list_20 : decode cX8_list 20 = .ok (.iconst 0, 1) := by decide +kernel
theorem d_X8_list_21 : decode cX8_list 21 = .ok (.goto 18, 3) := by decide +kernel
theorem d_X8_list_13 : decode cX8_list 13 = .ok (.iconst 1, 1) := by decide +kernel
theorem d_X8_list_9 : decode cX8_list 9 = .ok (.iconst 0, 1) := by decide +kernel
theorem d_X8_list_10 : decode cX8_list 10 = .ok (.goto 4, 3) := by decide +kernel
abbrev Y_X8_follow : YT := (cX8_follow, 4, (some .int), yX8_follow, [], 3)
theorem d_X8_follow_0 : decode cX8_follow 0 = .ok (.aload_n 0, 1) := by decide +kernel
theorem d_X8_follow_1 : decode cX8_follow 1 = .ok (.aload_n 0, 1) := by decide +kernel
theorem d_X8_follow_2 : decode cX8_follow 2 = .ok (.iload_n 1, 1) := by decide +kernel
theorem d_X8_follow_3 : decode cX8_follow 3 = .ok (.invokevirtual 191, 3) := by decide +kernel
theorem d_X8_follow_6 : decode cX8_follow 6 = .ok (.ifCond .eq 7, 3) := by decide +kernel
theorem d_X8_follow_14 : decode cX8_follow 14 = .ok (.invokevirtual 195, 3) := by decide +kernel
theorem d_X8_follow_17 : decode cX8_follow 17 = .ok (.ifCond .eq 5, 3) := by decide +kernel
theorem d_X8_follow_22 : decode cX8_follow 22 = .ok (.iload_n 1, 1) := by decide +kernel
theorem d_X8_follow_23 : decode cX8_follow 23 = .ok (.istore_n 2, 1) := by decide +kernel
theorem d_X8_follow_24 : decode cX8_follow 24 = .ok (.iconst 0, 1) := by decide +kernel
theorem d_X8_follow_25 : decode cX8_follow 25 = .ok (.istore_n 3, 1) := by decide +kernel
theorem d_X8_follow_26 : decode cX8_follow 26 = .ok (.iload_n 2, 1) := by decide +kernel
theorem d_X8_follow_27 : decode cX8_follow 27 = .ok (.iconst (-1), 1) := by decide +kernel
theorem d_X8_follow_28 : decode cX8_follow 28 = .ok (.if_icmp .eq 49, 3) := by decide +kernel
theorem d_X8_follow_77 : decode cX8_follow 77 = .ok (.iload_n 2, 1) := by decide +kernel
theorem d_X8_follow_78 : decode cX8_follow 78 = .ok (.ireturn, 1) := by decide +kernel
theorem d_X8_follow_31 : decode cX8_follow 31 = .ok (.aload_n 0, 1) := by decide +kernel
theorem d_X8_follow_32 : decode cX8_follow 32 = .ok (.getfield 29, 3) := by decide +kernel
theorem d_X8_follow_35 : decode cX8_follow 35 = .ok (.iload_n 2, 1) := by decide +kernel
theorem d_X8_follow_36 : decode cX8_follow 36 = .ok (.iaload, 1) := by decide +kernel
theorem d_X8_follow_37 : decode cX8_follow 37 = .ok (.iconst (-1), 1) := by decide +kernel
theorem d_X8_follow_38 : decode cX8_follow 38 = .ok (.if_icmp .eq 39, 3) := by decide +kernel
theorem d_X8_follow_41 : decode cX8_follow 41 = .ok (.iinc 3 1, 3) := by decide +kernel
theorem d_X8_follow_44 : decode cX8_follow 44 = .ok (.iload_n 3, 1) := by decide +kernel
theorem d_X8_follow_45 : decode cX8_follow 45 = .ok (.iconst 4, 1) := by decide +kernel
theorem d_X8_follow_46 : decode cX8_follow 46 = .ok (.if_icmp .gt 17, 3) := by decide +kernel
theorem d_X8_follow_73 : decode cX8_follow 73 = .ok (.istore_n 2, 1) := by decide +kernel
theorem d_X8_follow_74 : decode cX8_follow 74 = .ok (.goto (-48), 3) := by decide +kernel
theorem d_X8_follow_63 : decode cX8_follow 63 = .ok (.iconst (-1), 1) := by decide +kernel
theorem d_X8_follow_64 : decode cX8_follow 64 = .ok (.goto 9, 3) := by decide +kernel
theorem d_X8_follow_49 : decode cX8_follow 49 = .ok (.aload_n 0, 1) := by decide +kernel
theorem d_X8_follow_50 : decode cX8_follow 50 = .ok (.getfield 19, 3) := by decide +kernel
theorem d_X8_follow_53 : decode cX8_follow 53 = .ok (.aload_n 0, 1) := by decide +kernel
theorem d_X8_follow_54 : decode cX8_follow 54 = .ok (.getfield 29, 3) := by decide +kernel
theorem d_X8_follow_57 : decode cX8_follow 57 = .ok (.iload_n 2, 1) := by decide +kernel
theorem d_X8_follow_58 : decode cX8_follow 58 = .ok (.iaload, 1) := by decide +kernel
theorem d_X8_follow_59 : decode cX8_follow 59 = .ok (.baload, 1) := by decide +kernel
theorem d_X8_follow_60 : decode cX8_follow 60 = .ok (.ifCond .ne 7, 3) := by decide +kernel
theorem d_X8_follow_67 : decode cX8_follow 67 = .ok (.aload_n 0, 1) := by decide +kernel
theorem d_X8_follow_68 : decode cX8_follow 68 = .ok (.getfield 29, 3) := by decide +kernel
theorem d_X8_follow_71 : decode cX8_follow 71 = .ok (.iload_n 2, 1) := by decide +kernel
theorem d_X8_follow_72 : decode cX8_follow 72 = .ok (.iaload, 1) := by decide +kernel
theorem d_X8_follow_20 : decode cX8_follow 20 = .ok (.iconst 0, 1) := by decide +kernel
theorem d_X8_follow_21 : decode cX8_follow 21 = .ok (.ireturn, 1) := by decide +kernel
theorem d_X8_follow_13 : decode cX8_follow 13 = .ok (.iconst 1, 1) := by decide +kernel
theorem d_X8_follow_9 : decode cX8_follow 9 = .ok (.iconst 0, 1) := by decide +kernel
theorem d_X8_follow_10 : decode cX8_follow 10 = .ok (.goto 4, 3) := by decide +kernel
abbrev Y_X8_setValue : YT := (cX8_setValue, 11, (some .int), yX8_setValue, [], 6)
theorem d_X8_setValue_0 : decode cX8_setValue 0 = .ok (.aload_n 0, 1) := by decide +kernel
theorem d_X8_setValue_1 : decode cX8_setValue 1 = .ok (.iload_n 1, 1) := by decide +kernel
theorem d_X8_setValue_2 : decode cX8_setValue 2 = .ok (.invokevirtual 191, 3) := by decide +kernel
theorem d_X8_setValue_5 : decode cX8_setValue 5 = .ok (.istore 5, 2) := by decide +kernel
theorem d_X8_setValue_7 : decode cX8_setValue 7 = .ok (.iload_n 2, 1) := by decide +kernel
theorem d_X8_setValue_8 : decode cX8_setValue 8 = .ok (.iconst 0, 1) := by decide +kernel
theorem d_X8_setValue_9 : decode cX8_setValue 9 = .ok (.bipush 99, 2) := by decide +kernel
theorem d_X8_setValue_11 : decode cX8_setValue 11 = .ok (.invokestatic 124, 3) := by decide +kernel
theorem d_X8_setValue_14 : decode cX8_setValue 14 = .ok (.ifCond .eq 17, 3) := by decide +kernel
theorem d_X8_setValue_32 : decode cX8_setValue 32 = .ok (.istore 6, 2) := by decide +kernel
theorem d_X8_setValue_34 : decode cX8_setValue 34 = .ok (.aload_n 0, 1) := by decide +kernel
theorem d_X8_setValue_35 : decode cX8_setValue 35 = .ok (.iload 5, 2) := by decide +kernel
theorem d_X8_setValue_37 : decode cX8_setValue 37 = .ok (.ifCond .ne 7, 3) := by decide +kernel
theorem d_X8_setValue_68 : decode cX8_setValue 68 = .ok (.invokevirtual 195, 3) := by decide +kernel
theorem d_X8_setValue_71 : decode cX8_setValue 71 = .ok (.ifCond .eq 5, 3) := by decide +kernel
theorem d_X8_setValue_76 : decode cX8_setValue 76 = .ok (.aload_n 0, 1) := by decide +kernel
theorem d_X8_setValue_77 : decode cX8_setValue 77 = .ok (.invokevirtual 211, 3) := by decide +kernel
theorem d_X8_setValue_80 : decode cX8_setValue 80 = .ok (.aload_n 0, 1) := by decide +kernel
theorem d_X8_setValue_81 : decode cX8_setValue 81 = .ok (.iload_n 1, 1) := by decide +kernel
theorem d_X8_setValue_82 : decode cX8_setValue 82 = .ok (.iload_n 2, 1) := by decide +kernel
theorem d_X8_setValue_83 : decode cX8_setValue 83 = .ok (.invokevirtual 246, 3) := by decide +kernel
abbrev Y_X8_valueOf : YT := (cX8_valueOf, 5, (some .int), yX8_valueOf, [], 1)
theorem mk_X8_valueOf : MK Y_X8_valueOf 2 := ⟨KW.at (i := 85) (by decide +kernel) rfl, KW.at (i := 1396) (by decide +kernel) rfl, ⟨by decide +kernel, by decide +kernel⟩, by decide +kernel, by decide +kernel, rfl, by decide⟩
theorem vm_X8_valueOf : KW (.instanceMethod (yN Y_X8_valueOf)) ∧ KW (.selects (yN Y_X8_valueOf).cls (yN Y_X8_valueOf) (yN Y_X8_valueOf)) := ⟨KW.at (i := 1395) (by decide +kernel) rfl, KW.at (i := 66) (by decide +kernel) rfl⟩
theorem ck_RX8_246 : CKV RX8 246 Y_X8_valueOf 2 := ⟨KW.at (i := 1393) (by decide +kernel) rfl, vm_X8_valueOf.1, vm_X8_valueOf.2, mk_X8_valueOf⟩
theorem d_X8_valueOf_0 : decode cX8_valueOf 0 = .ok (.iconst (-1), 1) := by decide +kernel
theorem d_X8_valueOf_1 : decode cX8_valueOf 1 = .ok (.istore_n 3, 1) := by decide +kernel
theorem d_X8_valueOf_2 : decode cX8_valueOf 2 = .ok (.bipush 8, 2) := by decide +kernel
theorem d_X8_valueOf_4 : decode cX8_valueOf 4 = .ok (.iload_n 1, 1) := by decide +kernel
theorem d_X8_valueOf_5 : decode cX8_valueOf 5 = .ok (.imul, 1) := by decide +kernel
theorem d_X8_valueOf_6 : decode cX8_valueOf 6 = .ok (.istore 4, 2) := by decide +kernel
theorem d_X8_valueOf_8 : decode cX8_valueOf 8 = .ok (.iload 4, 2) := by decide +kernel
theorem d_X8_valueOf_10 : decode cX8_valueOf 10 = .ok (.bipush 8, 2) := by decide +kernel
theorem d_X8_valueOf_12 : decode cX8_valueOf 12 = .ok (.iload_n 1, 1) := by decide +kernel
theorem d_X8_valueOf_13 : decode cX8_valueOf 13 = .ok (.imul, 1) := by decide +kernel
theorem d_X8_valueOf_14 : decode cX8_valueOf 14 = .ok (.aload_n 0, 1) := by decide +kernel
theorem d_X8_valueOf_15 : decode cX8_valueOf 15 = .ok (.getfield 56, 3) := by decide +kernel
theorem d_X8_valueOf_18 : decode cX8_valueOf 18 = .ok (.iload_n 1, 1) := by decide +kernel
theorem d_X8_valueOf_19 : decode cX8_valueOf 19 = .ok (.iaload, 1) := by decide +kernel
theorem d_X8_valueOf_20 : decode cX8_valueOf 20 = .ok (.iadd, 1) := by decide +kernel
theorem d_X8_valueOf_21 : decode cX8_valueOf 21 = .ok (.if_icmp .ge 27, 3) := by decide +kernel
theorem d_X8_valueOf_48 : decode cX8_valueOf 48 = .ok (.iload_n 3, 1) := by decide +kernel
theorem d_X8_valueOf_49 : decode cX8_valueOf 49 = .ok (.ireturn, 1) := by decide +kernel
theorem d_X8_valueOf_24 : decode cX8_valueOf 24 = .ok (.aload_n 0, 1) := by decide +kernel
theorem d_X8_valueOf_25 : decode cX8_valueOf 25 = .ok (.getfield 65, 3) := by decide +kernel
theorem fk_RX8_65 : FK RX8 65 8 18 := ⟨RX8, TX8, 43, rfl, by decide, ws_X8, KW.at (i := 1100) (by decide +kernel) rfl⟩
theorem d_X8_valueOf_28 : decode cX8_valueOf 28 = .ok (.iload 4, 2) := by decide +kernel
theorem d_X8_valueOf_30 : decode cX8_valueOf 30 = .ok (.iaload, 1) := by decide +kernel
theorem sh_51 : SH.getD 51 (9, 0, []) = (1, 1920, []) := rfl
theorem d_X8_valueOf_31 : decode cX8_valueOf 31 = .ok (.iload_n 2, 1) := by decide +kernel
theorem d_X8_valueOf_32 : decode cX8_valueOf 32 = .ok (.if_icmp .ne 8, 3) := by decide +kernel
theorem d_X8_valueOf_41 : decode cX8_valueOf 41 = .ok (.istore_n 3, 1) := by decide +kernel
theorem d_X8_valueOf_42 : decode cX8_valueOf 42 = .ok (.iinc 4 1, 3) := by decide +kernel
theorem d_X8_valueOf_45 : decode cX8_valueOf 45 = .ok (.goto (-37), 3) := by decide +kernel
theorem d_X8_valueOf_40 : decode cX8_valueOf 40 = .ok (.iload_n 3, 1) := by decide +kernel
theorem d_X8_valueOf_35 : decode cX8_valueOf 35 = .ok (.iload 4, 2) := by decide +kernel
theorem d_X8_valueOf_37 : decode cX8_valueOf 37 = .ok (.goto 4, 3) := by decide +kernel
theorem d_X8_setValue_86 : decode cX8_setValue 86 = .ok (.istore 7, 2) := by decide +kernel
theorem d_X8_setValue_88 : decode cX8_setValue 88 = .ok (.iload_n 3, 1) := by decide +kernel
theorem d_X8_setValue_89 : decode cX8_setValue 89 = .ok (.invokestatic 237, 3) := by decide +kernel
theorem d_X8_setValue_92 : decode cX8_setValue 92 = .ok (.istore 8, 2) := by decide +kernel
theorem d_X8_setValue_94 : decode cX8_setValue 94 = .ok (.iconst (-1), 1) := by decide +kernel
theorem d_X8_setValue_95 : decode cX8_setValue 95 = .ok (.istore 9, 2) := by decide +kernel
theorem d_X8_setValue_97 : decode cX8_setValue 97 = .ok (.iload 7, 2) := by decide +kernel
theorem d_X8_setValue_99 : decode cX8_setValue 99 = .ok (.iconst (-1), 1) := by decide +kernel
theorem d_X8_setValue_100 : decode cX8_setValue 100 = .ok (.if_icmp .ne 109, 3) := by decide +kernel
theorem d_X8_setValue_209 : decode cX8_setValue 209 = .ok (.aload_n 0, 1) := by decide +kernel
theorem d_X8_setValue_210 : decode cX8_setValue 210 = .ok (.iload 7, 2) := by decide +kernel
theorem d_X8_setValue_212 : decode cX8_setValue 212 = .ok (.iconst 0, 1) := by decide +kernel
theorem d_X8_setValue_213 : decode cX8_setValue 213 = .ok (.invokevirtual 240, 3) := by decide +kernel
theorem d_X8_setValue_216 : decode cX8_setValue 216 = .ok (.iload 9, 2) := by decide +kernel
theorem d_X8_setValue_218 : decode cX8_setValue 218 = .ok (.iconst (-1), 1) := by decide +kernel
theorem d_X8_setValue_219 : decode cX8_setValue 219 = .ok (.if_icmp .eq 9, 3) := by decide +kernel
theorem d_X8_setValue_228 : decode cX8_setValue 228 = .ok (.iconst 0, 1) := by decide +kernel
theorem d_X8_setValue_229 : decode cX8_setValue 229 = .ok (.istore 10, 2) := by decide +kernel
theorem d_X8_setValue_231 : decode cX8_setValue 231 = .ok (.iload 10, 2) := by decide +kernel
theorem d_X8_setValue_233 : decode cX8_setValue 233 = .ok (.iload 8, 2) := by decide +kernel
theorem d_X8_setValue_235 : decode cX8_setValue 235 = .ok (.if_icmp .ge 28, 3) := by decide +kernel
theorem d_X8_setValue_238 : decode cX8_setValue 238 = .ok (.aload_n 0, 1) := by decide +kernel
theorem d_X8_setValue_239 : decode cX8_setValue 239 = .ok (.getfield 77, 3) := by decide +kernel
theorem d_X8_setValue_242 : decode cX8_setValue 242 = .ok (.iconst 4, 1) := by decide +kernel
theorem d_X8_setValue_243 : decode cX8_setValue 243 = .ok (.iload 7, 2) := by decide +kernel
theorem d_X8_setValue_245 : decode cX8_setValue 245 = .ok (.imul, 1) := by decide +kernel
theorem d_X8_setValue_246 : decode cX8_setValue 246 = .ok (.iload 10, 2) := by decide +kernel
theorem d_X8_setValue_248 : decode cX8_setValue 248 = .ok (.iadd, 1) := by decide +kernel
theorem d_X8_setValue_249 : decode cX8_setValue 249 = .ok (.aload_n 0, 1) := by decide +kernel
theorem d_X8_setValue_250 : decode cX8_setValue 250 = .ok (.getfield 110, 3) := by decide +kernel
theorem d_X8_setValue_253 : decode cX8_setValue 253 = .ok (.iload 10, 2) := by decide +kernel
theorem d_X8_setValue_255 : decode cX8_setValue 255 = .ok (.iaload, 1) := by decide +kernel
theorem d_X8_setValue_256 : decode cX8_setValue 256 = .ok (.iastore, 1) := by decide +kernel
theorem d_X8_setValue_257 : decode cX8_setValue 257 = .ok (.iinc 10 1, 3) := by decide +kernel
theorem d_X8_setValue_260 : decode cX8_setValue 260 = .ok (.goto (-29), 3) := by decide +kernel
theorem d_X8_setValue_263 : decode cX8_setValue 263 = .ok (.aload_n 0, 1) := by decide +kernel
theorem d_X8_setValue_264 : decode cX8_setValue 264 = .ok (.getfield 71, 3) := by decide +kernel
theorem d_X8_setValue_267 : decode cX8_setValue 267 = .ok (.iload 7, 2) := by decide +kernel
theorem d_X8_setValue_269 : decode cX8_setValue 269 = .ok (.iload_n 3, 1) := by decide +kernel
theorem d_X8_setValue_270 : decode cX8_setValue 270 = .ok (.iastore, 1) := by decide +kernel
theorem d_X8_setValue_271 : decode cX8_setValue 271 = .ok (.aload_n 0, 1) := by decide +kernel
theorem d_X8_setValue_272 : decode cX8_setValue 272 = .ok (.getfield 68, 3) := by decide +kernel
theorem fk_RX8_68 : FK RX8 68 8 19 := ⟨RX8, TX8, 43, rfl, by decide, ws_X8, KW.at (i := 1101) (by decide +kernel) rfl⟩
theorem d_X8_setValue_275 : decode cX8_setValue 275 = .ok (.iload 7, 2) := by decide +kernel
theorem d_X8_setValue_277 : decode cX8_setValue 277 = .ok (.iload 4, 2) := by decide +kernel
theorem d_X8_setValue_279 : decode cX8_setValue 279 = .ok (.iastore, 1) := by decide +kernel
theorem sh_52 : SH.getD 52 (9, 0, []) = (1, 1920, []) := rfl
theorem d_X8_setValue_280 : decode cX8_setValue 280 = .ok (.aload_n 0, 1) := by decide +kernel
theorem d_X8_setValue_281 : decode cX8_setValue 281 = .ok (.aload_n 0, 1) := by decide +kernel
theorem d_X8_setValue_282 : decode cX8_setValue 282 = .ok (.getfield 74, 3) := by decide +kernel
theorem d_X8_setValue_285 : decode cX8_setValue 285 = .ok (.iload 7, 2) := by decide +kernel
theorem d_X8_setValue_287 : decode cX8_setValue 287 = .ok (.iaload, 1) := by decide +kernel
theorem d_X8_setValue_288 : decode cX8_setValue 288 = .ok (.invokevirtual 152, 3) := by decide +kernel
theorem d_X8_setValue_291 : decode cX8_setValue 291 = .ok (.aload_n 0, 1) := by decide +kernel
theorem d_X8_setValue_292 : decode cX8_setValue 292 = .ok (.aload_n 0, 1) := by decide +kernel
theorem d_X8_setValue_293 : decode cX8_setValue 293 = .ok (.getfield 32, 3) := by decide +kernel
theorem d_X8_setValue_296 : decode cX8_setValue 296 = .ok (.iload_n 1, 1) := by decide +kernel
theorem d_X8_setValue_297 : decode cX8_setValue 297 = .ok (.iaload, 1) := by decide +kernel
theorem d_X8_setValue_298 : decode cX8_setValue 298 = .ok (.invokevirtual 152, 3) := by decide +kernel
theorem d_X8_setValue_301 : decode cX8_setValue 301 = .ok (.aload_n 0, 1) := by decide +kernel
theorem d_X8_setValue_302 : decode cX8_setValue 302 = .ok (.iload_n 1, 1) := by decide +kernel
theorem d_X8_setValue_303 : decode cX8_setValue 303 = .ok (.iconst 2, 1) := by decide +kernel
theorem d_X8_setValue_304 : decode cX8_setValue 304 = .ok (.invokevirtual 218, 3) := by decide +kernel
theorem d_X8_setValue_307 : decode cX8_setValue 307 = .ok (.aload_n 0, 1) := by decide +kernel
theorem d_X8_setValue_308 : decode cX8_setValue 308 = .ok (.getfield 56, 3) := by decide +kernel
theorem d_X8_setValue_311 : decode cX8_setValue 311 = .ok (.iload_n 1, 1) := by decide +kernel
theorem d_X8_setValue_312 : decode cX8_setValue 312 = .ok (.iaload, 1) := by decide +kernel
theorem d_X8_setValue_313 : decode cX8_setValue 313 = .ok (.ireturn, 1) := by decide +kernel
theorem d_X8_setValue_222 : decode cX8_setValue 222 = .ok (.aload_n 0, 1) := by decide +kernel
theorem d_X8_setValue_223 : decode cX8_setValue 223 = .ok (.iload 9, 2) := by decide +kernel
theorem d_X8_setValue_225 : decode cX8_setValue 225 = .ok (.invokevirtual 182, 3) := by decide +kernel
theorem d_X8_setValue_103 : decode cX8_setValue 103 = .ok (.bipush 8, 2) := by decide +kernel
theorem d_X8_setValue_105 : decode cX8_setValue 105 = .ok (.iload_n 1, 1) := by decide +kernel
theorem d_X8_setValue_106 : decode cX8_setValue 106 = .ok (.imul, 1) := by decide +kernel
theorem d_X8_setValue_107 : decode cX8_setValue 107 = .ok (.aload_n 0, 1) := by decide +kernel
theorem d_X8_setValue_108 : decode cX8_setValue 108 = .ok (.getfield 56, 3) := by decide +kernel
theorem d_X8_setValue_111 : decode cX8_setValue 111 = .ok (.iload_n 1, 1) := by decide +kernel
theorem d_X8_setValue_112 : decode cX8_setValue 112 = .ok (.iaload, 1) := by decide +kernel
theorem d_X8_setValue_113 : decode cX8_setValue 113 = .ok (.iadd, 1) := by decide +kernel
theorem d_X8_setValue_114 : decode cX8_setValue 114 = .ok (.istore 7, 2) := by decide +kernel
theorem d_X8_setValue_116 : decode cX8_setValue 116 = .ok (.aload_n 0, 1) := by decide +kernel
theorem d_X8_setValue_117 : decode cX8_setValue 117 = .ok (.getfield 65, 3) := by decide +kernel
theorem d_X8_setValue_120 : decode cX8_setValue 120 = .ok (.iload 7, 2) := by decide +kernel
theorem d_X8_setValue_122 : decode cX8_setValue 122 = .ok (.iload_n 2, 1) := by decide +kernel
theorem d_X8_setValue_123 : decode cX8_setValue 123 = .ok (.iastore, 1) := by decide +kernel
theorem d_X8_setValue_124 : decode cX8_setValue 124 = .ok (.aload_n 0, 1) := by decide +kernel
theorem d_X8_setValue_125 : decode cX8_setValue 125 = .ok (.getfield 74, 3) := by decide +kernel
theorem d_X8_setValue_128 : decode cX8_setValue 128 = .ok (.iload 7, 2) := by decide +kernel
theorem d_X8_setValue_130 : decode cX8_setValue 130 = .ok (.aload_n 0, 1) := by decide +kernel
theorem d_X8_setValue_131 : decode cX8_setValue 131 = .ok (.getfield 110, 3) := by decide +kernel
theorem d_X8_setValue_134 : decode cX8_setValue 134 = .ok (.iload 8, 2) := by decide +kernel
theorem d_X8_setValue_136 : decode cX8_setValue 136 = .ok (.iaload, 1) := by decide +kernel
theorem d_X8_setValue_137 : decode cX8_setValue 137 = .ok (.iastore, 1) := by decide +kernel
theorem d_X8_setValue_138 : decode cX8_setValue 138 = .ok (.aload_n 0, 1) := by decide +kernel
theorem d_X8_setValue_139 : decode cX8_setValue 139 = .ok (.getfield 71, 3) := by decide +kernel
theorem d_X8_setValue_142 : decode cX8_setValue 142 = .ok (.iload 7, 2) := by decide +kernel
theorem d_X8_setValue_144 : decode cX8_setValue 144 = .ok (.iconst 0, 1) := by decide +kernel
theorem d_X8_setValue_145 : decode cX8_setValue 145 = .ok (.iastore, 1) := by decide +kernel
theorem d_X8_setValue_146 : decode cX8_setValue 146 = .ok (.aload_n 0, 1) := by decide +kernel
theorem d_X8_setValue_147 : decode cX8_setValue 147 = .ok (.iload_n 1, 1) := by decide +kernel
theorem d_X8_setValue_148 : decode cX8_setValue 148 = .ok (.invokevirtual 252, 3) := by decide +kernel
abbrev Y_X8_listFor : YT := (cX8_listFor, 2, (some .int), yX8_listFor, [], 1)
theorem mk_X8_listFor : MK Y_X8_listFor 1 := ⟨KW.at (i := 85) (by decide +kernel) rfl, KW.at (i := 1403) (by decide +kernel) rfl, ⟨by decide +kernel, by decide +kernel⟩, by decide +kernel, by decide +kernel, rfl, by decide⟩
theorem vm_X8_listFor : KW (.instanceMethod (yN Y_X8_listFor)) ∧ KW (.selects (yN Y_X8_listFor).cls (yN Y_X8_listFor) (yN Y_X8_listFor)) := ⟨KW.at (i := 1402) (by decide +kernel) rfl, KW.at (i := 67) (by decide +kernel) rfl⟩
theorem ck_RX8_252 : CKV RX8 252 Y_X8_listFor 1 := ⟨KW.at (i := 1400) (by decide +kernel) rfl, vm_X8_listFor.1, vm_X8_listFor.2, mk_X8_listFor⟩
theorem d_X8_listFor_0 : decode cX8_listFor 0 = .ok (.aload_n 0, 1) := by decide +kernel
theorem d_X8_listFor_1 : decode cX8_listFor 1 = .ok (.getfield 59, 3) := by decide +kernel
theorem d_X8_listFor_4 : decode cX8_listFor 4 = .ok (.iload_n 1, 1) := by decide +kernel
theorem d_X8_listFor_5 : decode cX8_listFor 5 = .ok (.iaload, 1) := by decide +kernel
theorem d_X8_listFor_6 : decode cX8_listFor 6 = .ok (.iconst (-1), 1) := by decide +kernel
theorem d_X8_listFor_7 : decode cX8_listFor 7 = .ok (.if_icmp .ne 7, 3) := by decide +kernel
theorem d_X8_listFor_14 : decode cX8_listFor 14 = .ok (.aload_n 0, 1) := by decide +kernel
theorem d_X8_listFor_15 : decode cX8_listFor 15 = .ok (.getfield 56, 3) := by decide +kernel
theorem d_X8_listFor_18 : decode cX8_listFor 18 = .ok (.iload_n 1, 1) := by decide +kernel
theorem d_X8_listFor_19 : decode cX8_listFor 19 = .ok (.iaload, 1) := by decide +kernel
theorem d_X8_listFor_20 : decode cX8_listFor 20 = .ok (.iconst 4, 1) := by decide +kernel
theorem d_X8_listFor_21 : decode cX8_listFor 21 = .ok (.if_icmp .ne 18, 3) := by decide +kernel
theorem d_X8_listFor_39 : decode cX8_listFor 39 = .ok (.iconst 0, 1) := by decide +kernel
theorem d_X8_listFor_40 : decode cX8_listFor 40 = .ok (.ireturn, 1) := by decide +kernel
theorem d_X8_listFor_24 : decode cX8_listFor 24 = .ok (.aload_n 0, 1) := by decide +kernel
theorem d_X8_listFor_25 : decode cX8_listFor 25 = .ok (.getfield 62, 3) := by decide +kernel
theorem fk_RX8_62 : FK RX8 62 8 17 := ⟨RX8, TX8, 43, rfl, by decide, ws_X8, KW.at (i := 1099) (by decide +kernel) rfl⟩
theorem d_X8_listFor_28 : decode cX8_listFor 28 = .ok (.iload_n 1, 1) := by decide +kernel
theorem d_X8_listFor_29 : decode cX8_listFor 29 = .ok (.iaload, 1) := by decide +kernel
theorem sh_50 : SH.getD 50 (9, 0, []) = (1, 240, []) := rfl
theorem d_X8_listFor_30 : decode cX8_listFor 30 = .ok (.iconst 5, 1) := by decide +kernel
theorem d_X8_listFor_31 : decode cX8_listFor 31 = .ok (.if_icmp .ne 8, 3) := by decide +kernel
theorem d_X8_listFor_34 : decode cX8_listFor 34 = .ok (.bipush 9, 2) := by decide +kernel
theorem d_X8_listFor_36 : decode cX8_listFor 36 = .ok (.goto 4, 3) := by decide +kernel
theorem d_X8_listFor_10 : decode cX8_listFor 10 = .ok (.iconst 5, 1) := by decide +kernel
theorem d_X8_listFor_11 : decode cX8_listFor 11 = .ok (.goto 29, 3) := by decide +kernel
theorem d_X8_setValue_151 : decode cX8_setValue 151 = .ok (.istore 10, 2) := by decide +kernel
theorem d_X8_setValue_153 : decode cX8_setValue 153 = .ok (.iload 10, 2) := by decide +kernel
theorem d_X8_setValue_155 : decode cX8_setValue 155 = .ok (.ifCond .le 34, 3) := by decide +kernel
theorem d_X8_setValue_189 : decode cX8_setValue 189 = .ok (.aload_n 0, 1) := by decide +kernel
theorem d_X8_setValue_190 : decode cX8_setValue 190 = .ok (.getfield 56, 3) := by decide +kernel
theorem d_X8_setValue_193 : decode cX8_setValue 193 = .ok (.iload_n 1, 1) := by decide +kernel
theorem d_X8_setValue_194 : decode cX8_setValue 194 = .ok (.dup2, 1) := by decide +kernel
theorem d_X8_setValue_195 : decode cX8_setValue 195 = .ok (.iaload, 1) := by decide +kernel
theorem d_X8_setValue_196 : decode cX8_setValue 196 = .ok (.iconst 1, 1) := by decide +kernel
theorem d_X8_setValue_197 : decode cX8_setValue 197 = .ok (.iadd, 1) := by decide +kernel
theorem d_X8_setValue_198 : decode cX8_setValue 198 = .ok (.iastore, 1) := by decide +kernel
theorem d_X8_setValue_199 : decode cX8_setValue 199 = .ok (.aload_n 0, 1) := by decide +kernel
theorem d_X8_setValue_200 : decode cX8_setValue 200 = .ok (.aload_n 0, 1) := by decide +kernel
theorem d_X8_setValue_201 : decode cX8_setValue 201 = .ok (.getfield 59, 3) := by decide +kernel
theorem d_X8_setValue_204 : decode cX8_setValue 204 = .ok (.iload_n 1, 1) := by decide +kernel
theorem d_X8_setValue_205 : decode cX8_setValue 205 = .ok (.iaload, 1) := by decide +kernel
theorem d_X8_setValue_206 : decode cX8_setValue 206 = .ok (.invokevirtual 152, 3) := by decide +kernel
theorem d_X8_setValue_158 : decode cX8_setValue 158 = .ok (.aload_n 0, 1) := by decide +kernel
theorem d_X8_setValue_159 : decode cX8_setValue 159 = .ok (.getfield 59, 3) := by decide +kernel
theorem d_X8_setValue_162 : decode cX8_setValue 162 = .ok (.iload_n 1, 1) := by decide +kernel
theorem d_X8_setValue_163 : decode cX8_setValue 163 = .ok (.iaload, 1) := by decide +kernel
theorem d_X8_setValue_164 : decode cX8_setValue 164 = .ok (.istore 9, 2) := by decide +kernel
theorem d_X8_setValue_166 : decode cX8_setValue 166 = .ok (.aload_n 0, 1) := by decide +kernel
theorem d_X8_setValue_167 : decode cX8_setValue 167 = .ok (.getfield 59, 3) := by decide +kernel
theorem d_X8_setValue_170 : decode cX8_setValue 170 = .ok (.iload_n 1, 1) := by decide +kernel
theorem d_X8_setValue_171 : decode cX8_setValue 171 = .ok (.aload_n 0, 1) := by decide +kernel
theorem d_X8_setValue_172 : decode cX8_setValue 172 = .ok (.getfield 110, 3) := by decide +kernel
theorem d_X8_setValue_175 : decode cX8_setValue 175 = .ok (.iload 8, 2) := by decide +kernel
theorem d_X8_setValue_177 : decode cX8_setValue 177 = .ok (.iconst 1, 1) := by decide +kernel
theorem d_X8_setValue_178 : decode cX8_setValue 178 = .ok (.iadd, 1) := by decide +kernel
theorem d_X8_setValue_179 : decode cX8_setValue 179 = .ok (.iaload, 1) := by decide +kernel
theorem d_X8_setValue_180 : decode cX8_setValue 180 = .ok (.iastore, 1) := by decide +kernel
theorem d_X8_setValue_181 : decode cX8_setValue 181 = .ok (.aload_n 0, 1) := by decide +kernel
theorem d_X8_setValue_182 : decode cX8_setValue 182 = .ok (.getfield 62, 3) := by decide +kernel
theorem d_X8_setValue_185 : decode cX8_setValue 185 = .ok (.iload_n 1, 1) := by decide +kernel
theorem d_X8_setValue_186 : decode cX8_setValue 186 = .ok (.iload 10, 2) := by decide +kernel
theorem d_X8_setValue_188 : decode cX8_setValue 188 = .ok (.iastore, 1) := by decide +kernel
theorem d_X8_setValue_74 : decode cX8_setValue 74 = .ok (.iconst 0, 1) := by decide +kernel
theorem d_X8_setValue_75 : decode cX8_setValue 75 = .ok (.ireturn, 1) := by decide +kernel
theorem d_X8_setValue_44 : decode cX8_setValue 44 = .ok (.iload 6, 2) := by decide +kernel
theorem d_X8_setValue_46 : decode cX8_setValue 46 = .ok (.ifCond .ne 7, 3) := by decide +kernel
theorem d_X8_setValue_53 : decode cX8_setValue 53 = .ok (.aload_n 0, 1) := by decide +kernel
theorem d_X8_setValue_54 : decode cX8_setValue 54 = .ok (.iload_n 1, 1) := by decide +kernel
theorem d_X8_setValue_55 : decode cX8_setValue 55 = .ok (.iload_n 2, 1) := by decide +kernel
theorem d_X8_setValue_56 : decode cX8_setValue 56 = .ok (.iload_n 3, 1) := by decide +kernel
theorem d_X8_setValue_57 : decode cX8_setValue 57 = .ok (.invokevirtual 255, 3) := by decide +kernel
abbrev Y_X8_cannotSet : YT := (cX8_cannotSet, 6, (some .boolean), yX8_cannotSet, [], 5)
theorem mk_X8_cannotSet : MK Y_X8_cannotSet 3 := ⟨KW.at (i := 85) (by decide +kernel) rfl, KW.at (i := 1392) (by decide +kernel) rfl, ⟨by decide +kernel, by decide +kernel⟩, by decide +kernel, by decide +kernel, rfl, by decide⟩
theorem vm_X8_cannotSet : KW (.instanceMethod (yN Y_X8_cannotSet)) ∧ KW (.selects (yN Y_X8_cannotSet).cls (yN Y_X8_cannotSet) (yN Y_X8_cannotSet)) := ⟨KW.at (i := 1391) (by decide +kernel) rfl, KW.at (i := 65) (by decide +kernel) rfl⟩
theorem ck_RX8_255 : CKV RX8 255 Y_X8_cannotSet 3 := ⟨KW.at (i := 1389) (by decide +kernel) rfl, vm_X8_cannotSet.1, vm_X8_cannotSet.2, mk_X8_cannotSet⟩
theorem d_X8_cannotSet_0 : decode cX8_cannotSet 0 = .ok (.aload_n 0, 1) := by decide +kernel
theorem d_X8_cannotSet_1 : decode cX8_cannotSet 1 = .ok (.iload_n 1, 1) := by decide +kernel
theorem d_X8_cannotSet_2 : decode cX8_cannotSet 2 = .ok (.iload_n 2, 1) := by decide +kernel
theorem d_X8_cannotSet_3 : decode cX8_cannotSet 3 = .ok (.invokevirtual 246, 3) := by decide +kernel
theorem d_X8_cannotSet_6 : decode cX8_cannotSet 6 = .ok (.istore 4, 2) := by decide +kernel
theorem d_X8_cannotSet_8 : decode cX8_cannotSet 8 = .ok (.aload_n 0, 1) := by decide +kernel
theorem d_X8_cannotSet_9 : decode cX8_cannotSet 9 = .ok (.getfield 29, 3) := by decide +kernel
theorem d_X8_cannotSet_12 : decode cX8_cannotSet 12 = .ok (.iload_n 1, 1) := by decide +kernel
theorem d_X8_cannotSet_13 : decode cX8_cannotSet 13 = .ok (.iaload, 1) := by decide +kernel
theorem d_X8_cannotSet_14 : decode cX8_cannotSet 14 = .ok (.iconst (-1), 1) := by decide +kernel
theorem d_X8_cannotSet_15 : decode cX8_cannotSet 15 = .ok (.if_icmp .ne 20, 3) := by decide +kernel
theorem d_X8_cannotSet_35 : decode cX8_cannotSet 35 = .ok (.iconst 1, 1) := by decide +kernel
theorem d_X8_cannotSet_36 : decode cX8_cannotSet 36 = .ok (.ireturn, 1) := by decide +kernel
theorem d_X8_cannotSet_18 : decode cX8_cannotSet 18 = .ok (.iload 4, 2) := by decide +kernel
theorem d_X8_cannotSet_20 : decode cX8_cannotSet 20 = .ok (.iconst (-1), 1) := by decide +kernel
theorem d_X8_cannotSet_21 : decode cX8_cannotSet 21 = .ok (.if_icmp .ne 16, 3) := by decide +kernel
theorem d_X8_cannotSet_37 : decode cX8_cannotSet 37 = .ok (.aload_n 0, 1) := by decide +kernel
theorem d_X8_cannotSet_38 : decode cX8_cannotSet 38 = .ok (.iconst 0, 1) := by decide +kernel
theorem d_X8_cannotSet_39 : decode cX8_cannotSet 39 = .ok (.putfield 146, 3) := by decide +kernel
theorem d_X8_cannotSet_42 : decode cX8_cannotSet 42 = .ok (.iconst 0, 1) := by decide +kernel
theorem d_X8_cannotSet_43 : decode cX8_cannotSet 43 = .ok (.istore 5, 2) := by decide +kernel
theorem d_X8_cannotSet_45 : decode cX8_cannotSet 45 = .ok (.iload 5, 2) := by decide +kernel
theorem d_X8_cannotSet_47 : decode cX8_cannotSet 47 = .ok (.iload_n 3, 1) := by decide +kernel
theorem d_X8_cannotSet_48 : decode cX8_cannotSet 48 = .ok (.invokestatic 237, 3) := by decide +kernel
theorem d_X8_cannotSet_51 : decode cX8_cannotSet 51 = .ok (.if_icmp .ge 21, 3) := by decide +kernel
theorem d_X8_cannotSet_54 : decode cX8_cannotSet 54 = .ok (.aload_n 0, 1) := by decide +kernel
theorem d_X8_cannotSet_55 : decode cX8_cannotSet 55 = .ok (.iload_n 3, 1) := by decide +kernel
theorem d_X8_cannotSet_56 : decode cX8_cannotSet 56 = .ok (.iload 5, 2) := by decide +kernel
theorem d_X8_cannotSet_58 : decode cX8_cannotSet 58 = .ok (.invokestatic 249, 3) := by decide +kernel
abbrev Y_X8_unitsIn : YT := (cX8_unitsIn, 3, (some .int), yX8_unitsIn, [], 1)
theorem mk_X8_unitsIn : MK Y_X8_unitsIn 2 := ⟨KW.at (i := 85) (by decide +kernel) rfl, KW.at (i := 1399) (by decide +kernel) rfl, ⟨by decide +kernel, by decide +kernel⟩, by decide +kernel, by decide +kernel, rfl, by decide⟩
theorem sm_X8_unitsIn : KW (.static (yN Y_X8_unitsIn)) := KW.at (i := 1398) (by decide +kernel) rfl
theorem ck_RX8_249 : CKS RX8 249 Y_X8_unitsIn 2 := ⟨KW.at (i := 1397) (by decide +kernel) rfl, sm_X8_unitsIn, mk_X8_unitsIn⟩
theorem d_X8_unitsIn_0 : decode cX8_unitsIn 0 = .ok (.iload_n 0, 1) := by decide +kernel
theorem d_X8_unitsIn_1 : decode cX8_unitsIn 1 = .ok (.bipush 8, 2) := by decide +kernel
theorem d_X8_unitsIn_3 : decode cX8_unitsIn 3 = .ok (.iload_n 1, 1) := by decide +kernel
theorem d_X8_unitsIn_4 : decode cX8_unitsIn 4 = .ok (.imul, 1) := by decide +kernel
theorem d_X8_unitsIn_5 : decode cX8_unitsIn 5 = .ok (.isub, 1) := by decide +kernel
theorem d_X8_unitsIn_6 : decode cX8_unitsIn 6 = .ok (.istore_n 2, 1) := by decide +kernel
theorem d_X8_unitsIn_7 : decode cX8_unitsIn 7 = .ok (.iload_n 2, 1) := by decide +kernel
theorem d_X8_unitsIn_8 : decode cX8_unitsIn 8 = .ok (.bipush 8, 2) := by decide +kernel
theorem d_X8_unitsIn_10 : decode cX8_unitsIn 10 = .ok (.if_icmp .le 8, 3) := by decide +kernel
theorem d_X8_unitsIn_18 : decode cX8_unitsIn 18 = .ok (.iload_n 2, 1) := by decide +kernel
theorem d_X8_unitsIn_19 : decode cX8_unitsIn 19 = .ok (.ireturn, 1) := by decide +kernel
theorem d_X8_unitsIn_13 : decode cX8_unitsIn 13 = .ok (.bipush 8, 2) := by decide +kernel
theorem d_X8_unitsIn_15 : decode cX8_unitsIn 15 = .ok (.goto 4, 3) := by decide +kernel
theorem d_X8_cannotSet_61 : decode cX8_cannotSet 61 = .ok (.iconst 2, 1) := by decide +kernel
theorem d_X8_cannotSet_62 : decode cX8_cannotSet 62 = .ok (.iadd, 1) := by decide +kernel
theorem d_X8_cannotSet_63 : decode cX8_cannotSet 63 = .ok (.invokevirtual 176, 3) := by decide +kernel
theorem d_X8_cannotSet_66 : decode cX8_cannotSet 66 = .ok (.iinc 5 1, 3) := by decide +kernel
theorem d_X8_cannotSet_69 : decode cX8_cannotSet 69 = .ok (.goto (-24), 3) := by decide +kernel
theorem d_X8_cannotSet_72 : decode cX8_cannotSet 72 = .ok (.iload 4, 2) := by decide +kernel
theorem d_X8_cannotSet_74 : decode cX8_cannotSet 74 = .ok (.iconst (-1), 1) := by decide +kernel
theorem d_X8_cannotSet_75 : decode cX8_cannotSet 75 = .ok (.if_icmp .ne 8, 3) := by decide +kernel
theorem d_X8_cannotSet_83 : decode cX8_cannotSet 83 = .ok (.iload 4, 2) := by decide +kernel
theorem d_X8_cannotSet_85 : decode cX8_cannotSet 85 = .ok (.iconst (-1), 1) := by decide +kernel
theorem d_X8_cannotSet_86 : decode cX8_cannotSet 86 = .ok (.if_icmp .ne 20, 3) := by decide +kernel
theorem d_X8_cannotSet_106 : decode cX8_cannotSet 106 = .ok (.aload_n 0, 1) := by decide +kernel
theorem d_X8_cannotSet_107 : decode cX8_cannotSet 107 = .ok (.invokevirtual 207, 3) := by decide +kernel
theorem d_X8_cannotSet_110 : decode cX8_cannotSet 110 = .ok (.ifCond .ne 7, 3) := by decide +kernel
theorem d_X8_cannotSet_117 : decode cX8_cannotSet 117 = .ok (.iconst 0, 1) := by decide +kernel
theorem d_X8_cannotSet_118 : decode cX8_cannotSet 118 = .ok (.ireturn, 1) := by decide +kernel
theorem d_X8_cannotSet_113 : decode cX8_cannotSet 113 = .ok (.iconst 1, 1) := by decide +kernel
theorem d_X8_cannotSet_114 : decode cX8_cannotSet 114 = .ok (.goto 4, 3) := by decide +kernel
theorem d_X8_cannotSet_89 : decode cX8_cannotSet 89 = .ok (.aload_n 0, 1) := by decide +kernel
theorem d_X8_cannotSet_90 : decode cX8_cannotSet 90 = .ok (.iload_n 1, 1) := by decide +kernel
theorem d_X8_cannotSet_91 : decode cX8_cannotSet 91 = .ok (.invokevirtual 252, 3) := by decide +kernel
theorem d_X8_cannotSet_94 : decode cX8_cannotSet 94 = .ok (.ifCond .le 12, 3) := by decide +kernel
theorem d_X8_cannotSet_97 : decode cX8_cannotSet 97 = .ok (.aload_n 0, 1) := by decide +kernel
theorem d_X8_cannotSet_98 : decode cX8_cannotSet 98 = .ok (.aload_n 0, 1) := by decide +kernel
theorem d_X8_cannotSet_99 : decode cX8_cannotSet 99 = .ok (.iload_n 1, 1) := by decide +kernel
theorem d_X8_cannotSet_100 : decode cX8_cannotSet 100 = .ok (.invokevirtual 252, 3) := by decide +kernel
theorem d_X8_cannotSet_103 : decode cX8_cannotSet 103 = .ok (.invokevirtual 176, 3) := by decide +kernel
theorem d_X8_cannotSet_78 : decode cX8_cannotSet 78 = .ok (.aload_n 0, 1) := by decide +kernel
theorem d_X8_cannotSet_79 : decode cX8_cannotSet 79 = .ok (.iconst 3, 1) := by decide +kernel
theorem d_X8_cannotSet_80 : decode cX8_cannotSet 80 = .ok (.invokevirtual 176, 3) := by decide +kernel
theorem d_X8_cannotSet_24 : decode cX8_cannotSet 24 = .ok (.aload_n 0, 1) := by decide +kernel
theorem d_X8_cannotSet_25 : decode cX8_cannotSet 25 = .ok (.getfield 56, 3) := by decide +kernel
theorem d_X8_cannotSet_28 : decode cX8_cannotSet 28 = .ok (.iload_n 1, 1) := by decide +kernel
theorem d_X8_cannotSet_29 : decode cX8_cannotSet 29 = .ok (.iaload, 1) := by decide +kernel
theorem d_X8_cannotSet_30 : decode cX8_cannotSet 30 = .ok (.bipush 8, 2) := by decide +kernel
theorem d_X8_cannotSet_32 : decode cX8_cannotSet 32 = .ok (.if_icmp .ne 5, 3) := by decide +kernel
theorem d_X8_setValue_60 : decode cX8_setValue 60 = .ok (.ifCond .eq 7, 3) := by decide +kernel
theorem d_X8_setValue_67 : decode cX8_setValue 67 = .ok (.iconst 0, 1) := by decide +kernel
theorem d_X8_setValue_63 : decode cX8_setValue 63 = .ok (.iconst 3, 1) := by decide +kernel
theorem d_X8_setValue_64 : decode cX8_setValue 64 = .ok (.goto 4, 3) := by decide +kernel
theorem d_X8_setValue_49 : decode cX8_setValue 49 = .ok (.iconst 2, 1) := by decide +kernel
theorem d_X8_setValue_50 : decode cX8_setValue 50 = .ok (.goto 18, 3) := by decide +kernel
theorem d_X8_setValue_40 : decode cX8_setValue 40 = .ok (.iconst 1, 1) := by decide +kernel
theorem d_X8_setValue_41 : decode cX8_setValue 41 = .ok (.goto 27, 3) := by decide +kernel
theorem d_X8_setValue_31 : decode cX8_setValue 31 = .ok (.iconst 0, 1) := by decide +kernel
theorem d_X8_setValue_17 : decode cX8_setValue 17 = .ok (.iload_n 3, 1) := by decide +kernel
theorem d_X8_setValue_18 : decode cX8_setValue 18 = .ok (.iconst 0, 1) := by decide +kernel
theorem d_X8_setValue_19 : decode cX8_setValue 19 = .ok (.bipush 30, 2) := by decide +kernel
theorem d_X8_setValue_21 : decode cX8_setValue 21 = .ok (.invokestatic 124, 3) := by decide +kernel
theorem d_X8_setValue_24 : decode cX8_setValue 24 = .ok (.ifCond .eq 7, 3) := by decide +kernel
theorem d_X8_setValue_27 : decode cX8_setValue 27 = .ok (.iconst 1, 1) := by decide +kernel
theorem d_X8_setValue_28 : decode cX8_setValue 28 = .ok (.goto 4, 3) := by decide +kernel
abbrev Y_X8_resize : YT := (cX8_resize, 9, (some .int), yX8_resize, [], 6)
theorem d_X8_resize_0 : decode cX8_resize 0 = .ok (.aload_n 0, 1) := by decide +kernel
theorem d_X8_resize_1 : decode cX8_resize 1 = .ok (.iload_n 1, 1) := by decide +kernel
theorem d_X8_resize_2 : decode cX8_resize 2 = .ok (.invokevirtual 191, 3) := by decide +kernel
theorem d_X8_resize_5 : decode cX8_resize 5 = .ok (.ifCond .eq 17, 3) := by decide +kernel
theorem d_X8_resize_23 : decode cX8_resize 23 = .ok (.istore 4, 2) := by decide +kernel
theorem d_X8_resize_25 : decode cX8_resize 25 = .ok (.iload 4, 2) := by decide +kernel
theorem d_X8_resize_27 : decode cX8_resize 27 = .ok (.ifCond .eq 12, 3) := by decide +kernel
theorem d_X8_resize_40 : decode cX8_resize 40 = .ok (.istore 5, 2) := by decide +kernel
theorem d_X8_resize_42 : decode cX8_resize 42 = .ok (.aload_n 0, 1) := by decide +kernel
theorem d_X8_resize_43 : decode cX8_resize 43 = .ok (.iload 4, 2) := by decide +kernel
theorem d_X8_resize_45 : decode cX8_resize 45 = .ok (.ifCond .ne 7, 3) := by decide +kernel
theorem d_X8_resize_81 : decode cX8_resize 81 = .ok (.invokevirtual 195, 3) := by decide +kernel
theorem d_X8_resize_84 : decode cX8_resize 84 = .ok (.ifCond .eq 5, 3) := by decide +kernel
theorem d_X8_resize_89 : decode cX8_resize 89 = .ok (.aload_n 0, 1) := by decide +kernel
theorem d_X8_resize_90 : decode cX8_resize 90 = .ok (.getfield 71, 3) := by decide +kernel
theorem d_X8_resize_93 : decode cX8_resize 93 = .ok (.iload 5, 2) := by decide +kernel
theorem d_X8_resize_95 : decode cX8_resize 95 = .ok (.iaload, 1) := by decide +kernel
theorem d_X8_resize_96 : decode cX8_resize 96 = .ok (.istore 6, 2) := by decide +kernel
theorem d_X8_resize_98 : decode cX8_resize 98 = .ok (.iload 6, 2) := by decide +kernel
theorem d_X8_resize_100 : decode cX8_resize 100 = .ok (.iload_n 3, 1) := by decide +kernel
theorem d_X8_resize_101 : decode cX8_resize 101 = .ok (.invokestatic 258, 3) := by decide +kernel
abbrev Y_X8_stays : YT := (cX8_stays, 3, (some .int), yX8_stays, [], 2)
theorem mk_X8_stays : MK Y_X8_stays 2 := ⟨KW.at (i := 85) (by decide +kernel) rfl, KW.at (i := 1414) (by decide +kernel) rfl, ⟨by decide +kernel, by decide +kernel⟩, by decide +kernel, by decide +kernel, rfl, by decide⟩
theorem sm_X8_stays : KW (.static (yN Y_X8_stays)) := KW.at (i := 1413) (by decide +kernel) rfl
theorem ck_RX8_258 : CKS RX8 258 Y_X8_stays 2 := ⟨KW.at (i := 1412) (by decide +kernel) rfl, sm_X8_stays, mk_X8_stays⟩
theorem d_X8_stays_0 : decode cX8_stays 0 = .ok (.iconst 0, 1) := by decide +kernel
theorem d_X8_stays_1 : decode cX8_stays 1 = .ok (.istore_n 2, 1) := by decide +kernel
theorem d_X8_stays_2 : decode cX8_stays 2 = .ok (.iload_n 2, 1) := by decide +kernel
theorem d_X8_stays_3 : decode cX8_stays 3 = .ok (.iload_n 0, 1) := by decide +kernel
theorem d_X8_stays_4 : decode cX8_stays 4 = .ok (.invokestatic 237, 3) := by decide +kernel
theorem d_X8_stays_7 : decode cX8_stays 7 = .ok (.if_icmp .ge 30, 3) := by decide +kernel
theorem d_X8_stays_37 : decode cX8_stays 37 = .ok (.iload_n 2, 1) := by decide +kernel
theorem d_X8_stays_38 : decode cX8_stays 38 = .ok (.ireturn, 1) := by decide +kernel
theorem d_X8_stays_10 : decode cX8_stays 10 = .ok (.iload_n 2, 1) := by decide +kernel
theorem d_X8_stays_11 : decode cX8_stays 11 = .ok (.iload_n 1, 1) := by decide +kernel
theorem d_X8_stays_12 : decode cX8_stays 12 = .ok (.invokestatic 237, 3) := by decide +kernel
theorem d_X8_stays_15 : decode cX8_stays 15 = .ok (.if_icmp .ge 22, 3) := by decide +kernel
theorem d_X8_stays_18 : decode cX8_stays 18 = .ok (.iload_n 0, 1) := by decide +kernel
theorem d_X8_stays_19 : decode cX8_stays 19 = .ok (.iload_n 2, 1) := by decide +kernel
theorem d_X8_stays_20 : decode cX8_stays 20 = .ok (.invokestatic 249, 3) := by decide +kernel
theorem d_X8_stays_23 : decode cX8_stays 23 = .ok (.iload_n 1, 1) := by decide +kernel
theorem d_X8_stays_24 : decode cX8_stays 24 = .ok (.iload_n 2, 1) := by decide +kernel
theorem d_X8_stays_25 : decode cX8_stays 25 = .ok (.invokestatic 249, 3) := by decide +kernel
theorem d_X8_stays_28 : decode cX8_stays 28 = .ok (.if_icmp .ne 9, 3) := by decide +kernel
theorem d_X8_stays_31 : decode cX8_stays 31 = .ok (.iinc 2 1, 3) := by decide +kernel
theorem d_X8_stays_34 : decode cX8_stays 34 = .ok (.goto (-32), 3) := by decide +kernel
theorem d_X8_resize_104 : decode cX8_resize 104 = .ok (.istore 7, 2) := by decide +kernel
theorem d_X8_resize_106 : decode cX8_resize 106 = .ok (.aload_n 0, 1) := by decide +kernel
theorem d_X8_resize_107 : decode cX8_resize 107 = .ok (.invokevirtual 211, 3) := by decide +kernel
theorem d_X8_resize_110 : decode cX8_resize 110 = .ok (.aload_n 0, 1) := by decide +kernel
theorem d_X8_resize_111 : decode cX8_resize 111 = .ok (.iload 5, 2) := by decide +kernel
theorem d_X8_resize_113 : decode cX8_resize 113 = .ok (.iload 7, 2) := by decide +kernel
theorem d_X8_resize_115 : decode cX8_resize 115 = .ok (.invokevirtual 240, 3) := by decide +kernel
theorem d_X8_resize_118 : decode cX8_resize 118 = .ok (.iload 7, 2) := by decide +kernel
theorem d_X8_resize_120 : decode cX8_resize 120 = .ok (.istore 8, 2) := by decide +kernel
theorem d_X8_resize_122 : decode cX8_resize 122 = .ok (.iload 8, 2) := by decide +kernel
theorem d_X8_resize_124 : decode cX8_resize 124 = .ok (.iload_n 3, 1) := by decide +kernel
theorem d_X8_resize_125 : decode cX8_resize 125 = .ok (.invokestatic 237, 3) := by decide +kernel
theorem d_X8_resize_128 : decode cX8_resize 128 = .ok (.if_icmp .ge 31, 3) := by decide +kernel
theorem d_X8_resize_131 : decode cX8_resize 131 = .ok (.aload_n 0, 1) := by decide +kernel
theorem d_X8_resize_132 : decode cX8_resize 132 = .ok (.getfield 77, 3) := by decide +kernel
theorem d_X8_resize_135 : decode cX8_resize 135 = .ok (.iconst 4, 1) := by decide +kernel
theorem d_X8_resize_136 : decode cX8_resize 136 = .ok (.iload 5, 2) := by decide +kernel
theorem d_X8_resize_138 : decode cX8_resize 138 = .ok (.imul, 1) := by decide +kernel
theorem d_X8_resize_139 : decode cX8_resize 139 = .ok (.iload 8, 2) := by decide +kernel
theorem d_X8_resize_141 : decode cX8_resize 141 = .ok (.iadd, 1) := by decide +kernel
theorem d_X8_resize_142 : decode cX8_resize 142 = .ok (.aload_n 0, 1) := by decide +kernel
theorem d_X8_resize_143 : decode cX8_resize 143 = .ok (.getfield 110, 3) := by decide +kernel
theorem d_X8_resize_146 : decode cX8_resize 146 = .ok (.iload 8, 2) := by decide +kernel
theorem d_X8_resize_148 : decode cX8_resize 148 = .ok (.iload 7, 2) := by decide +kernel
theorem d_X8_resize_150 : decode cX8_resize 150 = .ok (.isub, 1) := by decide +kernel
theorem d_X8_resize_151 : decode cX8_resize 151 = .ok (.iaload, 1) := by decide +kernel
theorem d_X8_resize_152 : decode cX8_resize 152 = .ok (.iastore, 1) := by decide +kernel
theorem d_X8_resize_153 : decode cX8_resize 153 = .ok (.iinc 8 1, 3) := by decide +kernel
theorem d_X8_resize_156 : decode cX8_resize 156 = .ok (.goto (-34), 3) := by decide +kernel
theorem d_X8_resize_159 : decode cX8_resize 159 = .ok (.aload_n 0, 1) := by decide +kernel
theorem d_X8_resize_160 : decode cX8_resize 160 = .ok (.getfield 71, 3) := by decide +kernel
theorem d_X8_resize_163 : decode cX8_resize 163 = .ok (.iload 5, 2) := by decide +kernel
theorem d_X8_resize_165 : decode cX8_resize 165 = .ok (.iload_n 3, 1) := by decide +kernel
theorem d_X8_resize_166 : decode cX8_resize 166 = .ok (.iastore, 1) := by decide +kernel
theorem d_X8_resize_167 : decode cX8_resize 167 = .ok (.aload_n 0, 1) := by decide +kernel
theorem d_X8_resize_168 : decode cX8_resize 168 = .ok (.aload_n 0, 1) := by decide +kernel
theorem d_X8_resize_169 : decode cX8_resize 169 = .ok (.getfield 74, 3) := by decide +kernel
theorem d_X8_resize_172 : decode cX8_resize 172 = .ok (.iload 5, 2) := by decide +kernel
theorem d_X8_resize_174 : decode cX8_resize 174 = .ok (.iaload, 1) := by decide +kernel
theorem d_X8_resize_175 : decode cX8_resize 175 = .ok (.invokevirtual 152, 3) := by decide +kernel
theorem d_X8_resize_178 : decode cX8_resize 178 = .ok (.aload_n 0, 1) := by decide +kernel
theorem d_X8_resize_179 : decode cX8_resize 179 = .ok (.aload_n 0, 1) := by decide +kernel
theorem d_X8_resize_180 : decode cX8_resize 180 = .ok (.getfield 32, 3) := by decide +kernel
theorem d_X8_resize_183 : decode cX8_resize 183 = .ok (.iload_n 1, 1) := by decide +kernel
theorem d_X8_resize_184 : decode cX8_resize 184 = .ok (.iaload, 1) := by decide +kernel
theorem d_X8_resize_185 : decode cX8_resize 185 = .ok (.invokevirtual 152, 3) := by decide +kernel
theorem d_X8_resize_188 : decode cX8_resize 188 = .ok (.aload_n 0, 1) := by decide +kernel
theorem d_X8_resize_189 : decode cX8_resize 189 = .ok (.iload_n 1, 1) := by decide +kernel
theorem d_X8_resize_190 : decode cX8_resize 190 = .ok (.iconst 2, 1) := by decide +kernel
theorem d_X8_resize_191 : decode cX8_resize 191 = .ok (.invokevirtual 218, 3) := by decide +kernel
theorem d_X8_resize_194 : decode cX8_resize 194 = .ok (.iload 6, 2) := by decide +kernel
theorem d_X8_resize_196 : decode cX8_resize 196 = .ok (.ireturn, 1) := by decide +kernel
theorem d_X8_resize_87 : decode cX8_resize 87 = .ok (.iconst 0, 1) := by decide +kernel
theorem d_X8_resize_88 : decode cX8_resize 88 = .ok (.ireturn, 1) := by decide +kernel
theorem d_X8_resize_52 : decode cX8_resize 52 = .ok (.iload_n 3, 1) := by decide +kernel
theorem d_X8_resize_53 : decode cX8_resize 53 = .ok (.iconst 0, 1) := by decide +kernel
theorem d_X8_resize_54 : decode cX8_resize 54 = .ok (.bipush 30, 2) := by decide +kernel
theorem d_X8_resize_56 : decode cX8_resize 56 = .ok (.invokestatic 124, 3) := by decide +kernel
theorem d_X8_resize_59 : decode cX8_resize 59 = .ok (.ifCond .ne 7, 3) := by decide +kernel
theorem d_X8_resize_66 : decode cX8_resize 66 = .ok (.aload_n 0, 1) := by decide +kernel
theorem d_X8_resize_67 : decode cX8_resize 67 = .ok (.iload 5, 2) := by decide +kernel
theorem d_X8_resize_69 : decode cX8_resize 69 = .ok (.iload_n 3, 1) := by decide +kernel
theorem d_X8_resize_70 : decode cX8_resize 70 = .ok (.invokevirtual 261, 3) := by decide +kernel
abbrev Y_X8_cannotResize : YT := (cX8_cannotResize, 4, (some .boolean), yX8_cannotResize, [], 5)
theorem mk_X8_cannotResize : MK Y_X8_cannotResize 2 := ⟨KW.at (i := 85) (by decide +kernel) rfl, KW.at (i := 1411) (by decide +kernel) rfl, ⟨by decide +kernel, by decide +kernel⟩, by decide +kernel, by decide +kernel, rfl, by decide⟩
theorem vm_X8_cannotResize : KW (.instanceMethod (yN Y_X8_cannotResize)) ∧ KW (.selects (yN Y_X8_cannotResize).cls (yN Y_X8_cannotResize) (yN Y_X8_cannotResize)) := ⟨KW.at (i := 1410) (by decide +kernel) rfl, KW.at (i := 68) (by decide +kernel) rfl⟩
theorem ck_RX8_261 : CKV RX8 261 Y_X8_cannotResize 2 := ⟨KW.at (i := 1408) (by decide +kernel) rfl, vm_X8_cannotResize.1, vm_X8_cannotResize.2, mk_X8_cannotResize⟩
theorem d_X8_cannotResize_0 : decode cX8_cannotResize 0 = .ok (.aload_n 0, 1) := by decide +kernel
theorem d_X8_cannotResize_1 : decode cX8_cannotResize 1 = .ok (.iconst 0, 1) := by decide +kernel
theorem d_X8_cannotResize_2 : decode cX8_cannotResize 2 = .ok (.putfield 146, 3) := by decide +kernel
theorem d_X8_cannotResize_5 : decode cX8_cannotResize 5 = .ok (.aload_n 0, 1) := by decide +kernel
theorem d_X8_cannotResize_6 : decode cX8_cannotResize 6 = .ok (.getfield 71, 3) := by decide +kernel
theorem d_X8_cannotResize_9 : decode cX8_cannotResize 9 = .ok (.iload_n 1, 1) := by decide +kernel
theorem d_X8_cannotResize_10 : decode cX8_cannotResize 10 = .ok (.iaload, 1) := by decide +kernel
theorem d_X8_cannotResize_11 : decode cX8_cannotResize 11 = .ok (.iload_n 2, 1) := by decide +kernel
theorem d_X8_cannotResize_12 : decode cX8_cannotResize 12 = .ok (.invokestatic 258, 3) := by decide +kernel
theorem d_X8_cannotResize_15 : decode cX8_cannotResize 15 = .ok (.istore_n 3, 1) := by decide +kernel
theorem d_X8_cannotResize_16 : decode cX8_cannotResize 16 = .ok (.iload_n 3, 1) := by decide +kernel
theorem d_X8_cannotResize_17 : decode cX8_cannotResize 17 = .ok (.iload_n 2, 1) := by decide +kernel
theorem d_X8_cannotResize_18 : decode cX8_cannotResize 18 = .ok (.invokestatic 237, 3) := by decide +kernel
theorem d_X8_cannotResize_21 : decode cX8_cannotResize 21 = .ok (.if_icmp .ge 20, 3) := by decide +kernel
theorem d_X8_cannotResize_24 : decode cX8_cannotResize 24 = .ok (.aload_n 0, 1) := by decide +kernel
theorem d_X8_cannotResize_25 : decode cX8_cannotResize 25 = .ok (.iload_n 2, 1) := by decide +kernel
theorem d_X8_cannotResize_26 : decode cX8_cannotResize 26 = .ok (.iload_n 3, 1) := by decide +kernel
theorem d_X8_cannotResize_27 : decode cX8_cannotResize 27 = .ok (.invokestatic 249, 3) := by decide +kernel
theorem d_X8_cannotResize_30 : decode cX8_cannotResize 30 = .ok (.iconst 2, 1) := by decide +kernel
theorem d_X8_cannotResize_31 : decode cX8_cannotResize 31 = .ok (.iadd, 1) := by decide +kernel
theorem d_X8_cannotResize_32 : decode cX8_cannotResize 32 = .ok (.invokevirtual 176, 3) := by decide +kernel
theorem d_X8_cannotResize_35 : decode cX8_cannotResize 35 = .ok (.iinc 3 1, 3) := by decide +kernel
theorem d_X8_cannotResize_38 : decode cX8_cannotResize 38 = .ok (.goto (-22), 3) := by decide +kernel
theorem d_X8_cannotResize_41 : decode cX8_cannotResize 41 = .ok (.aload_n 0, 1) := by decide +kernel
theorem d_X8_cannotResize_42 : decode cX8_cannotResize 42 = .ok (.invokevirtual 207, 3) := by decide +kernel
theorem d_X8_cannotResize_45 : decode cX8_cannotResize 45 = .ok (.ifCond .ne 7, 3) := by decide +kernel
theorem d_X8_cannotResize_52 : decode cX8_cannotResize 52 = .ok (.iconst 0, 1) := by decide +kernel
theorem d_X8_cannotResize_53 : decode cX8_cannotResize 53 = .ok (.ireturn, 1) := by decide +kernel
theorem d_X8_cannotResize_48 : decode cX8_cannotResize 48 = .ok (.iconst 1, 1) := by decide +kernel
theorem d_X8_cannotResize_49 : decode cX8_cannotResize 49 = .ok (.goto 4, 3) := by decide +kernel
theorem d_X8_resize_73 : decode cX8_resize 73 = .ok (.ifCond .eq 7, 3) := by decide +kernel
theorem d_X8_resize_80 : decode cX8_resize 80 = .ok (.iconst 0, 1) := by decide +kernel
theorem d_X8_resize_76 : decode cX8_resize 76 = .ok (.iconst 3, 1) := by decide +kernel
theorem d_X8_resize_77 : decode cX8_resize 77 = .ok (.goto 4, 3) := by decide +kernel
theorem d_X8_resize_62 : decode cX8_resize 62 = .ok (.iconst 2, 1) := by decide +kernel
theorem d_X8_resize_63 : decode cX8_resize 63 = .ok (.goto 18, 3) := by decide +kernel
theorem d_X8_resize_48 : decode cX8_resize 48 = .ok (.iconst 1, 1) := by decide +kernel
theorem d_X8_resize_49 : decode cX8_resize 49 = .ok (.goto 32, 3) := by decide +kernel
theorem d_X8_resize_39 : decode cX8_resize 39 = .ok (.iconst 0, 1) := by decide +kernel
theorem d_X8_resize_30 : decode cX8_resize 30 = .ok (.aload_n 0, 1) := by decide +kernel
theorem d_X8_resize_31 : decode cX8_resize 31 = .ok (.iload_n 1, 1) := by decide +kernel
theorem d_X8_resize_32 : decode cX8_resize 32 = .ok (.iload_n 2, 1) := by decide +kernel
theorem d_X8_resize_33 : decode cX8_resize 33 = .ok (.invokevirtual 246, 3) := by decide +kernel
theorem d_X8_resize_36 : decode cX8_resize 36 = .ok (.goto 4, 3) := by decide +kernel
theorem d_X8_resize_22 : decode cX8_resize 22 = .ok (.iconst 0, 1) := by decide +kernel
theorem d_X8_resize_8 : decode cX8_resize 8 = .ok (.aload_n 0, 1) := by decide +kernel
theorem d_X8_resize_9 : decode cX8_resize 9 = .ok (.iload_n 1, 1) := by decide +kernel
theorem d_X8_resize_10 : decode cX8_resize 10 = .ok (.iload_n 2, 1) := by decide +kernel
theorem d_X8_resize_11 : decode cX8_resize 11 = .ok (.invokevirtual 246, 3) := by decide +kernel
theorem d_X8_resize_14 : decode cX8_resize 14 = .ok (.iconst (-1), 1) := by decide +kernel
theorem d_X8_resize_15 : decode cX8_resize 15 = .ok (.if_icmp .eq 7, 3) := by decide +kernel
theorem d_X8_resize_18 : decode cX8_resize 18 = .ok (.iconst 1, 1) := by decide +kernel
theorem d_X8_resize_19 : decode cX8_resize 19 = .ok (.goto 4, 3) := by decide +kernel
abbrev Y_X8_dropValue : YT := (cX8_dropValue, 6, (some .int), yX8_dropValue, [], 4)
theorem d_X8_dropValue_0 : decode cX8_dropValue 0 = .ok (.aload_n 0, 1) := by decide +kernel
theorem d_X8_dropValue_1 : decode cX8_dropValue 1 = .ok (.iload_n 1, 1) := by decide +kernel
theorem d_X8_dropValue_2 : decode cX8_dropValue 2 = .ok (.invokevirtual 191, 3) := by decide +kernel
theorem d_X8_dropValue_5 : decode cX8_dropValue 5 = .ok (.ifCond .eq 17, 3) := by decide +kernel
theorem d_X8_dropValue_23 : decode cX8_dropValue 23 = .ok (.istore_n 3, 1) := by decide +kernel
theorem d_X8_dropValue_24 : decode cX8_dropValue 24 = .ok (.aload_n 0, 1) := by decide +kernel
theorem d_X8_dropValue_25 : decode cX8_dropValue 25 = .ok (.iload_n 3, 1) := by decide +kernel
theorem d_X8_dropValue_26 : decode cX8_dropValue 26 = .ok (.ifCond .eq 7, 3) := by decide +kernel
theorem d_X8_dropValue_34 : decode cX8_dropValue 34 = .ok (.invokevirtual 195, 3) := by decide +kernel
theorem d_X8_dropValue_37 : decode cX8_dropValue 37 = .ok (.ifCond .eq 5, 3) := by decide +kernel
theorem d_X8_dropValue_42 : decode cX8_dropValue 42 = .ok (.aload_n 0, 1) := by decide +kernel
theorem d_X8_dropValue_43 : decode cX8_dropValue 43 = .ok (.iload_n 1, 1) := by decide +kernel
theorem d_X8_dropValue_44 : decode cX8_dropValue 44 = .ok (.iload_n 2, 1) := by decide +kernel
theorem d_X8_dropValue_45 : decode cX8_dropValue 45 = .ok (.invokevirtual 246, 3) := by decide +kernel
theorem d_X8_dropValue_48 : decode cX8_dropValue 48 = .ok (.istore 4, 2) := by decide +kernel
theorem d_X8_dropValue_50 : decode cX8_dropValue 50 = .ok (.aload_n 0, 1) := by decide +kernel
theorem d_X8_dropValue_51 : decode cX8_dropValue 51 = .ok (.iconst 0, 1) := by decide +kernel
theorem d_X8_dropValue_52 : decode cX8_dropValue 52 = .ok (.putfield 156, 3) := by decide +kernel
theorem d_X8_dropValue_55 : decode cX8_dropValue 55 = .ok (.aload_n 0, 1) := by decide +kernel
theorem d_X8_dropValue_56 : decode cX8_dropValue 56 = .ok (.iload 4, 2) := by decide +kernel
theorem d_X8_dropValue_58 : decode cX8_dropValue 58 = .ok (.iconst 0, 1) := by decide +kernel
theorem d_X8_dropValue_59 : decode cX8_dropValue 59 = .ok (.invokevirtual 240, 3) := by decide +kernel
theorem d_X8_dropValue_62 : decode cX8_dropValue 62 = .ok (.aload_n 0, 1) := by decide +kernel
theorem d_X8_dropValue_63 : decode cX8_dropValue 63 = .ok (.aload_n 0, 1) := by decide +kernel
theorem d_X8_dropValue_64 : decode cX8_dropValue 64 = .ok (.getfield 74, 3) := by decide +kernel
theorem d_X8_dropValue_67 : decode cX8_dropValue 67 = .ok (.iload 4, 2) := by decide +kernel
theorem d_X8_dropValue_69 : decode cX8_dropValue 69 = .ok (.iaload, 1) := by decide +kernel
theorem d_X8_dropValue_70 : decode cX8_dropValue 70 = .ok (.invokevirtual 182, 3) := by decide +kernel
theorem d_X8_dropValue_73 : decode cX8_dropValue 73 = .ok (.aload_n 0, 1) := by decide +kernel
theorem d_X8_dropValue_74 : decode cX8_dropValue 74 = .ok (.getfield 56, 3) := by decide +kernel
theorem d_X8_dropValue_77 : decode cX8_dropValue 77 = .ok (.iload_n 1, 1) := by decide +kernel
theorem d_X8_dropValue_78 : decode cX8_dropValue 78 = .ok (.dup2, 1) := by decide +kernel
theorem d_X8_dropValue_79 : decode cX8_dropValue 79 = .ok (.iaload, 1) := by decide +kernel
theorem d_X8_dropValue_80 : decode cX8_dropValue 80 = .ok (.iconst 1, 1) := by decide +kernel
theorem d_X8_dropValue_81 : decode cX8_dropValue 81 = .ok (.isub, 1) := by decide +kernel
theorem d_X8_dropValue_82 : decode cX8_dropValue 82 = .ok (.iastore, 1) := by decide +kernel
theorem d_X8_dropValue_83 : decode cX8_dropValue 83 = .ok (.iload 4, 2) := by decide +kernel
theorem d_X8_dropValue_85 : decode cX8_dropValue 85 = .ok (.istore 5, 2) := by decide +kernel
theorem d_X8_dropValue_87 : decode cX8_dropValue 87 = .ok (.iload 5, 2) := by decide +kernel
theorem d_X8_dropValue_89 : decode cX8_dropValue 89 = .ok (.bipush 8, 2) := by decide +kernel
theorem d_X8_dropValue_91 : decode cX8_dropValue 91 = .ok (.iload_n 1, 1) := by decide +kernel
theorem d_X8_dropValue_92 : decode cX8_dropValue 92 = .ok (.imul, 1) := by decide +kernel
theorem d_X8_dropValue_93 : decode cX8_dropValue 93 = .ok (.aload_n 0, 1) := by decide +kernel
theorem d_X8_dropValue_94 : decode cX8_dropValue 94 = .ok (.getfield 56, 3) := by decide +kernel
theorem d_X8_dropValue_97 : decode cX8_dropValue 97 = .ok (.iload_n 1, 1) := by decide +kernel
theorem d_X8_dropValue_98 : decode cX8_dropValue 98 = .ok (.iaload, 1) := by decide +kernel
theorem d_X8_dropValue_99 : decode cX8_dropValue 99 = .ok (.iadd, 1) := by decide +kernel
theorem d_X8_dropValue_100 : decode cX8_dropValue 100 = .ok (.if_icmp .ge 19, 3) := by decide +kernel
theorem d_X8_dropValue_103 : decode cX8_dropValue 103 = .ok (.aload_n 0, 1) := by decide +kernel
theorem d_X8_dropValue_104 : decode cX8_dropValue 104 = .ok (.iload 5, 2) := by decide +kernel
theorem d_X8_dropValue_106 : decode cX8_dropValue 106 = .ok (.iload 5, 2) := by decide +kernel
theorem d_X8_dropValue_108 : decode cX8_dropValue 108 = .ok (.iconst 1, 1) := by decide +kernel
theorem d_X8_dropValue_109 : decode cX8_dropValue 109 = .ok (.iadd, 1) := by decide +kernel
theorem d_X8_dropValue_110 : decode cX8_dropValue 110 = .ok (.invokevirtual 264, 3) := by decide +kernel
abbrev Y_X8_moves : YT := (cX8_moves, 4, none, yX8_moves, [], 1)
theorem mk_X8_moves : MK Y_X8_moves 2 := ⟨KW.at (i := 85) (by decide +kernel) rfl, KW.at (i := 1422) (by decide +kernel) rfl, ⟨by decide +kernel, by decide +kernel⟩, by decide +kernel, by decide +kernel, rfl, by decide⟩
theorem vm_X8_moves : KW (.instanceMethod (yN Y_X8_moves)) ∧ KW (.selects (yN Y_X8_moves).cls (yN Y_X8_moves) (yN Y_X8_moves)) := ⟨KW.at (i := 1421) (by decide +kernel) rfl, KW.at (i := 69) (by decide +kernel) rfl⟩
theorem ck_RX8_264 : CKV RX8 264 Y_X8_moves 2 := ⟨KW.at (i := 1419) (by decide +kernel) rfl, vm_X8_moves.1, vm_X8_moves.2, mk_X8_moves⟩
theorem d_X8_moves_0 : decode cX8_moves 0 = .ok (.aload_n 0, 1) := by decide +kernel
theorem d_X8_moves_1 : decode cX8_moves 1 = .ok (.getfield 65, 3) := by decide +kernel
theorem d_X8_moves_4 : decode cX8_moves 4 = .ok (.iload_n 1, 1) := by decide +kernel
theorem d_X8_moves_5 : decode cX8_moves 5 = .ok (.aload_n 0, 1) := by decide +kernel
theorem d_X8_moves_6 : decode cX8_moves 6 = .ok (.getfield 65, 3) := by decide +kernel
theorem d_X8_moves_9 : decode cX8_moves 9 = .ok (.iload_n 2, 1) := by decide +kernel
theorem d_X8_moves_10 : decode cX8_moves 10 = .ok (.iaload, 1) := by decide +kernel
theorem d_X8_moves_11 : decode cX8_moves 11 = .ok (.iastore, 1) := by decide +kernel
theorem d_X8_moves_12 : decode cX8_moves 12 = .ok (.aload_n 0, 1) := by decide +kernel
theorem d_X8_moves_13 : decode cX8_moves 13 = .ok (.getfield 74, 3) := by decide +kernel
theorem d_X8_moves_16 : decode cX8_moves 16 = .ok (.iload_n 1, 1) := by decide +kernel
theorem d_X8_moves_17 : decode cX8_moves 17 = .ok (.aload_n 0, 1) := by decide +kernel
theorem d_X8_moves_18 : decode cX8_moves 18 = .ok (.getfield 74, 3) := by decide +kernel
theorem d_X8_moves_21 : decode cX8_moves 21 = .ok (.iload_n 2, 1) := by decide +kernel
theorem d_X8_moves_22 : decode cX8_moves 22 = .ok (.iaload, 1) := by decide +kernel
theorem d_X8_moves_23 : decode cX8_moves 23 = .ok (.iastore, 1) := by decide +kernel
theorem d_X8_moves_24 : decode cX8_moves 24 = .ok (.aload_n 0, 1) := by decide +kernel
theorem d_X8_moves_25 : decode cX8_moves 25 = .ok (.getfield 71, 3) := by decide +kernel
theorem d_X8_moves_28 : decode cX8_moves 28 = .ok (.iload_n 1, 1) := by decide +kernel
theorem d_X8_moves_29 : decode cX8_moves 29 = .ok (.aload_n 0, 1) := by decide +kernel
theorem d_X8_moves_30 : decode cX8_moves 30 = .ok (.getfield 71, 3) := by decide +kernel
theorem d_X8_moves_33 : decode cX8_moves 33 = .ok (.iload_n 2, 1) := by decide +kernel
theorem d_X8_moves_34 : decode cX8_moves 34 = .ok (.iaload, 1) := by decide +kernel
theorem d_X8_moves_35 : decode cX8_moves 35 = .ok (.iastore, 1) := by decide +kernel
theorem d_X8_moves_36 : decode cX8_moves 36 = .ok (.aload_n 0, 1) := by decide +kernel
theorem d_X8_moves_37 : decode cX8_moves 37 = .ok (.getfield 68, 3) := by decide +kernel
theorem d_X8_moves_40 : decode cX8_moves 40 = .ok (.iload_n 1, 1) := by decide +kernel
theorem d_X8_moves_41 : decode cX8_moves 41 = .ok (.aload_n 0, 1) := by decide +kernel
theorem d_X8_moves_42 : decode cX8_moves 42 = .ok (.getfield 68, 3) := by decide +kernel
theorem d_X8_moves_45 : decode cX8_moves 45 = .ok (.iload_n 2, 1) := by decide +kernel
theorem d_X8_moves_46 : decode cX8_moves 46 = .ok (.iaload, 1) := by decide +kernel
theorem d_X8_moves_47 : decode cX8_moves 47 = .ok (.iastore, 1) := by decide +kernel
theorem d_X8_moves_48 : decode cX8_moves 48 = .ok (.iconst 0, 1) := by decide +kernel
theorem d_X8_moves_49 : decode cX8_moves 49 = .ok (.istore_n 3, 1) := by decide +kernel
theorem d_X8_moves_50 : decode cX8_moves 50 = .ok (.iload_n 3, 1) := by decide +kernel
theorem d_X8_moves_51 : decode cX8_moves 51 = .ok (.iconst 4, 1) := by decide +kernel
theorem d_X8_moves_52 : decode cX8_moves 52 = .ok (.if_icmp .ge 29, 3) := by decide +kernel
theorem d_X8_moves_81 : decode cX8_moves 81 = .ok (.return_, 1) := by decide +kernel
theorem d_X8_moves_55 : decode cX8_moves 55 = .ok (.aload_n 0, 1) := by decide +kernel
theorem d_X8_moves_56 : decode cX8_moves 56 = .ok (.getfield 77, 3) := by decide +kernel
theorem d_X8_moves_59 : decode cX8_moves 59 = .ok (.iconst 4, 1) := by decide +kernel
theorem d_X8_moves_60 : decode cX8_moves 60 = .ok (.iload_n 1, 1) := by decide +kernel
theorem d_X8_moves_61 : decode cX8_moves 61 = .ok (.imul, 1) := by decide +kernel
theorem d_X8_moves_62 : decode cX8_moves 62 = .ok (.iload_n 3, 1) := by decide +kernel
theorem d_X8_moves_63 : decode cX8_moves 63 = .ok (.iadd, 1) := by decide +kernel
theorem d_X8_moves_64 : decode cX8_moves 64 = .ok (.aload_n 0, 1) := by decide +kernel
theorem d_X8_moves_65 : decode cX8_moves 65 = .ok (.getfield 77, 3) := by decide +kernel
theorem d_X8_moves_68 : decode cX8_moves 68 = .ok (.iconst 4, 1) := by decide +kernel
theorem d_X8_moves_69 : decode cX8_moves 69 = .ok (.iload_n 2, 1) := by decide +kernel
theorem d_X8_moves_70 : decode cX8_moves 70 = .ok (.imul, 1) := by decide +kernel
theorem d_X8_moves_71 : decode cX8_moves 71 = .ok (.iload_n 3, 1) := by decide +kernel
theorem d_X8_moves_72 : decode cX8_moves 72 = .ok (.iadd, 1) := by decide +kernel
theorem d_X8_moves_73 : decode cX8_moves 73 = .ok (.iaload, 1) := by decide +kernel
theorem d_X8_moves_74 : decode cX8_moves 74 = .ok (.iastore, 1) := by decide +kernel
theorem d_X8_moves_75 : decode cX8_moves 75 = .ok (.iinc 3 1, 3) := by decide +kernel
theorem d_X8_moves_78 : decode cX8_moves 78 = .ok (.goto (-28), 3) := by decide +kernel
theorem d_X8_dropValue_113 : decode cX8_dropValue 113 = .ok (.iinc 5 1, 3) := by decide +kernel
theorem d_X8_dropValue_116 : decode cX8_dropValue 116 = .ok (.goto (-29), 3) := by decide +kernel
theorem d_X8_dropValue_119 : decode cX8_dropValue 119 = .ok (.aload_n 0, 1) := by decide +kernel
theorem d_X8_dropValue_120 : decode cX8_dropValue 120 = .ok (.aload_n 0, 1) := by decide +kernel
theorem d_X8_dropValue_121 : decode cX8_dropValue 121 = .ok (.getfield 59, 3) := by decide +kernel
theorem d_X8_dropValue_124 : decode cX8_dropValue 124 = .ok (.iload_n 1, 1) := by decide +kernel
theorem d_X8_dropValue_125 : decode cX8_dropValue 125 = .ok (.iaload, 1) := by decide +kernel
theorem d_X8_dropValue_126 : decode cX8_dropValue 126 = .ok (.invokevirtual 152, 3) := by decide +kernel
theorem d_X8_dropValue_129 : decode cX8_dropValue 129 = .ok (.aload_n 0, 1) := by decide +kernel
theorem d_X8_dropValue_130 : decode cX8_dropValue 130 = .ok (.getfield 56, 3) := by decide +kernel
theorem d_X8_dropValue_133 : decode cX8_dropValue 133 = .ok (.iload_n 1, 1) := by decide +kernel
theorem d_X8_dropValue_134 : decode cX8_dropValue 134 = .ok (.iaload, 1) := by decide +kernel
theorem d_X8_dropValue_135 : decode cX8_dropValue 135 = .ok (.ifCond .ne 20, 3) := by decide +kernel
theorem d_X8_dropValue_155 : decode cX8_dropValue 155 = .ok (.aload_n 0, 1) := by decide +kernel
theorem d_X8_dropValue_156 : decode cX8_dropValue 156 = .ok (.aload_n 0, 1) := by decide +kernel
theorem d_X8_dropValue_157 : decode cX8_dropValue 157 = .ok (.getfield 32, 3) := by decide +kernel
theorem d_X8_dropValue_160 : decode cX8_dropValue 160 = .ok (.iload_n 1, 1) := by decide +kernel
theorem d_X8_dropValue_161 : decode cX8_dropValue 161 = .ok (.iaload, 1) := by decide +kernel
theorem d_X8_dropValue_162 : decode cX8_dropValue 162 = .ok (.invokevirtual 152, 3) := by decide +kernel
theorem d_X8_dropValue_165 : decode cX8_dropValue 165 = .ok (.aload_n 0, 1) := by decide +kernel
theorem d_X8_dropValue_166 : decode cX8_dropValue 166 = .ok (.iload_n 1, 1) := by decide +kernel
theorem d_X8_dropValue_167 : decode cX8_dropValue 167 = .ok (.iconst 2, 1) := by decide +kernel
theorem d_X8_dropValue_168 : decode cX8_dropValue 168 = .ok (.invokevirtual 218, 3) := by decide +kernel
theorem d_X8_dropValue_171 : decode cX8_dropValue 171 = .ok (.aload_n 0, 1) := by decide +kernel
theorem d_X8_dropValue_172 : decode cX8_dropValue 172 = .ok (.getfield 156, 3) := by decide +kernel
theorem d_X8_dropValue_175 : decode cX8_dropValue 175 = .ok (.ireturn, 1) := by decide +kernel
theorem d_X8_dropValue_138 : decode cX8_dropValue 138 = .ok (.aload_n 0, 1) := by decide +kernel
theorem d_X8_dropValue_139 : decode cX8_dropValue 139 = .ok (.aload_n 0, 1) := by decide +kernel
theorem d_X8_dropValue_140 : decode cX8_dropValue 140 = .ok (.getfield 59, 3) := by decide +kernel
theorem d_X8_dropValue_143 : decode cX8_dropValue 143 = .ok (.iload_n 1, 1) := by decide +kernel
theorem d_X8_dropValue_144 : decode cX8_dropValue 144 = .ok (.iaload, 1) := by decide +kernel
theorem d_X8_dropValue_145 : decode cX8_dropValue 145 = .ok (.invokevirtual 182, 3) := by decide +kernel
theorem d_X8_dropValue_148 : decode cX8_dropValue 148 = .ok (.aload_n 0, 1) := by decide +kernel
theorem d_X8_dropValue_149 : decode cX8_dropValue 149 = .ok (.getfield 59, 3) := by decide +kernel
theorem d_X8_dropValue_152 : decode cX8_dropValue 152 = .ok (.iload_n 1, 1) := by decide +kernel
theorem d_X8_dropValue_153 : decode cX8_dropValue 153 = .ok (.iconst (-1), 1) := by decide +kernel
theorem d_X8_dropValue_154 : decode cX8_dropValue 154 = .ok (.iastore, 1) := by decide +kernel
theorem d_X8_dropValue_40 : decode cX8_dropValue 40 = .ok (.iconst 0, 1) := by decide +kernel
theorem d_X8_dropValue_41 : decode cX8_dropValue 41 = .ok (.ireturn, 1) := by decide +kernel
theorem d_X8_dropValue_33 : decode cX8_dropValue 33 = .ok (.iconst 1, 1) := by decide +kernel
theorem d_X8_dropValue_29 : decode cX8_dropValue 29 = .ok (.iconst 0, 1) := by decide +kernel
theorem d_X8_dropValue_30 : decode cX8_dropValue 30 = .ok (.goto 4, 3) := by decide +kernel
theorem d_X8_dropValue_22 : decode cX8_dropValue 22 = .ok (.iconst 0, 1) := by decide +kernel
theorem d_X8_dropValue_8 : decode cX8_dropValue 8 = .ok (.aload_n 0, 1) := by decide +kernel
theorem d_X8_dropValue_9 : decode cX8_dropValue 9 = .ok (.iload_n 1, 1) := by decide +kernel
theorem d_X8_dropValue_10 : decode cX8_dropValue 10 = .ok (.iload_n 2, 1) := by decide +kernel
theorem d_X8_dropValue_11 : decode cX8_dropValue 11 = .ok (.invokevirtual 246, 3) := by decide +kernel
theorem d_X8_dropValue_14 : decode cX8_dropValue 14 = .ok (.iconst (-1), 1) := by decide +kernel
theorem d_X8_dropValue_15 : decode cX8_dropValue 15 = .ok (.if_icmp .eq 7, 3) := by decide +kernel
theorem d_X8_dropValue_18 : decode cX8_dropValue 18 = .ok (.iconst 1, 1) := by decide +kernel
theorem d_X8_dropValue_19 : decode cX8_dropValue 19 = .ok (.goto 4, 3) := by decide +kernel
abbrev Y_X8_unit : YT := (cX8_unit, 6, (some .int), yX8_unit, [], 3)
theorem d_X8_unit_0 : decode cX8_unit 0 = .ok (.aload_n 0, 1) := by decide +kernel
theorem d_X8_unit_1 : decode cX8_unit 1 = .ok (.iload_n 1, 1) := by decide +kernel
theorem d_X8_unit_2 : decode cX8_unit 2 = .ok (.invokevirtual 191, 3) := by decide +kernel
theorem d_X8_unit_5 : decode cX8_unit 5 = .ok (.ifCond .eq 17, 3) := by decide +kernel
theorem d_X8_unit_23 : decode cX8_unit 23 = .ok (.istore 4, 2) := by decide +kernel
theorem d_X8_unit_25 : decode cX8_unit 25 = .ok (.iload 4, 2) := by decide +kernel
theorem d_X8_unit_27 : decode cX8_unit 27 = .ok (.ifCond .eq 12, 3) := by decide +kernel
theorem d_X8_unit_40 : decode cX8_unit 40 = .ok (.istore 5, 2) := by decide +kernel
theorem d_X8_unit_42 : decode cX8_unit 42 = .ok (.aload_n 0, 1) := by decide +kernel
theorem d_X8_unit_43 : decode cX8_unit 43 = .ok (.iload 4, 2) := by decide +kernel
theorem d_X8_unit_45 : decode cX8_unit 45 = .ok (.ifCond .eq 24, 3) := by decide +kernel
theorem d_X8_unit_70 : decode cX8_unit 70 = .ok (.invokevirtual 195, 3) := by decide +kernel
theorem d_X8_unit_73 : decode cX8_unit 73 = .ok (.ifCond .eq 5, 3) := by decide +kernel
theorem d_X8_unit_78 : decode cX8_unit 78 = .ok (.bipush 31, 2) := by decide +kernel
theorem d_X8_unit_80 : decode cX8_unit 80 = .ok (.aload_n 0, 1) := by decide +kernel
theorem d_X8_unit_81 : decode cX8_unit 81 = .ok (.getfield 68, 3) := by decide +kernel
theorem d_X8_unit_84 : decode cX8_unit 84 = .ok (.iload 5, 2) := by decide +kernel
theorem d_X8_unit_86 : decode cX8_unit 86 = .ok (.iaload, 1) := by decide +kernel
theorem d_X8_unit_87 : decode cX8_unit 87 = .ok (.imul, 1) := by decide +kernel
theorem d_X8_unit_88 : decode cX8_unit 88 = .ok (.bipush 17, 2) := by decide +kernel
theorem d_X8_unit_90 : decode cX8_unit 90 = .ok (.iload_n 3, 1) := by decide +kernel
theorem d_X8_unit_91 : decode cX8_unit 91 = .ok (.imul, 1) := by decide +kernel
theorem d_X8_unit_92 : decode cX8_unit 92 = .ok (.iadd, 1) := by decide +kernel
theorem d_X8_unit_93 : decode cX8_unit 93 = .ok (.ireturn, 1) := by decide +kernel
theorem d_X8_unit_76 : decode cX8_unit 76 = .ok (.iconst 0, 1) := by decide +kernel
theorem d_X8_unit_77 : decode cX8_unit 77 = .ok (.ireturn, 1) := by decide +kernel
theorem d_X8_unit_69 : decode cX8_unit 69 = .ok (.iconst 1, 1) := by decide +kernel
theorem d_X8_unit_48 : decode cX8_unit 48 = .ok (.iload_n 3, 1) := by decide +kernel
theorem d_X8_unit_49 : decode cX8_unit 49 = .ok (.iconst 0, 1) := by decide +kernel
theorem d_X8_unit_50 : decode cX8_unit 50 = .ok (.aload_n 0, 1) := by decide +kernel
theorem d_X8_unit_51 : decode cX8_unit 51 = .ok (.getfield 71, 3) := by decide +kernel
theorem d_X8_unit_54 : decode cX8_unit 54 = .ok (.iload 5, 2) := by decide +kernel
theorem d_X8_unit_56 : decode cX8_unit 56 = .ok (.iaload, 1) := by decide +kernel
theorem d_X8_unit_57 : decode cX8_unit 57 = .ok (.iconst 1, 1) := by decide +kernel
theorem d_X8_unit_58 : decode cX8_unit 58 = .ok (.isub, 1) := by decide +kernel
theorem d_X8_unit_59 : decode cX8_unit 59 = .ok (.invokestatic 124, 3) := by decide +kernel
theorem d_X8_unit_62 : decode cX8_unit 62 = .ok (.ifCond .eq 7, 3) := by decide +kernel
theorem d_X8_unit_65 : decode cX8_unit 65 = .ok (.iconst 0, 1) := by decide +kernel
theorem d_X8_unit_66 : decode cX8_unit 66 = .ok (.goto 4, 3) := by decide +kernel
theorem d_X8_unit_39 : decode cX8_unit 39 = .ok (.iconst 0, 1) := by decide +kernel
theorem d_X8_unit_30 : decode cX8_unit 30 = .ok (.aload_n 0, 1) := by decide +kernel
theorem d_X8_unit_31 : decode cX8_unit 31 = .ok (.iload_n 1, 1) := by decide +kernel
theorem d_X8_unit_32 : decode cX8_unit 32 = .ok (.iload_n 2, 1) := by decide +kernel
theorem d_X8_unit_33 : decode cX8_unit 33 = .ok (.invokevirtual 246, 3) := by decide +kernel
theorem d_X8_unit_36 : decode cX8_unit 36 = .ok (.goto 4, 3) := by decide +kernel
theorem d_X8_unit_22 : decode cX8_unit 22 = .ok (.iconst 0, 1) := by decide +kernel
theorem d_X8_unit_8 : decode cX8_unit 8 = .ok (.aload_n 0, 1) := by decide +kernel
theorem d_X8_unit_9 : decode cX8_unit 9 = .ok (.iload_n 1, 1) := by decide +kernel
theorem d_X8_unit_10 : decode cX8_unit 10 = .ok (.iload_n 2, 1) := by decide +kernel
theorem d_X8_unit_11 : decode cX8_unit 11 = .ok (.invokevirtual 246, 3) := by decide +kernel
theorem d_X8_unit_14 : decode cX8_unit 14 = .ok (.iconst (-1), 1) := by decide +kernel
theorem d_X8_unit_15 : decode cX8_unit 15 = .ok (.if_icmp .eq 7, 3) := by decide +kernel
theorem d_X8_unit_18 : decode cX8_unit 18 = .ok (.iconst 1, 1) := by decide +kernel
theorem d_X8_unit_19 : decode cX8_unit 19 = .ok (.goto 4, 3) := by decide +kernel
abbrev Y_X8_setRights : YT := (cX8_setRights, 5, (some .int), yX8_setRights, [], 6)
theorem d_X8_setRights_0 : decode cX8_setRights 0 = .ok (.aload_n 0, 1) := by decide +kernel
theorem d_X8_setRights_1 : decode cX8_setRights 1 = .ok (.iload_n 1, 1) := by decide +kernel
theorem d_X8_setRights_2 : decode cX8_setRights 2 = .ok (.invokevirtual 191, 3) := by decide +kernel
theorem d_X8_setRights_5 : decode cX8_setRights 5 = .ok (.istore_n 3, 1) := by decide +kernel
theorem d_X8_setRights_6 : decode cX8_setRights 6 = .ok (.aload_n 0, 1) := by decide +kernel
theorem d_X8_setRights_7 : decode cX8_setRights 7 = .ok (.iload_n 3, 1) := by decide +kernel
theorem d_X8_setRights_8 : decode cX8_setRights 8 = .ok (.ifCond .ne 7, 3) := by decide +kernel
theorem d_X8_setRights_43 : decode cX8_setRights 43 = .ok (.invokevirtual 195, 3) := by decide +kernel
theorem d_X8_setRights_46 : decode cX8_setRights 46 = .ok (.ifCond .eq 5, 3) := by decide +kernel
theorem d_X8_setRights_51 : decode cX8_setRights 51 = .ok (.aload_n 0, 1) := by decide +kernel
theorem d_X8_setRights_52 : decode cX8_setRights 52 = .ok (.getfield 35, 3) := by decide +kernel
theorem d_X8_setRights_55 : decode cX8_setRights 55 = .ok (.iload_n 1, 1) := by decide +kernel
theorem d_X8_setRights_56 : decode cX8_setRights 56 = .ok (.iaload, 1) := by decide +kernel
theorem d_X8_setRights_57 : decode cX8_setRights 57 = .ok (.istore 4, 2) := by decide +kernel
theorem d_X8_setRights_59 : decode cX8_setRights 59 = .ok (.iload 4, 2) := by decide +kernel
theorem d_X8_setRights_61 : decode cX8_setRights 61 = .ok (.iload_n 2, 1) := by decide +kernel
theorem d_X8_setRights_62 : decode cX8_setRights 62 = .ok (.if_icmp .eq 75, 3) := by decide +kernel
theorem d_X8_setRights_137 : decode cX8_setRights 137 = .ok (.iload 4, 2) := by decide +kernel
theorem d_X8_setRights_139 : decode cX8_setRights 139 = .ok (.ireturn, 1) := by decide +kernel
theorem d_X8_setRights_65 : decode cX8_setRights 65 = .ok (.aload_n 0, 1) := by decide +kernel
theorem d_X8_setRights_66 : decode cX8_setRights 66 = .ok (.invokevirtual 211, 3) := by decide +kernel
theorem d_X8_setRights_69 : decode cX8_setRights 69 = .ok (.aload_n 0, 1) := by decide +kernel
theorem d_X8_setRights_70 : decode cX8_setRights 70 = .ok (.getfield 146, 3) := by decide +kernel
theorem d_X8_setRights_73 : decode cX8_setRights 73 = .ok (.ifCond .le 15, 3) := by decide +kernel
theorem d_X8_setRights_88 : decode cX8_setRights 88 = .ok (.aload_n 0, 1) := by decide +kernel
theorem d_X8_setRights_89 : decode cX8_setRights 89 = .ok (.getfield 83, 3) := by decide +kernel
theorem d_X8_setRights_92 : decode cX8_setRights 92 = .ok (.iload_n 2, 1) := by decide +kernel
theorem d_X8_setRights_93 : decode cX8_setRights 93 = .ok (.dup2, 1) := by decide +kernel
theorem d_X8_setRights_94 : decode cX8_setRights 94 = .ok (.iaload, 1) := by decide +kernel
theorem d_X8_setRights_95 : decode cX8_setRights 95 = .ok (.iconst 1, 1) := by decide +kernel
theorem d_X8_setRights_96 : decode cX8_setRights 96 = .ok (.iadd, 1) := by decide +kernel
theorem d_X8_setRights_97 : decode cX8_setRights 97 = .ok (.iastore, 1) := by decide +kernel
theorem d_X8_setRights_98 : decode cX8_setRights 98 = .ok (.aload_n 0, 1) := by decide +kernel
theorem d_X8_setRights_99 : decode cX8_setRights 99 = .ok (.aload_n 0, 1) := by decide +kernel
theorem d_X8_setRights_100 : decode cX8_setRights 100 = .ok (.getfield 80, 3) := by decide +kernel
theorem d_X8_setRights_103 : decode cX8_setRights 103 = .ok (.iload_n 2, 1) := by decide +kernel
theorem d_X8_setRights_104 : decode cX8_setRights 104 = .ok (.iaload, 1) := by decide +kernel
theorem d_X8_setRights_105 : decode cX8_setRights 105 = .ok (.invokevirtual 152, 3) := by decide +kernel
theorem d_X8_setRights_108 : decode cX8_setRights 108 = .ok (.aload_n 0, 1) := by decide +kernel
theorem d_X8_setRights_109 : decode cX8_setRights 109 = .ok (.iload 4, 2) := by decide +kernel
theorem d_X8_setRights_111 : decode cX8_setRights 111 = .ok (.invokevirtual 243, 3) := by decide +kernel
theorem d_X8_setRights_114 : decode cX8_setRights 114 = .ok (.aload_n 0, 1) := by decide +kernel
theorem d_X8_setRights_115 : decode cX8_setRights 115 = .ok (.getfield 35, 3) := by decide +kernel
theorem d_X8_setRights_118 : decode cX8_setRights 118 = .ok (.iload_n 1, 1) := by decide +kernel
theorem d_X8_setRights_119 : decode cX8_setRights 119 = .ok (.iload_n 2, 1) := by decide +kernel
theorem d_X8_setRights_120 : decode cX8_setRights 120 = .ok (.iastore, 1) := by decide +kernel
theorem d_X8_setRights_121 : decode cX8_setRights 121 = .ok (.aload_n 0, 1) := by decide +kernel
theorem d_X8_setRights_122 : decode cX8_setRights 122 = .ok (.aload_n 0, 1) := by decide +kernel
theorem d_X8_setRights_123 : decode cX8_setRights 123 = .ok (.getfield 32, 3) := by decide +kernel
theorem d_X8_setRights_126 : decode cX8_setRights 126 = .ok (.iload_n 1, 1) := by decide +kernel
theorem d_X8_setRights_127 : decode cX8_setRights 127 = .ok (.iaload, 1) := by decide +kernel
theorem d_X8_setRights_128 : decode cX8_setRights 128 = .ok (.invokevirtual 152, 3) := by decide +kernel
theorem d_X8_setRights_131 : decode cX8_setRights 131 = .ok (.aload_n 0, 1) := by decide +kernel
theorem d_X8_setRights_132 : decode cX8_setRights 132 = .ok (.iload_n 1, 1) := by decide +kernel
theorem d_X8_setRights_133 : decode cX8_setRights 133 = .ok (.iconst 4, 1) := by decide +kernel
theorem d_X8_setRights_134 : decode cX8_setRights 134 = .ok (.invokevirtual 218, 3) := by decide +kernel
theorem d_X8_setRights_76 : decode cX8_setRights 76 = .ok (.aload_n 0, 1) := by decide +kernel
theorem d_X8_setRights_77 : decode cX8_setRights 77 = .ok (.getfield 80, 3) := by decide +kernel
theorem d_X8_setRights_80 : decode cX8_setRights 80 = .ok (.iload_n 2, 1) := by decide +kernel
theorem d_X8_setRights_81 : decode cX8_setRights 81 = .ok (.aload_n 0, 1) := by decide +kernel
theorem d_X8_setRights_82 : decode cX8_setRights 82 = .ok (.getfield 110, 3) := by decide +kernel
theorem d_X8_setRights_85 : decode cX8_setRights 85 = .ok (.iconst 0, 1) := by decide +kernel
theorem d_X8_setRights_86 : decode cX8_setRights 86 = .ok (.iaload, 1) := by decide +kernel
theorem d_X8_setRights_87 : decode cX8_setRights 87 = .ok (.iastore, 1) := by decide +kernel
theorem d_X8_setRights_49 : decode cX8_setRights 49 = .ok (.iconst 0, 1) := by decide +kernel
theorem d_X8_setRights_50 : decode cX8_setRights 50 = .ok (.ireturn, 1) := by decide +kernel
theorem d_X8_setRights_15 : decode cX8_setRights 15 = .ok (.iload_n 2, 1) := by decide +kernel
theorem d_X8_setRights_16 : decode cX8_setRights 16 = .ok (.iconst 0, 1) := by decide +kernel
theorem d_X8_setRights_17 : decode cX8_setRights 17 = .ok (.sipush 255, 3) := by decide +kernel
theorem d_X8_setRights_20 : decode cX8_setRights 20 = .ok (.invokestatic 124, 3) := by decide +kernel
theorem d_X8_setRights_23 : decode cX8_setRights 23 = .ok (.ifCond .ne 7, 3) := by decide +kernel
theorem d_X8_setRights_30 : decode cX8_setRights 30 = .ok (.aload_n 0, 1) := by decide +kernel
theorem d_X8_setRights_31 : decode cX8_setRights 31 = .ok (.iload_n 2, 1) := by decide +kernel
theorem d_X8_setRights_32 : decode cX8_setRights 32 = .ok (.invokevirtual 267, 3) := by decide +kernel
abbrev Y_X8_cannotHave : YT := (cX8_cannotHave, 2, (some .boolean), yX8_cannotHave, [], 5)
theorem mk_X8_cannotHave : MK Y_X8_cannotHave 1 := ⟨KW.at (i := 85) (by decide +kernel) rfl, KW.at (i := 1434) (by decide +kernel) rfl, ⟨by decide +kernel, by decide +kernel⟩, by decide +kernel, by decide +kernel, rfl, by decide⟩
theorem vm_X8_cannotHave : KW (.instanceMethod (yN Y_X8_cannotHave)) ∧ KW (.selects (yN Y_X8_cannotHave).cls (yN Y_X8_cannotHave) (yN Y_X8_cannotHave)) := ⟨KW.at (i := 1433) (by decide +kernel) rfl, KW.at (i := 70) (by decide +kernel) rfl⟩
theorem ck_RX8_267 : CKV RX8 267 Y_X8_cannotHave 1 := ⟨KW.at (i := 1431) (by decide +kernel) rfl, vm_X8_cannotHave.1, vm_X8_cannotHave.2, mk_X8_cannotHave⟩
theorem d_X8_cannotHave_0 : decode cX8_cannotHave 0 = .ok (.aload_n 0, 1) := by decide +kernel
theorem d_X8_cannotHave_1 : decode cX8_cannotHave 1 = .ok (.iconst 0, 1) := by decide +kernel
theorem d_X8_cannotHave_2 : decode cX8_cannotHave 2 = .ok (.putfield 146, 3) := by decide +kernel
theorem d_X8_cannotHave_5 : decode cX8_cannotHave 5 = .ok (.aload_n 0, 1) := by decide +kernel
theorem d_X8_cannotHave_6 : decode cX8_cannotHave 6 = .ok (.getfield 83, 3) := by decide +kernel
theorem d_X8_cannotHave_9 : decode cX8_cannotHave 9 = .ok (.iload_n 1, 1) := by decide +kernel
theorem d_X8_cannotHave_10 : decode cX8_cannotHave 10 = .ok (.iaload, 1) := by decide +kernel
theorem d_X8_cannotHave_11 : decode cX8_cannotHave 11 = .ok (.ifCond .ne 8, 3) := by decide +kernel
theorem d_X8_cannotHave_19 : decode cX8_cannotHave 19 = .ok (.aload_n 0, 1) := by decide +kernel
theorem d_X8_cannotHave_20 : decode cX8_cannotHave 20 = .ok (.invokevirtual 207, 3) := by decide +kernel
theorem d_X8_cannotHave_23 : decode cX8_cannotHave 23 = .ok (.ifCond .ne 7, 3) := by decide +kernel
theorem d_X8_cannotHave_30 : decode cX8_cannotHave 30 = .ok (.iconst 0, 1) := by decide +kernel
theorem d_X8_cannotHave_31 : decode cX8_cannotHave 31 = .ok (.ireturn, 1) := by decide +kernel
theorem d_X8_cannotHave_26 : decode cX8_cannotHave 26 = .ok (.iconst 1, 1) := by decide +kernel
theorem d_X8_cannotHave_27 : decode cX8_cannotHave 27 = .ok (.goto 4, 3) := by decide +kernel
theorem d_X8_cannotHave_14 : decode cX8_cannotHave 14 = .ok (.aload_n 0, 1) := by decide +kernel
theorem d_X8_cannotHave_15 : decode cX8_cannotHave 15 = .ok (.iconst 2, 1) := by decide +kernel
theorem d_X8_cannotHave_16 : decode cX8_cannotHave 16 = .ok (.invokevirtual 176, 3) := by decide +kernel
theorem d_X8_setRights_35 : decode cX8_setRights 35 = .ok (.ifCond .eq 7, 3) := by decide +kernel
theorem d_X8_setRights_42 : decode cX8_setRights 42 = .ok (.iconst 0, 1) := by decide +kernel
theorem d_X8_setRights_38 : decode cX8_setRights 38 = .ok (.iconst 3, 1) := by decide +kernel
theorem d_X8_setRights_39 : decode cX8_setRights 39 = .ok (.goto 4, 3) := by decide +kernel
theorem d_X8_setRights_26 : decode cX8_setRights 26 = .ok (.iconst 2, 1) := by decide +kernel
theorem d_X8_setRights_27 : decode cX8_setRights 27 = .ok (.goto 16, 3) := by decide +kernel
theorem d_X8_setRights_11 : decode cX8_setRights 11 = .ok (.iconst 1, 1) := by decide +kernel
theorem d_X8_setRights_12 : decode cX8_setRights 12 = .ok (.goto 31, 3) := by decide +kernel
abbrev Y_X8_sharers : YT := (cX8_sharers, 2, (some .int), yX8_sharers, [], 2)
theorem d_X8_sharers_0 : decode cX8_sharers 0 = .ok (.aload_n 0, 1) := by decide +kernel
theorem d_X8_sharers_1 : decode cX8_sharers 1 = .ok (.iload_n 1, 1) := by decide +kernel
theorem d_X8_sharers_2 : decode cX8_sharers 2 = .ok (.iconst 0, 1) := by decide +kernel
theorem d_X8_sharers_3 : decode cX8_sharers 3 = .ok (.sipush 255, 3) := by decide +kernel
theorem d_X8_sharers_6 : decode cX8_sharers 6 = .ok (.invokestatic 124, 3) := by decide +kernel
theorem d_X8_sharers_9 : decode cX8_sharers 9 = .ok (.ifCond .eq 7, 3) := by decide +kernel
theorem d_X8_sharers_17 : decode cX8_sharers 17 = .ok (.invokevirtual 195, 3) := by decide +kernel
theorem d_X8_sharers_20 : decode cX8_sharers 20 = .ok (.ifCond .eq 7, 3) := by decide +kernel
theorem d_X8_sharers_27 : decode cX8_sharers 27 = .ok (.aload_n 0, 1) := by decide +kernel
theorem d_X8_sharers_28 : decode cX8_sharers 28 = .ok (.getfield 83, 3) := by decide +kernel
theorem d_X8_sharers_31 : decode cX8_sharers 31 = .ok (.iload_n 1, 1) := by decide +kernel
theorem d_X8_sharers_32 : decode cX8_sharers 32 = .ok (.iaload, 1) := by decide +kernel
theorem d_X8_sharers_33 : decode cX8_sharers 33 = .ok (.ireturn, 1) := by decide +kernel
theorem d_X8_sharers_23 : decode cX8_sharers 23 = .ok (.iconst 0, 1) := by decide +kernel
theorem d_X8_sharers_24 : decode cX8_sharers 24 = .ok (.goto 9, 3) := by decide +kernel
theorem d_X8_sharers_16 : decode cX8_sharers 16 = .ok (.iconst 1, 1) := by decide +kernel
theorem d_X8_sharers_12 : decode cX8_sharers 12 = .ok (.iconst 0, 1) := by decide +kernel
theorem d_X8_sharers_13 : decode cX8_sharers 13 = .ok (.goto 4, 3) := by decide +kernel
abbrev Y_X8_sectors : YT := (cX8_sectors, 1, (some .int), yX8_sectors, [], 1)
theorem d_X8_sectors_0 : decode cX8_sectors 0 = .ok (.aload_n 0, 1) := by decide +kernel
theorem d_X8_sectors_1 : decode cX8_sectors 1 = .ok (.iconst 0, 1) := by decide +kernel
theorem d_X8_sectors_2 : decode cX8_sectors 2 = .ok (.putfield 120, 3) := by decide +kernel
theorem d_X8_sectors_5 : decode cX8_sectors 5 = .ok (.aload_n 0, 1) := by decide +kernel
theorem d_X8_sectors_6 : decode cX8_sectors 6 = .ok (.getfield 13, 3) := by decide +kernel
theorem d_X8_sectors_9 : decode cX8_sectors 9 = .ok (.iconst 0, 1) := by decide +kernel
theorem d_X8_sectors_10 : decode cX8_sectors 10 = .ok (.iaload, 1) := by decide +kernel
theorem d_X8_sectors_11 : decode cX8_sectors 11 = .ok (.ireturn, 1) := by decide +kernel
abbrev Y_X8_cell : YT := (cX8_cell, 2, (some .int), yX8_cell, [], 2)
theorem d_X8_cell_0 : decode cX8_cell 0 = .ok (.aload_n 0, 1) := by decide +kernel
theorem d_X8_cell_1 : decode cX8_cell 1 = .ok (.iload_n 1, 1) := by decide +kernel
theorem d_X8_cell_2 : decode cX8_cell 2 = .ok (.iconst 0, 1) := by decide +kernel
theorem d_X8_cell_3 : decode cX8_cell 3 = .ok (.aload_n 0, 1) := by decide +kernel
theorem d_X8_cell_4 : decode cX8_cell 4 = .ok (.invokevirtual 132, 3) := by decide +kernel
theorem d_X8_cell_7 : decode cX8_cell 7 = .ok (.iconst 1, 1) := by decide +kernel
theorem d_X8_cell_8 : decode cX8_cell 8 = .ok (.isub, 1) := by decide +kernel
theorem d_X8_cell_9 : decode cX8_cell 9 = .ok (.invokestatic 124, 3) := by decide +kernel
theorem d_X8_cell_12 : decode cX8_cell 12 = .ok (.ifCond .eq 7, 3) := by decide +kernel
theorem d_X8_cell_20 : decode cX8_cell 20 = .ok (.invokevirtual 195, 3) := by decide +kernel
theorem d_X8_cell_23 : decode cX8_cell 23 = .ok (.ifCond .eq 7, 3) := by decide +kernel
theorem d_X8_cell_30 : decode cX8_cell 30 = .ok (.aload_n 0, 1) := by decide +kernel
theorem d_X8_cell_31 : decode cX8_cell 31 = .ok (.getfield 7, 3) := by decide +kernel
theorem d_X8_cell_34 : decode cX8_cell 34 = .ok (.iload_n 1, 1) := by decide +kernel
theorem d_X8_cell_35 : decode cX8_cell 35 = .ok (.iaload, 1) := by decide +kernel
theorem d_X8_cell_36 : decode cX8_cell 36 = .ok (.ireturn, 1) := by decide +kernel
theorem d_X8_cell_26 : decode cX8_cell 26 = .ok (.iconst 0, 1) := by decide +kernel
theorem d_X8_cell_27 : decode cX8_cell 27 = .ok (.goto 9, 3) := by decide +kernel
theorem d_X8_cell_19 : decode cX8_cell 19 = .ok (.iconst 1, 1) := by decide +kernel
theorem d_X8_cell_15 : decode cX8_cell 15 = .ok (.iconst 0, 1) := by decide +kernel
theorem d_X8_cell_16 : decode cX8_cell 16 = .ok (.goto 4, 3) := by decide +kernel
abbrev Y_X8_place : YT := (cX8_place, 2, (some .int), yX8_place, [], 3)
theorem d_X8_place_0 : decode cX8_place 0 = .ok (.aload_n 0, 1) := by decide +kernel
theorem d_X8_place_1 : decode cX8_place 1 = .ok (.aload_n 0, 1) := by decide +kernel
theorem d_X8_place_2 : decode cX8_place 2 = .ok (.iload_n 1, 1) := by decide +kernel
theorem d_X8_place_3 : decode cX8_place 3 = .ok (.invokevirtual 191, 3) := by decide +kernel
theorem d_X8_place_6 : decode cX8_place 6 = .ok (.ifCond .eq 7, 3) := by decide +kernel
theorem d_X8_place_14 : decode cX8_place 14 = .ok (.invokevirtual 195, 3) := by decide +kernel
theorem d_X8_place_17 : decode cX8_place 17 = .ok (.ifCond .eq 7, 3) := by decide +kernel
theorem d_X8_place_24 : decode cX8_place 24 = .ok (.aload_n 0, 1) := by decide +kernel
theorem d_X8_place_25 : decode cX8_place 25 = .ok (.getfield 32, 3) := by decide +kernel
theorem d_X8_place_28 : decode cX8_place 28 = .ok (.iload_n 1, 1) := by decide +kernel
theorem d_X8_place_29 : decode cX8_place 29 = .ok (.iaload, 1) := by decide +kernel
theorem d_X8_place_30 : decode cX8_place 30 = .ok (.ireturn, 1) := by decide +kernel
theorem d_X8_place_20 : decode cX8_place 20 = .ok (.iconst 0, 1) := by decide +kernel
theorem d_X8_place_21 : decode cX8_place 21 = .ok (.goto 9, 3) := by decide +kernel
theorem d_X8_place_13 : decode cX8_place 13 = .ok (.iconst 1, 1) := by decide +kernel
theorem d_X8_place_9 : decode cX8_place 9 = .ok (.iconst 0, 1) := by decide +kernel
theorem d_X8_place_10 : decode cX8_place 10 = .ok (.goto 4, 3) := by decide +kernel
abbrev Y_X8_used : YT := (cX8_used, 3, (some .int), yX8_used, [], 2)
theorem d_X8_used_0 : decode cX8_used 0 = .ok (.aload_n 0, 1) := by decide +kernel
theorem d_X8_used_1 : decode cX8_used 1 = .ok (.iconst 0, 1) := by decide +kernel
theorem d_X8_used_2 : decode cX8_used 2 = .ok (.putfield 120, 3) := by decide +kernel
theorem d_X8_used_5 : decode cX8_used 5 = .ok (.iconst 0, 1) := by decide +kernel
theorem d_X8_used_6 : decode cX8_used 6 = .ok (.istore_n 1, 1) := by decide +kernel
theorem d_X8_used_7 : decode cX8_used 7 = .ok (.iconst 0, 1) := by decide +kernel
theorem d_X8_used_8 : decode cX8_used 8 = .ok (.istore_n 2, 1) := by decide +kernel
theorem d_X8_used_9 : decode cX8_used 9 = .ok (.iload_n 2, 1) := by decide +kernel
theorem d_X8_used_10 : decode cX8_used 10 = .ok (.aload_n 0, 1) := by decide +kernel
theorem d_X8_used_11 : decode cX8_used 11 = .ok (.invokevirtual 132, 3) := by decide +kernel
theorem d_X8_used_14 : decode cX8_used 14 = .ok (.if_icmp .ge 31, 3) := by decide +kernel
theorem d_X8_used_45 : decode cX8_used 45 = .ok (.iload_n 1, 1) := by decide +kernel
theorem d_X8_used_46 : decode cX8_used 46 = .ok (.ireturn, 1) := by decide +kernel
theorem d_X8_used_17 : decode cX8_used 17 = .ok (.iload_n 1, 1) := by decide +kernel
theorem d_X8_used_18 : decode cX8_used 18 = .ok (.aload_n 0, 1) := by decide +kernel
theorem d_X8_used_19 : decode cX8_used 19 = .ok (.getfield 7, 3) := by decide +kernel
theorem d_X8_used_22 : decode cX8_used 22 = .ok (.iload_n 2, 1) := by decide +kernel
theorem d_X8_used_23 : decode cX8_used 23 = .ok (.iaload, 1) := by decide +kernel
theorem d_X8_used_24 : decode cX8_used 24 = .ok (.ifCond .le 12, 3) := by decide +kernel
theorem d_X8_used_37 : decode cX8_used 37 = .ok (.iadd, 1) := by decide +kernel
theorem d_X8_used_38 : decode cX8_used 38 = .ok (.istore_n 1, 1) := by decide +kernel
theorem d_X8_used_39 : decode cX8_used 39 = .ok (.iinc 2 1, 3) := by decide +kernel
theorem d_X8_used_42 : decode cX8_used 42 = .ok (.goto (-33), 3) := by decide +kernel
theorem d_X8_used_36 : decode cX8_used 36 = .ok (.iconst 0, 1) := by decide +kernel
theorem d_X8_used_27 : decode cX8_used 27 = .ok (.aload_n 0, 1) := by decide +kernel
theorem d_X8_used_28 : decode cX8_used 28 = .ok (.getfield 7, 3) := by decide +kernel
theorem d_X8_used_31 : decode cX8_used 31 = .ok (.iload_n 2, 1) := by decide +kernel
theorem d_X8_used_32 : decode cX8_used 32 = .ok (.iaload, 1) := by decide +kernel
theorem d_X8_used_33 : decode cX8_used 33 = .ok (.goto 4, 3) := by decide +kernel
abbrev Y_X8_usedByTree : YT := (cX8_usedByTree, 4, (some .int), yX8_usedByTree, [], 2)
theorem d_X8_usedByTree_0 : decode cX8_usedByTree 0 = .ok (.aload_n 0, 1) := by decide +kernel
theorem d_X8_usedByTree_1 : decode cX8_usedByTree 1 = .ok (.iconst 0, 1) := by decide +kernel
theorem d_X8_usedByTree_2 : decode cX8_usedByTree 2 = .ok (.putfield 120, 3) := by decide +kernel
theorem d_X8_usedByTree_5 : decode cX8_usedByTree 5 = .ok (.iconst 0, 1) := by decide +kernel
theorem d_X8_usedByTree_6 : decode cX8_usedByTree 6 = .ok (.istore_n 1, 1) := by decide +kernel
theorem d_X8_usedByTree_7 : decode cX8_usedByTree 7 = .ok (.iconst 0, 1) := by decide +kernel
theorem d_X8_usedByTree_8 : decode cX8_usedByTree 8 = .ok (.istore_n 2, 1) := by decide +kernel
theorem d_X8_usedByTree_9 : decode cX8_usedByTree 9 = .ok (.iload_n 2, 1) := by decide +kernel
theorem d_X8_usedByTree_10 : decode cX8_usedByTree 10 = .ok (.sipush 256, 3) := by decide +kernel
theorem d_X8_usedByTree_13 : decode cX8_usedByTree 13 = .ok (.if_icmp .ge 26, 3) := by decide +kernel
theorem d_X8_usedByTree_16 : decode cX8_usedByTree 16 = .ok (.iload_n 1, 1) := by decide +kernel
theorem d_X8_usedByTree_17 : decode cX8_usedByTree 17 = .ok (.aload_n 0, 1) := by decide +kernel
theorem d_X8_usedByTree_18 : decode cX8_usedByTree 18 = .ok (.getfield 83, 3) := by decide +kernel
theorem d_X8_usedByTree_21 : decode cX8_usedByTree 21 = .ok (.iload_n 2, 1) := by decide +kernel
theorem d_X8_usedByTree_22 : decode cX8_usedByTree 22 = .ok (.iaload, 1) := by decide +kernel
theorem d_X8_usedByTree_23 : decode cX8_usedByTree 23 = .ok (.ifCond .le 7, 3) := by decide +kernel
theorem d_X8_usedByTree_31 : decode cX8_usedByTree 31 = .ok (.iadd, 1) := by decide +kernel
theorem d_X8_usedByTree_32 : decode cX8_usedByTree 32 = .ok (.istore_n 1, 1) := by decide +kernel
theorem d_X8_usedByTree_33 : decode cX8_usedByTree 33 = .ok (.iinc 2 1, 3) := by decide +kernel
theorem d_X8_usedByTree_36 : decode cX8_usedByTree 36 = .ok (.goto (-27), 3) := by decide +kernel
theorem d_X8_usedByTree_30 : decode cX8_usedByTree 30 = .ok (.iconst 0, 1) := by decide +kernel
theorem d_X8_usedByTree_26 : decode cX8_usedByTree 26 = .ok (.iconst 2, 1) := by decide +kernel
theorem d_X8_usedByTree_27 : decode cX8_usedByTree 27 = .ok (.goto 4, 3) := by decide +kernel
theorem d_X8_usedByTree_39 : decode cX8_usedByTree 39 = .ok (.iconst 0, 1) := by decide +kernel
theorem d_X8_usedByTree_40 : decode cX8_usedByTree 40 = .ok (.istore_n 2, 1) := by decide +kernel
theorem d_X8_usedByTree_41 : decode cX8_usedByTree 41 = .ok (.iload_n 2, 1) := by decide +kernel
theorem d_X8_usedByTree_42 : decode cX8_usedByTree 42 = .ok (.bipush 80, 2) := by decide +kernel
theorem d_X8_usedByTree_44 : decode cX8_usedByTree 44 = .ok (.if_icmp .ge 132, 3) := by decide +kernel
theorem d_X8_usedByTree_176 : decode cX8_usedByTree 176 = .ok (.iload_n 1, 1) := by decide +kernel
theorem d_X8_usedByTree_177 : decode cX8_usedByTree 177 = .ok (.ireturn, 1) := by decide +kernel
theorem d_X8_usedByTree_47 : decode cX8_usedByTree 47 = .ok (.aload_n 0, 1) := by decide +kernel
theorem d_X8_usedByTree_48 : decode cX8_usedByTree 48 = .ok (.getfield 19, 3) := by decide +kernel
theorem d_X8_usedByTree_51 : decode cX8_usedByTree 51 = .ok (.iload_n 2, 1) := by decide +kernel
theorem d_X8_usedByTree_52 : decode cX8_usedByTree 52 = .ok (.baload, 1) := by decide +kernel
theorem d_X8_usedByTree_53 : decode cX8_usedByTree 53 = .ok (.ifCond .eq 117, 3) := by decide +kernel
theorem d_X8_usedByTree_170 : decode cX8_usedByTree 170 = .ok (.iinc 2 1, 3) := by decide +kernel
theorem d_X8_usedByTree_173 : decode cX8_usedByTree 173 = .ok (.goto (-132), 3) := by decide +kernel
theorem d_X8_usedByTree_56 : decode cX8_usedByTree 56 = .ok (.iload_n 1, 1) := by decide +kernel
theorem d_X8_usedByTree_57 : decode cX8_usedByTree 57 = .ok (.bipush 6, 2) := by decide +kernel
theorem d_X8_usedByTree_59 : decode cX8_usedByTree 59 = .ok (.iconst 5, 1) := by decide +kernel
theorem d_X8_usedByTree_60 : decode cX8_usedByTree 60 = .ok (.aload_n 0, 1) := by decide +kernel
theorem d_X8_usedByTree_61 : decode cX8_usedByTree 61 = .ok (.getfield 38, 3) := by decide +kernel
theorem d_X8_usedByTree_64 : decode cX8_usedByTree 64 = .ok (.iload_n 2, 1) := by decide +kernel
theorem d_X8_usedByTree_65 : decode cX8_usedByTree 65 = .ok (.iaload, 1) := by decide +kernel
theorem d_X8_usedByTree_66 : decode cX8_usedByTree 66 = .ok (.imul, 1) := by decide +kernel
theorem d_X8_usedByTree_67 : decode cX8_usedByTree 67 = .ok (.iadd, 1) := by decide +kernel
theorem d_X8_usedByTree_68 : decode cX8_usedByTree 68 = .ok (.aload_n 0, 1) := by decide +kernel
theorem d_X8_usedByTree_69 : decode cX8_usedByTree 69 = .ok (.getfield 38, 3) := by decide +kernel
theorem d_X8_usedByTree_72 : decode cX8_usedByTree 72 = .ok (.iload_n 2, 1) := by decide +kernel
theorem d_X8_usedByTree_73 : decode cX8_usedByTree 73 = .ok (.iaload, 1) := by decide +kernel
theorem d_X8_usedByTree_74 : decode cX8_usedByTree 74 = .ok (.iconst 1, 1) := by decide +kernel
theorem d_X8_usedByTree_75 : decode cX8_usedByTree 75 = .ok (.if_icmp .le 8, 3) := by decide +kernel
theorem d_X8_usedByTree_84 : decode cX8_usedByTree 84 = .ok (.iadd, 1) := by decide +kernel
theorem d_X8_usedByTree_85 : decode cX8_usedByTree 85 = .ok (.aload_n 0, 1) := by decide +kernel
theorem d_X8_usedByTree_86 : decode cX8_usedByTree 86 = .ok (.getfield 56, 3) := by decide +kernel
theorem d_X8_usedByTree_89 : decode cX8_usedByTree 89 = .ok (.iload_n 2, 1) := by decide +kernel
theorem d_X8_usedByTree_90 : decode cX8_usedByTree 90 = .ok (.iaload, 1) := by decide +kernel
theorem d_X8_usedByTree_91 : decode cX8_usedByTree 91 = .ok (.ifCond .le 12, 3) := by decide +kernel
theorem d_X8_usedByTree_104 : decode cX8_usedByTree 104 = .ok (.iadd, 1) := by decide +kernel
theorem d_X8_usedByTree_105 : decode cX8_usedByTree 105 = .ok (.iadd, 1) := by decide +kernel
theorem d_X8_usedByTree_106 : decode cX8_usedByTree 106 = .ok (.istore_n 1, 1) := by decide +kernel
theorem d_X8_usedByTree_107 : decode cX8_usedByTree 107 = .ok (.bipush 8, 2) := by decide +kernel
theorem d_X8_usedByTree_109 : decode cX8_usedByTree 109 = .ok (.iload_n 2, 1) := by decide +kernel
theorem d_X8_usedByTree_110 : decode cX8_usedByTree 110 = .ok (.imul, 1) := by decide +kernel
theorem d_X8_usedByTree_111 : decode cX8_usedByTree 111 = .ok (.istore_n 3, 1) := by decide +kernel
theorem d_X8_usedByTree_112 : decode cX8_usedByTree 112 = .ok (.iload_n 3, 1) := by decide +kernel
theorem d_X8_usedByTree_113 : decode cX8_usedByTree 113 = .ok (.bipush 8, 2) := by decide +kernel
theorem d_X8_usedByTree_115 : decode cX8_usedByTree 115 = .ok (.iload_n 2, 1) := by decide +kernel
theorem d_X8_usedByTree_116 : decode cX8_usedByTree 116 = .ok (.imul, 1) := by decide +kernel
theorem d_X8_usedByTree_117 : decode cX8_usedByTree 117 = .ok (.aload_n 0, 1) := by decide +kernel
theorem d_X8_usedByTree_118 : decode cX8_usedByTree 118 = .ok (.getfield 56, 3) := by decide +kernel
theorem d_X8_usedByTree_121 : decode cX8_usedByTree 121 = .ok (.iload_n 2, 1) := by decide +kernel
theorem d_X8_usedByTree_122 : decode cX8_usedByTree 122 = .ok (.iaload, 1) := by decide +kernel
theorem d_X8_usedByTree_123 : decode cX8_usedByTree 123 = .ok (.iadd, 1) := by decide +kernel
theorem d_X8_usedByTree_124 : decode cX8_usedByTree 124 = .ok (.if_icmp .ge 46, 3) := by decide +kernel
theorem d_X8_usedByTree_127 : decode cX8_usedByTree 127 = .ok (.iload_n 1, 1) := by decide +kernel
theorem d_X8_usedByTree_128 : decode cX8_usedByTree 128 = .ok (.iconst 3, 1) := by decide +kernel
theorem d_X8_usedByTree_129 : decode cX8_usedByTree 129 = .ok (.aload_n 0, 1) := by decide +kernel
theorem d_X8_usedByTree_130 : decode cX8_usedByTree 130 = .ok (.getfield 71, 3) := by decide +kernel
theorem d_X8_usedByTree_133 : decode cX8_usedByTree 133 = .ok (.iload_n 3, 1) := by decide +kernel
theorem d_X8_usedByTree_134 : decode cX8_usedByTree 134 = .ok (.iaload, 1) := by decide +kernel
theorem d_X8_usedByTree_135 : decode cX8_usedByTree 135 = .ok (.iconst 1, 1) := by decide +kernel
theorem d_X8_usedByTree_136 : decode cX8_usedByTree 136 = .ok (.if_icmp .le 24, 3) := by decide +kernel
theorem d_X8_usedByTree_161 : decode cX8_usedByTree 161 = .ok (.iadd, 1) := by decide +kernel
theorem d_X8_usedByTree_162 : decode cX8_usedByTree 162 = .ok (.iadd, 1) := by decide +kernel
theorem d_X8_usedByTree_163 : decode cX8_usedByTree 163 = .ok (.istore_n 1, 1) := by decide +kernel
theorem d_X8_usedByTree_164 : decode cX8_usedByTree 164 = .ok (.iinc 3 1, 3) := by decide +kernel
theorem d_X8_usedByTree_167 : decode cX8_usedByTree 167 = .ok (.goto (-55), 3) := by decide +kernel
theorem d_X8_usedByTree_160 : decode cX8_usedByTree 160 = .ok (.iconst 0, 1) := by decide +kernel
theorem d_X8_usedByTree_139 : decode cX8_usedByTree 139 = .ok (.aload_n 0, 1) := by decide +kernel
theorem d_X8_usedByTree_140 : decode cX8_usedByTree 140 = .ok (.getfield 71, 3) := by decide +kernel
theorem d_X8_usedByTree_143 : decode cX8_usedByTree 143 = .ok (.iload_n 3, 1) := by decide +kernel
theorem d_X8_usedByTree_144 : decode cX8_usedByTree 144 = .ok (.iaload, 1) := by decide +kernel
theorem d_X8_usedByTree_145 : decode cX8_usedByTree 145 = .ok (.iconst 2, 1) := by decide +kernel
theorem d_X8_usedByTree_146 : decode cX8_usedByTree 146 = .ok (.aload_n 0, 1) := by decide +kernel
theorem d_X8_usedByTree_147 : decode cX8_usedByTree 147 = .ok (.getfield 71, 3) := by decide +kernel
theorem d_X8_usedByTree_150 : decode cX8_usedByTree 150 = .ok (.iload_n 3, 1) := by decide +kernel
theorem d_X8_usedByTree_151 : decode cX8_usedByTree 151 = .ok (.iaload, 1) := by decide +kernel
theorem d_X8_usedByTree_152 : decode cX8_usedByTree 152 = .ok (.invokestatic 237, 3) := by decide +kernel
theorem d_X8_usedByTree_155 : decode cX8_usedByTree 155 = .ok (.imul, 1) := by decide +kernel
theorem d_X8_usedByTree_156 : decode cX8_usedByTree 156 = .ok (.iadd, 1) := by decide +kernel
theorem d_X8_usedByTree_157 : decode cX8_usedByTree 157 = .ok (.goto 4, 3) := by decide +kernel
theorem d_X8_usedByTree_103 : decode cX8_usedByTree 103 = .ok (.iconst 0, 1) := by decide +kernel
theorem d_X8_usedByTree_94 : decode cX8_usedByTree 94 = .ok (.aload_n 0, 1) := by decide +kernel
theorem d_X8_usedByTree_95 : decode cX8_usedByTree 95 = .ok (.getfield 62, 3) := by decide +kernel
theorem d_X8_usedByTree_98 : decode cX8_usedByTree 98 = .ok (.iload_n 2, 1) := by decide +kernel
theorem d_X8_usedByTree_99 : decode cX8_usedByTree 99 = .ok (.iaload, 1) := by decide +kernel
theorem d_X8_usedByTree_100 : decode cX8_usedByTree 100 = .ok (.goto 4, 3) := by decide +kernel
theorem d_X8_usedByTree_83 : decode cX8_usedByTree 83 = .ok (.iconst 0, 1) := by decide +kernel
theorem d_X8_usedByTree_78 : decode cX8_usedByTree 78 = .ok (.bipush 9, 2) := by decide +kernel
theorem d_X8_usedByTree_80 : decode cX8_usedByTree 80 = .ok (.goto 4, 3) := by decide +kernel
abbrev Y_X8_watch : YT := (cX8_watch, 6, (some .boolean), yX8_watch, [], 3)
theorem d_X8_watch_0 : decode cX8_watch 0 = .ok (.aload_n 0, 1) := by decide +kernel
theorem d_X8_watch_1 : decode cX8_watch 1 = .ok (.iload_n 1, 1) := by decide +kernel
theorem d_X8_watch_2 : decode cX8_watch 2 = .ok (.invokevirtual 191, 3) := by decide +kernel
theorem d_X8_watch_5 : decode cX8_watch 5 = .ok (.istore 4, 2) := by decide +kernel
theorem d_X8_watch_7 : decode cX8_watch 7 = .ok (.aload_n 0, 1) := by decide +kernel
theorem d_X8_watch_8 : decode cX8_watch 8 = .ok (.iload 4, 2) := by decide +kernel
theorem d_X8_watch_10 : decode cX8_watch 10 = .ok (.ifCond .ne 7, 3) := by decide +kernel
theorem d_X8_watch_32 : decode cX8_watch 32 = .ok (.invokevirtual 195, 3) := by decide +kernel
theorem d_X8_watch_35 : decode cX8_watch 35 = .ok (.ifCond .eq 5, 3) := by decide +kernel
theorem d_X8_watch_40 : decode cX8_watch 40 = .ok (.aload_n 0, 1) := by decide +kernel
theorem d_X8_watch_41 : decode cX8_watch 41 = .ok (.getfield 89, 3) := by decide +kernel
theorem d_X8_watch_44 : decode cX8_watch 44 = .ok (.iload_n 1, 1) := by decide +kernel
theorem d_X8_watch_45 : decode cX8_watch 45 = .ok (.iaload, 1) := by decide +kernel
theorem d_X8_watch_46 : decode cX8_watch 46 = .ok (.ifCond .le 7, 3) := by decide +kernel
theorem d_X8_watch_54 : decode cX8_watch 54 = .ok (.istore 5, 2) := by decide +kernel
theorem d_X8_watch_56 : decode cX8_watch 56 = .ok (.aload_n 0, 1) := by decide +kernel
theorem d_X8_watch_57 : decode cX8_watch 57 = .ok (.iload_n 1, 1) := by decide +kernel
theorem d_X8_watch_58 : decode cX8_watch 58 = .ok (.invokevirtual 198, 3) := by decide +kernel
theorem d_X8_watch_61 : decode cX8_watch 61 = .ok (.aload_n 0, 1) := by decide +kernel
theorem d_X8_watch_62 : decode cX8_watch 62 = .ok (.getfield 89, 3) := by decide +kernel
theorem d_X8_watch_65 : decode cX8_watch 65 = .ok (.iload_n 1, 1) := by decide +kernel
theorem d_X8_watch_66 : decode cX8_watch 66 = .ok (.iload_n 2, 1) := by decide +kernel
theorem d_X8_watch_67 : decode cX8_watch 67 = .ok (.iastore, 1) := by decide +kernel
theorem d_X8_watch_68 : decode cX8_watch 68 = .ok (.aload_n 0, 1) := by decide +kernel
theorem d_X8_watch_69 : decode cX8_watch 69 = .ok (.getfield 92, 3) := by decide +kernel
theorem d_X8_watch_72 : decode cX8_watch 72 = .ok (.iload_n 1, 1) := by decide +kernel
theorem d_X8_watch_73 : decode cX8_watch 73 = .ok (.iload_n 3, 1) := by decide +kernel
theorem d_X8_watch_74 : decode cX8_watch 74 = .ok (.bastore, 1) := by decide +kernel
theorem d_X8_watch_75 : decode cX8_watch 75 = .ok (.iload 5, 2) := by decide +kernel
theorem d_X8_watch_77 : decode cX8_watch 77 = .ok (.ifCond .ne 7, 3) := by decide +kernel
theorem d_X8_watch_84 : decode cX8_watch 84 = .ok (.iconst 0, 1) := by decide +kernel
theorem d_X8_watch_85 : decode cX8_watch 85 = .ok (.ireturn, 1) := by decide +kernel
theorem d_X8_watch_80 : decode cX8_watch 80 = .ok (.iconst 1, 1) := by decide +kernel
theorem d_X8_watch_81 : decode cX8_watch 81 = .ok (.goto 4, 3) := by decide +kernel
theorem d_X8_watch_53 : decode cX8_watch 53 = .ok (.iconst 0, 1) := by decide +kernel
theorem d_X8_watch_49 : decode cX8_watch 49 = .ok (.iconst 1, 1) := by decide +kernel
theorem d_X8_watch_50 : decode cX8_watch 50 = .ok (.goto 4, 3) := by decide +kernel
theorem d_X8_watch_38 : decode cX8_watch 38 = .ok (.iconst 0, 1) := by decide +kernel
theorem d_X8_watch_39 : decode cX8_watch 39 = .ok (.ireturn, 1) := by decide +kernel
theorem d_X8_watch_17 : decode cX8_watch 17 = .ok (.iload_n 2, 1) := by decide +kernel
theorem d_X8_watch_18 : decode cX8_watch 18 = .ok (.iconst 1, 1) := by decide +kernel
theorem d_X8_watch_19 : decode cX8_watch 19 = .ok (.bipush 7, 2) := by decide +kernel
theorem d_X8_watch_21 : decode cX8_watch 21 = .ok (.invokestatic 124, 3) := by decide +kernel
theorem d_X8_watch_24 : decode cX8_watch 24 = .ok (.ifCond .eq 7, 3) := by decide +kernel
theorem d_X8_watch_31 : decode cX8_watch 31 = .ok (.iconst 2, 1) := by decide +kernel
theorem d_X8_watch_27 : decode cX8_watch 27 = .ok (.iconst 0, 1) := by decide +kernel
theorem d_X8_watch_28 : decode cX8_watch 28 = .ok (.goto 4, 3) := by decide +kernel
theorem d_X8_watch_13 : decode cX8_watch 13 = .ok (.iconst 1, 1) := by decide +kernel
theorem d_X8_watch_14 : decode cX8_watch 14 = .ok (.goto 18, 3) := by decide +kernel
abbrev Y_X8_takeNotice : YT := (cX8_takeNotice, 3, (some .int), yX8_takeNotice, [], 1)
theorem d_X8_takeNotice_0 : decode cX8_takeNotice 0 = .ok (.aload_n 0, 1) := by decide +kernel
theorem d_X8_takeNotice_1 : decode cX8_takeNotice 1 = .ok (.iconst 0, 1) := by decide +kernel
theorem d_X8_takeNotice_2 : decode cX8_takeNotice 2 = .ok (.putfield 120, 3) := by decide +kernel
theorem d_X8_takeNotice_5 : decode cX8_takeNotice 5 = .ok (.aload_n 0, 1) := by decide +kernel
theorem d_X8_takeNotice_6 : decode cX8_takeNotice 6 = .ok (.getfield 185, 3) := by decide +kernel
theorem d_X8_takeNotice_9 : decode cX8_takeNotice 9 = .ok (.ifCond .ne 5, 3) := by decide +kernel
theorem d_X8_takeNotice_14 : decode cX8_takeNotice 14 = .ok (.bipush 10, 2) := by decide +kernel
theorem d_X8_takeNotice_16 : decode cX8_takeNotice 16 = .ok (.aload_n 0, 1) := by decide +kernel
theorem d_X8_takeNotice_17 : decode cX8_takeNotice 17 = .ok (.getfield 98, 3) := by decide +kernel
theorem d_X8_takeNotice_20 : decode cX8_takeNotice 20 = .ok (.iconst 0, 1) := by decide +kernel
theorem d_X8_takeNotice_21 : decode cX8_takeNotice 21 = .ok (.iaload, 1) := by decide +kernel
theorem d_X8_takeNotice_22 : decode cX8_takeNotice 22 = .ok (.imul, 1) := by decide +kernel
theorem d_X8_takeNotice_23 : decode cX8_takeNotice 23 = .ok (.aload_n 0, 1) := by decide +kernel
theorem d_X8_takeNotice_24 : decode cX8_takeNotice 24 = .ok (.getfield 101, 3) := by decide +kernel
theorem d_X8_takeNotice_27 : decode cX8_takeNotice 27 = .ok (.iconst 0, 1) := by decide +kernel
theorem d_X8_takeNotice_28 : decode cX8_takeNotice 28 = .ok (.iaload, 1) := by decide +kernel
theorem d_X8_takeNotice_29 : decode cX8_takeNotice 29 = .ok (.iadd, 1) := by decide +kernel
theorem d_X8_takeNotice_30 : decode cX8_takeNotice 30 = .ok (.istore_n 1, 1) := by decide +kernel
theorem d_X8_takeNotice_31 : decode cX8_takeNotice 31 = .ok (.aload_n 0, 1) := by decide +kernel
theorem d_X8_takeNotice_32 : decode cX8_takeNotice 32 = .ok (.dup, 1) := by decide +kernel
theorem d_X8_takeNotice_33 : decode cX8_takeNotice 33 = .ok (.getfield 185, 3) := by decide +kernel
theorem d_X8_takeNotice_36 : decode cX8_takeNotice 36 = .ok (.iconst 1, 1) := by decide +kernel
theorem d_X8_takeNotice_37 : decode cX8_takeNotice 37 = .ok (.isub, 1) := by decide +kernel
theorem d_X8_takeNotice_38 : decode cX8_takeNotice 38 = .ok (.putfield 185, 3) := by decide +kernel
theorem d_X8_takeNotice_41 : decode cX8_takeNotice 41 = .ok (.iconst 0, 1) := by decide +kernel
theorem d_X8_takeNotice_42 : decode cX8_takeNotice 42 = .ok (.istore_n 2, 1) := by decide +kernel
theorem d_X8_takeNotice_43 : decode cX8_takeNotice 43 = .ok (.iload_n 2, 1) := by decide +kernel
theorem d_X8_takeNotice_44 : decode cX8_takeNotice 44 = .ok (.aload_n 0, 1) := by decide +kernel
theorem d_X8_takeNotice_45 : decode cX8_takeNotice 45 = .ok (.getfield 185, 3) := by decide +kernel
theorem d_X8_takeNotice_48 : decode cX8_takeNotice 48 = .ok (.if_icmp .ge 37, 3) := by decide +kernel
theorem d_X8_takeNotice_85 : decode cX8_takeNotice 85 = .ok (.iload_n 1, 1) := by decide +kernel
theorem d_X8_takeNotice_86 : decode cX8_takeNotice 86 = .ok (.ireturn, 1) := by decide +kernel
theorem d_X8_takeNotice_51 : decode cX8_takeNotice 51 = .ok (.aload_n 0, 1) := by decide +kernel
theorem d_X8_takeNotice_52 : decode cX8_takeNotice 52 = .ok (.getfield 98, 3) := by decide +kernel
theorem d_X8_takeNotice_55 : decode cX8_takeNotice 55 = .ok (.iload_n 2, 1) := by decide +kernel
theorem d_X8_takeNotice_56 : decode cX8_takeNotice 56 = .ok (.aload_n 0, 1) := by decide +kernel
theorem d_X8_takeNotice_57 : decode cX8_takeNotice 57 = .ok (.getfield 98, 3) := by decide +kernel
theorem d_X8_takeNotice_60 : decode cX8_takeNotice 60 = .ok (.iload_n 2, 1) := by decide +kernel
theorem d_X8_takeNotice_61 : decode cX8_takeNotice 61 = .ok (.iconst 1, 1) := by decide +kernel
theorem d_X8_takeNotice_62 : decode cX8_takeNotice 62 = .ok (.iadd, 1) := by decide +kernel
theorem d_X8_takeNotice_63 : decode cX8_takeNotice 63 = .ok (.iaload, 1) := by decide +kernel
theorem d_X8_takeNotice_64 : decode cX8_takeNotice 64 = .ok (.iastore, 1) := by decide +kernel
theorem d_X8_takeNotice_65 : decode cX8_takeNotice 65 = .ok (.aload_n 0, 1) := by decide +kernel
theorem d_X8_takeNotice_66 : decode cX8_takeNotice 66 = .ok (.getfield 101, 3) := by decide +kernel
theorem d_X8_takeNotice_69 : decode cX8_takeNotice 69 = .ok (.iload_n 2, 1) := by decide +kernel
theorem d_X8_takeNotice_70 : decode cX8_takeNotice 70 = .ok (.aload_n 0, 1) := by decide +kernel
theorem d_X8_takeNotice_71 : decode cX8_takeNotice 71 = .ok (.getfield 101, 3) := by decide +kernel
theorem d_X8_takeNotice_74 : decode cX8_takeNotice 74 = .ok (.iload_n 2, 1) := by decide +kernel
theorem d_X8_takeNotice_75 : decode cX8_takeNotice 75 = .ok (.iconst 1, 1) := by decide +kernel
theorem d_X8_takeNotice_76 : decode cX8_takeNotice 76 = .ok (.iadd, 1) := by decide +kernel
theorem d_X8_takeNotice_77 : decode cX8_takeNotice 77 = .ok (.iaload, 1) := by decide +kernel
theorem d_X8_takeNotice_78 : decode cX8_takeNotice 78 = .ok (.iastore, 1) := by decide +kernel
theorem d_X8_takeNotice_79 : decode cX8_takeNotice 79 = .ok (.iinc 2 1, 3) := by decide +kernel
theorem d_X8_takeNotice_82 : decode cX8_takeNotice 82 = .ok (.goto (-39), 3) := by decide +kernel
theorem d_X8_takeNotice_12 : decode cX8_takeNotice 12 = .ok (.iconst (-1), 1) := by decide +kernel
theorem d_X8_takeNotice_13 : decode cX8_takeNotice 13 = .ok (.ireturn, 1) := by decide +kernel
abbrev Y_X8_dirty : YT := (cX8_dirty, 4, (some .long), yX8_dirty, [], 1)
theorem d_X8_dirty_0 : decode cX8_dirty 0 = .ok (.aload_n 0, 1) := by decide +kernel
theorem d_X8_dirty_1 : decode cX8_dirty 1 = .ok (.iconst 0, 1) := by decide +kernel
theorem d_X8_dirty_2 : decode cX8_dirty 2 = .ok (.putfield 120, 3) := by decide +kernel
theorem d_X8_dirty_5 : decode cX8_dirty 5 = .ok (.lconst 0, 1) := by decide +kernel
theorem d_X8_dirty_6 : decode cX8_dirty 6 = .ok (.lstore_n 1, 1) := by decide +kernel
theorem d_X8_dirty_7 : decode cX8_dirty 7 = .ok (.iconst 0, 1) := by decide +kernel
theorem d_X8_dirty_8 : decode cX8_dirty 8 = .ok (.istore_n 3, 1) := by decide +kernel
theorem d_X8_dirty_9 : decode cX8_dirty 9 = .ok (.iload_n 3, 1) := by decide +kernel
theorem d_X8_dirty_10 : decode cX8_dirty 10 = .ok (.bipush 64, 2) := by decide +kernel
theorem d_X8_dirty_12 : decode cX8_dirty 12 = .ok (.if_icmp .ge 28, 3) := by decide +kernel
theorem d_X8_dirty_40 : decode cX8_dirty 40 = .ok (.lload_n 1, 1) := by decide +kernel
theorem d_X8_dirty_41 : decode cX8_dirty 41 = .ok (.lreturn, 1) := by decide +kernel
theorem d_X8_dirty_15 : decode cX8_dirty 15 = .ok (.lload_n 1, 1) := by decide +kernel
theorem d_X8_dirty_16 : decode cX8_dirty 16 = .ok (.aload_n 0, 1) := by decide +kernel
theorem d_X8_dirty_17 : decode cX8_dirty 17 = .ok (.getfield 86, 3) := by decide +kernel
theorem d_X8_dirty_20 : decode cX8_dirty 20 = .ok (.iload_n 3, 1) := by decide +kernel
theorem d_X8_dirty_21 : decode cX8_dirty 21 = .ok (.baload, 1) := by decide +kernel
theorem d_X8_dirty_22 : decode cX8_dirty 22 = .ok (.ifCond .eq 9, 3) := by decide +kernel
theorem d_X8_dirty_32 : decode cX8_dirty 32 = .ok (.lor, 1) := by decide +kernel
theorem d_X8_dirty_33 : decode cX8_dirty 33 = .ok (.lstore_n 1, 1) := by decide +kernel
theorem d_X8_dirty_34 : decode cX8_dirty 34 = .ok (.iinc 3 1, 3) := by decide +kernel
theorem d_X8_dirty_37 : decode cX8_dirty 37 = .ok (.goto (-28), 3) := by decide +kernel
theorem d_X8_dirty_31 : decode cX8_dirty 31 = .ok (.lconst 0, 1) := by decide +kernel
theorem d_X8_dirty_25 : decode cX8_dirty 25 = .ok (.lconst 1, 1) := by decide +kernel
theorem d_X8_dirty_26 : decode cX8_dirty 26 = .ok (.iload_n 3, 1) := by decide +kernel
theorem d_X8_dirty_27 : decode cX8_dirty 27 = .ok (.lshl, 1) := by decide +kernel
theorem d_X8_dirty_28 : decode cX8_dirty 28 = .ok (.goto 4, 3) := by decide +kernel
abbrev Y_X8_flush : YT := (cX8_flush, 1, (some .int), yX8_flush, [], 3)
theorem d_X8_flush_0 : decode cX8_flush 0 = .ok (.aload_n 0, 1) := by decide +kernel
theorem d_X8_flush_1 : decode cX8_flush 1 = .ok (.aload_n 0, 1) := by decide +kernel
theorem d_X8_flush_2 : decode cX8_flush 2 = .ok (.getfield 270, 3) := by decide +kernel
theorem fk_RX8_270 : FK RX8 270 8 32 := ⟨RX8, TX8, 43, rfl, by decide, ws_X8, KW.at (i := 1114) (by decide +kernel) rfl⟩
theorem d_X8_flush_5 : decode cX8_flush 5 = .ok (.ifCond .ne 10, 3) := by decide +kernel
theorem d_X8_flush_20 : decode cX8_flush 20 = .ok (.invokevirtual 195, 3) := by decide +kernel
theorem d_X8_flush_23 : decode cX8_flush 23 = .ok (.ifCond .eq 5, 3) := by decide +kernel
theorem d_X8_flush_28 : decode cX8_flush 28 = .ok (.aload_n 0, 1) := by decide +kernel
theorem d_X8_flush_29 : decode cX8_flush 29 = .ok (.iconst 1, 1) := by decide +kernel
theorem d_X8_flush_30 : decode cX8_flush 30 = .ok (.putfield 270, 3) := by decide +kernel
theorem pk_RX8_270 : PK RX8 270 8 32 .boolean := ⟨RX8, TX8, 43, tyX8, rfl, by decide, ws_X8, KW.at (i := 1114) (by decide +kernel) rfl, tyX8_ok, nmX8, rfl, rfl⟩
theorem d_X8_flush_33 : decode cX8_flush 33 = .ok (.aload_n 0, 1) := by decide +kernel
theorem d_X8_flush_34 : decode cX8_flush 34 = .ok (.iconst 0, 1) := by decide +kernel
theorem d_X8_flush_35 : decode cX8_flush 35 = .ok (.putfield 277, 3) := by decide +kernel
theorem pk_RX8_277 : PK RX8 277 8 34 .int := ⟨RX8, TX8, 43, tyX8, rfl, by decide, ws_X8, KW.at (i := 1116) (by decide +kernel) rfl, tyX8_ok, nmX8, rfl, rfl⟩
theorem d_X8_flush_38 : decode cX8_flush 38 = .ok (.aload_n 0, 1) := by decide +kernel
theorem d_X8_flush_39 : decode cX8_flush 39 = .ok (.aload_n 0, 1) := by decide +kernel
theorem d_X8_flush_40 : decode cX8_flush 40 = .ok (.invokevirtual 274, 3) := by decide +kernel
abbrev Y_X8_dirtyOnes : YT := (cX8_dirtyOnes, 3, (some .int), yX8_dirtyOnes, [], 1)
theorem mk_X8_dirtyOnes : MK Y_X8_dirtyOnes 0 := ⟨KW.at (i := 85) (by decide +kernel) rfl, KW.at (i := 1470) (by decide +kernel) rfl, ⟨by decide +kernel, by decide +kernel⟩, by decide +kernel, by decide +kernel, rfl, by decide⟩
theorem vm_X8_dirtyOnes : KW (.instanceMethod (yN Y_X8_dirtyOnes)) ∧ KW (.selects (yN Y_X8_dirtyOnes).cls (yN Y_X8_dirtyOnes) (yN Y_X8_dirtyOnes)) := ⟨KW.at (i := 1469) (by decide +kernel) rfl, KW.at (i := 71) (by decide +kernel) rfl⟩
theorem ck_RX8_274 : CKV RX8 274 Y_X8_dirtyOnes 0 := ⟨KW.at (i := 1467) (by decide +kernel) rfl, vm_X8_dirtyOnes.1, vm_X8_dirtyOnes.2, mk_X8_dirtyOnes⟩
theorem d_X8_dirtyOnes_0 : decode cX8_dirtyOnes 0 = .ok (.iconst 0, 1) := by decide +kernel
theorem d_X8_dirtyOnes_1 : decode cX8_dirtyOnes 1 = .ok (.istore_n 1, 1) := by decide +kernel
theorem d_X8_dirtyOnes_2 : decode cX8_dirtyOnes 2 = .ok (.iconst 0, 1) := by decide +kernel
theorem d_X8_dirtyOnes_3 : decode cX8_dirtyOnes 3 = .ok (.istore_n 2, 1) := by decide +kernel
theorem d_X8_dirtyOnes_4 : decode cX8_dirtyOnes 4 = .ok (.iload_n 2, 1) := by decide +kernel
theorem d_X8_dirtyOnes_5 : decode cX8_dirtyOnes 5 = .ok (.bipush 64, 2) := by decide +kernel
theorem d_X8_dirtyOnes_7 : decode cX8_dirtyOnes 7 = .ok (.if_icmp .ge 26, 3) := by decide +kernel
theorem d_X8_dirtyOnes_33 : decode cX8_dirtyOnes 33 = .ok (.iload_n 1, 1) := by decide +kernel
theorem d_X8_dirtyOnes_34 : decode cX8_dirtyOnes 34 = .ok (.ireturn, 1) := by decide +kernel
theorem d_X8_dirtyOnes_10 : decode cX8_dirtyOnes 10 = .ok (.iload_n 1, 1) := by decide +kernel
theorem d_X8_dirtyOnes_11 : decode cX8_dirtyOnes 11 = .ok (.aload_n 0, 1) := by decide +kernel
theorem d_X8_dirtyOnes_12 : decode cX8_dirtyOnes 12 = .ok (.getfield 86, 3) := by decide +kernel
theorem d_X8_dirtyOnes_15 : decode cX8_dirtyOnes 15 = .ok (.iload_n 2, 1) := by decide +kernel
theorem d_X8_dirtyOnes_16 : decode cX8_dirtyOnes 16 = .ok (.baload, 1) := by decide +kernel
theorem d_X8_dirtyOnes_17 : decode cX8_dirtyOnes 17 = .ok (.ifCond .eq 7, 3) := by decide +kernel
theorem d_X8_dirtyOnes_25 : decode cX8_dirtyOnes 25 = .ok (.iadd, 1) := by decide +kernel
theorem d_X8_dirtyOnes_26 : decode cX8_dirtyOnes 26 = .ok (.istore_n 1, 1) := by decide +kernel
theorem d_X8_dirtyOnes_27 : decode cX8_dirtyOnes 27 = .ok (.iinc 2 1, 3) := by decide +kernel
theorem d_X8_dirtyOnes_30 : decode cX8_dirtyOnes 30 = .ok (.goto (-26), 3) := by decide +kernel
theorem d_X8_dirtyOnes_24 : decode cX8_dirtyOnes 24 = .ok (.iconst 0, 1) := by decide +kernel
theorem d_X8_dirtyOnes_20 : decode cX8_dirtyOnes 20 = .ok (.iconst 1, 1) := by decide +kernel
theorem d_X8_dirtyOnes_21 : decode cX8_dirtyOnes 21 = .ok (.goto 4, 3) := by decide +kernel
theorem d_X8_flush_43 : decode cX8_flush 43 = .ok (.putfield 279, 3) := by decide +kernel
theorem pk_RX8_279 : PK RX8 279 8 35 .int := ⟨RX8, TX8, 43, tyX8, rfl, by decide, ws_X8, KW.at (i := 1117) (by decide +kernel) rfl, tyX8_ok, nmX8, rfl, rfl⟩
theorem d_X8_flush_46 : decode cX8_flush 46 = .ok (.aload_n 0, 1) := by decide +kernel
theorem d_X8_flush_47 : decode cX8_flush 47 = .ok (.invokevirtual 282, 3) := by decide +kernel
abbrev Y_X8_cleans : YT := (cX8_cleans, 2, none, yX8_cleans, [], 1)
theorem mk_X8_cleans : MK Y_X8_cleans 0 := ⟨KW.at (i := 85) (by decide +kernel) rfl, KW.at (i := 1474) (by decide +kernel) rfl, ⟨by decide +kernel, by decide +kernel⟩, by decide +kernel, by decide +kernel, rfl, by decide⟩
theorem vm_X8_cleans : KW (.instanceMethod (yN Y_X8_cleans)) ∧ KW (.selects (yN Y_X8_cleans).cls (yN Y_X8_cleans) (yN Y_X8_cleans)) := ⟨KW.at (i := 1473) (by decide +kernel) rfl, KW.at (i := 72) (by decide +kernel) rfl⟩
theorem ck_RX8_282 : CKV RX8 282 Y_X8_cleans 0 := ⟨KW.at (i := 1471) (by decide +kernel) rfl, vm_X8_cleans.1, vm_X8_cleans.2, mk_X8_cleans⟩
theorem d_X8_cleans_0 : decode cX8_cleans 0 = .ok (.iconst 0, 1) := by decide +kernel
theorem d_X8_cleans_1 : decode cX8_cleans 1 = .ok (.istore_n 1, 1) := by decide +kernel
theorem d_X8_cleans_2 : decode cX8_cleans 2 = .ok (.iload_n 1, 1) := by decide +kernel
theorem d_X8_cleans_3 : decode cX8_cleans 3 = .ok (.bipush 64, 2) := by decide +kernel
theorem d_X8_cleans_5 : decode cX8_cleans 5 = .ok (.if_icmp .ge 16, 3) := by decide +kernel
theorem d_X8_cleans_21 : decode cX8_cleans 21 = .ok (.return_, 1) := by decide +kernel
theorem d_X8_cleans_8 : decode cX8_cleans 8 = .ok (.aload_n 0, 1) := by decide +kernel
theorem d_X8_cleans_9 : decode cX8_cleans 9 = .ok (.getfield 86, 3) := by decide +kernel
theorem d_X8_cleans_12 : decode cX8_cleans 12 = .ok (.iload_n 1, 1) := by decide +kernel
theorem d_X8_cleans_13 : decode cX8_cleans 13 = .ok (.iconst 0, 1) := by decide +kernel
theorem d_X8_cleans_14 : decode cX8_cleans 14 = .ok (.bastore, 1) := by decide +kernel
theorem d_X8_cleans_15 : decode cX8_cleans 15 = .ok (.iinc 1 1, 3) := by decide +kernel
theorem d_X8_cleans_18 : decode cX8_cleans 18 = .ok (.goto (-16), 3) := by decide +kernel
theorem d_X8_flush_50 : decode cX8_flush 50 = .ok (.aload_n 0, 1) := by decide +kernel
theorem d_X8_flush_51 : decode cX8_flush 51 = .ok (.iconst 0, 1) := by decide +kernel
theorem d_X8_flush_52 : decode cX8_flush 52 = .ok (.iconst 1, 1) := by decide +kernel
theorem d_X8_flush_53 : decode cX8_flush 53 = .ok (.invokevirtual 116, 3) := by decide +kernel
abbrev Y_X8_copies : YT := (cX8_copies, 4, none, yX8_copies, [], 2)
theorem mk_X8_copies : MK Y_X8_copies 2 := ⟨KW.at (i := 85) (by decide +kernel) rfl, KW.at (i := 1078) (by decide +kernel) rfl, ⟨by decide +kernel, by decide +kernel⟩, by decide +kernel, by decide +kernel, rfl, by decide⟩
theorem vm_X8_copies : KW (.instanceMethod (yN Y_X8_copies)) ∧ KW (.selects (yN Y_X8_copies).cls (yN Y_X8_copies) (yN Y_X8_copies)) := ⟨KW.at (i := 1077) (by decide +kernel) rfl, KW.at (i := 35) (by decide +kernel) rfl⟩
theorem ck_RX8_116 : CKV RX8 116 Y_X8_copies 2 := ⟨KW.at (i := 1075) (by decide +kernel) rfl, vm_X8_copies.1, vm_X8_copies.2, mk_X8_copies⟩
theorem d_X8_copies_0 : decode cX8_copies 0 = .ok (.aload_n 0, 1) := by decide +kernel
theorem d_X8_copies_1 : decode cX8_copies 1 = .ok (.getfield 7, 3) := by decide +kernel
theorem d_X8_copies_4 : decode cX8_copies 4 = .ok (.iload_n 1, 1) := by decide +kernel
theorem d_X8_copies_5 : decode cX8_copies 5 = .ok (.iload_n 2, 1) := by decide +kernel
theorem d_X8_copies_6 : decode cX8_copies 6 = .ok (.sipush 1024, 3) := by decide +kernel
theorem d_X8_copies_9 : decode cX8_copies 9 = .ok (.invokestatic 128, 3) := by decide +kernel
theorem sm_X8_row : KW (.static (yN Y_X8_row)) := KW.at (i := 1080) (by decide +kernel) rfl
theorem ck_RX8_128 : CKS RX8 128 Y_X8_row 4 := ⟨KW.at (i := 1079) (by decide +kernel) rfl, sm_X8_row, mk_X8_row⟩
theorem d_X8_copies_12 : decode cX8_copies 12 = .ok (.aload_n 0, 1) := by decide +kernel
theorem d_X8_copies_13 : decode cX8_copies 13 = .ok (.getfield 13, 3) := by decide +kernel
theorem d_X8_copies_16 : decode cX8_copies 16 = .ok (.iload_n 1, 1) := by decide +kernel
theorem d_X8_copies_17 : decode cX8_copies 17 = .ok (.iload_n 2, 1) := by decide +kernel
theorem d_X8_copies_18 : decode cX8_copies 18 = .ok (.iconst 1, 1) := by decide +kernel
theorem d_X8_copies_19 : decode cX8_copies 19 = .ok (.invokestatic 128, 3) := by decide +kernel
theorem d_X8_copies_22 : decode cX8_copies 22 = .ok (.aload_n 0, 1) := by decide +kernel
theorem d_X8_copies_23 : decode cX8_copies 23 = .ok (.getfield 16, 3) := by decide +kernel
theorem d_X8_copies_26 : decode cX8_copies 26 = .ok (.iload_n 1, 1) := by decide +kernel
theorem d_X8_copies_27 : decode cX8_copies 27 = .ok (.iload_n 2, 1) := by decide +kernel
theorem d_X8_copies_28 : decode cX8_copies 28 = .ok (.iconst 1, 1) := by decide +kernel
theorem d_X8_copies_29 : decode cX8_copies 29 = .ok (.invokestatic 128, 3) := by decide +kernel
theorem d_X8_copies_32 : decode cX8_copies 32 = .ok (.iconst 0, 1) := by decide +kernel
theorem d_X8_copies_33 : decode cX8_copies 33 = .ok (.istore_n 3, 1) := by decide +kernel
theorem d_X8_copies_34 : decode cX8_copies 34 = .ok (.iload_n 3, 1) := by decide +kernel
theorem d_X8_copies_35 : decode cX8_copies 35 = .ok (.bipush 80, 2) := by decide +kernel
theorem d_X8_copies_37 : decode cX8_copies 37 = .ok (.if_icmp .ge 31, 3) := by decide +kernel
theorem d_X8_copies_40 : decode cX8_copies 40 = .ok (.aload_n 0, 1) := by decide +kernel
theorem d_X8_copies_41 : decode cX8_copies 41 = .ok (.getfield 19, 3) := by decide +kernel
theorem d_X8_copies_44 : decode cX8_copies 44 = .ok (.bipush 80, 2) := by decide +kernel
theorem d_X8_copies_46 : decode cX8_copies 46 = .ok (.iload_n 2, 1) := by decide +kernel
theorem d_X8_copies_47 : decode cX8_copies 47 = .ok (.imul, 1) := by decide +kernel
theorem d_X8_copies_48 : decode cX8_copies 48 = .ok (.iload_n 3, 1) := by decide +kernel
theorem d_X8_copies_49 : decode cX8_copies 49 = .ok (.iadd, 1) := by decide +kernel
theorem d_X8_copies_50 : decode cX8_copies 50 = .ok (.aload_n 0, 1) := by decide +kernel
theorem d_X8_copies_51 : decode cX8_copies 51 = .ok (.getfield 19, 3) := by decide +kernel
theorem d_X8_copies_54 : decode cX8_copies 54 = .ok (.bipush 80, 2) := by decide +kernel
theorem d_X8_copies_56 : decode cX8_copies 56 = .ok (.iload_n 1, 1) := by decide +kernel
theorem d_X8_copies_57 : decode cX8_copies 57 = .ok (.imul, 1) := by decide +kernel
theorem d_X8_copies_58 : decode cX8_copies 58 = .ok (.iload_n 3, 1) := by decide +kernel
theorem d_X8_copies_59 : decode cX8_copies 59 = .ok (.iadd, 1) := by decide +kernel
theorem d_X8_copies_60 : decode cX8_copies 60 = .ok (.baload, 1) := by decide +kernel
theorem d_X8_copies_61 : decode cX8_copies 61 = .ok (.bastore, 1) := by decide +kernel
theorem d_X8_copies_62 : decode cX8_copies 62 = .ok (.iinc 3 1, 3) := by decide +kernel
theorem d_X8_copies_65 : decode cX8_copies 65 = .ok (.goto (-31), 3) := by decide +kernel
theorem d_X8_copies_68 : decode cX8_copies 68 = .ok (.aload_n 0, 1) := by decide +kernel
theorem d_X8_copies_69 : decode cX8_copies 69 = .ok (.getfield 23, 3) := by decide +kernel
theorem d_X8_copies_72 : decode cX8_copies 72 = .ok (.iload_n 1, 1) := by decide +kernel
theorem d_X8_copies_73 : decode cX8_copies 73 = .ok (.iload_n 2, 1) := by decide +kernel
theorem d_X8_copies_74 : decode cX8_copies 74 = .ok (.bipush 80, 2) := by decide +kernel
theorem d_X8_copies_76 : decode cX8_copies 76 = .ok (.invokestatic 128, 3) := by decide +kernel
theorem d_X8_copies_79 : decode cX8_copies 79 = .ok (.aload_n 0, 1) := by decide +kernel
theorem d_X8_copies_80 : decode cX8_copies 80 = .ok (.getfield 26, 3) := by decide +kernel
theorem d_X8_copies_83 : decode cX8_copies 83 = .ok (.iload_n 1, 1) := by decide +kernel
theorem d_X8_copies_84 : decode cX8_copies 84 = .ok (.iload_n 2, 1) := by decide +kernel
theorem d_X8_copies_85 : decode cX8_copies 85 = .ok (.bipush 80, 2) := by decide +kernel
theorem d_X8_copies_87 : decode cX8_copies 87 = .ok (.invokestatic 128, 3) := by decide +kernel
theorem d_X8_copies_90 : decode cX8_copies 90 = .ok (.aload_n 0, 1) := by decide +kernel
theorem d_X8_copies_91 : decode cX8_copies 91 = .ok (.getfield 29, 3) := by decide +kernel
theorem d_X8_copies_94 : decode cX8_copies 94 = .ok (.iload_n 1, 1) := by decide +kernel
theorem d_X8_copies_95 : decode cX8_copies 95 = .ok (.iload_n 2, 1) := by decide +kernel
theorem d_X8_copies_96 : decode cX8_copies 96 = .ok (.bipush 80, 2) := by decide +kernel
theorem d_X8_copies_98 : decode cX8_copies 98 = .ok (.invokestatic 128, 3) := by decide +kernel
theorem d_X8_copies_101 : decode cX8_copies 101 = .ok (.aload_n 0, 1) := by decide +kernel
theorem d_X8_copies_102 : decode cX8_copies 102 = .ok (.getfield 32, 3) := by decide +kernel
theorem d_X8_copies_105 : decode cX8_copies 105 = .ok (.iload_n 1, 1) := by decide +kernel
theorem d_X8_copies_106 : decode cX8_copies 106 = .ok (.iload_n 2, 1) := by decide +kernel
theorem d_X8_copies_107 : decode cX8_copies 107 = .ok (.bipush 80, 2) := by decide +kernel
theorem d_X8_copies_109 : decode cX8_copies 109 = .ok (.invokestatic 128, 3) := by decide +kernel
theorem d_X8_copies_112 : decode cX8_copies 112 = .ok (.aload_n 0, 1) := by decide +kernel
theorem d_X8_copies_113 : decode cX8_copies 113 = .ok (.getfield 35, 3) := by decide +kernel
theorem d_X8_copies_116 : decode cX8_copies 116 = .ok (.iload_n 1, 1) := by decide +kernel
theorem d_X8_copies_117 : decode cX8_copies 117 = .ok (.iload_n 2, 1) := by decide +kernel
theorem d_X8_copies_118 : decode cX8_copies 118 = .ok (.bipush 80, 2) := by decide +kernel
theorem d_X8_copies_120 : decode cX8_copies 120 = .ok (.invokestatic 128, 3) := by decide +kernel
theorem d_X8_copies_123 : decode cX8_copies 123 = .ok (.aload_n 0, 1) := by decide +kernel
theorem d_X8_copies_124 : decode cX8_copies 124 = .ok (.getfield 38, 3) := by decide +kernel
theorem d_X8_copies_127 : decode cX8_copies 127 = .ok (.iload_n 1, 1) := by decide +kernel
theorem d_X8_copies_128 : decode cX8_copies 128 = .ok (.iload_n 2, 1) := by decide +kernel
theorem d_X8_copies_129 : decode cX8_copies 129 = .ok (.bipush 80, 2) := by decide +kernel
theorem d_X8_copies_131 : decode cX8_copies 131 = .ok (.invokestatic 128, 3) := by decide +kernel
theorem d_X8_copies_134 : decode cX8_copies 134 = .ok (.aload_n 0, 1) := by decide +kernel
theorem d_X8_copies_135 : decode cX8_copies 135 = .ok (.getfield 41, 3) := by decide +kernel
theorem d_X8_copies_138 : decode cX8_copies 138 = .ok (.iload_n 1, 1) := by decide +kernel
theorem d_X8_copies_139 : decode cX8_copies 139 = .ok (.iload_n 2, 1) := by decide +kernel
theorem d_X8_copies_140 : decode cX8_copies 140 = .ok (.bipush 80, 2) := by decide +kernel
theorem d_X8_copies_142 : decode cX8_copies 142 = .ok (.invokestatic 128, 3) := by decide +kernel
theorem d_X8_copies_145 : decode cX8_copies 145 = .ok (.aload_n 0, 1) := by decide +kernel
theorem d_X8_copies_146 : decode cX8_copies 146 = .ok (.getfield 44, 3) := by decide +kernel
theorem d_X8_copies_149 : decode cX8_copies 149 = .ok (.iload_n 1, 1) := by decide +kernel
theorem d_X8_copies_150 : decode cX8_copies 150 = .ok (.iload_n 2, 1) := by decide +kernel
theorem d_X8_copies_151 : decode cX8_copies 151 = .ok (.sipush 640, 3) := by decide +kernel
theorem d_X8_copies_154 : decode cX8_copies 154 = .ok (.invokestatic 128, 3) := by decide +kernel
theorem d_X8_copies_157 : decode cX8_copies 157 = .ok (.aload_n 0, 1) := by decide +kernel
theorem d_X8_copies_158 : decode cX8_copies 158 = .ok (.getfield 47, 3) := by decide +kernel
theorem d_X8_copies_161 : decode cX8_copies 161 = .ok (.iload_n 1, 1) := by decide +kernel
theorem d_X8_copies_162 : decode cX8_copies 162 = .ok (.iload_n 2, 1) := by decide +kernel
theorem d_X8_copies_163 : decode cX8_copies 163 = .ok (.sipush 640, 3) := by decide +kernel
theorem d_X8_copies_166 : decode cX8_copies 166 = .ok (.invokestatic 128, 3) := by decide +kernel
theorem d_X8_copies_169 : decode cX8_copies 169 = .ok (.aload_n 0, 1) := by decide +kernel
theorem d_X8_copies_170 : decode cX8_copies 170 = .ok (.getfield 50, 3) := by decide +kernel
theorem d_X8_copies_173 : decode cX8_copies 173 = .ok (.iload_n 1, 1) := by decide +kernel
theorem d_X8_copies_174 : decode cX8_copies 174 = .ok (.iload_n 2, 1) := by decide +kernel
theorem d_X8_copies_175 : decode cX8_copies 175 = .ok (.sipush 2560, 3) := by decide +kernel
theorem d_X8_copies_178 : decode cX8_copies 178 = .ok (.invokestatic 128, 3) := by decide +kernel
theorem d_X8_copies_181 : decode cX8_copies 181 = .ok (.aload_n 0, 1) := by decide +kernel
theorem d_X8_copies_182 : decode cX8_copies 182 = .ok (.getfield 53, 3) := by decide +kernel
theorem d_X8_copies_185 : decode cX8_copies 185 = .ok (.iload_n 1, 1) := by decide +kernel
theorem d_X8_copies_186 : decode cX8_copies 186 = .ok (.iload_n 2, 1) := by decide +kernel
theorem d_X8_copies_187 : decode cX8_copies 187 = .ok (.sipush 2560, 3) := by decide +kernel
theorem d_X8_copies_190 : decode cX8_copies 190 = .ok (.invokestatic 128, 3) := by decide +kernel
theorem d_X8_copies_193 : decode cX8_copies 193 = .ok (.aload_n 0, 1) := by decide +kernel
theorem d_X8_copies_194 : decode cX8_copies 194 = .ok (.getfield 56, 3) := by decide +kernel
theorem d_X8_copies_197 : decode cX8_copies 197 = .ok (.iload_n 1, 1) := by decide +kernel
theorem d_X8_copies_198 : decode cX8_copies 198 = .ok (.iload_n 2, 1) := by decide +kernel
theorem d_X8_copies_199 : decode cX8_copies 199 = .ok (.bipush 80, 2) := by decide +kernel
theorem d_X8_copies_201 : decode cX8_copies 201 = .ok (.invokestatic 128, 3) := by decide +kernel
theorem d_X8_copies_204 : decode cX8_copies 204 = .ok (.aload_n 0, 1) := by decide +kernel
theorem d_X8_copies_205 : decode cX8_copies 205 = .ok (.getfield 59, 3) := by decide +kernel
theorem d_X8_copies_208 : decode cX8_copies 208 = .ok (.iload_n 1, 1) := by decide +kernel
theorem d_X8_copies_209 : decode cX8_copies 209 = .ok (.iload_n 2, 1) := by decide +kernel
theorem d_X8_copies_210 : decode cX8_copies 210 = .ok (.bipush 80, 2) := by decide +kernel
theorem d_X8_copies_212 : decode cX8_copies 212 = .ok (.invokestatic 128, 3) := by decide +kernel
theorem d_X8_copies_215 : decode cX8_copies 215 = .ok (.aload_n 0, 1) := by decide +kernel
theorem d_X8_copies_216 : decode cX8_copies 216 = .ok (.getfield 62, 3) := by decide +kernel
theorem d_X8_copies_219 : decode cX8_copies 219 = .ok (.iload_n 1, 1) := by decide +kernel
theorem d_X8_copies_220 : decode cX8_copies 220 = .ok (.iload_n 2, 1) := by decide +kernel
theorem d_X8_copies_221 : decode cX8_copies 221 = .ok (.bipush 80, 2) := by decide +kernel
theorem d_X8_copies_223 : decode cX8_copies 223 = .ok (.invokestatic 128, 3) := by decide +kernel
theorem d_X8_copies_226 : decode cX8_copies 226 = .ok (.aload_n 0, 1) := by decide +kernel
theorem d_X8_copies_227 : decode cX8_copies 227 = .ok (.getfield 65, 3) := by decide +kernel
theorem d_X8_copies_230 : decode cX8_copies 230 = .ok (.iload_n 1, 1) := by decide +kernel
theorem d_X8_copies_231 : decode cX8_copies 231 = .ok (.iload_n 2, 1) := by decide +kernel
theorem d_X8_copies_232 : decode cX8_copies 232 = .ok (.sipush 640, 3) := by decide +kernel
theorem d_X8_copies_235 : decode cX8_copies 235 = .ok (.invokestatic 128, 3) := by decide +kernel
theorem d_X8_copies_238 : decode cX8_copies 238 = .ok (.aload_n 0, 1) := by decide +kernel
theorem d_X8_copies_239 : decode cX8_copies 239 = .ok (.getfield 68, 3) := by decide +kernel
theorem d_X8_copies_242 : decode cX8_copies 242 = .ok (.iload_n 1, 1) := by decide +kernel
theorem d_X8_copies_243 : decode cX8_copies 243 = .ok (.iload_n 2, 1) := by decide +kernel
theorem d_X8_copies_244 : decode cX8_copies 244 = .ok (.sipush 640, 3) := by decide +kernel
theorem d_X8_copies_247 : decode cX8_copies 247 = .ok (.invokestatic 128, 3) := by decide +kernel
theorem d_X8_copies_250 : decode cX8_copies 250 = .ok (.aload_n 0, 1) := by decide +kernel
theorem d_X8_copies_251 : decode cX8_copies 251 = .ok (.getfield 71, 3) := by decide +kernel
theorem d_X8_copies_254 : decode cX8_copies 254 = .ok (.iload_n 1, 1) := by decide +kernel
theorem d_X8_copies_255 : decode cX8_copies 255 = .ok (.iload_n 2, 1) := by decide +kernel
theorem d_X8_copies_256 : decode cX8_copies 256 = .ok (.sipush 640, 3) := by decide +kernel
theorem d_X8_copies_259 : decode cX8_copies 259 = .ok (.invokestatic 128, 3) := by decide +kernel
theorem d_X8_copies_262 : decode cX8_copies 262 = .ok (.aload_n 0, 1) := by decide +kernel
theorem d_X8_copies_263 : decode cX8_copies 263 = .ok (.getfield 74, 3) := by decide +kernel
theorem d_X8_copies_266 : decode cX8_copies 266 = .ok (.iload_n 1, 1) := by decide +kernel
theorem d_X8_copies_267 : decode cX8_copies 267 = .ok (.iload_n 2, 1) := by decide +kernel
theorem d_X8_copies_268 : decode cX8_copies 268 = .ok (.sipush 640, 3) := by decide +kernel
theorem d_X8_copies_271 : decode cX8_copies 271 = .ok (.invokestatic 128, 3) := by decide +kernel
theorem d_X8_copies_274 : decode cX8_copies 274 = .ok (.aload_n 0, 1) := by decide +kernel
theorem d_X8_copies_275 : decode cX8_copies 275 = .ok (.getfield 77, 3) := by decide +kernel
theorem d_X8_copies_278 : decode cX8_copies 278 = .ok (.iload_n 1, 1) := by decide +kernel
theorem d_X8_copies_279 : decode cX8_copies 279 = .ok (.iload_n 2, 1) := by decide +kernel
theorem d_X8_copies_280 : decode cX8_copies 280 = .ok (.sipush 2560, 3) := by decide +kernel
theorem d_X8_copies_283 : decode cX8_copies 283 = .ok (.invokestatic 128, 3) := by decide +kernel
theorem d_X8_copies_286 : decode cX8_copies 286 = .ok (.aload_n 0, 1) := by decide +kernel
theorem d_X8_copies_287 : decode cX8_copies 287 = .ok (.getfield 80, 3) := by decide +kernel
theorem d_X8_copies_290 : decode cX8_copies 290 = .ok (.iload_n 1, 1) := by decide +kernel
theorem d_X8_copies_291 : decode cX8_copies 291 = .ok (.iload_n 2, 1) := by decide +kernel
theorem d_X8_copies_292 : decode cX8_copies 292 = .ok (.sipush 256, 3) := by decide +kernel
theorem d_X8_copies_295 : decode cX8_copies 295 = .ok (.invokestatic 128, 3) := by decide +kernel
theorem d_X8_copies_298 : decode cX8_copies 298 = .ok (.aload_n 0, 1) := by decide +kernel
theorem d_X8_copies_299 : decode cX8_copies 299 = .ok (.getfield 83, 3) := by decide +kernel
theorem d_X8_copies_302 : decode cX8_copies 302 = .ok (.iload_n 1, 1) := by decide +kernel
theorem d_X8_copies_303 : decode cX8_copies 303 = .ok (.iload_n 2, 1) := by decide +kernel
theorem d_X8_copies_304 : decode cX8_copies 304 = .ok (.sipush 256, 3) := by decide +kernel
theorem d_X8_copies_307 : decode cX8_copies 307 = .ok (.invokestatic 128, 3) := by decide +kernel
theorem d_X8_copies_310 : decode cX8_copies 310 = .ok (.return_, 1) := by decide +kernel
theorem d_X8_flush_56 : decode cX8_flush 56 = .ok (.iconst 2, 1) := by decide +kernel
theorem d_X8_flush_57 : decode cX8_flush 57 = .ok (.aload_n 0, 1) := by decide +kernel
theorem d_X8_flush_58 : decode cX8_flush 58 = .ok (.getfield 279, 3) := by decide +kernel
theorem fk_RX8_279 : FK RX8 279 8 35 := ⟨RX8, TX8, 43, rfl, by decide, ws_X8, KW.at (i := 1117) (by decide +kernel) rfl⟩
theorem d_X8_flush_61 : decode cX8_flush 61 = .ok (.imul, 1) := by decide +kernel
theorem d_X8_flush_62 : decode cX8_flush 62 = .ok (.iconst 4, 1) := by decide +kernel
theorem d_X8_flush_63 : decode cX8_flush 63 = .ok (.iadd, 1) := by decide +kernel
theorem d_X8_flush_64 : decode cX8_flush 64 = .ok (.ireturn, 1) := by decide +kernel
theorem d_X8_flush_26 : decode cX8_flush 26 = .ok (.iconst 0, 1) := by decide +kernel
theorem d_X8_flush_27 : decode cX8_flush 27 = .ok (.ireturn, 1) := by decide +kernel
theorem d_X8_flush_15 : decode cX8_flush 15 = .ok (.iconst 1, 1) := by decide +kernel
theorem d_X8_flush_16 : decode cX8_flush 16 = .ok (.goto 4, 3) := by decide +kernel
theorem d_X8_flush_8 : decode cX8_flush 8 = .ok (.aload_n 0, 1) := by decide +kernel
theorem d_X8_flush_9 : decode cX8_flush 9 = .ok (.invokevirtual 274, 3) := by decide +kernel
theorem d_X8_flush_12 : decode cX8_flush 12 = .ok (.ifCond .ne 7, 3) := by decide +kernel
theorem d_X8_flush_19 : decode cX8_flush 19 = .ok (.iconst 0, 1) := by decide +kernel
abbrev Y_X8_write : YT := (cX8_write, 3, (some .int), yX8_write, [], 4)
theorem d_X8_write_0 : decode cX8_write 0 = .ok (.aload_n 0, 1) := by decide +kernel
theorem d_X8_write_1 : decode cX8_write 1 = .ok (.iload_n 1, 1) := by decide +kernel
theorem d_X8_write_2 : decode cX8_write 2 = .ok (.iconst 1, 1) := by decide +kernel
theorem d_X8_write_3 : decode cX8_write 3 = .ok (.sipush 200, 3) := by decide +kernel
theorem d_X8_write_6 : decode cX8_write 6 = .ok (.invokestatic 124, 3) := by decide +kernel
theorem d_X8_write_9 : decode cX8_write 9 = .ok (.ifCond .ne 7, 3) := by decide +kernel
theorem d_X8_write_28 : decode cX8_write 28 = .ok (.invokevirtual 195, 3) := by decide +kernel
theorem d_X8_write_31 : decode cX8_write 31 = .ok (.ifCond .eq 5, 3) := by decide +kernel
theorem d_X8_write_36 : decode cX8_write 36 = .ok (.iconst 2, 1) := by decide +kernel
theorem d_X8_write_37 : decode cX8_write 37 = .ok (.aload_n 0, 1) := by decide +kernel
theorem d_X8_write_38 : decode cX8_write 38 = .ok (.getfield 279, 3) := by decide +kernel
theorem d_X8_write_41 : decode cX8_write 41 = .ok (.imul, 1) := by decide +kernel
theorem d_X8_write_42 : decode cX8_write 42 = .ok (.iconst 4, 1) := by decide +kernel
theorem d_X8_write_43 : decode cX8_write 43 = .ok (.iadd, 1) := by decide +kernel
theorem d_X8_write_44 : decode cX8_write 44 = .ok (.istore_n 2, 1) := by decide +kernel
theorem d_X8_write_45 : decode cX8_write 45 = .ok (.aload_n 0, 1) := by decide +kernel
theorem d_X8_write_46 : decode cX8_write 46 = .ok (.aload_n 0, 1) := by decide +kernel
theorem d_X8_write_47 : decode cX8_write 47 = .ok (.getfield 277, 3) := by decide +kernel
theorem fk_RX8_277 : FK RX8 277 8 34 := ⟨RX8, TX8, 43, rfl, by decide, ws_X8, KW.at (i := 1116) (by decide +kernel) rfl⟩
theorem d_X8_write_50 : decode cX8_write 50 = .ok (.iload_n 1, 1) := by decide +kernel
theorem d_X8_write_51 : decode cX8_write 51 = .ok (.iadd, 1) := by decide +kernel
theorem d_X8_write_52 : decode cX8_write 52 = .ok (.iload_n 2, 1) := by decide +kernel
theorem d_X8_write_53 : decode cX8_write 53 = .ok (.if_icmp .ge 12, 3) := by decide +kernel
theorem d_X8_write_66 : decode cX8_write 66 = .ok (.putfield 277, 3) := by decide +kernel
theorem d_X8_write_69 : decode cX8_write 69 = .ok (.aload_n 0, 1) := by decide +kernel
theorem d_X8_write_70 : decode cX8_write 70 = .ok (.getfield 104, 3) := by decide +kernel
theorem fk_RX8_104 : FK RX8 104 8 36 := ⟨RX8, TX8, 43, rfl, by decide, ws_X8, KW.at (i := 1118) (by decide +kernel) rfl⟩
theorem d_X8_write_73 : decode cX8_write 73 = .ok (.aload_n 0, 1) := by decide +kernel
theorem d_X8_write_74 : decode cX8_write 74 = .ok (.getfield 285, 3) := by decide +kernel
theorem fk_RX8_285 : FK RX8 285 8 33 := ⟨RX8, TX8, 43, rfl, by decide, ws_X8, KW.at (i := 1115) (by decide +kernel) rfl⟩
theorem d_X8_write_77 : decode cX8_write 77 = .ok (.iconst 1, 1) := by decide +kernel
theorem d_X8_write_78 : decode cX8_write 78 = .ok (.iadd, 1) := by decide +kernel
theorem d_X8_write_79 : decode cX8_write 79 = .ok (.iconst 2, 1) := by decide +kernel
theorem d_X8_write_80 : decode cX8_write 80 = .ok (.irem, 1) := by decide +kernel
theorem d_X8_write_81 : decode cX8_write 81 = .ok (.aload_n 0, 1) := by decide +kernel
theorem d_X8_write_82 : decode cX8_write 82 = .ok (.getfield 277, 3) := by decide +kernel
theorem d_X8_write_85 : decode cX8_write 85 = .ok (.aload_n 0, 1) := by decide +kernel
theorem d_X8_write_86 : decode cX8_write 86 = .ok (.getfield 279, 3) := by decide +kernel
theorem d_X8_write_89 : decode cX8_write 89 = .ok (.iconst 2, 1) := by decide +kernel
theorem d_X8_write_90 : decode cX8_write 90 = .ok (.iadd, 1) := by decide +kernel
theorem d_X8_write_91 : decode cX8_write 91 = .ok (.if_icmp .lt 12, 3) := by decide +kernel
theorem d_X8_write_104 : decode cX8_write 104 = .ok (.iastore, 1) := by decide +kernel
theorem sh_64 : SH.getD 64 (9, 0, []) = (1, 2, []) := rfl
theorem d_X8_write_105 : decode cX8_write 105 = .ok (.aload_n 0, 1) := by decide +kernel
theorem d_X8_write_106 : decode cX8_write 106 = .ok (.getfield 277, 3) := by decide +kernel
theorem d_X8_write_109 : decode cX8_write 109 = .ok (.iload_n 2, 1) := by decide +kernel
theorem d_X8_write_110 : decode cX8_write 110 = .ok (.if_icmp .ne 7, 3) := by decide +kernel
theorem d_X8_write_117 : decode cX8_write 117 = .ok (.iload_n 2, 1) := by decide +kernel
theorem d_X8_write_118 : decode cX8_write 118 = .ok (.aload_n 0, 1) := by decide +kernel
theorem d_X8_write_119 : decode cX8_write 119 = .ok (.getfield 277, 3) := by decide +kernel
theorem d_X8_write_122 : decode cX8_write 122 = .ok (.isub, 1) := by decide +kernel
theorem d_X8_write_123 : decode cX8_write 123 = .ok (.ireturn, 1) := by decide +kernel
theorem d_X8_write_113 : decode cX8_write 113 = .ok (.aload_n 0, 1) := by decide +kernel
theorem d_X8_write_114 : decode cX8_write 114 = .ok (.invokevirtual 288, 3) := by decide +kernel
abbrev Y_X8_ends : YT := (cX8_ends, 1, none, yX8_ends, [], 3)
theorem mk_X8_ends : MK Y_X8_ends 0 := ⟨KW.at (i := 85) (by decide +kernel) rfl, KW.at (i := 1482) (by decide +kernel) rfl, ⟨by decide +kernel, by decide +kernel⟩, by decide +kernel, by decide +kernel, rfl, by decide⟩
theorem vm_X8_ends : KW (.instanceMethod (yN Y_X8_ends)) ∧ KW (.selects (yN Y_X8_ends).cls (yN Y_X8_ends) (yN Y_X8_ends)) := ⟨KW.at (i := 1481) (by decide +kernel) rfl, KW.at (i := 73) (by decide +kernel) rfl⟩
theorem ck_RX8_288 : CKV RX8 288 Y_X8_ends 0 := ⟨KW.at (i := 1479) (by decide +kernel) rfl, vm_X8_ends.1, vm_X8_ends.2, mk_X8_ends⟩
theorem d_X8_ends_0 : decode cX8_ends 0 = .ok (.aload_n 0, 1) := by decide +kernel
theorem d_X8_ends_1 : decode cX8_ends 1 = .ok (.iconst 0, 1) := by decide +kernel
theorem d_X8_ends_2 : decode cX8_ends 2 = .ok (.putfield 270, 3) := by decide +kernel
theorem d_X8_ends_5 : decode cX8_ends 5 = .ok (.aload_n 0, 1) := by decide +kernel
theorem d_X8_ends_6 : decode cX8_ends 6 = .ok (.dup, 1) := by decide +kernel
theorem d_X8_ends_7 : decode cX8_ends 7 = .ok (.getfield 285, 3) := by decide +kernel
theorem d_X8_ends_10 : decode cX8_ends 10 = .ok (.iconst 1, 1) := by decide +kernel
theorem d_X8_ends_11 : decode cX8_ends 11 = .ok (.iadd, 1) := by decide +kernel
theorem d_X8_ends_12 : decode cX8_ends 12 = .ok (.putfield 285, 3) := by decide +kernel
theorem pk_RX8_285 : PK RX8 285 8 33 .int := ⟨RX8, TX8, 43, tyX8, rfl, by decide, ws_X8, KW.at (i := 1115) (by decide +kernel) rfl, tyX8_ok, nmX8, rfl, rfl⟩
theorem d_X8_ends_15 : decode cX8_ends 15 = .ok (.aload_n 0, 1) := by decide +kernel
theorem d_X8_ends_16 : decode cX8_ends 16 = .ok (.iconst 1, 1) := by decide +kernel
theorem d_X8_ends_17 : decode cX8_ends 17 = .ok (.iconst 2, 1) := by decide +kernel
theorem d_X8_ends_18 : decode cX8_ends 18 = .ok (.invokevirtual 116, 3) := by decide +kernel
theorem d_X8_ends_21 : decode cX8_ends 21 = .ok (.return_, 1) := by decide +kernel
theorem d_X8_write_103 : decode cX8_write 103 = .ok (.iconst 0, 1) := by decide +kernel
theorem d_X8_write_94 : decode cX8_write 94 = .ok (.aload_n 0, 1) := by decide +kernel
theorem d_X8_write_95 : decode cX8_write 95 = .ok (.getfield 285, 3) := by decide +kernel
theorem d_X8_write_98 : decode cX8_write 98 = .ok (.iconst 1, 1) := by decide +kernel
theorem d_X8_write_99 : decode cX8_write 99 = .ok (.iadd, 1) := by decide +kernel
theorem d_X8_write_100 : decode cX8_write 100 = .ok (.goto 4, 3) := by decide +kernel
theorem d_X8_write_65 : decode cX8_write 65 = .ok (.iload_n 2, 1) := by decide +kernel
theorem d_X8_write_56 : decode cX8_write 56 = .ok (.aload_n 0, 1) := by decide +kernel
theorem d_X8_write_57 : decode cX8_write 57 = .ok (.getfield 277, 3) := by decide +kernel
theorem d_X8_write_60 : decode cX8_write 60 = .ok (.iload_n 1, 1) := by decide +kernel
theorem d_X8_write_61 : decode cX8_write 61 = .ok (.iadd, 1) := by decide +kernel
theorem d_X8_write_62 : decode cX8_write 62 = .ok (.goto 4, 3) := by decide +kernel
theorem d_X8_write_34 : decode cX8_write 34 = .ok (.iconst 0, 1) := by decide +kernel
theorem d_X8_write_35 : decode cX8_write 35 = .ok (.ireturn, 1) := by decide +kernel
theorem d_X8_write_16 : decode cX8_write 16 = .ok (.aload_n 0, 1) := by decide +kernel
theorem d_X8_write_17 : decode cX8_write 17 = .ok (.getfield 270, 3) := by decide +kernel
theorem d_X8_write_20 : decode cX8_write 20 = .ok (.ifCond .eq 7, 3) := by decide +kernel
theorem d_X8_write_27 : decode cX8_write 27 = .ok (.iconst 2, 1) := by decide +kernel
theorem d_X8_write_23 : decode cX8_write 23 = .ok (.iconst 0, 1) := by decide +kernel
theorem d_X8_write_24 : decode cX8_write 24 = .ok (.goto 4, 3) := by decide +kernel
theorem d_X8_write_12 : decode cX8_write 12 = .ok (.iconst 1, 1) := by decide +kernel
theorem d_X8_write_13 : decode cX8_write 13 = .ok (.goto 15, 3) := by decide +kernel
abbrev Y_X8_log : YT := (cX8_log, 2, (some .int), yX8_log, [], 2)
theorem d_X8_log_0 : decode cX8_log 0 = .ok (.aload_n 0, 1) := by decide +kernel
theorem d_X8_log_1 : decode cX8_log 1 = .ok (.iload_n 1, 1) := by decide +kernel
theorem d_X8_log_2 : decode cX8_log 2 = .ok (.iconst 0, 1) := by decide +kernel
theorem d_X8_log_3 : decode cX8_log 3 = .ok (.iconst 1, 1) := by decide +kernel
theorem d_X8_log_4 : decode cX8_log 4 = .ok (.invokestatic 124, 3) := by decide +kernel
theorem d_X8_log_7 : decode cX8_log 7 = .ok (.ifCond .eq 7, 3) := by decide +kernel
theorem d_X8_log_15 : decode cX8_log 15 = .ok (.invokevirtual 195, 3) := by decide +kernel
theorem d_X8_log_18 : decode cX8_log 18 = .ok (.ifCond .eq 7, 3) := by decide +kernel
theorem d_X8_log_25 : decode cX8_log 25 = .ok (.aload_n 0, 1) := by decide +kernel
theorem d_X8_log_26 : decode cX8_log 26 = .ok (.getfield 104, 3) := by decide +kernel
theorem d_X8_log_29 : decode cX8_log 29 = .ok (.iload_n 1, 1) := by decide +kernel
theorem d_X8_log_30 : decode cX8_log 30 = .ok (.iaload, 1) := by decide +kernel
theorem d_X8_log_31 : decode cX8_log 31 = .ok (.ireturn, 1) := by decide +kernel
theorem d_X8_log_21 : decode cX8_log 21 = .ok (.iconst 0, 1) := by decide +kernel
theorem d_X8_log_22 : decode cX8_log 22 = .ok (.goto 9, 3) := by decide +kernel
theorem d_X8_log_14 : decode cX8_log 14 = .ok (.iconst 1, 1) := by decide +kernel
theorem d_X8_log_10 : decode cX8_log 10 = .ok (.iconst 0, 1) := by decide +kernel
theorem d_X8_log_11 : decode cX8_log 11 = .ok (.goto 4, 3) := by decide +kernel
abbrev Y_X8_crash : YT := (cX8_crash, 2, (some .int), yX8_crash, [], 4)
theorem d_X8_crash_0 : decode cX8_crash 0 = .ok (.aload_n 0, 1) := by decide +kernel
theorem d_X8_crash_1 : decode cX8_crash 1 = .ok (.iconst 0, 1) := by decide +kernel
theorem d_X8_crash_2 : decode cX8_crash 2 = .ok (.putfield 120, 3) := by decide +kernel
theorem d_X8_crash_5 : decode cX8_crash 5 = .ok (.aload_n 0, 1) := by decide +kernel
theorem d_X8_crash_6 : decode cX8_crash 6 = .ok (.getfield 270, 3) := by decide +kernel
theorem d_X8_crash_9 : decode cX8_crash 9 = .ok (.ifCond .eq 20, 3) := by decide +kernel
theorem d_X8_crash_29 : decode cX8_crash 29 = .ok (.aload_n 0, 1) := by decide +kernel
theorem d_X8_crash_30 : decode cX8_crash 30 = .ok (.iconst 0, 1) := by decide +kernel
theorem d_X8_crash_31 : decode cX8_crash 31 = .ok (.putfield 270, 3) := by decide +kernel
theorem d_X8_crash_34 : decode cX8_crash 34 = .ok (.aload_n 0, 1) := by decide +kernel
theorem d_X8_crash_35 : decode cX8_crash 35 = .ok (.iconst 2, 1) := by decide +kernel
theorem d_X8_crash_36 : decode cX8_crash 36 = .ok (.iconst 0, 1) := by decide +kernel
theorem d_X8_crash_37 : decode cX8_crash 37 = .ok (.invokevirtual 116, 3) := by decide +kernel
theorem d_X8_crash_40 : decode cX8_crash 40 = .ok (.aload_n 0, 1) := by decide +kernel
theorem d_X8_crash_41 : decode cX8_crash 41 = .ok (.invokevirtual 282, 3) := by decide +kernel
theorem d_X8_crash_44 : decode cX8_crash 44 = .ok (.aload_n 0, 1) := by decide +kernel
theorem d_X8_crash_45 : decode cX8_crash 45 = .ok (.iconst 0, 1) := by decide +kernel
theorem d_X8_crash_46 : decode cX8_crash 46 = .ok (.putfield 185, 3) := by decide +kernel
theorem d_X8_crash_49 : decode cX8_crash 49 = .ok (.iconst 0, 1) := by decide +kernel
theorem d_X8_crash_50 : decode cX8_crash 50 = .ok (.istore_n 1, 1) := by decide +kernel
theorem d_X8_crash_51 : decode cX8_crash 51 = .ok (.iload_n 1, 1) := by decide +kernel
theorem d_X8_crash_52 : decode cX8_crash 52 = .ok (.bipush 80, 2) := by decide +kernel
theorem d_X8_crash_54 : decode cX8_crash 54 = .ok (.if_icmp .ge 30, 3) := by decide +kernel
theorem d_X8_crash_57 : decode cX8_crash 57 = .ok (.aload_n 0, 1) := by decide +kernel
theorem d_X8_crash_58 : decode cX8_crash 58 = .ok (.getfield 89, 3) := by decide +kernel
theorem d_X8_crash_61 : decode cX8_crash 61 = .ok (.iload_n 1, 1) := by decide +kernel
theorem d_X8_crash_62 : decode cX8_crash 62 = .ok (.iconst 0, 1) := by decide +kernel
theorem d_X8_crash_63 : decode cX8_crash 63 = .ok (.iastore, 1) := by decide +kernel
theorem d_X8_crash_64 : decode cX8_crash 64 = .ok (.aload_n 0, 1) := by decide +kernel
theorem d_X8_crash_65 : decode cX8_crash 65 = .ok (.getfield 92, 3) := by decide +kernel
theorem d_X8_crash_68 : decode cX8_crash 68 = .ok (.iload_n 1, 1) := by decide +kernel
theorem d_X8_crash_69 : decode cX8_crash 69 = .ok (.iconst 0, 1) := by decide +kernel
theorem d_X8_crash_70 : decode cX8_crash 70 = .ok (.bastore, 1) := by decide +kernel
theorem d_X8_crash_71 : decode cX8_crash 71 = .ok (.aload_n 0, 1) := by decide +kernel
theorem d_X8_crash_72 : decode cX8_crash 72 = .ok (.getfield 95, 3) := by decide +kernel
theorem d_X8_crash_75 : decode cX8_crash 75 = .ok (.iload_n 1, 1) := by decide +kernel
theorem d_X8_crash_76 : decode cX8_crash 76 = .ok (.iconst 0, 1) := by decide +kernel
theorem d_X8_crash_77 : decode cX8_crash 77 = .ok (.bastore, 1) := by decide +kernel
theorem d_X8_crash_78 : decode cX8_crash 78 = .ok (.iinc 1 1, 3) := by decide +kernel
theorem d_X8_crash_81 : decode cX8_crash 81 = .ok (.goto (-30), 3) := by decide +kernel
theorem d_X8_crash_84 : decode cX8_crash 84 = .ok (.aload_n 0, 1) := by decide +kernel
theorem d_X8_crash_85 : decode cX8_crash 85 = .ok (.getfield 285, 3) := by decide +kernel
theorem d_X8_crash_88 : decode cX8_crash 88 = .ok (.ireturn, 1) := by decide +kernel
theorem d_X8_crash_12 : decode cX8_crash 12 = .ok (.aload_n 0, 1) := by decide +kernel
theorem d_X8_crash_13 : decode cX8_crash 13 = .ok (.getfield 277, 3) := by decide +kernel
theorem d_X8_crash_16 : decode cX8_crash 16 = .ok (.aload_n 0, 1) := by decide +kernel
theorem d_X8_crash_17 : decode cX8_crash 17 = .ok (.getfield 279, 3) := by decide +kernel
theorem d_X8_crash_20 : decode cX8_crash 20 = .ok (.iconst 2, 1) := by decide +kernel
theorem d_X8_crash_21 : decode cX8_crash 21 = .ok (.iadd, 1) := by decide +kernel
theorem d_X8_crash_22 : decode cX8_crash 22 = .ok (.if_icmp .lt 7, 3) := by decide +kernel
theorem d_X8_crash_25 : decode cX8_crash 25 = .ok (.aload_n 0, 1) := by decide +kernel
theorem d_X8_crash_26 : decode cX8_crash 26 = .ok (.invokevirtual 288, 3) := by decide +kernel
