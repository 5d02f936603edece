/-! the class: its methods, decoded; words of the tables -/
abbrev Y_X7_make : YT := (cX7_make, 3, (some .int), yX7_make, [], 8)
theorem d_X7_make_0 : decode cX7_make 0 = .ok (.aload_n 0, 1) := by decide +kernel
theorem d_X7_make_1 : decode cX7_make 1 = .ok (.iload_n 1, 1) := by decide +kernel
theorem d_X7_make_2 : decode cX7_make 2 = .ok (.invokevirtual 95, 3) := by decide +kernel
abbrev Y_X7_requireKey : YT := (cX7_requireKey, 2, none, yX7_requireKey, [], 6)
theorem mk_X7_requireKey : MK Y_X7_requireKey 1 := ⟨KW.at (i := 75) (by decide +kernel) rfl, KW.at (i := 547) (by decide +kernel) rfl, ⟨by decide +kernel, by decide +kernel⟩, by decide +kernel, by decide +kernel, rfl, by decide⟩
theorem vm_X7_requireKey : KW (.instanceMethod (yN Y_X7_requireKey)) ∧ KW (.selects (yN Y_X7_requireKey).cls (yN Y_X7_requireKey) (yN Y_X7_requireKey)) := ⟨KW.at (i := 546) (by decide +kernel) rfl, KW.at (i := 11) (by decide +kernel) rfl⟩
theorem ck_RX7_95 : CKV RX7 95 Y_X7_requireKey 1 := ⟨KW.at (i := 544) (by decide +kernel) rfl, vm_X7_requireKey.1, vm_X7_requireKey.2, mk_X7_requireKey⟩
theorem sh_0 : SH.getD 0 (9, 0, []) = (0, 7, [5, 10, 14, 15, 16, 18, 23, 4]) := rfl
theorem d_X7_requireKey_0 : decode cX7_requireKey 0 = .ok (.aload_n 0, 1) := by decide +kernel
theorem d_X7_requireKey_1 : decode cX7_requireKey 1 = .ok (.iload_n 1, 1) := by decide +kernel
theorem d_X7_requireKey_2 : decode cX7_requireKey 2 = .ok (.invokevirtual 189, 3) := by decide +kernel
abbrev Y_X7_hasKey : YT := (cX7_hasKey, 2, (some .boolean), yX7_hasKey, [], 3)
theorem mk_X7_hasKey : MK Y_X7_hasKey 1 := ⟨KW.at (i := 75) (by decide +kernel) rfl, KW.at (i := 551) (by decide +kernel) rfl, ⟨by decide +kernel, by decide +kernel⟩, by decide +kernel, by decide +kernel, rfl, by decide⟩
theorem vm_X7_hasKey : KW (.instanceMethod (yN Y_X7_hasKey)) ∧ KW (.selects (yN Y_X7_hasKey).cls (yN Y_X7_hasKey) (yN Y_X7_hasKey)) := ⟨KW.at (i := 550) (by decide +kernel) rfl, KW.at (i := 12) (by decide +kernel) rfl⟩
theorem ck_RX7_189 : CKV RX7 189 Y_X7_hasKey 1 := ⟨KW.at (i := 548) (by decide +kernel) rfl, vm_X7_hasKey.1, vm_X7_hasKey.2, mk_X7_hasKey⟩
theorem d_X7_hasKey_0 : decode cX7_hasKey 0 = .ok (.aload_n 0, 1) := by decide +kernel
theorem d_X7_hasKey_1 : decode cX7_hasKey 1 = .ok (.getfield 21, 3) := by decide +kernel
theorem ws_X7 : ∀ w ∈ u_ws RX7 TX7 8, KW w := KW.all (by decide +kernel)
theorem fk_RX7_21 : FK RX7 21 7 0 := ⟨RX7, TX7, 8, rfl, by decide, ws_X7, KW.at (i := 363) (by decide +kernel) rfl⟩
theorem d_X7_hasKey_4 : decode cX7_hasKey 4 = .ok (.iload_n 1, 1) := by decide +kernel
theorem d_X7_hasKey_5 : decode cX7_hasKey 5 = .ok (.invokevirtual 108, 3) := by decide +kernel
abbrev Y_X2_placeOfKey : YT := (cX2_placeOfKey, 2, (some .int), yX2_placeOfKey, [], 2)
theorem mk_X2_placeOfKey : MK Y_X2_placeOfKey 1 := ⟨KW.at (i := 76) (by decide +kernel) rfl, KW.at (i := 416) (by decide +kernel) rfl, ⟨by decide +kernel, by decide +kernel⟩, by decide +kernel, by decide +kernel, rfl, by decide⟩
theorem vm_X2_placeOfKey : KW (.instanceMethod (yN Y_X2_placeOfKey)) ∧ KW (.selects (yN Y_X2_placeOfKey).cls (yN Y_X2_placeOfKey) (yN Y_X2_placeOfKey)) := ⟨KW.at (i := 414) (by decide +kernel) rfl, KW.at (i := 415) (by decide +kernel) rfl⟩
theorem ck_RX7_108 : CKV RX7 108 Y_X2_placeOfKey 1 := ⟨KW.at (i := 413) (by decide +kernel) rfl, vm_X2_placeOfKey.1, vm_X2_placeOfKey.2, mk_X2_placeOfKey⟩
theorem sh_2 : SH.getD 2 (9, 0, []) = (0, 2, [6, 7, 8, 9, 0, 0]) := rfl
theorem d_X2_placeOfKey_0 : decode cX2_placeOfKey 0 = .ok (.aload_n 0, 1) := by decide +kernel
theorem d_X2_placeOfKey_1 : decode cX2_placeOfKey 1 = .ok (.getfield 18, 3) := by decide +kernel
theorem ws_X2 : ∀ w ∈ u_ws RX2 TX2 6, KW w := KW.all (by decide +kernel)
theorem fk_RX2_18 : FK RX2 18 2 2 := ⟨RX2, TX2, 6, rfl, by decide, ws_X2, KW.at (i := 115) (by decide +kernel) rfl⟩
theorem d_X2_placeOfKey_4 : decode cX2_placeOfKey 4 = .ok (.iload_n 1, 1) := by decide +kernel
theorem d_X2_placeOfKey_5 : decode cX2_placeOfKey 5 = .ok (.invokestatic 41, 3) := by decide +kernel
theorem sm_X7_read : KW (.static (yN Y_X7_read)) := KW.at (i := 275) (by decide +kernel) rfl
theorem ck_RX2_41 : CKN RX2 41 Y_X7_read 2 := ⟨KW.at (i := 331) (by decide +kernel) rfl, sm_X7_read, mk_X7_read⟩
theorem sh_5 : SH.getD 5 (9, 0, []) = (1, 80, []) := rfl
theorem d_X2_placeOfKey_8 : decode cX2_placeOfKey 8 = .ok (.ireturn, 1) := by decide +kernel
theorem d_X7_hasKey_8 : decode cX7_hasKey 8 = .ok (.ifCond .eq 7, 3) := by decide +kernel
theorem d_X7_hasKey_15 : decode cX7_hasKey 15 = .ok (.iconst 0, 1) := by decide +kernel
theorem d_X7_hasKey_16 : decode cX7_hasKey 16 = .ok (.ireturn, 1) := by decide +kernel
theorem d_X7_hasKey_11 : decode cX7_hasKey 11 = .ok (.iconst 1, 1) := by decide +kernel
theorem d_X7_hasKey_12 : decode cX7_hasKey 12 = .ok (.goto 4, 3) := by decide +kernel
theorem d_X7_requireKey_5 : decode cX7_requireKey 5 = .ok (.ifCond .ne 14, 3) := by decide +kernel
theorem d_X7_requireKey_19 : decode cX7_requireKey 19 = .ok (.return_, 1) := by decide +kernel
theorem d_X7_requireKey_8 : decode cX7_requireKey 8 = .ok (.new 173, 3) := by decide +kernel
theorem tk_RX7_173_177 : TK RX7 0 173 177 := ⟨KW.at (i := 552) (by decide +kernel) rfl, KW.at (i := 89) (by decide +kernel) rfl, KW.all (by decide +kernel), by decide +kernel, by decide⟩
theorem d_X7_requireKey_11 : decode cX7_requireKey 11 = .ok (.dup, 1) := by decide +kernel
theorem d_X7_requireKey_12 : decode cX7_requireKey 12 = .ok (.ldc_w 346, 3) := by decide +kernel
theorem d_X7_requireKey_15 : decode cX7_requireKey 15 = .ok (.invokespecial 177, 3) := by decide +kernel
theorem d_X7_requireKey_18 : decode cX7_requireKey 18 = .ok (.athrow, 1) := by decide +kernel
theorem d_X7_make_5 : decode cX7_make 5 = .ok (.iload_n 2, 1) := by decide +kernel
theorem d_X7_make_6 : decode cX7_make 6 = .ok (.invokestatic 98, 3) := by decide +kernel
abbrev Y_X7_requireName : YT := (cX7_requireName, 1, none, yX7_requireName, [], 6)
theorem mk_X7_requireName : MK Y_X7_requireName 1 := ⟨KW.at (i := 75) (by decide +kernel) rfl, KW.at (i := 622) (by decide +kernel) rfl, ⟨by decide +kernel, by decide +kernel⟩, by decide +kernel, by decide +kernel, rfl, by decide⟩
theorem sm_X7_requireName : KW (.static (yN Y_X7_requireName)) := KW.at (i := 621) (by decide +kernel) rfl
theorem ck_RX7_98 : CKS RX7 98 Y_X7_requireName 1 := ⟨KW.at (i := 620) (by decide +kernel) rfl, sm_X7_requireName, mk_X7_requireName⟩
theorem d_X7_requireName_0 : decode cX7_requireName 0 = .ok (.iload_n 0, 1) := by decide +kernel
theorem d_X7_requireName_1 : decode cX7_requireName 1 = .ok (.ifCond .lt 10, 3) := by decide +kernel
theorem d_X7_requireName_11 : decode cX7_requireName 11 = .ok (.new 279, 3) := by decide +kernel
theorem tk_RX7_279_283 : TK RX7 1 279 283 := ⟨KW.at (i := 623) (by decide +kernel) rfl, KW.at (i := 90) (by decide +kernel) rfl, KW.all (by decide +kernel), by decide +kernel, by decide⟩
theorem d_X7_requireName_14 : decode cX7_requireName 14 = .ok (.dup, 1) := by decide +kernel
theorem d_X7_requireName_15 : decode cX7_requireName 15 = .ok (.ldc_w 350, 3) := by decide +kernel
theorem d_X7_requireName_18 : decode cX7_requireName 18 = .ok (.invokespecial 283, 3) := by decide +kernel
theorem d_X7_requireName_21 : decode cX7_requireName 21 = .ok (.athrow, 1) := by decide +kernel
theorem d_X7_requireName_4 : decode cX7_requireName 4 = .ok (.iload_n 0, 1) := by decide +kernel
theorem d_X7_requireName_5 : decode cX7_requireName 5 = .ok (.sipush 9999, 3) := by decide +kernel
theorem d_X7_requireName_8 : decode cX7_requireName 8 = .ok (.if_icmp .le 14, 3) := by decide +kernel
theorem d_X7_requireName_22 : decode cX7_requireName 22 = .ok (.return_, 1) := by decide +kernel
theorem d_X7_make_9 : decode cX7_make 9 = .ok (.aload_n 0, 1) := by decide +kernel
theorem d_X7_make_10 : decode cX7_make 10 = .ok (.iload_n 1, 1) := by decide +kernel
theorem d_X7_make_11 : decode cX7_make 11 = .ok (.iload_n 2, 1) := by decide +kernel
theorem d_X7_make_12 : decode cX7_make 12 = .ok (.iconst (-1), 1) := by decide +kernel
theorem d_X7_make_13 : decode cX7_make 13 = .ok (.invokevirtual 101, 3) := by decide +kernel
abbrev Y_X7_makeSubkey : YT := (cX7_makeSubkey, 9, (some .int), yX7_makeSubkey, [], 7)
theorem mk_X7_makeSubkey : MK Y_X7_makeSubkey 3 := ⟨KW.at (i := 75) (by decide +kernel) rfl, KW.at (i := 642) (by decide +kernel) rfl, ⟨by decide +kernel, by decide +kernel⟩, by decide +kernel, by decide +kernel, rfl, by decide⟩
theorem vm_X7_makeSubkey : KW (.instanceMethod (yN Y_X7_makeSubkey)) ∧ KW (.selects (yN Y_X7_makeSubkey).cls (yN Y_X7_makeSubkey) (yN Y_X7_makeSubkey)) := ⟨KW.at (i := 641) (by decide +kernel) rfl, KW.at (i := 14) (by decide +kernel) rfl⟩
theorem ck_RX7_101 : CKV RX7 101 Y_X7_makeSubkey 3 := ⟨KW.at (i := 639) (by decide +kernel) rfl, vm_X7_makeSubkey.1, vm_X7_makeSubkey.2, mk_X7_makeSubkey⟩
theorem d_X7_makeSubkey_0 : decode cX7_makeSubkey 0 = .ok (.aload_n 0, 1) := by decide +kernel
theorem d_X7_makeSubkey_1 : decode cX7_makeSubkey 1 = .ok (.getfield 21, 3) := by decide +kernel
theorem d_X7_makeSubkey_4 : decode cX7_makeSubkey 4 = .ok (.iload_n 1, 1) := by decide +kernel
theorem d_X7_makeSubkey_5 : decode cX7_makeSubkey 5 = .ok (.invokevirtual 108, 3) := by decide +kernel
theorem d_X7_makeSubkey_8 : decode cX7_makeSubkey 8 = .ok (.istore 4, 2) := by decide +kernel
theorem d_X7_makeSubkey_10 : decode cX7_makeSubkey 10 = .ok (.aload_n 0, 1) := by decide +kernel
theorem d_X7_makeSubkey_11 : decode cX7_makeSubkey 11 = .ok (.getfield 21, 3) := by decide +kernel
theorem d_X7_makeSubkey_14 : decode cX7_makeSubkey 14 = .ok (.getfield 370, 3) := by decide +kernel
theorem fk_RX7_370 : FK RX7 370 2 5 := ⟨RX2, TX2, 6, rfl, by decide, ws_X2, KW.at (i := 121) (by decide +kernel) rfl⟩
theorem d_X7_makeSubkey_17 : decode cX7_makeSubkey 17 = .ok (.istore 5, 2) := by decide +kernel
theorem d_X7_makeSubkey_19 : decode cX7_makeSubkey 19 = .ok (.iload 5, 2) := by decide +kernel
theorem d_X7_makeSubkey_21 : decode cX7_makeSubkey 21 = .ok (.iload_n 2, 1) := by decide +kernel
theorem d_X7_makeSubkey_22 : decode cX7_makeSubkey 22 = .ok (.invokestatic 118, 3) := by decide +kernel
abbrev Y_X3_entryOf : YT := (cX3_entryOf, 2, (some .int), yX3_entryOf, [], 2)
theorem mk_X3_entryOf : MK Y_X3_entryOf 2 := ⟨KW.at (i := 78) (by decide +kernel) rfl, KW.at (i := 645) (by decide +kernel) rfl, ⟨by decide +kernel, by decide +kernel⟩, by decide +kernel, by decide +kernel, rfl, by decide⟩
theorem sm_X3_entryOf : KW (.static (yN Y_X3_entryOf)) := KW.at (i := 644) (by decide +kernel) rfl
theorem ck_RX7_118 : CKS RX7 118 Y_X3_entryOf 2 := ⟨KW.at (i := 643) (by decide +kernel) rfl, sm_X3_entryOf, mk_X3_entryOf⟩
theorem d_X3_entryOf_0 : decode cX3_entryOf 0 = .ok (.iload_n 1, 1) := by decide +kernel
theorem d_X3_entryOf_1 : decode cX3_entryOf 1 = .ok (.invokestatic 19, 3) := by decide +kernel
abbrev Y_X3_rankOf : YT := (cX3_rankOf, 1, (some .int), yX3_rankOf, [], 1)
theorem mk_X3_rankOf : MK Y_X3_rankOf 1 := ⟨KW.at (i := 78) (by decide +kernel) rfl, KW.at (i := 648) (by decide +kernel) rfl, ⟨by decide +kernel, by decide +kernel⟩, by decide +kernel, by decide +kernel, rfl, by decide⟩
theorem sm_X3_rankOf : KW (.static (yN Y_X3_rankOf)) := KW.at (i := 647) (by decide +kernel) rfl
theorem ck_RX3_19 : CKS RX3 19 Y_X3_rankOf 1 := ⟨KW.at (i := 646) (by decide +kernel) rfl, sm_X3_rankOf, mk_X3_rankOf⟩
theorem d_X3_rankOf_0 : decode cX3_rankOf 0 = .ok (.bipush 7, 2) := by decide +kernel
theorem d_X3_rankOf_2 : decode cX3_rankOf 2 = .ok (.iload_n 0, 1) := by decide +kernel
theorem d_X3_rankOf_3 : decode cX3_rankOf 3 = .ok (.imul, 1) := by decide +kernel
theorem d_X3_rankOf_4 : decode cX3_rankOf 4 = .ok (.bipush 64, 2) := by decide +kernel
theorem d_X3_rankOf_6 : decode cX3_rankOf 6 = .ok (.irem, 1) := by decide +kernel
theorem d_X3_rankOf_7 : decode cX3_rankOf 7 = .ok (.sipush 10000, 3) := by decide +kernel
theorem d_X3_rankOf_10 : decode cX3_rankOf 10 = .ok (.imul, 1) := by decide +kernel
theorem d_X3_rankOf_11 : decode cX3_rankOf 11 = .ok (.iload_n 0, 1) := by decide +kernel
theorem d_X3_rankOf_12 : decode cX3_rankOf 12 = .ok (.iadd, 1) := by decide +kernel
theorem d_X3_rankOf_13 : decode cX3_rankOf 13 = .ok (.ireturn, 1) := by decide +kernel
theorem d_X3_entryOf_4 : decode cX3_entryOf 4 = .ok (.bipush 80, 2) := by decide +kernel
theorem d_X3_entryOf_6 : decode cX3_entryOf 6 = .ok (.imul, 1) := by decide +kernel
theorem d_X3_entryOf_7 : decode cX3_entryOf 7 = .ok (.iload_n 0, 1) := by decide +kernel
theorem d_X3_entryOf_8 : decode cX3_entryOf 8 = .ok (.iadd, 1) := by decide +kernel
theorem d_X3_entryOf_9 : decode cX3_entryOf 9 = .ok (.ireturn, 1) := by decide +kernel
theorem d_X7_makeSubkey_25 : decode cX7_makeSubkey 25 = .ok (.istore 6, 2) := by decide +kernel
theorem d_X7_makeSubkey_27 : decode cX7_makeSubkey 27 = .ok (.aload_n 0, 1) := by decide +kernel
theorem d_X7_makeSubkey_28 : decode cX7_makeSubkey 28 = .ok (.iload_n 1, 1) := by decide +kernel
theorem d_X7_makeSubkey_29 : decode cX7_makeSubkey 29 = .ok (.invokevirtual 198, 3) := by decide +kernel
abbrev Y_X7_requireNoLink : YT := (cX7_requireNoLink, 2, none, yX7_requireNoLink, [], 6)
theorem mk_X7_requireNoLink : MK Y_X7_requireNoLink 1 := ⟨KW.at (i := 75) (by decide +kernel) rfl, KW.at (i := 652) (by decide +kernel) rfl, ⟨by decide +kernel, by decide +kernel⟩, by decide +kernel, by decide +kernel, rfl, by decide⟩
theorem vm_X7_requireNoLink : KW (.instanceMethod (yN Y_X7_requireNoLink)) ∧ KW (.selects (yN Y_X7_requireNoLink).cls (yN Y_X7_requireNoLink) (yN Y_X7_requireNoLink)) := ⟨KW.at (i := 651) (by decide +kernel) rfl, KW.at (i := 15) (by decide +kernel) rfl⟩
theorem ck_RX7_198 : CKV RX7 198 Y_X7_requireNoLink 1 := ⟨KW.at (i := 649) (by decide +kernel) rfl, vm_X7_requireNoLink.1, vm_X7_requireNoLink.2, mk_X7_requireNoLink⟩
theorem d_X7_requireNoLink_0 : decode cX7_requireNoLink 0 = .ok (.aload_n 0, 1) := by decide +kernel
theorem d_X7_requireNoLink_1 : decode cX7_requireNoLink 1 = .ok (.iload_n 1, 1) := by decide +kernel
theorem d_X7_requireNoLink_2 : decode cX7_requireNoLink 2 = .ok (.invokevirtual 186, 3) := by decide +kernel
abbrev Y_X7_isLink : YT := (cX7_isLink, 2, (some .boolean), yX7_isLink, [], 4)
theorem mk_X7_isLink : MK Y_X7_isLink 1 := ⟨KW.at (i := 75) (by decide +kernel) rfl, KW.at (i := 656) (by decide +kernel) rfl, ⟨by decide +kernel, by decide +kernel⟩, by decide +kernel, by decide +kernel, rfl, by decide⟩
theorem vm_X7_isLink : KW (.instanceMethod (yN Y_X7_isLink)) ∧ KW (.selects (yN Y_X7_isLink).cls (yN Y_X7_isLink) (yN Y_X7_isLink)) := ⟨KW.at (i := 655) (by decide +kernel) rfl, KW.at (i := 16) (by decide +kernel) rfl⟩
theorem ck_RX7_186 : CKV RX7 186 Y_X7_isLink 1 := ⟨KW.at (i := 653) (by decide +kernel) rfl, vm_X7_isLink.1, vm_X7_isLink.2, mk_X7_isLink⟩
theorem d_X7_isLink_0 : decode cX7_isLink 0 = .ok (.aload_n 0, 1) := by decide +kernel
theorem d_X7_isLink_1 : decode cX7_isLink 1 = .ok (.iload_n 1, 1) := by decide +kernel
theorem d_X7_isLink_2 : decode cX7_isLink 2 = .ok (.invokevirtual 189, 3) := by decide +kernel
theorem d_X7_isLink_5 : decode cX7_isLink 5 = .ok (.ifCond .eq 28, 3) := by decide +kernel
theorem d_X7_isLink_33 : decode cX7_isLink 33 = .ok (.iconst 0, 1) := by decide +kernel
theorem d_X7_isLink_34 : decode cX7_isLink 34 = .ok (.ireturn, 1) := by decide +kernel
theorem d_X7_isLink_8 : decode cX7_isLink 8 = .ok (.aload_n 0, 1) := by decide +kernel
theorem d_X7_isLink_9 : decode cX7_isLink 9 = .ok (.getfield 21, 3) := by decide +kernel
theorem d_X7_isLink_12 : decode cX7_isLink 12 = .ok (.aload_n 0, 1) := by decide +kernel
theorem d_X7_isLink_13 : decode cX7_isLink 13 = .ok (.getfield 21, 3) := by decide +kernel
theorem d_X7_isLink_16 : decode cX7_isLink 16 = .ok (.iload_n 1, 1) := by decide +kernel
theorem d_X7_isLink_17 : decode cX7_isLink 17 = .ok (.invokevirtual 108, 3) := by decide +kernel
theorem d_X7_isLink_20 : decode cX7_isLink 20 = .ok (.iconst 5, 1) := by decide +kernel
theorem d_X7_isLink_21 : decode cX7_isLink 21 = .ok (.iadd, 1) := by decide +kernel
theorem d_X7_isLink_22 : decode cX7_isLink 22 = .ok (.invokevirtual 111, 3) := by decide +kernel
abbrev Y_X2_unitAt : YT := (cX2_unitAt, 2, (some .int), yX2_unitAt, [], 2)
theorem mk_X2_unitAt : MK Y_X2_unitAt 1 := ⟨KW.at (i := 76) (by decide +kernel) rfl, KW.at (i := 348) (by decide +kernel) rfl, ⟨by decide +kernel, by decide +kernel⟩, by decide +kernel, by decide +kernel, rfl, by decide⟩
theorem vm_X2_unitAt : KW (.instanceMethod (yN Y_X2_unitAt)) ∧ KW (.selects (yN Y_X2_unitAt).cls (yN Y_X2_unitAt) (yN Y_X2_unitAt)) := ⟨KW.at (i := 346) (by decide +kernel) rfl, KW.at (i := 347) (by decide +kernel) rfl⟩
theorem ck_RX7_111 : CKV RX7 111 Y_X2_unitAt 1 := ⟨KW.at (i := 464) (by decide +kernel) rfl, vm_X2_unitAt.1, vm_X2_unitAt.2, mk_X2_unitAt⟩
theorem d_X2_unitAt_0 : decode cX2_unitAt 0 = .ok (.aload_n 0, 1) := by decide +kernel
theorem d_X2_unitAt_1 : decode cX2_unitAt 1 = .ok (.getfield 15, 3) := by decide +kernel
theorem fk_RX2_15 : FK RX2 15 2 1 := ⟨RX2, TX2, 6, rfl, by decide, ws_X2, KW.at (i := 114) (by decide +kernel) rfl⟩
theorem d_X2_unitAt_4 : decode cX2_unitAt 4 = .ok (.iload_n 1, 1) := by decide +kernel
theorem d_X2_unitAt_5 : decode cX2_unitAt 5 = .ok (.invokestatic 41, 3) := by decide +kernel
theorem sh_4 : SH.getD 4 (9, 0, []) = (1, 1024, []) := rfl
theorem d_X2_unitAt_8 : decode cX2_unitAt 8 = .ok (.ireturn, 1) := by decide +kernel
theorem d_X7_isLink_25 : decode cX7_isLink 25 = .ok (.iconst (-1), 1) := by decide +kernel
theorem d_X7_isLink_26 : decode cX7_isLink 26 = .ok (.if_icmp .eq 7, 3) := by decide +kernel
theorem d_X7_isLink_29 : decode cX7_isLink 29 = .ok (.iconst 1, 1) := by decide +kernel
theorem d_X7_isLink_30 : decode cX7_isLink 30 = .ok (.goto 4, 3) := by decide +kernel
theorem d_X7_requireNoLink_5 : decode cX7_requireNoLink 5 = .ok (.ifCond .eq 14, 3) := by decide +kernel
theorem d_X7_requireNoLink_19 : decode cX7_requireNoLink 19 = .ok (.return_, 1) := by decide +kernel
theorem d_X7_requireNoLink_8 : decode cX7_requireNoLink 8 = .ok (.new 204, 3) := by decide +kernel
theorem tk_RX7_204_208 : TK RX7 2 204 208 := ⟨KW.at (i := 657) (by decide +kernel) rfl, KW.at (i := 91) (by decide +kernel) rfl, KW.all (by decide +kernel), by decide +kernel, by decide⟩
theorem d_X7_requireNoLink_11 : decode cX7_requireNoLink 11 = .ok (.dup, 1) := by decide +kernel
theorem d_X7_requireNoLink_12 : decode cX7_requireNoLink 12 = .ok (.ldc_w 362, 3) := by decide +kernel
theorem d_X7_requireNoLink_15 : decode cX7_requireNoLink 15 = .ok (.invokespecial 208, 3) := by decide +kernel
theorem d_X7_requireNoLink_18 : decode cX7_requireNoLink 18 = .ok (.athrow, 1) := by decide +kernel
theorem d_X7_makeSubkey_32 : decode cX7_makeSubkey 32 = .ok (.aload_n 0, 1) := by decide +kernel
theorem d_X7_makeSubkey_33 : decode cX7_makeSubkey 33 = .ok (.iload 4, 2) := by decide +kernel
theorem d_X7_makeSubkey_35 : decode cX7_makeSubkey 35 = .ok (.iload_n 2, 1) := by decide +kernel
theorem d_X7_makeSubkey_36 : decode cX7_makeSubkey 36 = .ok (.invokevirtual 114, 3) := by decide +kernel
abbrev Y_X7_requireNameFree : YT := (cX7_requireNameFree, 3, none, yX7_requireNameFree, [], 6)
theorem mk_X7_requireNameFree : MK Y_X7_requireNameFree 2 := ⟨KW.at (i := 75) (by decide +kernel) rfl, KW.at (i := 676) (by decide +kernel) rfl, ⟨by decide +kernel, by decide +kernel⟩, by decide +kernel, by decide +kernel, rfl, by decide⟩
theorem vm_X7_requireNameFree : KW (.instanceMethod (yN Y_X7_requireNameFree)) ∧ KW (.selects (yN Y_X7_requireNameFree).cls (yN Y_X7_requireNameFree) (yN Y_X7_requireNameFree)) := ⟨KW.at (i := 675) (by decide +kernel) rfl, KW.at (i := 17) (by decide +kernel) rfl⟩
theorem ck_RX7_114 : CKV RX7 114 Y_X7_requireNameFree 2 := ⟨KW.at (i := 673) (by decide +kernel) rfl, vm_X7_requireNameFree.1, vm_X7_requireNameFree.2, mk_X7_requireNameFree⟩
theorem d_X7_requireNameFree_0 : decode cX7_requireNameFree 0 = .ok (.aload_n 0, 1) := by decide +kernel
theorem d_X7_requireNameFree_1 : decode cX7_requireNameFree 1 = .ok (.getfield 34, 3) := by decide +kernel
theorem fk_RX7_34 : FK RX7 34 7 2 := ⟨RX7, TX7, 8, rfl, by decide, ws_X7, KW.at (i := 365) (by decide +kernel) rfl⟩
theorem d_X7_requireNameFree_4 : decode cX7_requireNameFree 4 = .ok (.iload_n 1, 1) := by decide +kernel
theorem d_X7_requireNameFree_5 : decode cX7_requireNameFree 5 = .ok (.iload_n 2, 1) := by decide +kernel
theorem d_X7_requireNameFree_6 : decode cX7_requireNameFree 6 = .ok (.invokevirtual 167, 3) := by decide +kernel
abbrev Y_X3_subkeyNamed : YT := (cX3_subkeyNamed, 6, (some .int), yX3_subkeyNamed, [], 4)
theorem mk_X3_subkeyNamed : MK Y_X3_subkeyNamed 2 := ⟨KW.at (i := 78) (by decide +kernel) rfl, KW.at (i := 680) (by decide +kernel) rfl, ⟨by decide +kernel, by decide +kernel⟩, by decide +kernel, by decide +kernel, rfl, by decide⟩
theorem vm_X3_subkeyNamed : KW (.instanceMethod (yN Y_X3_subkeyNamed)) ∧ KW (.selects (yN Y_X3_subkeyNamed).cls (yN Y_X3_subkeyNamed) (yN Y_X3_subkeyNamed)) := ⟨KW.at (i := 678) (by decide +kernel) rfl, KW.at (i := 679) (by decide +kernel) rfl⟩
theorem ck_RX7_167 : CKV RX7 167 Y_X3_subkeyNamed 2 := ⟨KW.at (i := 677) (by decide +kernel) rfl, vm_X3_subkeyNamed.1, vm_X3_subkeyNamed.2, mk_X3_subkeyNamed⟩
theorem sh_11 : SH.getD 11 (9, 0, []) = (0, 3, [5, 10]) := rfl
theorem d_X3_subkeyNamed_0 : decode cX3_subkeyNamed 0 = .ok (.aload_n 0, 1) := by decide +kernel
theorem d_X3_subkeyNamed_1 : decode cX3_subkeyNamed 1 = .ok (.iload_n 1, 1) := by decide +kernel
theorem d_X3_subkeyNamed_2 : decode cX3_subkeyNamed 2 = .ok (.invokevirtual 35, 3) := by decide +kernel
abbrev Y_X3_leafCount : YT := (cX3_leafCount, 3, (some .int), yX3_leafCount, [], 3)
theorem mk_X3_leafCount : MK Y_X3_leafCount 1 := ⟨KW.at (i := 78) (by decide +kernel) rfl, KW.at (i := 429) (by decide +kernel) rfl, ⟨by decide +kernel, by decide +kernel⟩, by decide +kernel, by decide +kernel, rfl, by decide⟩
theorem vm_X3_leafCount : KW (.instanceMethod (yN Y_X3_leafCount)) ∧ KW (.selects (yN Y_X3_leafCount).cls (yN Y_X3_leafCount) (yN Y_X3_leafCount)) := ⟨KW.at (i := 427) (by decide +kernel) rfl, KW.at (i := 428) (by decide +kernel) rfl⟩
theorem ck_RX3_35 : CKV RX3 35 Y_X3_leafCount 1 := ⟨KW.at (i := 426) (by decide +kernel) rfl, vm_X3_leafCount.1, vm_X3_leafCount.2, mk_X3_leafCount⟩
theorem d_X3_leafCount_0 : decode cX3_leafCount 0 = .ok (.aload_n 0, 1) := by decide +kernel
theorem d_X3_leafCount_1 : decode cX3_leafCount 1 = .ok (.getfield 9, 3) := by decide +kernel
theorem ws_X3 : ∀ w ∈ u_ws RX3 TX3 2, KW w := KW.all (by decide +kernel)
theorem fk_RX3_9 : FK RX3 9 3 0 := ⟨RX3, TX3, 2, rfl, by decide, ws_X3, KW.at (i := 168) (by decide +kernel) rfl⟩
theorem d_X3_leafCount_4 : decode cX3_leafCount 4 = .ok (.iload_n 1, 1) := by decide +kernel
theorem d_X3_leafCount_5 : decode cX3_leafCount 5 = .ok (.iconst 2, 1) := by decide +kernel
theorem d_X3_leafCount_6 : decode cX3_leafCount 6 = .ok (.iadd, 1) := by decide +kernel
theorem d_X3_leafCount_7 : decode cX3_leafCount 7 = .ok (.invokevirtual 23, 3) := by decide +kernel
theorem ck_RX3_23 : CKV RX3 23 Y_X2_unitAt 1 := ⟨KW.at (i := 425) (by decide +kernel) rfl, vm_X2_unitAt.1, vm_X2_unitAt.2, mk_X2_unitAt⟩
theorem d_X3_leafCount_10 : decode cX3_leafCount 10 = .ok (.istore_n 2, 1) := by decide +kernel
theorem d_X3_leafCount_11 : decode cX3_leafCount 11 = .ok (.iload_n 2, 1) := by decide +kernel
theorem d_X3_leafCount_12 : decode cX3_leafCount 12 = .ok (.ifCond .ne 5, 3) := by decide +kernel
theorem d_X3_leafCount_17 : decode cX3_leafCount 17 = .ok (.aload_n 0, 1) := by decide +kernel
theorem d_X3_leafCount_18 : decode cX3_leafCount 18 = .ok (.iload_n 2, 1) := by decide +kernel
theorem d_X3_leafCount_19 : decode cX3_leafCount 19 = .ok (.invokevirtual 28, 3) := by decide +kernel
abbrev Y_X3_isIndex : YT := (cX3_isIndex, 2, (some .boolean), yX3_isIndex, [], 2)
theorem mk_X3_isIndex : MK Y_X3_isIndex 1 := ⟨KW.at (i := 78) (by decide +kernel) rfl, KW.at (i := 433) (by decide +kernel) rfl, ⟨by decide +kernel, by decide +kernel⟩, by decide +kernel, by decide +kernel, rfl, by decide⟩
theorem vm_X3_isIndex : KW (.instanceMethod (yN Y_X3_isIndex)) ∧ KW (.selects (yN Y_X3_isIndex).cls (yN Y_X3_isIndex) (yN Y_X3_isIndex)) := ⟨KW.at (i := 432) (by decide +kernel) rfl, KW.at (i := 5) (by decide +kernel) rfl⟩
theorem ck_RX3_28 : CKV RX3 28 Y_X3_isIndex 1 := ⟨KW.at (i := 430) (by decide +kernel) rfl, vm_X3_isIndex.1, vm_X3_isIndex.2, mk_X3_isIndex⟩
theorem d_X3_isIndex_0 : decode cX3_isIndex 0 = .ok (.aload_n 0, 1) := by decide +kernel
theorem d_X3_isIndex_1 : decode cX3_isIndex 1 = .ok (.getfield 9, 3) := by decide +kernel
theorem d_X3_isIndex_4 : decode cX3_isIndex 4 = .ok (.getfield 93, 3) := by decide +kernel
theorem fk_RX3_93 : FK RX3 93 2 0 := ⟨RX2, TX2, 6, rfl, by decide, ws_X2, KW.at (i := 113) (by decide +kernel) rfl⟩
theorem d_X3_isIndex_7 : decode cX3_isIndex 7 = .ok (.iload_n 1, 1) := by decide +kernel
theorem d_X3_isIndex_8 : decode cX3_isIndex 8 = .ok (.invokestatic 97, 3) := by decide +kernel
theorem ck_RX3_97 : CKN RX3 97 Y_X7_read 2 := ⟨KW.at (i := 434) (by decide +kernel) rfl, sm_X7_read, mk_X7_read⟩
theorem sh_3 : SH.getD 3 (9, 0, []) = (1, 1024, []) := rfl
theorem d_X3_isIndex_11 : decode cX3_isIndex 11 = .ok (.bipush 9, 2) := by decide +kernel
theorem d_X3_isIndex_13 : decode cX3_isIndex 13 = .ok (.if_icmp .ne 7, 3) := by decide +kernel
theorem d_X3_isIndex_20 : decode cX3_isIndex 20 = .ok (.iconst 0, 1) := by decide +kernel
theorem d_X3_isIndex_21 : decode cX3_isIndex 21 = .ok (.ireturn, 1) := by decide +kernel
theorem d_X3_isIndex_16 : decode cX3_isIndex 16 = .ok (.iconst 1, 1) := by decide +kernel
theorem d_X3_isIndex_17 : decode cX3_isIndex 17 = .ok (.goto 4, 3) := by decide +kernel
theorem d_X3_leafCount_22 : decode cX3_leafCount 22 = .ok (.ifCond .eq 14, 3) := by decide +kernel
theorem d_X3_leafCount_36 : decode cX3_leafCount 36 = .ok (.iconst 1, 1) := by decide +kernel
theorem d_X3_leafCount_37 : decode cX3_leafCount 37 = .ok (.ireturn, 1) := by decide +kernel
theorem d_X3_leafCount_25 : decode cX3_leafCount 25 = .ok (.aload_n 0, 1) := by decide +kernel
theorem d_X3_leafCount_26 : decode cX3_leafCount 26 = .ok (.getfield 9, 3) := by decide +kernel
theorem d_X3_leafCount_29 : decode cX3_leafCount 29 = .ok (.iload_n 2, 1) := by decide +kernel
theorem d_X3_leafCount_30 : decode cX3_leafCount 30 = .ok (.invokevirtual 32, 3) := by decide +kernel
abbrev Y_X2_itemCount : YT := (cX2_itemCount, 2, (some .int), yX2_itemCount, [], 2)
theorem mk_X2_itemCount : MK Y_X2_itemCount 1 := ⟨KW.at (i := 76) (by decide +kernel) rfl, KW.at (i := 438) (by decide +kernel) rfl, ⟨by decide +kernel, by decide +kernel⟩, by decide +kernel, by decide +kernel, rfl, by decide⟩
theorem vm_X2_itemCount : KW (.instanceMethod (yN Y_X2_itemCount)) ∧ KW (.selects (yN Y_X2_itemCount).cls (yN Y_X2_itemCount) (yN Y_X2_itemCount)) := ⟨KW.at (i := 436) (by decide +kernel) rfl, KW.at (i := 437) (by decide +kernel) rfl⟩
theorem ck_RX3_32 : CKV RX3 32 Y_X2_itemCount 1 := ⟨KW.at (i := 435) (by decide +kernel) rfl, vm_X2_itemCount.1, vm_X2_itemCount.2, mk_X2_itemCount⟩
theorem d_X2_itemCount_0 : decode cX2_itemCount 0 = .ok (.aload_n 0, 1) := by decide +kernel
theorem d_X2_itemCount_1 : decode cX2_itemCount 1 = .ok (.getfield 15, 3) := by decide +kernel
theorem d_X2_itemCount_4 : decode cX2_itemCount 4 = .ok (.iload_n 1, 1) := by decide +kernel
theorem d_X2_itemCount_5 : decode cX2_itemCount 5 = .ok (.invokestatic 41, 3) := by decide +kernel
theorem d_X2_itemCount_8 : decode cX2_itemCount 8 = .ok (.ireturn, 1) := by decide +kernel
theorem d_X3_leafCount_33 : decode cX3_leafCount 33 = .ok (.goto 4, 3) := by decide +kernel
theorem d_X3_leafCount_15 : decode cX3_leafCount 15 = .ok (.iconst 0, 1) := by decide +kernel
theorem d_X3_leafCount_16 : decode cX3_leafCount 16 = .ok (.ireturn, 1) := by decide +kernel
theorem d_X3_subkeyNamed_5 : decode cX3_subkeyNamed 5 = .ok (.istore_n 3, 1) := by decide +kernel
theorem d_X3_subkeyNamed_6 : decode cX3_subkeyNamed 6 = .ok (.iconst 0, 1) := by decide +kernel
theorem d_X3_subkeyNamed_7 : decode cX3_subkeyNamed 7 = .ok (.istore 4, 2) := by decide +kernel
theorem d_X3_subkeyNamed_9 : decode cX3_subkeyNamed 9 = .ok (.iload 4, 2) := by decide +kernel
theorem d_X3_subkeyNamed_11 : decode cX3_subkeyNamed 11 = .ok (.iload_n 3, 1) := by decide +kernel
theorem d_X3_subkeyNamed_12 : decode cX3_subkeyNamed 12 = .ok (.if_icmp .ge 32, 3) := by decide +kernel
theorem d_X3_subkeyNamed_44 : decode cX3_subkeyNamed 44 = .ok (.iconst (-1), 1) := by decide +kernel
theorem d_X3_subkeyNamed_45 : decode cX3_subkeyNamed 45 = .ok (.ireturn, 1) := by decide +kernel
theorem d_X3_subkeyNamed_15 : decode cX3_subkeyNamed 15 = .ok (.aload_n 0, 1) := by decide +kernel
theorem d_X3_subkeyNamed_16 : decode cX3_subkeyNamed 16 = .ok (.aload_n 0, 1) := by decide +kernel
theorem d_X3_subkeyNamed_17 : decode cX3_subkeyNamed 17 = .ok (.iload_n 1, 1) := by decide +kernel
theorem d_X3_subkeyNamed_18 : decode cX3_subkeyNamed 18 = .ok (.iload 4, 2) := by decide +kernel
theorem d_X3_subkeyNamed_20 : decode cX3_subkeyNamed 20 = .ok (.invokevirtual 38, 3) := by decide +kernel
abbrev Y_X3_leafNumbered : YT := (cX3_leafNumbered, 4, (some .int), yX3_leafNumbered, [], 3)
theorem mk_X3_leafNumbered : MK Y_X3_leafNumbered 2 := ⟨KW.at (i := 78) (by decide +kernel) rfl, KW.at (i := 443) (by decide +kernel) rfl, ⟨by decide +kernel, by decide +kernel⟩, by decide +kernel, by decide +kernel, rfl, by decide⟩
theorem vm_X3_leafNumbered : KW (.instanceMethod (yN Y_X3_leafNumbered)) ∧ KW (.selects (yN Y_X3_leafNumbered).cls (yN Y_X3_leafNumbered) (yN Y_X3_leafNumbered)) := ⟨KW.at (i := 442) (by decide +kernel) rfl, KW.at (i := 6) (by decide +kernel) rfl⟩
theorem ck_RX3_38 : CKV RX3 38 Y_X3_leafNumbered 2 := ⟨KW.at (i := 440) (by decide +kernel) rfl, vm_X3_leafNumbered.1, vm_X3_leafNumbered.2, mk_X3_leafNumbered⟩
theorem d_X3_leafNumbered_0 : decode cX3_leafNumbered 0 = .ok (.aload_n 0, 1) := by decide +kernel
theorem d_X3_leafNumbered_1 : decode cX3_leafNumbered 1 = .ok (.getfield 9, 3) := by decide +kernel
theorem d_X3_leafNumbered_4 : decode cX3_leafNumbered 4 = .ok (.iload_n 1, 1) := by decide +kernel
theorem d_X3_leafNumbered_5 : decode cX3_leafNumbered 5 = .ok (.iconst 2, 1) := by decide +kernel
theorem d_X3_leafNumbered_6 : decode cX3_leafNumbered 6 = .ok (.iadd, 1) := by decide +kernel
theorem d_X3_leafNumbered_7 : decode cX3_leafNumbered 7 = .ok (.invokevirtual 23, 3) := by decide +kernel
theorem d_X3_leafNumbered_10 : decode cX3_leafNumbered 10 = .ok (.istore_n 3, 1) := by decide +kernel
theorem d_X3_leafNumbered_11 : decode cX3_leafNumbered 11 = .ok (.aload_n 0, 1) := by decide +kernel
theorem d_X3_leafNumbered_12 : decode cX3_leafNumbered 12 = .ok (.iload_n 3, 1) := by decide +kernel
theorem d_X3_leafNumbered_13 : decode cX3_leafNumbered 13 = .ok (.invokevirtual 28, 3) := by decide +kernel
theorem d_X3_leafNumbered_16 : decode cX3_leafNumbered 16 = .ok (.ifCond .eq 15, 3) := by decide +kernel
theorem d_X3_leafNumbered_31 : decode cX3_leafNumbered 31 = .ok (.iload_n 3, 1) := by decide +kernel
theorem d_X3_leafNumbered_32 : decode cX3_leafNumbered 32 = .ok (.ireturn, 1) := by decide +kernel
theorem d_X3_leafNumbered_19 : decode cX3_leafNumbered 19 = .ok (.aload_n 0, 1) := by decide +kernel
theorem d_X3_leafNumbered_20 : decode cX3_leafNumbered 20 = .ok (.getfield 9, 3) := by decide +kernel
theorem d_X3_leafNumbered_23 : decode cX3_leafNumbered 23 = .ok (.iload_n 3, 1) := by decide +kernel
theorem d_X3_leafNumbered_24 : decode cX3_leafNumbered 24 = .ok (.iload_n 2, 1) := by decide +kernel
theorem d_X3_leafNumbered_25 : decode cX3_leafNumbered 25 = .ok (.invokevirtual 45, 3) := by decide +kernel
abbrev Y_X2_item : YT := (cX2_item, 3, (some .int), yX2_item, [], 2)
theorem mk_X2_item : MK Y_X2_item 2 := ⟨KW.at (i := 76) (by decide +kernel) rfl, KW.at (i := 447) (by decide +kernel) rfl, ⟨by decide +kernel, by decide +kernel⟩, by decide +kernel, by decide +kernel, rfl, by decide⟩
theorem vm_X2_item : KW (.instanceMethod (yN Y_X2_item)) ∧ KW (.selects (yN Y_X2_item).cls (yN Y_X2_item) (yN Y_X2_item)) := ⟨KW.at (i := 445) (by decide +kernel) rfl, KW.at (i := 446) (by decide +kernel) rfl⟩
theorem ck_RX3_45 : CKV RX3 45 Y_X2_item 2 := ⟨KW.at (i := 444) (by decide +kernel) rfl, vm_X2_item.1, vm_X2_item.2, mk_X2_item⟩
theorem d_X2_item_0 : decode cX2_item 0 = .ok (.aload_n 0, 1) := by decide +kernel
theorem d_X2_item_1 : decode cX2_item 1 = .ok (.getfield 15, 3) := by decide +kernel
theorem d_X2_item_4 : decode cX2_item 4 = .ok (.iload_n 1, 1) := by decide +kernel
theorem d_X2_item_5 : decode cX2_item 5 = .ok (.iconst 1, 1) := by decide +kernel
theorem d_X2_item_6 : decode cX2_item 6 = .ok (.iadd, 1) := by decide +kernel
theorem d_X2_item_7 : decode cX2_item 7 = .ok (.iload_n 2, 1) := by decide +kernel
theorem d_X2_item_8 : decode cX2_item 8 = .ok (.iadd, 1) := by decide +kernel
theorem d_X2_item_9 : decode cX2_item 9 = .ok (.invokestatic 41, 3) := by decide +kernel
theorem d_X2_item_12 : decode cX2_item 12 = .ok (.ireturn, 1) := by decide +kernel
theorem d_X3_leafNumbered_28 : decode cX3_leafNumbered 28 = .ok (.goto 4, 3) := by decide +kernel
theorem d_X3_subkeyNamed_23 : decode cX3_subkeyNamed 23 = .ok (.iload_n 2, 1) := by decide +kernel
theorem d_X3_subkeyNamed_24 : decode cX3_subkeyNamed 24 = .ok (.invokevirtual 42, 3) := by decide +kernel
abbrev Y_X3_keyInLeaf : YT := (cX3_keyInLeaf, 6, (some .int), yX3_keyInLeaf, [], 3)
theorem mk_X3_keyInLeaf : MK Y_X3_keyInLeaf 2 := ⟨KW.at (i := 78) (by decide +kernel) rfl, KW.at (i := 684) (by decide +kernel) rfl, ⟨by decide +kernel, by decide +kernel⟩, by decide +kernel, by decide +kernel, rfl, by decide⟩
theorem vm_X3_keyInLeaf : KW (.instanceMethod (yN Y_X3_keyInLeaf)) ∧ KW (.selects (yN Y_X3_keyInLeaf).cls (yN Y_X3_keyInLeaf) (yN Y_X3_keyInLeaf)) := ⟨KW.at (i := 683) (by decide +kernel) rfl, KW.at (i := 18) (by decide +kernel) rfl⟩
theorem ck_RX3_42 : CKV RX3 42 Y_X3_keyInLeaf 2 := ⟨KW.at (i := 681) (by decide +kernel) rfl, vm_X3_keyInLeaf.1, vm_X3_keyInLeaf.2, mk_X3_keyInLeaf⟩
theorem d_X3_keyInLeaf_0 : decode cX3_keyInLeaf 0 = .ok (.aload_n 0, 1) := by decide +kernel
theorem d_X3_keyInLeaf_1 : decode cX3_keyInLeaf 1 = .ok (.getfield 9, 3) := by decide +kernel
theorem d_X3_keyInLeaf_4 : decode cX3_keyInLeaf 4 = .ok (.iload_n 1, 1) := by decide +kernel
theorem d_X3_keyInLeaf_5 : decode cX3_keyInLeaf 5 = .ok (.invokevirtual 32, 3) := by decide +kernel
theorem d_X3_keyInLeaf_8 : decode cX3_keyInLeaf 8 = .ok (.istore_n 3, 1) := by decide +kernel
theorem d_X3_keyInLeaf_9 : decode cX3_keyInLeaf 9 = .ok (.iconst 0, 1) := by decide +kernel
theorem d_X3_keyInLeaf_10 : decode cX3_keyInLeaf 10 = .ok (.istore 4, 2) := by decide +kernel
theorem d_X3_keyInLeaf_12 : decode cX3_keyInLeaf 12 = .ok (.iload 4, 2) := by decide +kernel
theorem d_X3_keyInLeaf_14 : decode cX3_keyInLeaf 14 = .ok (.iload_n 3, 1) := by decide +kernel
theorem d_X3_keyInLeaf_15 : decode cX3_keyInLeaf 15 = .ok (.if_icmp .ge 39, 3) := by decide +kernel
theorem d_X3_keyInLeaf_54 : decode cX3_keyInLeaf 54 = .ok (.iconst (-1), 1) := by decide +kernel
theorem d_X3_keyInLeaf_55 : decode cX3_keyInLeaf 55 = .ok (.ireturn, 1) := by decide +kernel
theorem d_X3_keyInLeaf_18 : decode cX3_keyInLeaf 18 = .ok (.aload_n 0, 1) := by decide +kernel
theorem d_X3_keyInLeaf_19 : decode cX3_keyInLeaf 19 = .ok (.getfield 9, 3) := by decide +kernel
theorem d_X3_keyInLeaf_22 : decode cX3_keyInLeaf 22 = .ok (.iload_n 1, 1) := by decide +kernel
theorem d_X3_keyInLeaf_23 : decode cX3_keyInLeaf 23 = .ok (.iload 4, 2) := by decide +kernel
theorem d_X3_keyInLeaf_25 : decode cX3_keyInLeaf 25 = .ok (.invokevirtual 45, 3) := by decide +kernel
theorem d_X3_keyInLeaf_28 : decode cX3_keyInLeaf 28 = .ok (.istore 5, 2) := by decide +kernel
theorem d_X3_keyInLeaf_30 : decode cX3_keyInLeaf 30 = .ok (.iload 5, 2) := by decide +kernel
theorem d_X3_keyInLeaf_32 : decode cX3_keyInLeaf 32 = .ok (.bipush 80, 2) := by decide +kernel
theorem d_X3_keyInLeaf_34 : decode cX3_keyInLeaf 34 = .ok (.idiv, 1) := by decide +kernel
theorem d_X3_keyInLeaf_35 : decode cX3_keyInLeaf 35 = .ok (.iload_n 2, 1) := by decide +kernel
theorem d_X3_keyInLeaf_36 : decode cX3_keyInLeaf 36 = .ok (.invokestatic 19, 3) := by decide +kernel
theorem d_X3_keyInLeaf_39 : decode cX3_keyInLeaf 39 = .ok (.if_icmp .ne 9, 3) := by decide +kernel
theorem d_X3_keyInLeaf_48 : decode cX3_keyInLeaf 48 = .ok (.iinc 4 1, 3) := by decide +kernel
theorem d_X3_keyInLeaf_51 : decode cX3_keyInLeaf 51 = .ok (.goto (-39), 3) := by decide +kernel
theorem d_X3_keyInLeaf_42 : decode cX3_keyInLeaf 42 = .ok (.iload 5, 2) := by decide +kernel
theorem d_X3_keyInLeaf_44 : decode cX3_keyInLeaf 44 = .ok (.bipush 80, 2) := by decide +kernel
theorem d_X3_keyInLeaf_46 : decode cX3_keyInLeaf 46 = .ok (.irem, 1) := by decide +kernel
theorem d_X3_keyInLeaf_47 : decode cX3_keyInLeaf 47 = .ok (.ireturn, 1) := by decide +kernel
theorem d_X3_subkeyNamed_27 : decode cX3_subkeyNamed 27 = .ok (.istore 5, 2) := by decide +kernel
theorem d_X3_subkeyNamed_29 : decode cX3_subkeyNamed 29 = .ok (.iload 5, 2) := by decide +kernel
theorem d_X3_subkeyNamed_31 : decode cX3_subkeyNamed 31 = .ok (.iconst (-1), 1) := by decide +kernel
theorem d_X3_subkeyNamed_32 : decode cX3_subkeyNamed 32 = .ok (.if_icmp .eq 6, 3) := by decide +kernel
theorem d_X3_subkeyNamed_38 : decode cX3_subkeyNamed 38 = .ok (.iinc 4 1, 3) := by decide +kernel
theorem d_X3_subkeyNamed_41 : decode cX3_subkeyNamed 41 = .ok (.goto (-32), 3) := by decide +kernel
theorem d_X3_subkeyNamed_35 : decode cX3_subkeyNamed 35 = .ok (.iload 5, 2) := by decide +kernel
theorem d_X3_subkeyNamed_37 : decode cX3_subkeyNamed 37 = .ok (.ireturn, 1) := by decide +kernel
theorem d_X7_requireNameFree_9 : decode cX7_requireNameFree 9 = .ok (.iconst (-1), 1) := by decide +kernel
theorem d_X7_requireNameFree_10 : decode cX7_requireNameFree 10 = .ok (.if_icmp .eq 14, 3) := by decide +kernel
theorem d_X7_requireNameFree_24 : decode cX7_requireNameFree 24 = .ok (.return_, 1) := by decide +kernel
theorem d_X7_requireNameFree_13 : decode cX7_requireNameFree 13 = .ok (.new 204, 3) := by decide +kernel
theorem d_X7_requireNameFree_16 : decode cX7_requireNameFree 16 = .ok (.dup, 1) := by decide +kernel
theorem d_X7_requireNameFree_17 : decode cX7_requireNameFree 17 = .ok (.ldc_w 364, 3) := by decide +kernel
theorem d_X7_requireNameFree_20 : decode cX7_requireNameFree 20 = .ok (.invokespecial 208, 3) := by decide +kernel
theorem d_X7_requireNameFree_23 : decode cX7_requireNameFree 23 = .ok (.athrow, 1) := by decide +kernel
theorem d_X7_makeSubkey_39 : decode cX7_makeSubkey 39 = .ok (.iload 5, 2) := by decide +kernel
theorem d_X7_makeSubkey_41 : decode cX7_makeSubkey 41 = .ok (.bipush 80, 2) := by decide +kernel
theorem d_X7_makeSubkey_43 : decode cX7_makeSubkey 43 = .ok (.if_icmp .lt 14, 3) := by decide +kernel
theorem d_X7_makeSubkey_57 : decode cX7_makeSubkey 57 = .ok (.aload_n 0, 1) := by decide +kernel
theorem d_X7_makeSubkey_58 : decode cX7_makeSubkey 58 = .ok (.getfield 25, 3) := by decide +kernel
theorem fk_RX7_25 : FK RX7 25 7 1 := ⟨RX7, TX7, 8, rfl, by decide, ws_X7, KW.at (i := 364) (by decide +kernel) rfl⟩
theorem d_X7_makeSubkey_61 : decode cX7_makeSubkey 61 = .ok (.invokevirtual 66, 3) := by decide +kernel
abbrev Y_X0_wantNothing : YT := (cX0_wantNothing, 1, none, yX0_wantNothing, [], 1)
theorem mk_X0_wantNothing : MK Y_X0_wantNothing 0 := ⟨KW.at (i := 77) (by decide +kernel) rfl, KW.at (i := 261) (by decide +kernel) rfl, ⟨by decide +kernel, by decide +kernel⟩, by decide +kernel, by decide +kernel, rfl, by decide⟩
theorem vm_X0_wantNothing : KW (.instanceMethod (yN Y_X0_wantNothing)) ∧ KW (.selects (yN Y_X0_wantNothing).cls (yN Y_X0_wantNothing) (yN Y_X0_wantNothing)) := ⟨KW.at (i := 259) (by decide +kernel) rfl, KW.at (i := 260) (by decide +kernel) rfl⟩
theorem ck_RX7_66 : CKV RX7 66 Y_X0_wantNothing 0 := ⟨KW.at (i := 258) (by decide +kernel) rfl, vm_X0_wantNothing.1, vm_X0_wantNothing.2, mk_X0_wantNothing⟩
theorem sh_7 : SH.getD 7 (9, 0, []) = (0, 0, [5, 11, 12, 13, 0, 2]) := rfl
theorem d_X0_wantNothing_0 : decode cX0_wantNothing 0 = .ok (.aload_n 0, 1) := by decide +kernel
theorem d_X0_wantNothing_1 : decode cX0_wantNothing 1 = .ok (.iconst 0, 1) := by decide +kernel
theorem d_X0_wantNothing_2 : decode cX0_wantNothing 2 = .ok (.putfield 27, 3) := by decide +kernel
theorem ws_X0 : ∀ w ∈ u_ws RX0 TX0 6, KW w := KW.all (by decide +kernel)
theorem pk_RX0_27 : PK RX0 27 0 4 .int := ⟨RX0, TX0, 6, tyX0, rfl, by decide, ws_X0, KW.at (i := 146) (by decide +kernel) rfl, tyX0_ok, nmX0, rfl, rfl⟩
theorem d_X0_wantNothing_5 : decode cX0_wantNothing 5 = .ok (.return_, 1) := by decide +kernel
theorem d_X7_makeSubkey_64 : decode cX7_makeSubkey 64 = .ok (.aload_n 0, 1) := by decide +kernel
theorem d_X7_makeSubkey_65 : decode cX7_makeSubkey 65 = .ok (.getfield 25, 3) := by decide +kernel
theorem d_X7_makeSubkey_68 : decode cX7_makeSubkey 68 = .ok (.bipush 6, 2) := by decide +kernel
theorem d_X7_makeSubkey_70 : decode cX7_makeSubkey 70 = .ok (.invokevirtual 69, 3) := by decide +kernel
abbrev Y_X0_want : YT := (cX0_want, 2, none, yX0_want, [], 2)
theorem mk_X0_want : MK Y_X0_want 1 := ⟨KW.at (i := 77) (by decide +kernel) rfl, KW.at (i := 265) (by decide +kernel) rfl, ⟨by decide +kernel, by decide +kernel⟩, by decide +kernel, by decide +kernel, rfl, by decide⟩
theorem vm_X0_want : KW (.instanceMethod (yN Y_X0_want)) ∧ KW (.selects (yN Y_X0_want).cls (yN Y_X0_want) (yN Y_X0_want)) := ⟨KW.at (i := 263) (by decide +kernel) rfl, KW.at (i := 264) (by decide +kernel) rfl⟩
theorem ck_RX7_69 : CKV RX7 69 Y_X0_want 1 := ⟨KW.at (i := 262) (by decide +kernel) rfl, vm_X0_want.1, vm_X0_want.2, mk_X0_want⟩
theorem d_X0_want_0 : decode cX0_want 0 = .ok (.aload_n 0, 1) := by decide +kernel
theorem d_X0_want_1 : decode cX0_want 1 = .ok (.getfield 11, 3) := by decide +kernel
theorem fk_RX0_11 : FK RX0 11 0 1 := ⟨RX0, TX0, 6, rfl, by decide, ws_X0, KW.at (i := 143) (by decide +kernel) rfl⟩
theorem d_X0_want_4 : decode cX0_want 4 = .ok (.aload_n 0, 1) := by decide +kernel
theorem d_X0_want_5 : decode cX0_want 5 = .ok (.getfield 27, 3) := by decide +kernel
theorem fk_RX0_27 : FK RX0 27 0 4 := ⟨RX0, TX0, 6, rfl, by decide, ws_X0, KW.at (i := 146) (by decide +kernel) rfl⟩
theorem d_X0_want_8 : decode cX0_want 8 = .ok (.iload_n 1, 1) := by decide +kernel
theorem d_X0_want_9 : decode cX0_want 9 = .ok (.invokestatic 31, 3) := by decide +kernel
theorem sm_X7_store : KW (.static (yN Y_X7_store)) := KW.at (i := 109) (by decide +kernel) rfl
theorem ck_RX0_31 : CKN RX0 31 Y_X7_store 3 := ⟨KW.at (i := 266) (by decide +kernel) rfl, sm_X7_store, mk_X7_store⟩
theorem sh_8 : SH.getD 8 (9, 0, []) = (1, 6, []) := rfl
theorem d_X0_want_12 : decode cX0_want 12 = .ok (.aload_n 0, 1) := by decide +kernel
theorem d_X0_want_13 : decode cX0_want 13 = .ok (.dup, 1) := by decide +kernel
theorem d_X0_want_14 : decode cX0_want 14 = .ok (.getfield 27, 3) := by decide +kernel
theorem d_X0_want_17 : decode cX0_want 17 = .ok (.iconst 1, 1) := by decide +kernel
theorem d_X0_want_18 : decode cX0_want 18 = .ok (.iadd, 1) := by decide +kernel
theorem d_X0_want_19 : decode cX0_want 19 = .ok (.putfield 27, 3) := by decide +kernel
theorem d_X0_want_22 : decode cX0_want 22 = .ok (.return_, 1) := by decide +kernel
theorem d_X7_makeSubkey_73 : decode cX7_makeSubkey 73 = .ok (.aload_n 0, 1) := by decide +kernel
theorem d_X7_makeSubkey_74 : decode cX7_makeSubkey 74 = .ok (.getfield 34, 3) := by decide +kernel
theorem d_X7_makeSubkey_77 : decode cX7_makeSubkey 77 = .ok (.iload 4, 2) := by decide +kernel
theorem d_X7_makeSubkey_79 : decode cX7_makeSubkey 79 = .ok (.iload 6, 2) := by decide +kernel
theorem d_X7_makeSubkey_81 : decode cX7_makeSubkey 81 = .ok (.invokevirtual 122, 3) := by decide +kernel
abbrev Y_X3_wantFor : YT := (cX3_wantFor, 5, (some .boolean), yX3_wantFor, [], 5)
theorem mk_X3_wantFor : MK Y_X3_wantFor 2 := ⟨KW.at (i := 78) (by decide +kernel) rfl, KW.at (i := 690) (by decide +kernel) rfl, ⟨by decide +kernel, by decide +kernel⟩, by decide +kernel, by decide +kernel, rfl, by decide⟩
theorem vm_X3_wantFor : KW (.instanceMethod (yN Y_X3_wantFor)) ∧ KW (.selects (yN Y_X3_wantFor).cls (yN Y_X3_wantFor) (yN Y_X3_wantFor)) := ⟨KW.at (i := 688) (by decide +kernel) rfl, KW.at (i := 689) (by decide +kernel) rfl⟩
theorem ck_RX7_122 : CKV RX7 122 Y_X3_wantFor 2 := ⟨KW.at (i := 687) (by decide +kernel) rfl, vm_X3_wantFor.1, vm_X3_wantFor.2, mk_X3_wantFor⟩
theorem d_X3_wantFor_0 : decode cX3_wantFor 0 = .ok (.aload_n 0, 1) := by decide +kernel
theorem d_X3_wantFor_1 : decode cX3_wantFor 1 = .ok (.iload_n 1, 1) := by decide +kernel
theorem d_X3_wantFor_2 : decode cX3_wantFor 2 = .ok (.invokevirtual 35, 3) := by decide +kernel
theorem d_X3_wantFor_5 : decode cX3_wantFor 5 = .ok (.istore_n 3, 1) := by decide +kernel
theorem d_X3_wantFor_6 : decode cX3_wantFor 6 = .ok (.aload_n 0, 1) := by decide +kernel
theorem d_X3_wantFor_7 : decode cX3_wantFor 7 = .ok (.iload_n 1, 1) := by decide +kernel
theorem d_X3_wantFor_8 : decode cX3_wantFor 8 = .ok (.aload_n 0, 1) := by decide +kernel
theorem d_X3_wantFor_9 : decode cX3_wantFor 9 = .ok (.iload_n 1, 1) := by decide +kernel
theorem d_X3_wantFor_10 : decode cX3_wantFor 10 = .ok (.iload_n 2, 1) := by decide +kernel
theorem d_X3_wantFor_11 : decode cX3_wantFor 11 = .ok (.invokevirtual 51, 3) := by decide +kernel
abbrev Y_X3_leafNumberFor : YT := (cX3_leafNumberFor, 6, (some .int), yX3_leafNumberFor, [], 4)
theorem mk_X3_leafNumberFor : MK Y_X3_leafNumberFor 2 := ⟨KW.at (i := 78) (by decide +kernel) rfl, KW.at (i := 694) (by decide +kernel) rfl, ⟨by decide +kernel, by decide +kernel⟩, by decide +kernel, by decide +kernel, rfl, by decide⟩
theorem vm_X3_leafNumberFor : KW (.instanceMethod (yN Y_X3_leafNumberFor)) ∧ KW (.selects (yN Y_X3_leafNumberFor).cls (yN Y_X3_leafNumberFor) (yN Y_X3_leafNumberFor)) := ⟨KW.at (i := 693) (by decide +kernel) rfl, KW.at (i := 19) (by decide +kernel) rfl⟩
theorem ck_RX3_51 : CKV RX3 51 Y_X3_leafNumberFor 2 := ⟨KW.at (i := 691) (by decide +kernel) rfl, vm_X3_leafNumberFor.1, vm_X3_leafNumberFor.2, mk_X3_leafNumberFor⟩
theorem d_X3_leafNumberFor_0 : decode cX3_leafNumberFor 0 = .ok (.aload_n 0, 1) := by decide +kernel
theorem d_X3_leafNumberFor_1 : decode cX3_leafNumberFor 1 = .ok (.iload_n 1, 1) := by decide +kernel
theorem d_X3_leafNumberFor_2 : decode cX3_leafNumberFor 2 = .ok (.invokevirtual 35, 3) := by decide +kernel
theorem d_X3_leafNumberFor_5 : decode cX3_leafNumberFor 5 = .ok (.istore_n 3, 1) := by decide +kernel
theorem d_X3_leafNumberFor_6 : decode cX3_leafNumberFor 6 = .ok (.iconst 0, 1) := by decide +kernel
theorem d_X3_leafNumberFor_7 : decode cX3_leafNumberFor 7 = .ok (.istore 4, 2) := by decide +kernel
theorem d_X3_leafNumberFor_9 : decode cX3_leafNumberFor 9 = .ok (.iconst 1, 1) := by decide +kernel
theorem d_X3_leafNumberFor_10 : decode cX3_leafNumberFor 10 = .ok (.istore 5, 2) := by decide +kernel
theorem d_X3_leafNumberFor_12 : decode cX3_leafNumberFor 12 = .ok (.iload 5, 2) := by decide +kernel
theorem d_X3_leafNumberFor_14 : decode cX3_leafNumberFor 14 = .ok (.iload_n 3, 1) := by decide +kernel
theorem d_X3_leafNumberFor_15 : decode cX3_leafNumberFor 15 = .ok (.if_icmp .ge 32, 3) := by decide +kernel
theorem d_X3_leafNumberFor_47 : decode cX3_leafNumberFor 47 = .ok (.iload 4, 2) := by decide +kernel
theorem d_X3_leafNumberFor_49 : decode cX3_leafNumberFor 49 = .ok (.ireturn, 1) := by decide +kernel
theorem d_X3_leafNumberFor_18 : decode cX3_leafNumberFor 18 = .ok (.aload_n 0, 1) := by decide +kernel
theorem d_X3_leafNumberFor_19 : decode cX3_leafNumberFor 19 = .ok (.getfield 9, 3) := by decide +kernel
theorem d_X3_leafNumberFor_22 : decode cX3_leafNumberFor 22 = .ok (.aload_n 0, 1) := by decide +kernel
theorem d_X3_leafNumberFor_23 : decode cX3_leafNumberFor 23 = .ok (.iload_n 1, 1) := by decide +kernel
theorem d_X3_leafNumberFor_24 : decode cX3_leafNumberFor 24 = .ok (.iload 5, 2) := by decide +kernel
theorem d_X3_leafNumberFor_26 : decode cX3_leafNumberFor 26 = .ok (.invokevirtual 38, 3) := by decide +kernel
theorem d_X3_leafNumberFor_29 : decode cX3_leafNumberFor 29 = .ok (.iconst 0, 1) := by decide +kernel
theorem d_X3_leafNumberFor_30 : decode cX3_leafNumberFor 30 = .ok (.invokevirtual 45, 3) := by decide +kernel
theorem d_X3_leafNumberFor_33 : decode cX3_leafNumberFor 33 = .ok (.iload_n 2, 1) := by decide +kernel
theorem d_X3_leafNumberFor_34 : decode cX3_leafNumberFor 34 = .ok (.if_icmp .gt 7, 3) := by decide +kernel
theorem d_X3_leafNumberFor_41 : decode cX3_leafNumberFor 41 = .ok (.iinc 5 1, 3) := by decide +kernel
theorem d_X3_leafNumberFor_44 : decode cX3_leafNumberFor 44 = .ok (.goto (-32), 3) := by decide +kernel
theorem d_X3_leafNumberFor_37 : decode cX3_leafNumberFor 37 = .ok (.iload 5, 2) := by decide +kernel
theorem d_X3_leafNumberFor_39 : decode cX3_leafNumberFor 39 = .ok (.istore 4, 2) := by decide +kernel
theorem d_X3_wantFor_14 : decode cX3_wantFor 14 = .ok (.invokevirtual 38, 3) := by decide +kernel
theorem d_X3_wantFor_17 : decode cX3_wantFor 17 = .ok (.istore 4, 2) := by decide +kernel
theorem d_X3_wantFor_19 : decode cX3_wantFor 19 = .ok (.iload_n 3, 1) := by decide +kernel
theorem d_X3_wantFor_20 : decode cX3_wantFor 20 = .ok (.ifCond .le 18, 3) := by decide +kernel
theorem d_X3_wantFor_38 : decode cX3_wantFor 38 = .ok (.iload_n 3, 1) := by decide +kernel
theorem d_X3_wantFor_39 : decode cX3_wantFor 39 = .ok (.iconst 1, 1) := by decide +kernel
theorem d_X3_wantFor_40 : decode cX3_wantFor 40 = .ok (.if_icmp .ne 12, 3) := by decide +kernel
theorem d_X3_wantFor_52 : decode cX3_wantFor 52 = .ok (.aload_n 0, 1) := by decide +kernel
theorem d_X3_wantFor_53 : decode cX3_wantFor 53 = .ok (.getfield 15, 3) := by decide +kernel
theorem fk_RX3_15 : FK RX3 15 3 1 := ⟨RX3, TX3, 2, rfl, by decide, ws_X3, KW.at (i := 169) (by decide +kernel) rfl⟩
theorem d_X3_wantFor_56 : decode cX3_wantFor 56 = .ok (.iconst 5, 1) := by decide +kernel
theorem d_X3_wantFor_57 : decode cX3_wantFor 57 = .ok (.invokevirtual 54, 3) := by decide +kernel
theorem ck_RX3_54 : CKV RX3 54 Y_X0_want 1 := ⟨KW.at (i := 695) (by decide +kernel) rfl, vm_X0_want.1, vm_X0_want.2, mk_X0_want⟩
theorem d_X3_wantFor_60 : decode cX3_wantFor 60 = .ok (.iload_n 3, 1) := by decide +kernel
theorem d_X3_wantFor_61 : decode cX3_wantFor 61 = .ok (.bipush 8, 2) := by decide +kernel
theorem d_X3_wantFor_63 : decode cX3_wantFor 63 = .ok (.if_icmp .ge 7, 3) := by decide +kernel
theorem d_X3_wantFor_70 : decode cX3_wantFor 70 = .ok (.iconst 0, 1) := by decide +kernel
theorem d_X3_wantFor_71 : decode cX3_wantFor 71 = .ok (.ireturn, 1) := by decide +kernel
theorem d_X3_wantFor_66 : decode cX3_wantFor 66 = .ok (.iconst 1, 1) := by decide +kernel
theorem d_X3_wantFor_67 : decode cX3_wantFor 67 = .ok (.goto 4, 3) := by decide +kernel
theorem d_X3_wantFor_43 : decode cX3_wantFor 43 = .ok (.aload_n 0, 1) := by decide +kernel
theorem d_X3_wantFor_44 : decode cX3_wantFor 44 = .ok (.getfield 15, 3) := by decide +kernel
theorem d_X3_wantFor_47 : decode cX3_wantFor 47 = .ok (.bipush 9, 2) := by decide +kernel
theorem d_X3_wantFor_49 : decode cX3_wantFor 49 = .ok (.invokevirtual 54, 3) := by decide +kernel
theorem d_X3_wantFor_23 : decode cX3_wantFor 23 = .ok (.aload_n 0, 1) := by decide +kernel
theorem d_X3_wantFor_24 : decode cX3_wantFor 24 = .ok (.getfield 9, 3) := by decide +kernel
theorem d_X3_wantFor_27 : decode cX3_wantFor 27 = .ok (.iload 4, 2) := by decide +kernel
theorem d_X3_wantFor_29 : decode cX3_wantFor 29 = .ok (.invokevirtual 32, 3) := by decide +kernel
theorem d_X3_wantFor_32 : decode cX3_wantFor 32 = .ok (.iconst 4, 1) := by decide +kernel
theorem d_X3_wantFor_33 : decode cX3_wantFor 33 = .ok (.if_icmp .ge 5, 3) := by decide +kernel
theorem d_X3_wantFor_36 : decode cX3_wantFor 36 = .ok (.iconst 1, 1) := by decide +kernel
theorem d_X3_wantFor_37 : decode cX3_wantFor 37 = .ok (.ireturn, 1) := by decide +kernel
theorem d_X7_makeSubkey_84 : decode cX7_makeSubkey 84 = .ok (.invokestatic 126, 3) := by decide +kernel
abbrev Y_X7_requireListNotFull : YT := (cX7_requireListNotFull, 1, none, yX7_requireListNotFull, [], 6)
theorem mk_X7_requireListNotFull : MK Y_X7_requireListNotFull 1 := ⟨KW.at (i := 75) (by decide +kernel) rfl, KW.at (i := 698) (by decide +kernel) rfl, ⟨by decide +kernel, by decide +kernel⟩, by decide +kernel, by decide +kernel, rfl, by decide⟩
theorem sm_X7_requireListNotFull : KW (.static (yN Y_X7_requireListNotFull)) := KW.at (i := 697) (by decide +kernel) rfl
theorem ck_RX7_126 : CKS RX7 126 Y_X7_requireListNotFull 1 := ⟨KW.at (i := 696) (by decide +kernel) rfl, sm_X7_requireListNotFull, mk_X7_requireListNotFull⟩
theorem d_X7_requireListNotFull_0 : decode cX7_requireListNotFull 0 = .ok (.iload_n 0, 1) := by decide +kernel
theorem d_X7_requireListNotFull_1 : decode cX7_requireListNotFull 1 = .ok (.ifCond .ne 14, 3) := by decide +kernel
theorem d_X7_requireListNotFull_15 : decode cX7_requireListNotFull 15 = .ok (.return_, 1) := by decide +kernel
theorem d_X7_requireListNotFull_4 : decode cX7_requireListNotFull 4 = .ok (.new 204, 3) := by decide +kernel
theorem d_X7_requireListNotFull_7 : decode cX7_requireListNotFull 7 = .ok (.dup, 1) := by decide +kernel
theorem d_X7_requireListNotFull_8 : decode cX7_requireListNotFull 8 = .ok (.ldc_w 366, 3) := by decide +kernel
theorem d_X7_requireListNotFull_11 : decode cX7_requireListNotFull 11 = .ok (.invokespecial 208, 3) := by decide +kernel
theorem d_X7_requireListNotFull_14 : decode cX7_requireListNotFull 14 = .ok (.athrow, 1) := by decide +kernel
theorem d_X7_makeSubkey_87 : decode cX7_makeSubkey 87 = .ok (.aload_n 0, 1) := by decide +kernel
theorem d_X7_makeSubkey_88 : decode cX7_makeSubkey 88 = .ok (.getfield 25, 3) := by decide +kernel
theorem d_X7_makeSubkey_91 : decode cX7_makeSubkey 91 = .ok (.invokevirtual 73, 3) := by decide +kernel
abbrev Y_X0_getAllWanted : YT := (cX0_getAllWanted, 4, (some .boolean), yX0_getAllWanted, [], 5)
theorem mk_X0_getAllWanted : MK Y_X0_getAllWanted 0 := ⟨KW.at (i := 77) (by decide +kernel) rfl, KW.at (i := 270) (by decide +kernel) rfl, ⟨by decide +kernel, by decide +kernel⟩, by decide +kernel, by decide +kernel, rfl, by decide⟩
theorem vm_X0_getAllWanted : KW (.instanceMethod (yN Y_X0_getAllWanted)) ∧ KW (.selects (yN Y_X0_getAllWanted).cls (yN Y_X0_getAllWanted) (yN Y_X0_getAllWanted)) := ⟨KW.at (i := 268) (by decide +kernel) rfl, KW.at (i := 269) (by decide +kernel) rfl⟩
theorem ck_RX7_73 : CKV RX7 73 Y_X0_getAllWanted 0 := ⟨KW.at (i := 267) (by decide +kernel) rfl, vm_X0_getAllWanted.1, vm_X0_getAllWanted.2, mk_X0_getAllWanted⟩
theorem d_X0_getAllWanted_0 : decode cX0_getAllWanted 0 = .ok (.aload_n 0, 1) := by decide +kernel
theorem d_X0_getAllWanted_1 : decode cX0_getAllWanted 1 = .ok (.getfield 23, 3) := by decide +kernel
theorem fk_RX0_23 : FK RX0 23 0 0 := ⟨RX0, TX0, 6, rfl, by decide, ws_X0, KW.at (i := 142) (by decide +kernel) rfl⟩
theorem d_X0_getAllWanted_4 : decode cX0_getAllWanted 4 = .ok (.getfield 35, 3) := by decide +kernel
theorem fk_RX0_35 : FK RX0 35 2 4 := ⟨RX2, TX2, 6, rfl, by decide, ws_X2, KW.at (i := 118) (by decide +kernel) rfl⟩
theorem d_X0_getAllWanted_7 : decode cX0_getAllWanted 7 = .ok (.istore_n 1, 1) := by decide +kernel
theorem d_X0_getAllWanted_8 : decode cX0_getAllWanted 8 = .ok (.aload_n 0, 1) := by decide +kernel
theorem d_X0_getAllWanted_9 : decode cX0_getAllWanted 9 = .ok (.getfield 23, 3) := by decide +kernel
theorem d_X0_getAllWanted_12 : decode cX0_getAllWanted 12 = .ok (.getfield 38, 3) := by decide +kernel
theorem fk_RX0_38 : FK RX0 38 2 0 := ⟨RX2, TX2, 6, rfl, by decide, ws_X2, KW.at (i := 112) (by decide +kernel) rfl⟩
theorem d_X0_getAllWanted_15 : decode cX0_getAllWanted 15 = .ok (.iconst 0, 1) := by decide +kernel
theorem d_X0_getAllWanted_16 : decode cX0_getAllWanted 16 = .ok (.aload_n 0, 1) := by decide +kernel
theorem d_X0_getAllWanted_17 : decode cX0_getAllWanted 17 = .ok (.getfield 20, 3) := by decide +kernel
theorem fk_RX0_20 : FK RX0 20 0 3 := ⟨RX0, TX0, 6, rfl, by decide, ws_X0, KW.at (i := 145) (by decide +kernel) rfl⟩
theorem d_X0_getAllWanted_20 : decode cX0_getAllWanted 20 = .ok (.iconst 0, 1) := by decide +kernel
theorem d_X0_getAllWanted_21 : decode cX0_getAllWanted 21 = .ok (.aload_n 0, 1) := by decide +kernel
theorem d_X0_getAllWanted_22 : decode cX0_getAllWanted 22 = .ok (.getfield 20, 3) := by decide +kernel
theorem d_X0_getAllWanted_25 : decode cX0_getAllWanted 25 = .ok (.arraylength, 1) := by decide +kernel
theorem sh_10 : SH.getD 10 (9, 0, []) = (1, 1024, []) := rfl
theorem d_X0_getAllWanted_26 : decode cX0_getAllWanted 26 = .ok (.invokestatic 41, 3) := by decide +kernel
theorem ak_RX0_41 : AK RX0 41 := ⟨KW.at (i := 271) (by decide +kernel) rfl, KW.at (i := 273) (by decide +kernel) rfl, KW.at (i := 272) (by decide +kernel) rfl, KW.at (i := 83) (by decide +kernel) rfl⟩
theorem d_X0_getAllWanted_29 : decode cX0_getAllWanted 29 = .ok (.iconst 0, 1) := by decide +kernel
theorem d_X0_getAllWanted_30 : decode cX0_getAllWanted 30 = .ok (.istore_n 2, 1) := by decide +kernel
theorem d_X0_getAllWanted_31 : decode cX0_getAllWanted 31 = .ok (.iload_n 2, 1) := by decide +kernel
theorem d_X0_getAllWanted_32 : decode cX0_getAllWanted 32 = .ok (.aload_n 0, 1) := by decide +kernel
theorem d_X0_getAllWanted_33 : decode cX0_getAllWanted 33 = .ok (.getfield 27, 3) := by decide +kernel
theorem d_X0_getAllWanted_36 : decode cX0_getAllWanted 36 = .ok (.if_icmp .ge 66, 3) := by decide +kernel
theorem d_X0_getAllWanted_39 : decode cX0_getAllWanted 39 = .ok (.aload_n 0, 1) := by decide +kernel
theorem d_X0_getAllWanted_40 : decode cX0_getAllWanted 40 = .ok (.aload_n 0, 1) := by decide +kernel
theorem d_X0_getAllWanted_41 : decode cX0_getAllWanted 41 = .ok (.getfield 11, 3) := by decide +kernel
theorem d_X0_getAllWanted_44 : decode cX0_getAllWanted 44 = .ok (.iload_n 2, 1) := by decide +kernel
theorem d_X0_getAllWanted_45 : decode cX0_getAllWanted 45 = .ok (.invokestatic 47, 3) := by decide +kernel
theorem ck_RX0_47 : CKN RX0 47 Y_X7_read 2 := ⟨KW.at (i := 274) (by decide +kernel) rfl, sm_X7_read, mk_X7_read⟩
theorem d_X0_getAllWanted_48 : decode cX0_getAllWanted 48 = .ok (.invokevirtual 51, 3) := by decide +kernel
abbrev Y_X0_getCell : YT := (cX0_getCell, 4, (some .int), yX0_getCell, [], 4)
theorem mk_X0_getCell : MK Y_X0_getCell 1 := ⟨KW.at (i := 77) (by decide +kernel) rfl, KW.at (i := 280) (by decide +kernel) rfl, ⟨by decide +kernel, by decide +kernel⟩, by decide +kernel, by decide +kernel, rfl, by decide⟩
theorem vm_X0_getCell : KW (.instanceMethod (yN Y_X0_getCell)) ∧ KW (.selects (yN Y_X0_getCell).cls (yN Y_X0_getCell) (yN Y_X0_getCell)) := ⟨KW.at (i := 279) (by decide +kernel) rfl, KW.at (i := 0) (by decide +kernel) rfl⟩
theorem ck_RX0_51 : CKV RX0 51 Y_X0_getCell 1 := ⟨KW.at (i := 277) (by decide +kernel) rfl, vm_X0_getCell.1, vm_X0_getCell.2, mk_X0_getCell⟩
theorem d_X0_getCell_0 : decode cX0_getCell 0 = .ok (.aload_n 0, 1) := by decide +kernel
theorem d_X0_getCell_1 : decode cX0_getCell 1 = .ok (.iload_n 1, 1) := by decide +kernel
theorem d_X0_getCell_2 : decode cX0_getCell 2 = .ok (.invokevirtual 79, 3) := by decide +kernel
abbrev Y_X0_firstFreeFor : YT := (cX0_firstFreeFor, 5, (some .int), yX0_firstFreeFor, [], 2)
theorem mk_X0_firstFreeFor : MK Y_X0_firstFreeFor 1 := ⟨KW.at (i := 77) (by decide +kernel) rfl, KW.at (i := 284) (by decide +kernel) rfl, ⟨by decide +kernel, by decide +kernel⟩, by decide +kernel, by decide +kernel, rfl, by decide⟩
theorem vm_X0_firstFreeFor : KW (.instanceMethod (yN Y_X0_firstFreeFor)) ∧ KW (.selects (yN Y_X0_firstFreeFor).cls (yN Y_X0_firstFreeFor) (yN Y_X0_firstFreeFor)) := ⟨KW.at (i := 283) (by decide +kernel) rfl, KW.at (i := 1) (by decide +kernel) rfl⟩
theorem ck_RX0_79 : CKV RX0 79 Y_X0_firstFreeFor 1 := ⟨KW.at (i := 281) (by decide +kernel) rfl, vm_X0_firstFreeFor.1, vm_X0_firstFreeFor.2, mk_X0_firstFreeFor⟩
theorem d_X0_firstFreeFor_0 : decode cX0_firstFreeFor 0 = .ok (.aload_n 0, 1) := by decide +kernel
theorem d_X0_firstFreeFor_1 : decode cX0_firstFreeFor 1 = .ok (.getfield 23, 3) := by decide +kernel
theorem d_X0_firstFreeFor_4 : decode cX0_firstFreeFor 4 = .ok (.invokevirtual 66, 3) := by decide +kernel
abbrev Y_X2_end : YT := (cX2_end, 1, (some .int), yX2_end, [], 1)
theorem mk_X2_end : MK Y_X2_end 0 := ⟨KW.at (i := 76) (by decide +kernel) rfl, KW.at (i := 288) (by decide +kernel) rfl, ⟨by decide +kernel, by decide +kernel⟩, by decide +kernel, by decide +kernel, rfl, by decide⟩
theorem vm_X2_end : KW (.instanceMethod (yN Y_X2_end)) ∧ KW (.selects (yN Y_X2_end).cls (yN Y_X2_end) (yN Y_X2_end)) := ⟨KW.at (i := 286) (by decide +kernel) rfl, KW.at (i := 287) (by decide +kernel) rfl⟩
theorem ck_RX0_66 : CKV RX0 66 Y_X2_end 0 := ⟨KW.at (i := 285) (by decide +kernel) rfl, vm_X2_end.1, vm_X2_end.2, mk_X2_end⟩
theorem d_X2_end_0 : decode cX2_end 0 = .ok (.aload_n 0, 1) := by decide +kernel
theorem d_X2_end_1 : decode cX2_end 1 = .ok (.getfield 24, 3) := by decide +kernel
theorem fk_RX2_24 : FK RX2 24 2 4 := ⟨RX2, TX2, 6, rfl, by decide, ws_X2, KW.at (i := 117) (by decide +kernel) rfl⟩
theorem d_X2_end_4 : decode cX2_end 4 = .ok (.bipush 16, 2) := by decide +kernel
theorem d_X2_end_6 : decode cX2_end 6 = .ok (.imul, 1) := by decide +kernel
theorem d_X2_end_7 : decode cX2_end 7 = .ok (.ireturn, 1) := by decide +kernel
theorem d_X0_firstFreeFor_7 : decode cX0_firstFreeFor 7 = .ok (.istore_n 2, 1) := by decide +kernel
theorem d_X0_firstFreeFor_8 : decode cX0_firstFreeFor 8 = .ok (.iconst 4, 1) := by decide +kernel
theorem d_X0_firstFreeFor_9 : decode cX0_firstFreeFor 9 = .ok (.istore_n 3, 1) := by decide +kernel
theorem d_X0_firstFreeFor_10 : decode cX0_firstFreeFor 10 = .ok (.iload_n 3, 1) := by decide +kernel
theorem d_X0_firstFreeFor_11 : decode cX0_firstFreeFor 11 = .ok (.iload_n 2, 1) := by decide +kernel
theorem d_X0_firstFreeFor_12 : decode cX0_firstFreeFor 12 = .ok (.if_icmp .ge 40, 3) := by decide +kernel
theorem d_X0_firstFreeFor_52 : decode cX0_firstFreeFor 52 = .ok (.iconst 0, 1) := by decide +kernel
theorem d_X0_firstFreeFor_53 : decode cX0_firstFreeFor 53 = .ok (.ireturn, 1) := by decide +kernel
theorem d_X0_firstFreeFor_15 : decode cX0_firstFreeFor 15 = .ok (.aload_n 0, 1) := by decide +kernel
theorem d_X0_firstFreeFor_16 : decode cX0_firstFreeFor 16 = .ok (.getfield 23, 3) := by decide +kernel
theorem d_X0_firstFreeFor_19 : decode cX0_firstFreeFor 19 = .ok (.getfield 38, 3) := by decide +kernel
theorem d_X0_firstFreeFor_22 : decode cX0_firstFreeFor 22 = .ok (.iload_n 3, 1) := by decide +kernel
theorem d_X0_firstFreeFor_23 : decode cX0_firstFreeFor 23 = .ok (.invokestatic 47, 3) := by decide +kernel
theorem d_X0_firstFreeFor_26 : decode cX0_firstFreeFor 26 = .ok (.istore 4, 2) := by decide +kernel
theorem d_X0_firstFreeFor_28 : decode cX0_firstFreeFor 28 = .ok (.iload 4, 2) := by decide +kernel
theorem d_X0_firstFreeFor_30 : decode cX0_firstFreeFor 30 = .ok (.ineg, 1) := by decide +kernel
theorem d_X0_firstFreeFor_31 : decode cX0_firstFreeFor 31 = .ok (.iload_n 1, 1) := by decide +kernel
theorem d_X0_firstFreeFor_32 : decode cX0_firstFreeFor 32 = .ok (.if_icmp .lt 5, 3) := by decide +kernel
theorem d_X0_firstFreeFor_37 : decode cX0_firstFreeFor 37 = .ok (.iload_n 3, 1) := by decide +kernel
theorem d_X0_firstFreeFor_38 : decode cX0_firstFreeFor 38 = .ok (.iconst 1, 1) := by decide +kernel
theorem d_X0_firstFreeFor_39 : decode cX0_firstFreeFor 39 = .ok (.iload 4, 2) := by decide +kernel
theorem d_X0_firstFreeFor_41 : decode cX0_firstFreeFor 41 = .ok (.invokestatic 76, 3) := by decide +kernel
theorem mx_RX0_76 : MX RX0 76 Lib.Math.abs.name Lib.Math.abs.code 1 := ⟨KW.at (i := 289) (by decide +kernel) rfl, KW.at (i := 290) (by decide +kernel) rfl, KW.at (i := 84) (by decide +kernel) rfl, KW.at (i := 291) (by decide +kernel) rfl⟩
theorem d_X0_firstFreeFor_44 : decode cX0_firstFreeFor 44 = .ok (.invokestatic 70, 3) := by decide +kernel
theorem mx_RX0_70 : MX RX0 70 Lib.Math.max.name Lib.Math.max.code 2 := ⟨KW.at (i := 292) (by decide +kernel) rfl, KW.at (i := 293) (by decide +kernel) rfl, KW.at (i := 84) (by decide +kernel) rfl, KW.at (i := 294) (by decide +kernel) rfl⟩
theorem d_X0_firstFreeFor_47 : decode cX0_firstFreeFor 47 = .ok (.iadd, 1) := by decide +kernel
theorem d_X0_firstFreeFor_48 : decode cX0_firstFreeFor 48 = .ok (.istore_n 3, 1) := by decide +kernel
theorem d_X0_firstFreeFor_49 : decode cX0_firstFreeFor 49 = .ok (.goto (-39), 3) := by decide +kernel
theorem d_X0_firstFreeFor_35 : decode cX0_firstFreeFor 35 = .ok (.iload_n 3, 1) := by decide +kernel
theorem d_X0_firstFreeFor_36 : decode cX0_firstFreeFor 36 = .ok (.ireturn, 1) := by decide +kernel
theorem d_X0_getCell_5 : decode cX0_getCell 5 = .ok (.istore_n 2, 1) := by decide +kernel
theorem d_X0_getCell_6 : decode cX0_getCell 6 = .ok (.aload_n 0, 1) := by decide +kernel
theorem d_X0_getCell_7 : decode cX0_getCell 7 = .ok (.getfield 23, 3) := by decide +kernel
theorem d_X0_getCell_10 : decode cX0_getCell 10 = .ok (.getfield 35, 3) := by decide +kernel
theorem d_X0_getCell_13 : decode cX0_getCell 13 = .ok (.istore_n 3, 1) := by decide +kernel
theorem d_X0_getCell_14 : decode cX0_getCell 14 = .ok (.iload_n 3, 1) := by decide +kernel
theorem d_X0_getCell_15 : decode cX0_getCell 15 = .ok (.bipush 64, 2) := by decide +kernel
theorem d_X0_getCell_17 : decode cX0_getCell 17 = .ok (.if_icmp .ge 23, 3) := by decide +kernel
theorem d_X0_getCell_20 : decode cX0_getCell 20 = .ok (.iload_n 2, 1) := by decide +kernel
theorem d_X0_getCell_21 : decode cX0_getCell 21 = .ok (.ifCond .ne 19, 3) := by decide +kernel
theorem d_X0_getCell_24 : decode cX0_getCell 24 = .ok (.aload_n 0, 1) := by decide +kernel
theorem d_X0_getCell_25 : decode cX0_getCell 25 = .ok (.invokevirtual 82, 3) := by decide +kernel
abbrev Y_X0_addSector : YT := (cX0_addSector, 4, none, yX0_addSector, [], 3)
theorem mk_X0_addSector : MK Y_X0_addSector 0 := ⟨KW.at (i := 77) (by decide +kernel) rfl, KW.at (i := 298) (by decide +kernel) rfl, ⟨by decide +kernel, by decide +kernel⟩, by decide +kernel, by decide +kernel, rfl, by decide⟩
theorem vm_X0_addSector : KW (.instanceMethod (yN Y_X0_addSector)) ∧ KW (.selects (yN Y_X0_addSector).cls (yN Y_X0_addSector) (yN Y_X0_addSector)) := ⟨KW.at (i := 297) (by decide +kernel) rfl, KW.at (i := 2) (by decide +kernel) rfl⟩
theorem ck_RX0_82 : CKV RX0 82 Y_X0_addSector 0 := ⟨KW.at (i := 295) (by decide +kernel) rfl, vm_X0_addSector.1, vm_X0_addSector.2, mk_X0_addSector⟩
theorem d_X0_addSector_0 : decode cX0_addSector 0 = .ok (.aload_n 0, 1) := by decide +kernel
theorem d_X0_addSector_1 : decode cX0_addSector 1 = .ok (.getfield 23, 3) := by decide +kernel
theorem d_X0_addSector_4 : decode cX0_addSector 4 = .ok (.invokevirtual 66, 3) := by decide +kernel
theorem d_X0_addSector_7 : decode cX0_addSector 7 = .ok (.istore_n 1, 1) := by decide +kernel
theorem d_X0_addSector_8 : decode cX0_addSector 8 = .ok (.aload_n 0, 1) := by decide +kernel
theorem d_X0_addSector_9 : decode cX0_addSector 9 = .ok (.iload_n 1, 1) := by decide +kernel
theorem d_X0_addSector_10 : decode cX0_addSector 10 = .ok (.invokevirtual 59, 3) := by decide +kernel
abbrev Y_X0_cellAhead : YT := (cX0_cellAhead, 3, (some .int), yX0_cellAhead, [], 2)
theorem mk_X0_cellAhead : MK Y_X0_cellAhead 1 := ⟨KW.at (i := 77) (by decide +kernel) rfl, KW.at (i := 302) (by decide +kernel) rfl, ⟨by decide +kernel, by decide +kernel⟩, by decide +kernel, by decide +kernel, rfl, by decide⟩
theorem vm_X0_cellAhead : KW (.instanceMethod (yN Y_X0_cellAhead)) ∧ KW (.selects (yN Y_X0_cellAhead).cls (yN Y_X0_cellAhead) (yN Y_X0_cellAhead)) := ⟨KW.at (i := 301) (by decide +kernel) rfl, KW.at (i := 3) (by decide +kernel) rfl⟩
theorem ck_RX0_59 : CKV RX0 59 Y_X0_cellAhead 1 := ⟨KW.at (i := 299) (by decide +kernel) rfl, vm_X0_cellAhead.1, vm_X0_cellAhead.2, mk_X0_cellAhead⟩
theorem d_X0_cellAhead_0 : decode cX0_cellAhead 0 = .ok (.iload_n 1, 1) := by decide +kernel
theorem d_X0_cellAhead_1 : decode cX0_cellAhead 1 = .ok (.iconst 1, 1) := by decide +kernel
theorem d_X0_cellAhead_2 : decode cX0_cellAhead 2 = .ok (.isub, 1) := by decide +kernel
theorem d_X0_cellAhead_3 : decode cX0_cellAhead 3 = .ok (.istore_n 2, 1) := by decide +kernel
theorem d_X0_cellAhead_4 : decode cX0_cellAhead 4 = .ok (.iload_n 2, 1) := by decide +kernel
theorem d_X0_cellAhead_5 : decode cX0_cellAhead 5 = .ok (.iconst 4, 1) := by decide +kernel
theorem d_X0_cellAhead_6 : decode cX0_cellAhead 6 = .ok (.if_icmp .lt 25, 3) := by decide +kernel
theorem d_X0_cellAhead_31 : decode cX0_cellAhead 31 = .ok (.iconst 0, 1) := by decide +kernel
theorem d_X0_cellAhead_32 : decode cX0_cellAhead 32 = .ok (.ireturn, 1) := by decide +kernel
theorem d_X0_cellAhead_9 : decode cX0_cellAhead 9 = .ok (.aload_n 0, 1) := by decide +kernel
theorem d_X0_cellAhead_10 : decode cX0_cellAhead 10 = .ok (.getfield 23, 3) := by decide +kernel
theorem d_X0_cellAhead_13 : decode cX0_cellAhead 13 = .ok (.getfield 38, 3) := by decide +kernel
theorem d_X0_cellAhead_16 : decode cX0_cellAhead 16 = .ok (.iload_n 2, 1) := by decide +kernel
theorem d_X0_cellAhead_17 : decode cX0_cellAhead 17 = .ok (.invokestatic 47, 3) := by decide +kernel
theorem d_X0_cellAhead_20 : decode cX0_cellAhead 20 = .ok (.ifCond .eq 5, 3) := by decide +kernel
theorem d_X0_cellAhead_25 : decode cX0_cellAhead 25 = .ok (.iinc 2 (-1), 3) := by decide +kernel
theorem d_X0_cellAhead_28 : decode cX0_cellAhead 28 = .ok (.goto (-24), 3) := by decide +kernel
theorem d_X0_cellAhead_23 : decode cX0_cellAhead 23 = .ok (.iload_n 2, 1) := by decide +kernel
theorem d_X0_cellAhead_24 : decode cX0_cellAhead 24 = .ok (.ireturn, 1) := by decide +kernel
theorem d_X0_addSector_13 : decode cX0_addSector 13 = .ok (.istore_n 2, 1) := by decide +kernel
theorem d_X0_addSector_14 : decode cX0_addSector 14 = .ok (.aload_n 0, 1) := by decide +kernel
theorem d_X0_addSector_15 : decode cX0_addSector 15 = .ok (.getfield 23, 3) := by decide +kernel
theorem d_X0_addSector_18 : decode cX0_addSector 18 = .ok (.getfield 38, 3) := by decide +kernel
theorem d_X0_addSector_21 : decode cX0_addSector 21 = .ok (.iload_n 2, 1) := by decide +kernel
theorem d_X0_addSector_22 : decode cX0_addSector 22 = .ok (.invokestatic 47, 3) := by decide +kernel
theorem d_X0_addSector_25 : decode cX0_addSector 25 = .ok (.ifCond .ge 7, 3) := by decide +kernel
theorem d_X0_addSector_33 : decode cX0_addSector 33 = .ok (.istore_n 3, 1) := by decide +kernel
theorem d_X0_addSector_34 : decode cX0_addSector 34 = .ok (.aload_n 0, 1) := by decide +kernel
theorem d_X0_addSector_35 : decode cX0_addSector 35 = .ok (.getfield 23, 3) := by decide +kernel
theorem d_X0_addSector_38 : decode cX0_addSector 38 = .ok (.getfield 38, 3) := by decide +kernel
theorem d_X0_addSector_41 : decode cX0_addSector 41 = .ok (.iload_n 3, 1) := by decide +kernel
theorem d_X0_addSector_42 : decode cX0_addSector 42 = .ok (.iload_n 3, 1) := by decide +kernel
theorem d_X0_addSector_43 : decode cX0_addSector 43 = .ok (.iload_n 1, 1) := by decide +kernel
theorem d_X0_addSector_44 : decode cX0_addSector 44 = .ok (.isub, 1) := by decide +kernel
theorem d_X0_addSector_45 : decode cX0_addSector 45 = .ok (.bipush 16, 2) := by decide +kernel
theorem d_X0_addSector_47 : decode cX0_addSector 47 = .ok (.isub, 1) := by decide +kernel
theorem d_X0_addSector_48 : decode cX0_addSector 48 = .ok (.invokestatic 31, 3) := by decide +kernel
theorem d_X0_addSector_51 : decode cX0_addSector 51 = .ok (.aload_n 0, 1) := by decide +kernel
theorem d_X0_addSector_52 : decode cX0_addSector 52 = .ok (.getfield 23, 3) := by decide +kernel
theorem d_X0_addSector_55 : decode cX0_addSector 55 = .ok (.dup, 1) := by decide +kernel
theorem d_X0_addSector_56 : decode cX0_addSector 56 = .ok (.getfield 35, 3) := by decide +kernel
theorem d_X0_addSector_59 : decode cX0_addSector 59 = .ok (.iconst 1, 1) := by decide +kernel
theorem d_X0_addSector_60 : decode cX0_addSector 60 = .ok (.iadd, 1) := by decide +kernel
theorem d_X0_addSector_61 : decode cX0_addSector 61 = .ok (.putfield 35, 3) := by decide +kernel
theorem pk_RX0_35 : PK RX0 35 2 4 .int := ⟨RX2, TX2, 6, tyX2, rfl, by decide, ws_X2, KW.at (i := 118) (by decide +kernel) rfl, tyX2_ok, nmX2, rfl, rfl⟩
theorem d_X0_addSector_64 : decode cX0_addSector 64 = .ok (.return_, 1) := by decide +kernel
theorem d_X0_addSector_32 : decode cX0_addSector 32 = .ok (.iload_n 1, 1) := by decide +kernel
theorem d_X0_addSector_28 : decode cX0_addSector 28 = .ok (.iload_n 2, 1) := by decide +kernel
theorem d_X0_addSector_29 : decode cX0_addSector 29 = .ok (.goto 4, 3) := by decide +kernel
theorem d_X0_getCell_28 : decode cX0_getCell 28 = .ok (.aload_n 0, 1) := by decide +kernel
theorem d_X0_getCell_29 : decode cX0_getCell 29 = .ok (.iload_n 1, 1) := by decide +kernel
theorem d_X0_getCell_30 : decode cX0_getCell 30 = .ok (.invokevirtual 79, 3) := by decide +kernel
theorem d_X0_getCell_33 : decode cX0_getCell 33 = .ok (.istore_n 2, 1) := by decide +kernel
theorem d_X0_getCell_34 : decode cX0_getCell 34 = .ok (.iinc 3 1, 3) := by decide +kernel
theorem d_X0_getCell_37 : decode cX0_getCell 37 = .ok (.goto (-23), 3) := by decide +kernel
theorem d_X0_getCell_40 : decode cX0_getCell 40 = .ok (.iload_n 2, 1) := by decide +kernel
theorem d_X0_getCell_41 : decode cX0_getCell 41 = .ok (.ifCond .eq 47, 3) := by decide +kernel
theorem d_X0_getCell_88 : decode cX0_getCell 88 = .ok (.iload_n 2, 1) := by decide +kernel
theorem d_X0_getCell_89 : decode cX0_getCell 89 = .ok (.ireturn, 1) := by decide +kernel
theorem d_X0_getCell_44 : decode cX0_getCell 44 = .ok (.aload_n 0, 1) := by decide +kernel
theorem d_X0_getCell_45 : decode cX0_getCell 45 = .ok (.getfield 23, 3) := by decide +kernel
theorem d_X0_getCell_48 : decode cX0_getCell 48 = .ok (.getfield 38, 3) := by decide +kernel
theorem d_X0_getCell_51 : decode cX0_getCell 51 = .ok (.iload_n 2, 1) := by decide +kernel
theorem d_X0_getCell_52 : decode cX0_getCell 52 = .ok (.invokestatic 47, 3) := by decide +kernel
theorem d_X0_getCell_55 : decode cX0_getCell 55 = .ok (.iload_n 1, 1) := by decide +kernel
theorem d_X0_getCell_56 : decode cX0_getCell 56 = .ok (.iadd, 1) := by decide +kernel
theorem d_X0_getCell_57 : decode cX0_getCell 57 = .ok (.istore_n 3, 1) := by decide +kernel
theorem d_X0_getCell_58 : decode cX0_getCell 58 = .ok (.iload_n 3, 1) := by decide +kernel
theorem d_X0_getCell_59 : decode cX0_getCell 59 = .ok (.ifCond .ge 17, 3) := by decide +kernel
theorem d_X0_getCell_76 : decode cX0_getCell 76 = .ok (.aload_n 0, 1) := by decide +kernel
theorem d_X0_getCell_77 : decode cX0_getCell 77 = .ok (.getfield 23, 3) := by decide +kernel
theorem d_X0_getCell_80 : decode cX0_getCell 80 = .ok (.getfield 38, 3) := by decide +kernel
theorem d_X0_getCell_83 : decode cX0_getCell 83 = .ok (.iload_n 2, 1) := by decide +kernel
theorem d_X0_getCell_84 : decode cX0_getCell 84 = .ok (.iload_n 1, 1) := by decide +kernel
theorem d_X0_getCell_85 : decode cX0_getCell 85 = .ok (.invokestatic 31, 3) := by decide +kernel
theorem d_X0_getCell_62 : decode cX0_getCell 62 = .ok (.aload_n 0, 1) := by decide +kernel
theorem d_X0_getCell_63 : decode cX0_getCell 63 = .ok (.getfield 23, 3) := by decide +kernel
theorem d_X0_getCell_66 : decode cX0_getCell 66 = .ok (.getfield 38, 3) := by decide +kernel
theorem d_X0_getCell_69 : decode cX0_getCell 69 = .ok (.iload_n 2, 1) := by decide +kernel
theorem d_X0_getCell_70 : decode cX0_getCell 70 = .ok (.iload_n 1, 1) := by decide +kernel
theorem d_X0_getCell_71 : decode cX0_getCell 71 = .ok (.iadd, 1) := by decide +kernel
theorem d_X0_getCell_72 : decode cX0_getCell 72 = .ok (.iload_n 3, 1) := by decide +kernel
theorem d_X0_getCell_73 : decode cX0_getCell 73 = .ok (.invokestatic 31, 3) := by decide +kernel
theorem d_X0_getAllWanted_51 : decode cX0_getAllWanted 51 = .ok (.istore_n 3, 1) := by decide +kernel
theorem d_X0_getAllWanted_52 : decode cX0_getAllWanted 52 = .ok (.iload_n 3, 1) := by decide +kernel
theorem d_X0_getAllWanted_53 : decode cX0_getAllWanted 53 = .ok (.ifCond .ne 34, 3) := by decide +kernel
theorem d_X0_getAllWanted_87 : decode cX0_getAllWanted 87 = .ok (.aload_n 0, 1) := by decide +kernel
theorem d_X0_getAllWanted_88 : decode cX0_getAllWanted 88 = .ok (.getfield 15, 3) := by decide +kernel
theorem fk_RX0_15 : FK RX0 15 0 2 := ⟨RX0, TX0, 6, rfl, by decide, ws_X0, KW.at (i := 144) (by decide +kernel) rfl⟩
theorem d_X0_getAllWanted_91 : decode cX0_getAllWanted 91 = .ok (.iload_n 2, 1) := by decide +kernel
theorem d_X0_getAllWanted_92 : decode cX0_getAllWanted 92 = .ok (.iload_n 3, 1) := by decide +kernel
theorem d_X0_getAllWanted_93 : decode cX0_getAllWanted 93 = .ok (.invokestatic 31, 3) := by decide +kernel
theorem sh_9 : SH.getD 9 (9, 0, []) = (1, 6, []) := rfl
theorem d_X0_getAllWanted_96 : decode cX0_getAllWanted 96 = .ok (.iinc 2 1, 3) := by decide +kernel
theorem d_X0_getAllWanted_99 : decode cX0_getAllWanted 99 = .ok (.goto (-68), 3) := by decide +kernel
theorem d_X0_getAllWanted_102 : decode cX0_getAllWanted 102 = .ok (.iconst 0, 1) := by decide +kernel
theorem d_X0_getAllWanted_103 : decode cX0_getAllWanted 103 = .ok (.istore_n 2, 1) := by decide +kernel
theorem d_X0_getAllWanted_104 : decode cX0_getAllWanted 104 = .ok (.iload_n 2, 1) := by decide +kernel
theorem d_X0_getAllWanted_105 : decode cX0_getAllWanted 105 = .ok (.aload_n 0, 1) := by decide +kernel
theorem d_X0_getAllWanted_106 : decode cX0_getAllWanted 106 = .ok (.getfield 27, 3) := by decide +kernel
theorem d_X0_getAllWanted_109 : decode cX0_getAllWanted 109 = .ok (.if_icmp .ge 21, 3) := by decide +kernel
theorem d_X0_getAllWanted_130 : decode cX0_getAllWanted 130 = .ok (.iconst 1, 1) := by decide +kernel
theorem d_X0_getAllWanted_131 : decode cX0_getAllWanted 131 = .ok (.ireturn, 1) := by decide +kernel
theorem d_X0_getAllWanted_112 : decode cX0_getAllWanted 112 = .ok (.aload_n 0, 1) := by decide +kernel
theorem d_X0_getAllWanted_113 : decode cX0_getAllWanted 113 = .ok (.aload_n 0, 1) := by decide +kernel
theorem d_X0_getAllWanted_114 : decode cX0_getAllWanted 114 = .ok (.getfield 15, 3) := by decide +kernel
theorem d_X0_getAllWanted_117 : decode cX0_getAllWanted 117 = .ok (.iload_n 2, 1) := by decide +kernel
theorem d_X0_getAllWanted_118 : decode cX0_getAllWanted 118 = .ok (.invokestatic 47, 3) := by decide +kernel
theorem d_X0_getAllWanted_121 : decode cX0_getAllWanted 121 = .ok (.invokevirtual 55, 3) := by decide +kernel
abbrev Y_X0_markWritten : YT := (cX0_markWritten, 4, none, yX0_markWritten, [], 2)
theorem mk_X0_markWritten : MK Y_X0_markWritten 1 := ⟨KW.at (i := 77) (by decide +kernel) rfl, KW.at (i := 306) (by decide +kernel) rfl, ⟨by decide +kernel, by decide +kernel⟩, by decide +kernel, by decide +kernel, rfl, by decide⟩
theorem vm_X0_markWritten : KW (.instanceMethod (yN Y_X0_markWritten)) ∧ KW (.selects (yN Y_X0_markWritten).cls (yN Y_X0_markWritten) (yN Y_X0_markWritten)) := ⟨KW.at (i := 304) (by decide +kernel) rfl, KW.at (i := 305) (by decide +kernel) rfl⟩
theorem ck_RX0_55 : CKV RX0 55 Y_X0_markWritten 1 := ⟨KW.at (i := 303) (by decide +kernel) rfl, vm_X0_markWritten.1, vm_X0_markWritten.2, mk_X0_markWritten⟩
theorem d_X0_markWritten_0 : decode cX0_markWritten 0 = .ok (.iload_n 1, 1) := by decide +kernel
theorem d_X0_markWritten_1 : decode cX0_markWritten 1 = .ok (.aload_n 0, 1) := by decide +kernel
theorem d_X0_markWritten_2 : decode cX0_markWritten 2 = .ok (.getfield 23, 3) := by decide +kernel
theorem d_X0_markWritten_5 : decode cX0_markWritten 5 = .ok (.getfield 38, 3) := by decide +kernel
theorem d_X0_markWritten_8 : decode cX0_markWritten 8 = .ok (.iload_n 1, 1) := by decide +kernel
theorem d_X0_markWritten_9 : decode cX0_markWritten 9 = .ok (.invokestatic 47, 3) := by decide +kernel
theorem d_X0_markWritten_12 : decode cX0_markWritten 12 = .ok (.iadd, 1) := by decide +kernel
theorem d_X0_markWritten_13 : decode cX0_markWritten 13 = .ok (.iconst 1, 1) := by decide +kernel
theorem d_X0_markWritten_14 : decode cX0_markWritten 14 = .ok (.isub, 1) := by decide +kernel
theorem d_X0_markWritten_15 : decode cX0_markWritten 15 = .ok (.bipush 16, 2) := by decide +kernel
theorem d_X0_markWritten_17 : decode cX0_markWritten 17 = .ok (.idiv, 1) := by decide +kernel
theorem d_X0_markWritten_18 : decode cX0_markWritten 18 = .ok (.istore_n 2, 1) := by decide +kernel
theorem d_X0_markWritten_19 : decode cX0_markWritten 19 = .ok (.iload_n 1, 1) := by decide +kernel
theorem d_X0_markWritten_20 : decode cX0_markWritten 20 = .ok (.bipush 16, 2) := by decide +kernel
theorem d_X0_markWritten_22 : decode cX0_markWritten 22 = .ok (.idiv, 1) := by decide +kernel
theorem d_X0_markWritten_23 : decode cX0_markWritten 23 = .ok (.istore_n 3, 1) := by decide +kernel
theorem d_X0_markWritten_24 : decode cX0_markWritten 24 = .ok (.iload_n 3, 1) := by decide +kernel
theorem d_X0_markWritten_25 : decode cX0_markWritten 25 = .ok (.iload_n 2, 1) := by decide +kernel
theorem d_X0_markWritten_26 : decode cX0_markWritten 26 = .ok (.if_icmp .gt 21, 3) := by decide +kernel
theorem d_X0_markWritten_47 : decode cX0_markWritten 47 = .ok (.return_, 1) := by decide +kernel
theorem d_X0_markWritten_29 : decode cX0_markWritten 29 = .ok (.aload_n 0, 1) := by decide +kernel
theorem d_X0_markWritten_30 : decode cX0_markWritten 30 = .ok (.dup, 1) := by decide +kernel
theorem d_X0_markWritten_31 : decode cX0_markWritten 31 = .ok (.getfield 62, 3) := by decide +kernel
theorem fk_RX0_62 : FK RX0 62 0 5 := ⟨RX0, TX0, 6, rfl, by decide, ws_X0, KW.at (i := 147) (by decide +kernel) rfl⟩
theorem d_X0_markWritten_34 : decode cX0_markWritten 34 = .ok (.lconst 1, 1) := by decide +kernel
theorem d_X0_markWritten_35 : decode cX0_markWritten 35 = .ok (.iload_n 3, 1) := by decide +kernel
theorem d_X0_markWritten_36 : decode cX0_markWritten 36 = .ok (.lshl, 1) := by decide +kernel
theorem d_X0_markWritten_37 : decode cX0_markWritten 37 = .ok (.lor, 1) := by decide +kernel
theorem d_X0_markWritten_38 : decode cX0_markWritten 38 = .ok (.putfield 62, 3) := by decide +kernel
theorem pk_RX0_62 : PK RX0 62 0 5 .long := ⟨RX0, TX0, 6, tyX0, rfl, by decide, ws_X0, KW.at (i := 147) (by decide +kernel) rfl, tyX0_ok, nmX0, rfl, rfl⟩
theorem d_X0_markWritten_41 : decode cX0_markWritten 41 = .ok (.iinc 3 1, 3) := by decide +kernel
theorem d_X0_markWritten_44 : decode cX0_markWritten 44 = .ok (.goto (-20), 3) := by decide +kernel
theorem d_X0_getAllWanted_124 : decode cX0_getAllWanted 124 = .ok (.iinc 2 1, 3) := by decide +kernel
theorem d_X0_getAllWanted_127 : decode cX0_getAllWanted 127 = .ok (.goto (-23), 3) := by decide +kernel
theorem d_X0_getAllWanted_56 : decode cX0_getAllWanted 56 = .ok (.aload_n 0, 1) := by decide +kernel
theorem d_X0_getAllWanted_57 : decode cX0_getAllWanted 57 = .ok (.getfield 23, 3) := by decide +kernel
theorem d_X0_getAllWanted_60 : decode cX0_getAllWanted 60 = .ok (.iload_n 1, 1) := by decide +kernel
theorem d_X0_getAllWanted_61 : decode cX0_getAllWanted 61 = .ok (.putfield 35, 3) := by decide +kernel
theorem d_X0_getAllWanted_64 : decode cX0_getAllWanted 64 = .ok (.aload_n 0, 1) := by decide +kernel
theorem d_X0_getAllWanted_65 : decode cX0_getAllWanted 65 = .ok (.getfield 20, 3) := by decide +kernel
theorem d_X0_getAllWanted_68 : decode cX0_getAllWanted 68 = .ok (.iconst 0, 1) := by decide +kernel
theorem d_X0_getAllWanted_69 : decode cX0_getAllWanted 69 = .ok (.aload_n 0, 1) := by decide +kernel
theorem d_X0_getAllWanted_70 : decode cX0_getAllWanted 70 = .ok (.getfield 23, 3) := by decide +kernel
theorem d_X0_getAllWanted_73 : decode cX0_getAllWanted 73 = .ok (.getfield 38, 3) := by decide +kernel
theorem d_X0_getAllWanted_76 : decode cX0_getAllWanted 76 = .ok (.iconst 0, 1) := by decide +kernel
theorem d_X0_getAllWanted_77 : decode cX0_getAllWanted 77 = .ok (.aload_n 0, 1) := by decide +kernel
theorem d_X0_getAllWanted_78 : decode cX0_getAllWanted 78 = .ok (.getfield 20, 3) := by decide +kernel
theorem d_X0_getAllWanted_81 : decode cX0_getAllWanted 81 = .ok (.arraylength, 1) := by decide +kernel
theorem d_X0_getAllWanted_82 : decode cX0_getAllWanted 82 = .ok (.invokestatic 41, 3) := by decide +kernel
theorem d_X0_getAllWanted_85 : decode cX0_getAllWanted 85 = .ok (.iconst 0, 1) := by decide +kernel
theorem d_X0_getAllWanted_86 : decode cX0_getAllWanted 86 = .ok (.ireturn, 1) := by decide +kernel
theorem d_X7_makeSubkey_94 : decode cX7_makeSubkey 94 = .ok (.invokestatic 130, 3) := by decide +kernel
abbrev Y_X7_requireRoom : YT := (cX7_requireRoom, 1, none, yX7_requireRoom, [], 6)
theorem mk_X7_requireRoom : MK Y_X7_requireRoom 1 := ⟨KW.at (i := 75) (by decide +kernel) rfl, KW.at (i := 702) (by decide +kernel) rfl, ⟨by decide +kernel, by decide +kernel⟩, by decide +kernel, by decide +kernel, rfl, by decide⟩
theorem sm_X7_requireRoom : KW (.static (yN Y_X7_requireRoom)) := KW.at (i := 701) (by decide +kernel) rfl
theorem ck_RX7_130 : CKS RX7 130 Y_X7_requireRoom 1 := ⟨KW.at (i := 700) (by decide +kernel) rfl, sm_X7_requireRoom, mk_X7_requireRoom⟩
theorem d_X7_requireRoom_0 : decode cX7_requireRoom 0 = .ok (.iload_n 0, 1) := by decide +kernel
theorem d_X7_requireRoom_1 : decode cX7_requireRoom 1 = .ok (.ifCond .ne 14, 3) := by decide +kernel
theorem d_X7_requireRoom_15 : decode cX7_requireRoom 15 = .ok (.return_, 1) := by decide +kernel
theorem d_X7_requireRoom_4 : decode cX7_requireRoom 4 = .ok (.new 204, 3) := by decide +kernel
theorem d_X7_requireRoom_7 : decode cX7_requireRoom 7 = .ok (.dup, 1) := by decide +kernel
theorem d_X7_requireRoom_8 : decode cX7_requireRoom 8 = .ok (.ldc_w 368, 3) := by decide +kernel
theorem d_X7_requireRoom_11 : decode cX7_requireRoom 11 = .ok (.invokespecial 208, 3) := by decide +kernel
theorem d_X7_requireRoom_14 : decode cX7_requireRoom 14 = .ok (.athrow, 1) := by decide +kernel
theorem d_X7_makeSubkey_97 : decode cX7_makeSubkey 97 = .ok (.aload_n 0, 1) := by decide +kernel
theorem d_X7_makeSubkey_98 : decode cX7_makeSubkey 98 = .ok (.getfield 25, 3) := by decide +kernel
theorem d_X7_makeSubkey_101 : decode cX7_makeSubkey 101 = .ok (.iconst 0, 1) := by decide +kernel
theorem d_X7_makeSubkey_102 : decode cX7_makeSubkey 102 = .ok (.invokevirtual 77, 3) := by decide +kernel
abbrev Y_X0_got : YT := (cX0_got, 2, (some .int), yX0_got, [], 2)
theorem mk_X0_got : MK Y_X0_got 1 := ⟨KW.at (i := 77) (by decide +kernel) rfl, KW.at (i := 310) (by decide +kernel) rfl, ⟨by decide +kernel, by decide +kernel⟩, by decide +kernel, by decide +kernel, rfl, by decide⟩
theorem vm_X0_got : KW (.instanceMethod (yN Y_X0_got)) ∧ KW (.selects (yN Y_X0_got).cls (yN Y_X0_got) (yN Y_X0_got)) := ⟨KW.at (i := 308) (by decide +kernel) rfl, KW.at (i := 309) (by decide +kernel) rfl⟩
theorem ck_RX7_77 : CKV RX7 77 Y_X0_got 1 := ⟨KW.at (i := 307) (by decide +kernel) rfl, vm_X0_got.1, vm_X0_got.2, mk_X0_got⟩
theorem d_X0_got_0 : decode cX0_got 0 = .ok (.aload_n 0, 1) := by decide +kernel
theorem d_X0_got_1 : decode cX0_got 1 = .ok (.getfield 15, 3) := by decide +kernel
theorem d_X0_got_4 : decode cX0_got 4 = .ok (.iload_n 1, 1) := by decide +kernel
theorem d_X0_got_5 : decode cX0_got 5 = .ok (.invokestatic 47, 3) := by decide +kernel
theorem d_X0_got_8 : decode cX0_got 8 = .ok (.ireturn, 1) := by decide +kernel
theorem d_X7_makeSubkey_105 : decode cX7_makeSubkey 105 = .ok (.istore 7, 2) := by decide +kernel
theorem d_X7_makeSubkey_107 : decode cX7_makeSubkey 107 = .ok (.aload_n 0, 1) := by decide +kernel
theorem d_X7_makeSubkey_108 : decode cX7_makeSubkey 108 = .ok (.getfield 21, 3) := by decide +kernel
theorem d_X7_makeSubkey_111 : decode cX7_makeSubkey 111 = .ok (.iload 4, 2) := by decide +kernel
theorem d_X7_makeSubkey_113 : decode cX7_makeSubkey 113 = .ok (.iconst 4, 1) := by decide +kernel
theorem d_X7_makeSubkey_114 : decode cX7_makeSubkey 114 = .ok (.iadd, 1) := by decide +kernel
theorem d_X7_makeSubkey_115 : decode cX7_makeSubkey 115 = .ok (.invokevirtual 111, 3) := by decide +kernel
theorem d_X7_makeSubkey_118 : decode cX7_makeSubkey 118 = .ok (.istore 8, 2) := by decide +kernel
theorem d_X7_makeSubkey_120 : decode cX7_makeSubkey 120 = .ok (.aload_n 0, 1) := by decide +kernel
theorem d_X7_makeSubkey_121 : decode cX7_makeSubkey 121 = .ok (.iload 7, 2) := by decide +kernel
theorem d_X7_makeSubkey_123 : decode cX7_makeSubkey 123 = .ok (.iload_n 2, 1) := by decide +kernel
theorem d_X7_makeSubkey_124 : decode cX7_makeSubkey 124 = .ok (.iload_n 1, 1) := by decide +kernel
theorem d_X7_makeSubkey_125 : decode cX7_makeSubkey 125 = .ok (.iload_n 3, 1) := by decide +kernel
theorem d_X7_makeSubkey_126 : decode cX7_makeSubkey 126 = .ok (.invokevirtual 81, 3) := by decide +kernel
abbrev Y_X7_enterKey : YT := (cX7_enterKey, 5, none, yX7_enterKey, [], 3)
theorem mk_X7_enterKey : MK Y_X7_enterKey 4 := ⟨KW.at (i := 75) (by decide +kernel) rfl, KW.at (i := 314) (by decide +kernel) rfl, ⟨by decide +kernel, by decide +kernel⟩, by decide +kernel, by decide +kernel, rfl, by decide⟩
theorem vm_X7_enterKey : KW (.instanceMethod (yN Y_X7_enterKey)) ∧ KW (.selects (yN Y_X7_enterKey).cls (yN Y_X7_enterKey) (yN Y_X7_enterKey)) := ⟨KW.at (i := 313) (by decide +kernel) rfl, KW.at (i := 4) (by decide +kernel) rfl⟩
theorem ck_RX7_81 : CKV RX7 81 Y_X7_enterKey 4 := ⟨KW.at (i := 311) (by decide +kernel) rfl, vm_X7_enterKey.1, vm_X7_enterKey.2, mk_X7_enterKey⟩
theorem d_X7_enterKey_0 : decode cX7_enterKey 0 = .ok (.aload_n 0, 1) := by decide +kernel
theorem d_X7_enterKey_1 : decode cX7_enterKey 1 = .ok (.getfield 21, 3) := by decide +kernel
theorem d_X7_enterKey_4 : decode cX7_enterKey 4 = .ok (.iload_n 1, 1) := by decide +kernel
theorem d_X7_enterKey_5 : decode cX7_enterKey 5 = .ok (.iconst 0, 1) := by decide +kernel
theorem d_X7_enterKey_6 : decode cX7_enterKey 6 = .ok (.iadd, 1) := by decide +kernel
theorem d_X7_enterKey_7 : decode cX7_enterKey 7 = .ok (.iload_n 2, 1) := by decide +kernel
theorem d_X7_enterKey_8 : decode cX7_enterKey 8 = .ok (.invokevirtual 140, 3) := by decide +kernel
abbrev Y_X2_putUnit : YT := (cX2_putUnit, 3, none, yX2_putUnit, [], 2)
theorem mk_X2_putUnit : MK Y_X2_putUnit 2 := ⟨KW.at (i := 76) (by decide +kernel) rfl, KW.at (i := 318) (by decide +kernel) rfl, ⟨by decide +kernel, by decide +kernel⟩, by decide +kernel, by decide +kernel, rfl, by decide⟩
theorem vm_X2_putUnit : KW (.instanceMethod (yN Y_X2_putUnit)) ∧ KW (.selects (yN Y_X2_putUnit).cls (yN Y_X2_putUnit) (yN Y_X2_putUnit)) := ⟨KW.at (i := 316) (by decide +kernel) rfl, KW.at (i := 317) (by decide +kernel) rfl⟩
theorem ck_RX7_140 : CKV RX7 140 Y_X2_putUnit 2 := ⟨KW.at (i := 315) (by decide +kernel) rfl, vm_X2_putUnit.1, vm_X2_putUnit.2, mk_X2_putUnit⟩
theorem d_X2_putUnit_0 : decode cX2_putUnit 0 = .ok (.aload_n 0, 1) := by decide +kernel
theorem d_X2_putUnit_1 : decode cX2_putUnit 1 = .ok (.getfield 15, 3) := by decide +kernel
theorem d_X2_putUnit_4 : decode cX2_putUnit 4 = .ok (.iload_n 1, 1) := by decide +kernel
theorem d_X2_putUnit_5 : decode cX2_putUnit 5 = .ok (.iload_n 2, 1) := by decide +kernel
theorem d_X2_putUnit_6 : decode cX2_putUnit 6 = .ok (.invokestatic 31, 3) := by decide +kernel
theorem ck_RX2_31 : CKN RX2 31 Y_X7_store 3 := ⟨KW.at (i := 108) (by decide +kernel) rfl, sm_X7_store, mk_X7_store⟩
theorem d_X2_putUnit_9 : decode cX2_putUnit 9 = .ok (.return_, 1) := by decide +kernel
theorem d_X7_enterKey_11 : decode cX7_enterKey 11 = .ok (.aload_n 0, 1) := by decide +kernel
theorem d_X7_enterKey_12 : decode cX7_enterKey 12 = .ok (.getfield 21, 3) := by decide +kernel
theorem d_X7_enterKey_15 : decode cX7_enterKey 15 = .ok (.iload_n 1, 1) := by decide +kernel
theorem d_X7_enterKey_16 : decode cX7_enterKey 16 = .ok (.iconst 1, 1) := by decide +kernel
theorem d_X7_enterKey_17 : decode cX7_enterKey 17 = .ok (.iadd, 1) := by decide +kernel
theorem d_X7_enterKey_18 : decode cX7_enterKey 18 = .ok (.iload_n 3, 1) := by decide +kernel
theorem d_X7_enterKey_19 : decode cX7_enterKey 19 = .ok (.invokevirtual 140, 3) := by decide +kernel
theorem d_X7_enterKey_22 : decode cX7_enterKey 22 = .ok (.aload_n 0, 1) := by decide +kernel
theorem d_X7_enterKey_23 : decode cX7_enterKey 23 = .ok (.getfield 21, 3) := by decide +kernel
theorem d_X7_enterKey_26 : decode cX7_enterKey 26 = .ok (.iload_n 1, 1) := by decide +kernel
theorem d_X7_enterKey_27 : decode cX7_enterKey 27 = .ok (.iconst 2, 1) := by decide +kernel
theorem d_X7_enterKey_28 : decode cX7_enterKey 28 = .ok (.iadd, 1) := by decide +kernel
theorem d_X7_enterKey_29 : decode cX7_enterKey 29 = .ok (.iconst 0, 1) := by decide +kernel
theorem d_X7_enterKey_30 : decode cX7_enterKey 30 = .ok (.invokevirtual 140, 3) := by decide +kernel
theorem d_X7_enterKey_33 : decode cX7_enterKey 33 = .ok (.aload_n 0, 1) := by decide +kernel
theorem d_X7_enterKey_34 : decode cX7_enterKey 34 = .ok (.getfield 21, 3) := by decide +kernel
theorem d_X7_enterKey_37 : decode cX7_enterKey 37 = .ok (.iload_n 1, 1) := by decide +kernel
theorem d_X7_enterKey_38 : decode cX7_enterKey 38 = .ok (.iconst 3, 1) := by decide +kernel
theorem d_X7_enterKey_39 : decode cX7_enterKey 39 = .ok (.iadd, 1) := by decide +kernel
theorem d_X7_enterKey_40 : decode cX7_enterKey 40 = .ok (.iconst 0, 1) := by decide +kernel
theorem d_X7_enterKey_41 : decode cX7_enterKey 41 = .ok (.invokevirtual 140, 3) := by decide +kernel
theorem d_X7_enterKey_44 : decode cX7_enterKey 44 = .ok (.aload_n 0, 1) := by decide +kernel
theorem d_X7_enterKey_45 : decode cX7_enterKey 45 = .ok (.getfield 21, 3) := by decide +kernel
theorem d_X7_enterKey_48 : decode cX7_enterKey 48 = .ok (.iload_n 1, 1) := by decide +kernel
theorem d_X7_enterKey_49 : decode cX7_enterKey 49 = .ok (.iconst 4, 1) := by decide +kernel
theorem d_X7_enterKey_50 : decode cX7_enterKey 50 = .ok (.iadd, 1) := by decide +kernel
theorem d_X7_enterKey_51 : decode cX7_enterKey 51 = .ok (.iconst 0, 1) := by decide +kernel
theorem d_X7_enterKey_52 : decode cX7_enterKey 52 = .ok (.invokevirtual 140, 3) := by decide +kernel
theorem d_X7_enterKey_55 : decode cX7_enterKey 55 = .ok (.aload_n 0, 1) := by decide +kernel
theorem d_X7_enterKey_56 : decode cX7_enterKey 56 = .ok (.getfield 21, 3) := by decide +kernel
theorem d_X7_enterKey_59 : decode cX7_enterKey 59 = .ok (.iload_n 1, 1) := by decide +kernel
theorem d_X7_enterKey_60 : decode cX7_enterKey 60 = .ok (.iconst 5, 1) := by decide +kernel
theorem d_X7_enterKey_61 : decode cX7_enterKey 61 = .ok (.iadd, 1) := by decide +kernel
theorem d_X7_enterKey_62 : decode cX7_enterKey 62 = .ok (.iload 4, 2) := by decide +kernel
theorem d_X7_enterKey_64 : decode cX7_enterKey 64 = .ok (.invokevirtual 140, 3) := by decide +kernel
theorem d_X7_enterKey_67 : decode cX7_enterKey 67 = .ok (.aload_n 0, 1) := by decide +kernel
theorem d_X7_enterKey_68 : decode cX7_enterKey 68 = .ok (.getfield 21, 3) := by decide +kernel
theorem d_X7_enterKey_71 : decode cX7_enterKey 71 = .ok (.aload_n 0, 1) := by decide +kernel
theorem d_X7_enterKey_72 : decode cX7_enterKey 72 = .ok (.getfield 21, 3) := by decide +kernel
theorem d_X7_enterKey_75 : decode cX7_enterKey 75 = .ok (.getfield 370, 3) := by decide +kernel
theorem d_X7_enterKey_78 : decode cX7_enterKey 78 = .ok (.iload_n 1, 1) := by decide +kernel
theorem d_X7_enterKey_79 : decode cX7_enterKey 79 = .ok (.invokevirtual 158, 3) := by decide +kernel
abbrev Y_X2_setPlaceOfKey : YT := (cX2_setPlaceOfKey, 3, none, yX2_setPlaceOfKey, [], 2)
theorem mk_X2_setPlaceOfKey : MK Y_X2_setPlaceOfKey 2 := ⟨KW.at (i := 76) (by decide +kernel) rfl, KW.at (i := 322) (by decide +kernel) rfl, ⟨by decide +kernel, by decide +kernel⟩, by decide +kernel, by decide +kernel, rfl, by decide⟩
theorem vm_X2_setPlaceOfKey : KW (.instanceMethod (yN Y_X2_setPlaceOfKey)) ∧ KW (.selects (yN Y_X2_setPlaceOfKey).cls (yN Y_X2_setPlaceOfKey) (yN Y_X2_setPlaceOfKey)) := ⟨KW.at (i := 320) (by decide +kernel) rfl, KW.at (i := 321) (by decide +kernel) rfl⟩
theorem ck_RX7_158 : CKV RX7 158 Y_X2_setPlaceOfKey 2 := ⟨KW.at (i := 319) (by decide +kernel) rfl, vm_X2_setPlaceOfKey.1, vm_X2_setPlaceOfKey.2, mk_X2_setPlaceOfKey⟩
theorem d_X2_setPlaceOfKey_0 : decode cX2_setPlaceOfKey 0 = .ok (.aload_n 0, 1) := by decide +kernel
theorem d_X2_setPlaceOfKey_1 : decode cX2_setPlaceOfKey 1 = .ok (.getfield 18, 3) := by decide +kernel
theorem d_X2_setPlaceOfKey_4 : decode cX2_setPlaceOfKey 4 = .ok (.iload_n 1, 1) := by decide +kernel
theorem d_X2_setPlaceOfKey_5 : decode cX2_setPlaceOfKey 5 = .ok (.iload_n 2, 1) := by decide +kernel
theorem d_X2_setPlaceOfKey_6 : decode cX2_setPlaceOfKey 6 = .ok (.invokestatic 31, 3) := by decide +kernel
theorem d_X2_setPlaceOfKey_9 : decode cX2_setPlaceOfKey 9 = .ok (.return_, 1) := by decide +kernel
theorem d_X7_enterKey_82 : decode cX7_enterKey 82 = .ok (.aload_n 0, 1) := by decide +kernel
theorem d_X7_enterKey_83 : decode cX7_enterKey 83 = .ok (.getfield 21, 3) := by decide +kernel
theorem d_X7_enterKey_86 : decode cX7_enterKey 86 = .ok (.dup, 1) := by decide +kernel
theorem d_X7_enterKey_87 : decode cX7_enterKey 87 = .ok (.getfield 370, 3) := by decide +kernel
theorem d_X7_enterKey_90 : decode cX7_enterKey 90 = .ok (.iconst 1, 1) := by decide +kernel
theorem d_X7_enterKey_91 : decode cX7_enterKey 91 = .ok (.iadd, 1) := by decide +kernel
theorem d_X7_enterKey_92 : decode cX7_enterKey 92 = .ok (.putfield 370, 3) := by decide +kernel
theorem pk_RX7_370 : PK RX7 370 2 5 .int := ⟨RX2, TX2, 6, tyX2, rfl, by decide, ws_X2, KW.at (i := 121) (by decide +kernel) rfl, tyX2_ok, nmX2, rfl, rfl⟩
theorem d_X7_enterKey_95 : decode cX7_enterKey 95 = .ok (.return_, 1) := by decide +kernel
theorem d_X7_makeSubkey_129 : decode cX7_makeSubkey 129 = .ok (.aload_n 0, 1) := by decide +kernel
theorem d_X7_makeSubkey_130 : decode cX7_makeSubkey 130 = .ok (.getfield 21, 3) := by decide +kernel
theorem d_X7_makeSubkey_133 : decode cX7_makeSubkey 133 = .ok (.iload 7, 2) := by decide +kernel
theorem d_X7_makeSubkey_135 : decode cX7_makeSubkey 135 = .ok (.iconst 4, 1) := by decide +kernel
theorem d_X7_makeSubkey_136 : decode cX7_makeSubkey 136 = .ok (.iadd, 1) := by decide +kernel
theorem d_X7_makeSubkey_137 : decode cX7_makeSubkey 137 = .ok (.iload 8, 2) := by decide +kernel
theorem d_X7_makeSubkey_139 : decode cX7_makeSubkey 139 = .ok (.invokevirtual 140, 3) := by decide +kernel
theorem d_X7_makeSubkey_142 : decode cX7_makeSubkey 142 = .ok (.aload_n 0, 1) := by decide +kernel
theorem d_X7_makeSubkey_143 : decode cX7_makeSubkey 143 = .ok (.getfield 48, 3) := by decide +kernel
theorem fk_RX7_48 : FK RX7 48 7 4 := ⟨RX7, TX7, 8, rfl, by decide, ws_X7, KW.at (i := 367) (by decide +kernel) rfl⟩
theorem d_X7_makeSubkey_146 : decode cX7_makeSubkey 146 = .ok (.iload 8, 2) := by decide +kernel
theorem d_X7_makeSubkey_148 : decode cX7_makeSubkey 148 = .ok (.iconst 1, 1) := by decide +kernel
theorem d_X7_makeSubkey_149 : decode cX7_makeSubkey 149 = .ok (.invokevirtual 375, 3) := by decide +kernel
abbrev Y_X4_changeCount : YT := (cX4_changeCount, 4, none, yX4_changeCount, [], 3)
theorem mk_X4_changeCount : MK Y_X4_changeCount 2 := ⟨KW.at (i := 80) (by decide +kernel) rfl, KW.at (i := 344) (by decide +kernel) rfl, ⟨by decide +kernel, by decide +kernel⟩, by decide +kernel, by decide +kernel, rfl, by decide⟩
theorem vm_X4_changeCount : KW (.instanceMethod (yN Y_X4_changeCount)) ∧ KW (.selects (yN Y_X4_changeCount).cls (yN Y_X4_changeCount) (yN Y_X4_changeCount)) := ⟨KW.at (i := 342) (by decide +kernel) rfl, KW.at (i := 343) (by decide +kernel) rfl⟩
theorem ck_RX7_375 : CKV RX7 375 Y_X4_changeCount 2 := ⟨KW.at (i := 704) (by decide +kernel) rfl, vm_X4_changeCount.1, vm_X4_changeCount.2, mk_X4_changeCount⟩
theorem sh_13 : SH.getD 13 (9, 0, []) = (0, 4, [5, 10, 17]) := rfl
theorem d_X4_changeCount_0 : decode cX4_changeCount 0 = .ok (.aload_n 0, 1) := by decide +kernel
theorem d_X4_changeCount_1 : decode cX4_changeCount 1 = .ok (.getfield 15, 3) := by decide +kernel
theorem ws_X4 : ∀ w ∈ u_ws RX4 TX4 3, KW w := KW.all (by decide +kernel)
theorem fk_RX4_15 : FK RX4 15 4 0 := ⟨RX4, TX4, 3, rfl, by decide, ws_X4, KW.at (i := 194) (by decide +kernel) rfl⟩
theorem d_X4_changeCount_4 : decode cX4_changeCount 4 = .ok (.iload_n 1, 1) := by decide +kernel
theorem d_X4_changeCount_5 : decode cX4_changeCount 5 = .ok (.invokevirtual 23, 3) := by decide +kernel
abbrev Y_X2_placeOfRights : YT := (cX2_placeOfRights, 2, (some .int), yX2_placeOfRights, [], 2)
theorem mk_X2_placeOfRights : MK Y_X2_placeOfRights 1 := ⟨KW.at (i := 76) (by decide +kernel) rfl, KW.at (i := 330) (by decide +kernel) rfl, ⟨by decide +kernel, by decide +kernel⟩, by decide +kernel, by decide +kernel, rfl, by decide⟩
theorem vm_X2_placeOfRights : KW (.instanceMethod (yN Y_X2_placeOfRights)) ∧ KW (.selects (yN Y_X2_placeOfRights).cls (yN Y_X2_placeOfRights) (yN Y_X2_placeOfRights)) := ⟨KW.at (i := 328) (by decide +kernel) rfl, KW.at (i := 329) (by decide +kernel) rfl⟩
theorem ck_RX4_23 : CKV RX4 23 Y_X2_placeOfRights 1 := ⟨KW.at (i := 327) (by decide +kernel) rfl, vm_X2_placeOfRights.1, vm_X2_placeOfRights.2, mk_X2_placeOfRights⟩
theorem d_X2_placeOfRights_0 : decode cX2_placeOfRights 0 = .ok (.aload_n 0, 1) := by decide +kernel
theorem d_X2_placeOfRights_1 : decode cX2_placeOfRights 1 = .ok (.getfield 21, 3) := by decide +kernel
theorem fk_RX2_21 : FK RX2 21 2 3 := ⟨RX2, TX2, 6, rfl, by decide, ws_X2, KW.at (i := 116) (by decide +kernel) rfl⟩
theorem d_X2_placeOfRights_4 : decode cX2_placeOfRights 4 = .ok (.iload_n 1, 1) := by decide +kernel
theorem d_X2_placeOfRights_5 : decode cX2_placeOfRights 5 = .ok (.invokestatic 41, 3) := by decide +kernel
theorem sh_6 : SH.getD 6 (9, 0, []) = (1, 256, []) := rfl
theorem d_X2_placeOfRights_8 : decode cX2_placeOfRights 8 = .ok (.ireturn, 1) := by decide +kernel
theorem d_X4_changeCount_8 : decode cX4_changeCount 8 = .ok (.istore_n 3, 1) := by decide +kernel
theorem d_X4_changeCount_9 : decode cX4_changeCount 9 = .ok (.aload_n 0, 1) := by decide +kernel
theorem d_X4_changeCount_10 : decode cX4_changeCount 10 = .ok (.getfield 15, 3) := by decide +kernel
theorem d_X4_changeCount_13 : decode cX4_changeCount 13 = .ok (.iload_n 3, 1) := by decide +kernel
theorem d_X4_changeCount_14 : decode cX4_changeCount 14 = .ok (.aload_n 0, 1) := by decide +kernel
theorem d_X4_changeCount_15 : decode cX4_changeCount 15 = .ok (.getfield 15, 3) := by decide +kernel
theorem d_X4_changeCount_18 : decode cX4_changeCount 18 = .ok (.iload_n 3, 1) := by decide +kernel
theorem d_X4_changeCount_19 : decode cX4_changeCount 19 = .ok (.invokevirtual 29, 3) := by decide +kernel
theorem ck_RX4_29 : CKV RX4 29 Y_X2_unitAt 1 := ⟨KW.at (i := 345) (by decide +kernel) rfl, vm_X2_unitAt.1, vm_X2_unitAt.2, mk_X2_unitAt⟩
theorem d_X4_changeCount_22 : decode cX4_changeCount 22 = .ok (.iload_n 2, 1) := by decide +kernel
theorem d_X4_changeCount_23 : decode cX4_changeCount 23 = .ok (.iadd, 1) := by decide +kernel
theorem d_X4_changeCount_24 : decode cX4_changeCount 24 = .ok (.invokevirtual 32, 3) := by decide +kernel
theorem ck_RX4_32 : CKV RX4 32 Y_X2_putUnit 2 := ⟨KW.at (i := 340) (by decide +kernel) rfl, vm_X2_putUnit.1, vm_X2_putUnit.2, mk_X2_putUnit⟩
theorem d_X4_changeCount_27 : decode cX4_changeCount 27 = .ok (.aload_n 0, 1) := by decide +kernel
theorem d_X4_changeCount_28 : decode cX4_changeCount 28 = .ok (.getfield 19, 3) := by decide +kernel
theorem fk_RX4_19 : FK RX4 19 4 1 := ⟨RX4, TX4, 3, rfl, by decide, ws_X4, KW.at (i := 195) (by decide +kernel) rfl⟩
theorem d_X4_changeCount_31 : decode cX4_changeCount 31 = .ok (.iload_n 3, 1) := by decide +kernel
theorem d_X4_changeCount_32 : decode cX4_changeCount 32 = .ok (.invokevirtual 36, 3) := by decide +kernel
theorem ck_RX4_36 : CKV RX4 36 Y_X0_markWritten 1 := ⟨KW.at (i := 349) (by decide +kernel) rfl, vm_X0_markWritten.1, vm_X0_markWritten.2, mk_X0_markWritten⟩
theorem d_X4_changeCount_35 : decode cX4_changeCount 35 = .ok (.return_, 1) := by decide +kernel
theorem d_X7_makeSubkey_152 : decode cX7_makeSubkey 152 = .ok (.aload_n 0, 1) := by decide +kernel
theorem d_X7_makeSubkey_153 : decode cX7_makeSubkey 153 = .ok (.getfield 34, 3) := by decide +kernel
theorem d_X7_makeSubkey_156 : decode cX7_makeSubkey 156 = .ok (.iload 4, 2) := by decide +kernel
theorem d_X7_makeSubkey_158 : decode cX7_makeSubkey 158 = .ok (.iload 6, 2) := by decide +kernel
theorem d_X7_makeSubkey_160 : decode cX7_makeSubkey 160 = .ok (.iconst 1, 1) := by decide +kernel
theorem d_X7_makeSubkey_161 : decode cX7_makeSubkey 161 = .ok (.invokevirtual 133, 3) := by decide +kernel
abbrev Y_X3_putIn : YT := (cX3_putIn, 7, none, yX3_putIn, [], 5)
theorem mk_X3_putIn : MK Y_X3_putIn 3 := ⟨KW.at (i := 78) (by decide +kernel) rfl, KW.at (i := 708) (by decide +kernel) rfl, ⟨by decide +kernel, by decide +kernel⟩, by decide +kernel, by decide +kernel, rfl, by decide⟩
theorem vm_X3_putIn : KW (.instanceMethod (yN Y_X3_putIn)) ∧ KW (.selects (yN Y_X3_putIn).cls (yN Y_X3_putIn) (yN Y_X3_putIn)) := ⟨KW.at (i := 706) (by decide +kernel) rfl, KW.at (i := 707) (by decide +kernel) rfl⟩
theorem ck_RX7_133 : CKV RX7 133 Y_X3_putIn 3 := ⟨KW.at (i := 705) (by decide +kernel) rfl, vm_X3_putIn.1, vm_X3_putIn.2, mk_X3_putIn⟩
theorem d_X3_putIn_0 : decode cX3_putIn 0 = .ok (.aload_n 0, 1) := by decide +kernel
theorem d_X3_putIn_1 : decode cX3_putIn 1 = .ok (.getfield 15, 3) := by decide +kernel
theorem d_X3_putIn_4 : decode cX3_putIn 4 = .ok (.iload_n 1, 1) := by decide +kernel
theorem d_X3_putIn_5 : decode cX3_putIn 5 = .ok (.invokevirtual 60, 3) := by decide +kernel
theorem ck_RX3_60 : CKV RX3 60 Y_X0_markWritten 1 := ⟨KW.at (i := 709) (by decide +kernel) rfl, vm_X0_markWritten.1, vm_X0_markWritten.2, mk_X0_markWritten⟩
theorem d_X3_putIn_8 : decode cX3_putIn 8 = .ok (.aload_n 0, 1) := by decide +kernel
theorem d_X3_putIn_9 : decode cX3_putIn 9 = .ok (.iload_n 1, 1) := by decide +kernel
theorem d_X3_putIn_10 : decode cX3_putIn 10 = .ok (.invokevirtual 35, 3) := by decide +kernel
theorem d_X3_putIn_13 : decode cX3_putIn 13 = .ok (.ifCond .ne 47, 3) := by decide +kernel
theorem d_X3_putIn_60 : decode cX3_putIn 60 = .ok (.aload_n 0, 1) := by decide +kernel
theorem d_X3_putIn_61 : decode cX3_putIn 61 = .ok (.iload_n 1, 1) := by decide +kernel
theorem d_X3_putIn_62 : decode cX3_putIn 62 = .ok (.iload_n 2, 1) := by decide +kernel
theorem d_X3_putIn_63 : decode cX3_putIn 63 = .ok (.invokevirtual 51, 3) := by decide +kernel
theorem d_X3_putIn_66 : decode cX3_putIn 66 = .ok (.istore 4, 2) := by decide +kernel
theorem d_X3_putIn_68 : decode cX3_putIn 68 = .ok (.aload_n 0, 1) := by decide +kernel
theorem d_X3_putIn_69 : decode cX3_putIn 69 = .ok (.iload_n 1, 1) := by decide +kernel
theorem d_X3_putIn_70 : decode cX3_putIn 70 = .ok (.iload 4, 2) := by decide +kernel
theorem d_X3_putIn_72 : decode cX3_putIn 72 = .ok (.invokevirtual 38, 3) := by decide +kernel
theorem d_X3_putIn_75 : decode cX3_putIn 75 = .ok (.istore 5, 2) := by decide +kernel
theorem d_X3_putIn_77 : decode cX3_putIn 77 = .ok (.aload_n 0, 1) := by decide +kernel
theorem d_X3_putIn_78 : decode cX3_putIn 78 = .ok (.getfield 15, 3) := by decide +kernel
theorem d_X3_putIn_81 : decode cX3_putIn 81 = .ok (.iload 5, 2) := by decide +kernel
theorem d_X3_putIn_83 : decode cX3_putIn 83 = .ok (.invokevirtual 60, 3) := by decide +kernel
theorem d_X3_putIn_86 : decode cX3_putIn 86 = .ok (.aload_n 0, 1) := by decide +kernel
theorem d_X3_putIn_87 : decode cX3_putIn 87 = .ok (.getfield 9, 3) := by decide +kernel
theorem d_X3_putIn_90 : decode cX3_putIn 90 = .ok (.iload 5, 2) := by decide +kernel
theorem d_X3_putIn_92 : decode cX3_putIn 92 = .ok (.invokevirtual 32, 3) := by decide +kernel
theorem d_X3_putIn_95 : decode cX3_putIn 95 = .ok (.iconst 4, 1) := by decide +kernel
theorem d_X3_putIn_96 : decode cX3_putIn 96 = .ok (.if_icmp .ge 23, 3) := by decide +kernel
theorem d_X3_putIn_119 : decode cX3_putIn 119 = .ok (.aload_n 0, 1) := by decide +kernel
theorem d_X3_putIn_120 : decode cX3_putIn 120 = .ok (.iload_n 1, 1) := by decide +kernel
theorem d_X3_putIn_121 : decode cX3_putIn 121 = .ok (.iload 4, 2) := by decide +kernel
theorem d_X3_putIn_123 : decode cX3_putIn 123 = .ok (.iload_n 3, 1) := by decide +kernel
theorem d_X3_putIn_124 : decode cX3_putIn 124 = .ok (.invokevirtual 77, 3) := by decide +kernel
abbrev Y_X3_insertLeafBehind : YT := (cX3_insertLeafBehind, 7, (some .int), yX3_insertLeafBehind, [], 4)
theorem mk_X3_insertLeafBehind : MK Y_X3_insertLeafBehind 3 := ⟨KW.at (i := 78) (by decide +kernel) rfl, KW.at (i := 725) (by decide +kernel) rfl, ⟨by decide +kernel, by decide +kernel⟩, by decide +kernel, by decide +kernel, rfl, by decide⟩
theorem vm_X3_insertLeafBehind : KW (.instanceMethod (yN Y_X3_insertLeafBehind)) ∧ KW (.selects (yN Y_X3_insertLeafBehind).cls (yN Y_X3_insertLeafBehind) (yN Y_X3_insertLeafBehind)) := ⟨KW.at (i := 724) (by decide +kernel) rfl, KW.at (i := 21) (by decide +kernel) rfl⟩
theorem ck_RX3_77 : CKV RX3 77 Y_X3_insertLeafBehind 3 := ⟨KW.at (i := 722) (by decide +kernel) rfl, vm_X3_insertLeafBehind.1, vm_X3_insertLeafBehind.2, mk_X3_insertLeafBehind⟩
theorem d_X3_insertLeafBehind_0 : decode cX3_insertLeafBehind 0 = .ok (.aload_n 0, 1) := by decide +kernel
theorem d_X3_insertLeafBehind_1 : decode cX3_insertLeafBehind 1 = .ok (.getfield 9, 3) := by decide +kernel
theorem d_X3_insertLeafBehind_4 : decode cX3_insertLeafBehind 4 = .ok (.iload_n 1, 1) := by decide +kernel
theorem d_X3_insertLeafBehind_5 : decode cX3_insertLeafBehind 5 = .ok (.iconst 2, 1) := by decide +kernel
theorem d_X3_insertLeafBehind_6 : decode cX3_insertLeafBehind 6 = .ok (.iadd, 1) := by decide +kernel
theorem d_X3_insertLeafBehind_7 : decode cX3_insertLeafBehind 7 = .ok (.invokevirtual 23, 3) := by decide +kernel
theorem d_X3_insertLeafBehind_10 : decode cX3_insertLeafBehind 10 = .ok (.istore 4, 2) := by decide +kernel
theorem d_X3_insertLeafBehind_12 : decode cX3_insertLeafBehind 12 = .ok (.iload_n 3, 1) := by decide +kernel
theorem d_X3_insertLeafBehind_13 : decode cX3_insertLeafBehind 13 = .ok (.istore 5, 2) := by decide +kernel
theorem d_X3_insertLeafBehind_15 : decode cX3_insertLeafBehind 15 = .ok (.aload_n 0, 1) := by decide +kernel
theorem d_X3_insertLeafBehind_16 : decode cX3_insertLeafBehind 16 = .ok (.iload 4, 2) := by decide +kernel
theorem d_X3_insertLeafBehind_18 : decode cX3_insertLeafBehind 18 = .ok (.invokevirtual 28, 3) := by decide +kernel
theorem d_X3_insertLeafBehind_21 : decode cX3_insertLeafBehind 21 = .ok (.ifCond .ne 54, 3) := by decide +kernel
theorem d_X3_insertLeafBehind_75 : decode cX3_insertLeafBehind 75 = .ok (.aload_n 0, 1) := by decide +kernel
theorem d_X3_insertLeafBehind_76 : decode cX3_insertLeafBehind 76 = .ok (.getfield 15, 3) := by decide +kernel
theorem d_X3_insertLeafBehind_79 : decode cX3_insertLeafBehind 79 = .ok (.iload 5, 2) := by decide +kernel
theorem d_X3_insertLeafBehind_81 : decode cX3_insertLeafBehind 81 = .ok (.invokevirtual 63, 3) := by decide +kernel
theorem ck_RX3_63 : CKV RX3 63 Y_X0_got 1 := ⟨KW.at (i := 710) (by decide +kernel) rfl, vm_X0_got.1, vm_X0_got.2, mk_X0_got⟩
theorem d_X3_insertLeafBehind_84 : decode cX3_insertLeafBehind 84 = .ok (.istore 6, 2) := by decide +kernel
theorem d_X3_insertLeafBehind_86 : decode cX3_insertLeafBehind 86 = .ok (.aload_n 0, 1) := by decide +kernel
theorem d_X3_insertLeafBehind_87 : decode cX3_insertLeafBehind 87 = .ok (.getfield 9, 3) := by decide +kernel
theorem d_X3_insertLeafBehind_90 : decode cX3_insertLeafBehind 90 = .ok (.iload 4, 2) := by decide +kernel
theorem d_X3_insertLeafBehind_92 : decode cX3_insertLeafBehind 92 = .ok (.iload_n 2, 1) := by decide +kernel
theorem d_X3_insertLeafBehind_93 : decode cX3_insertLeafBehind 93 = .ok (.iconst 1, 1) := by decide +kernel
theorem d_X3_insertLeafBehind_94 : decode cX3_insertLeafBehind 94 = .ok (.iadd, 1) := by decide +kernel
theorem d_X3_insertLeafBehind_95 : decode cX3_insertLeafBehind 95 = .ok (.iload 6, 2) := by decide +kernel
theorem d_X3_insertLeafBehind_97 : decode cX3_insertLeafBehind 97 = .ok (.invokevirtual 70, 3) := by decide +kernel
abbrev Y_X2_insertItem : YT := (cX2_insertItem, 6, none, yX2_insertItem, [], 3)
theorem mk_X2_insertItem : MK Y_X2_insertItem 3 := ⟨KW.at (i := 76) (by decide +kernel) rfl, KW.at (i := 715) (by decide +kernel) rfl, ⟨by decide +kernel, by decide +kernel⟩, by decide +kernel, by decide +kernel, rfl, by decide⟩
theorem vm_X2_insertItem : KW (.instanceMethod (yN Y_X2_insertItem)) ∧ KW (.selects (yN Y_X2_insertItem).cls (yN Y_X2_insertItem) (yN Y_X2_insertItem)) := ⟨KW.at (i := 713) (by decide +kernel) rfl, KW.at (i := 714) (by decide +kernel) rfl⟩
theorem ck_RX3_70 : CKV RX3 70 Y_X2_insertItem 3 := ⟨KW.at (i := 712) (by decide +kernel) rfl, vm_X2_insertItem.1, vm_X2_insertItem.2, mk_X2_insertItem⟩
theorem d_X2_insertItem_0 : decode cX2_insertItem 0 = .ok (.aload_n 0, 1) := by decide +kernel
theorem d_X2_insertItem_1 : decode cX2_insertItem 1 = .ok (.iload_n 1, 1) := by decide +kernel
theorem d_X2_insertItem_2 : decode cX2_insertItem 2 = .ok (.invokevirtual 45, 3) := by decide +kernel
theorem ck_RX2_45 : CKV RX2 45 Y_X2_itemCount 1 := ⟨KW.at (i := 716) (by decide +kernel) rfl, vm_X2_itemCount.1, vm_X2_itemCount.2, mk_X2_itemCount⟩
theorem d_X2_insertItem_5 : decode cX2_insertItem 5 = .ok (.istore 4, 2) := by decide +kernel
theorem d_X2_insertItem_7 : decode cX2_insertItem 7 = .ok (.iload 4, 2) := by decide +kernel
theorem d_X2_insertItem_9 : decode cX2_insertItem 9 = .ok (.istore 5, 2) := by decide +kernel
theorem d_X2_insertItem_11 : decode cX2_insertItem 11 = .ok (.iload 5, 2) := by decide +kernel
theorem d_X2_insertItem_13 : decode cX2_insertItem 13 = .ok (.iload_n 2, 1) := by decide +kernel
theorem d_X2_insertItem_14 : decode cX2_insertItem 14 = .ok (.if_icmp .le 31, 3) := by decide +kernel
theorem d_X2_insertItem_17 : decode cX2_insertItem 17 = .ok (.aload_n 0, 1) := by decide +kernel
theorem d_X2_insertItem_18 : decode cX2_insertItem 18 = .ok (.getfield 15, 3) := by decide +kernel
theorem d_X2_insertItem_21 : decode cX2_insertItem 21 = .ok (.iload_n 1, 1) := by decide +kernel
theorem d_X2_insertItem_22 : decode cX2_insertItem 22 = .ok (.iconst 1, 1) := by decide +kernel
theorem d_X2_insertItem_23 : decode cX2_insertItem 23 = .ok (.iadd, 1) := by decide +kernel
theorem d_X2_insertItem_24 : decode cX2_insertItem 24 = .ok (.iload 5, 2) := by decide +kernel
theorem d_X2_insertItem_26 : decode cX2_insertItem 26 = .ok (.iadd, 1) := by decide +kernel
theorem d_X2_insertItem_27 : decode cX2_insertItem 27 = .ok (.aload_n 0, 1) := by decide +kernel
theorem d_X2_insertItem_28 : decode cX2_insertItem 28 = .ok (.iload_n 1, 1) := by decide +kernel
theorem d_X2_insertItem_29 : decode cX2_insertItem 29 = .ok (.iload 5, 2) := by decide +kernel
theorem d_X2_insertItem_31 : decode cX2_insertItem 31 = .ok (.iconst 1, 1) := by decide +kernel
theorem d_X2_insertItem_32 : decode cX2_insertItem 32 = .ok (.isub, 1) := by decide +kernel
theorem d_X2_insertItem_33 : decode cX2_insertItem 33 = .ok (.invokevirtual 49, 3) := by decide +kernel
theorem ck_RX2_49 : CKV RX2 49 Y_X2_item 2 := ⟨KW.at (i := 717) (by decide +kernel) rfl, vm_X2_item.1, vm_X2_item.2, mk_X2_item⟩
theorem d_X2_insertItem_36 : decode cX2_insertItem 36 = .ok (.invokestatic 31, 3) := by decide +kernel
theorem d_X2_insertItem_39 : decode cX2_insertItem 39 = .ok (.iinc 5 (-1), 3) := by decide +kernel
theorem d_X2_insertItem_42 : decode cX2_insertItem 42 = .ok (.goto (-31), 3) := by decide +kernel
theorem d_X2_insertItem_45 : decode cX2_insertItem 45 = .ok (.aload_n 0, 1) := by decide +kernel
theorem d_X2_insertItem_46 : decode cX2_insertItem 46 = .ok (.getfield 15, 3) := by decide +kernel
theorem d_X2_insertItem_49 : decode cX2_insertItem 49 = .ok (.iload_n 1, 1) := by decide +kernel
theorem d_X2_insertItem_50 : decode cX2_insertItem 50 = .ok (.iconst 1, 1) := by decide +kernel
theorem d_X2_insertItem_51 : decode cX2_insertItem 51 = .ok (.iadd, 1) := by decide +kernel
theorem d_X2_insertItem_52 : decode cX2_insertItem 52 = .ok (.iload_n 2, 1) := by decide +kernel
theorem d_X2_insertItem_53 : decode cX2_insertItem 53 = .ok (.iadd, 1) := by decide +kernel
theorem d_X2_insertItem_54 : decode cX2_insertItem 54 = .ok (.iload_n 3, 1) := by decide +kernel
theorem d_X2_insertItem_55 : decode cX2_insertItem 55 = .ok (.invokestatic 31, 3) := by decide +kernel
theorem d_X2_insertItem_58 : decode cX2_insertItem 58 = .ok (.aload_n 0, 1) := by decide +kernel
theorem d_X2_insertItem_59 : decode cX2_insertItem 59 = .ok (.getfield 15, 3) := by decide +kernel
theorem d_X2_insertItem_62 : decode cX2_insertItem 62 = .ok (.iload_n 1, 1) := by decide +kernel
theorem d_X2_insertItem_63 : decode cX2_insertItem 63 = .ok (.iload 4, 2) := by decide +kernel
theorem d_X2_insertItem_65 : decode cX2_insertItem 65 = .ok (.iconst 1, 1) := by decide +kernel
theorem d_X2_insertItem_66 : decode cX2_insertItem 66 = .ok (.iadd, 1) := by decide +kernel
theorem d_X2_insertItem_67 : decode cX2_insertItem 67 = .ok (.invokestatic 31, 3) := by decide +kernel
theorem d_X2_insertItem_70 : decode cX2_insertItem 70 = .ok (.return_, 1) := by decide +kernel
theorem d_X3_insertLeafBehind_100 : decode cX3_insertLeafBehind 100 = .ok (.aload_n 0, 1) := by decide +kernel
theorem d_X3_insertLeafBehind_101 : decode cX3_insertLeafBehind 101 = .ok (.getfield 15, 3) := by decide +kernel
theorem d_X3_insertLeafBehind_104 : decode cX3_insertLeafBehind 104 = .ok (.iload 4, 2) := by decide +kernel
theorem d_X3_insertLeafBehind_106 : decode cX3_insertLeafBehind 106 = .ok (.invokevirtual 60, 3) := by decide +kernel
theorem d_X3_insertLeafBehind_109 : decode cX3_insertLeafBehind 109 = .ok (.iload 6, 2) := by decide +kernel
theorem d_X3_insertLeafBehind_111 : decode cX3_insertLeafBehind 111 = .ok (.ireturn, 1) := by decide +kernel
theorem d_X3_insertLeafBehind_24 : decode cX3_insertLeafBehind 24 = .ok (.aload_n 0, 1) := by decide +kernel
theorem d_X3_insertLeafBehind_25 : decode cX3_insertLeafBehind 25 = .ok (.getfield 15, 3) := by decide +kernel
theorem d_X3_insertLeafBehind_28 : decode cX3_insertLeafBehind 28 = .ok (.iload_n 3, 1) := by decide +kernel
theorem d_X3_insertLeafBehind_29 : decode cX3_insertLeafBehind 29 = .ok (.invokevirtual 63, 3) := by decide +kernel
theorem d_X3_insertLeafBehind_32 : decode cX3_insertLeafBehind 32 = .ok (.istore 6, 2) := by decide +kernel
theorem d_X3_insertLeafBehind_34 : decode cX3_insertLeafBehind 34 = .ok (.aload_n 0, 1) := by decide +kernel
theorem d_X3_insertLeafBehind_35 : decode cX3_insertLeafBehind 35 = .ok (.getfield 9, 3) := by decide +kernel
theorem d_X3_insertLeafBehind_38 : decode cX3_insertLeafBehind 38 = .ok (.iload 6, 2) := by decide +kernel
theorem d_X3_insertLeafBehind_40 : decode cX3_insertLeafBehind 40 = .ok (.iconst 0, 1) := by decide +kernel
theorem d_X3_insertLeafBehind_41 : decode cX3_insertLeafBehind 41 = .ok (.invokevirtual 66, 3) := by decide +kernel
theorem ck_RX3_66 : CKV RX3 66 Y_X2_putUnit 2 := ⟨KW.at (i := 711) (by decide +kernel) rfl, vm_X2_putUnit.1, vm_X2_putUnit.2, mk_X2_putUnit⟩
theorem d_X3_insertLeafBehind_44 : decode cX3_insertLeafBehind 44 = .ok (.aload_n 0, 1) := by decide +kernel
theorem d_X3_insertLeafBehind_45 : decode cX3_insertLeafBehind 45 = .ok (.getfield 9, 3) := by decide +kernel
theorem d_X3_insertLeafBehind_48 : decode cX3_insertLeafBehind 48 = .ok (.iload 6, 2) := by decide +kernel
theorem d_X3_insertLeafBehind_50 : decode cX3_insertLeafBehind 50 = .ok (.iconst 0, 1) := by decide +kernel
theorem d_X3_insertLeafBehind_51 : decode cX3_insertLeafBehind 51 = .ok (.iload 4, 2) := by decide +kernel
theorem d_X3_insertLeafBehind_53 : decode cX3_insertLeafBehind 53 = .ok (.invokevirtual 70, 3) := by decide +kernel
theorem d_X3_insertLeafBehind_56 : decode cX3_insertLeafBehind 56 = .ok (.aload_n 0, 1) := by decide +kernel
theorem d_X3_insertLeafBehind_57 : decode cX3_insertLeafBehind 57 = .ok (.getfield 9, 3) := by decide +kernel
theorem d_X3_insertLeafBehind_60 : decode cX3_insertLeafBehind 60 = .ok (.iload_n 1, 1) := by decide +kernel
theorem d_X3_insertLeafBehind_61 : decode cX3_insertLeafBehind 61 = .ok (.iconst 2, 1) := by decide +kernel
theorem d_X3_insertLeafBehind_62 : decode cX3_insertLeafBehind 62 = .ok (.iadd, 1) := by decide +kernel
theorem d_X3_insertLeafBehind_63 : decode cX3_insertLeafBehind 63 = .ok (.iload 6, 2) := by decide +kernel
theorem d_X3_insertLeafBehind_65 : decode cX3_insertLeafBehind 65 = .ok (.invokevirtual 66, 3) := by decide +kernel
theorem d_X3_insertLeafBehind_68 : decode cX3_insertLeafBehind 68 = .ok (.iload 6, 2) := by decide +kernel
theorem d_X3_insertLeafBehind_70 : decode cX3_insertLeafBehind 70 = .ok (.istore 4, 2) := by decide +kernel
theorem d_X3_insertLeafBehind_72 : decode cX3_insertLeafBehind 72 = .ok (.iinc 5 1, 3) := by decide +kernel
theorem d_X3_putIn_127 : decode cX3_putIn 127 = .ok (.istore 6, 2) := by decide +kernel
theorem d_X3_putIn_129 : decode cX3_putIn 129 = .ok (.aload_n 0, 1) := by decide +kernel
theorem d_X3_putIn_130 : decode cX3_putIn 130 = .ok (.iload 5, 2) := by decide +kernel
theorem d_X3_putIn_132 : decode cX3_putIn 132 = .ok (.iload 6, 2) := by decide +kernel
theorem d_X3_putIn_134 : decode cX3_putIn 134 = .ok (.iload_n 2, 1) := by decide +kernel
theorem d_X3_putIn_135 : decode cX3_putIn 135 = .ok (.invokevirtual 81, 3) := by decide +kernel
abbrev Y_X3_splitLeaf : YT := (cX3_splitLeaf, 5, none, yX3_splitLeaf, [], 4)
theorem mk_X3_splitLeaf : MK Y_X3_splitLeaf 3 := ⟨KW.at (i := 78) (by decide +kernel) rfl, KW.at (i := 729) (by decide +kernel) rfl, ⟨by decide +kernel, by decide +kernel⟩, by decide +kernel, by decide +kernel, rfl, by decide⟩
theorem vm_X3_splitLeaf : KW (.instanceMethod (yN Y_X3_splitLeaf)) ∧ KW (.selects (yN Y_X3_splitLeaf).cls (yN Y_X3_splitLeaf) (yN Y_X3_splitLeaf)) := ⟨KW.at (i := 728) (by decide +kernel) rfl, KW.at (i := 22) (by decide +kernel) rfl⟩
theorem ck_RX3_81 : CKV RX3 81 Y_X3_splitLeaf 3 := ⟨KW.at (i := 726) (by decide +kernel) rfl, vm_X3_splitLeaf.1, vm_X3_splitLeaf.2, mk_X3_splitLeaf⟩
theorem d_X3_splitLeaf_0 : decode cX3_splitLeaf 0 = .ok (.aload_n 0, 1) := by decide +kernel
theorem d_X3_splitLeaf_1 : decode cX3_splitLeaf 1 = .ok (.iload_n 1, 1) := by decide +kernel
theorem d_X3_splitLeaf_2 : decode cX3_splitLeaf 2 = .ok (.iload_n 3, 1) := by decide +kernel
theorem d_X3_splitLeaf_3 : decode cX3_splitLeaf 3 = .ok (.invokevirtual 74, 3) := by decide +kernel
abbrev Y_X3_entriesAhead : YT := (cX3_entriesAhead, 6, (some .int), yX3_entriesAhead, [], 3)
theorem mk_X3_entriesAhead : MK Y_X3_entriesAhead 2 := ⟨KW.at (i := 78) (by decide +kernel) rfl, KW.at (i := 721) (by decide +kernel) rfl, ⟨by decide +kernel, by decide +kernel⟩, by decide +kernel, by decide +kernel, rfl, by decide⟩
theorem vm_X3_entriesAhead : KW (.instanceMethod (yN Y_X3_entriesAhead)) ∧ KW (.selects (yN Y_X3_entriesAhead).cls (yN Y_X3_entriesAhead) (yN Y_X3_entriesAhead)) := ⟨KW.at (i := 720) (by decide +kernel) rfl, KW.at (i := 20) (by decide +kernel) rfl⟩
theorem ck_RX3_74 : CKV RX3 74 Y_X3_entriesAhead 2 := ⟨KW.at (i := 718) (by decide +kernel) rfl, vm_X3_entriesAhead.1, vm_X3_entriesAhead.2, mk_X3_entriesAhead⟩
theorem d_X3_entriesAhead_0 : decode cX3_entriesAhead 0 = .ok (.aload_n 0, 1) := by decide +kernel
theorem d_X3_entriesAhead_1 : decode cX3_entriesAhead 1 = .ok (.getfield 9, 3) := by decide +kernel
theorem d_X3_entriesAhead_4 : decode cX3_entriesAhead 4 = .ok (.iload_n 1, 1) := by decide +kernel
theorem d_X3_entriesAhead_5 : decode cX3_entriesAhead 5 = .ok (.invokevirtual 32, 3) := by decide +kernel
theorem d_X3_entriesAhead_8 : decode cX3_entriesAhead 8 = .ok (.istore_n 3, 1) := by decide +kernel
theorem d_X3_entriesAhead_9 : decode cX3_entriesAhead 9 = .ok (.iconst 0, 1) := by decide +kernel
theorem d_X3_entriesAhead_10 : decode cX3_entriesAhead 10 = .ok (.istore 4, 2) := by decide +kernel
theorem d_X3_entriesAhead_12 : decode cX3_entriesAhead 12 = .ok (.iconst 0, 1) := by decide +kernel
theorem d_X3_entriesAhead_13 : decode cX3_entriesAhead 13 = .ok (.istore 5, 2) := by decide +kernel
theorem d_X3_entriesAhead_15 : decode cX3_entriesAhead 15 = .ok (.iload 5, 2) := by decide +kernel
theorem d_X3_entriesAhead_17 : decode cX3_entriesAhead 17 = .ok (.iload_n 3, 1) := by decide +kernel
theorem d_X3_entriesAhead_18 : decode cX3_entriesAhead 18 = .ok (.if_icmp .ge 26, 3) := by decide +kernel
theorem d_X3_entriesAhead_44 : decode cX3_entriesAhead 44 = .ok (.iload 4, 2) := by decide +kernel
theorem d_X3_entriesAhead_46 : decode cX3_entriesAhead 46 = .ok (.ireturn, 1) := by decide +kernel
theorem d_X3_entriesAhead_21 : decode cX3_entriesAhead 21 = .ok (.aload_n 0, 1) := by decide +kernel
theorem d_X3_entriesAhead_22 : decode cX3_entriesAhead 22 = .ok (.getfield 9, 3) := by decide +kernel
theorem d_X3_entriesAhead_25 : decode cX3_entriesAhead 25 = .ok (.iload_n 1, 1) := by decide +kernel
theorem d_X3_entriesAhead_26 : decode cX3_entriesAhead 26 = .ok (.iload 5, 2) := by decide +kernel
theorem d_X3_entriesAhead_28 : decode cX3_entriesAhead 28 = .ok (.invokevirtual 45, 3) := by decide +kernel
theorem d_X3_entriesAhead_31 : decode cX3_entriesAhead 31 = .ok (.iload_n 2, 1) := by decide +kernel
theorem d_X3_entriesAhead_32 : decode cX3_entriesAhead 32 = .ok (.if_icmp .ge 6, 3) := by decide +kernel
theorem d_X3_entriesAhead_38 : decode cX3_entriesAhead 38 = .ok (.iinc 5 1, 3) := by decide +kernel
theorem d_X3_entriesAhead_41 : decode cX3_entriesAhead 41 = .ok (.goto (-26), 3) := by decide +kernel
theorem d_X3_entriesAhead_35 : decode cX3_entriesAhead 35 = .ok (.iinc 4 1, 3) := by decide +kernel
theorem d_X3_splitLeaf_6 : decode cX3_splitLeaf 6 = .ok (.istore 4, 2) := by decide +kernel
theorem d_X3_splitLeaf_8 : decode cX3_splitLeaf 8 = .ok (.iload 4, 2) := by decide +kernel
theorem d_X3_splitLeaf_10 : decode cX3_splitLeaf 10 = .ok (.iconst 3, 1) := by decide +kernel
theorem d_X3_splitLeaf_11 : decode cX3_splitLeaf 11 = .ok (.if_icmp .ge 27, 3) := by decide +kernel
theorem d_X3_splitLeaf_38 : decode cX3_splitLeaf 38 = .ok (.aload_n 0, 1) := by decide +kernel
theorem d_X3_splitLeaf_39 : decode cX3_splitLeaf 39 = .ok (.getfield 9, 3) := by decide +kernel
theorem d_X3_splitLeaf_42 : decode cX3_splitLeaf 42 = .ok (.iload_n 1, 1) := by decide +kernel
theorem d_X3_splitLeaf_43 : decode cX3_splitLeaf 43 = .ok (.iconst 3, 1) := by decide +kernel
theorem d_X3_splitLeaf_44 : decode cX3_splitLeaf 44 = .ok (.iload_n 2, 1) := by decide +kernel
theorem d_X3_splitLeaf_45 : decode cX3_splitLeaf 45 = .ok (.invokevirtual 101, 3) := by decide +kernel
abbrev Y_X2_moveItems : YT := (cX2_moveItems, 6, none, yX2_moveItems, [], 3)
theorem mk_X2_moveItems : MK Y_X2_moveItems 3 := ⟨KW.at (i := 76) (by decide +kernel) rfl, KW.at (i := 733) (by decide +kernel) rfl, ⟨by decide +kernel, by decide +kernel⟩, by decide +kernel, by decide +kernel, rfl, by decide⟩
theorem vm_X2_moveItems : KW (.instanceMethod (yN Y_X2_moveItems)) ∧ KW (.selects (yN Y_X2_moveItems).cls (yN Y_X2_moveItems) (yN Y_X2_moveItems)) := ⟨KW.at (i := 731) (by decide +kernel) rfl, KW.at (i := 732) (by decide +kernel) rfl⟩
theorem ck_RX3_101 : CKV RX3 101 Y_X2_moveItems 3 := ⟨KW.at (i := 730) (by decide +kernel) rfl, vm_X2_moveItems.1, vm_X2_moveItems.2, mk_X2_moveItems⟩
theorem d_X2_moveItems_0 : decode cX2_moveItems 0 = .ok (.aload_n 0, 1) := by decide +kernel
theorem d_X2_moveItems_1 : decode cX2_moveItems 1 = .ok (.iload_n 1, 1) := by decide +kernel
theorem d_X2_moveItems_2 : decode cX2_moveItems 2 = .ok (.invokevirtual 45, 3) := by decide +kernel
theorem d_X2_moveItems_5 : decode cX2_moveItems 5 = .ok (.istore 4, 2) := by decide +kernel
theorem d_X2_moveItems_7 : decode cX2_moveItems 7 = .ok (.aload_n 0, 1) := by decide +kernel
theorem d_X2_moveItems_8 : decode cX2_moveItems 8 = .ok (.getfield 15, 3) := by decide +kernel
theorem d_X2_moveItems_11 : decode cX2_moveItems 11 = .ok (.iload_n 3, 1) := by decide +kernel
theorem d_X2_moveItems_12 : decode cX2_moveItems 12 = .ok (.iload 4, 2) := by decide +kernel
theorem d_X2_moveItems_14 : decode cX2_moveItems 14 = .ok (.iload_n 2, 1) := by decide +kernel
theorem d_X2_moveItems_15 : decode cX2_moveItems 15 = .ok (.isub, 1) := by decide +kernel
theorem d_X2_moveItems_16 : decode cX2_moveItems 16 = .ok (.invokestatic 31, 3) := by decide +kernel
theorem d_X2_moveItems_19 : decode cX2_moveItems 19 = .ok (.iload_n 2, 1) := by decide +kernel
theorem d_X2_moveItems_20 : decode cX2_moveItems 20 = .ok (.istore 5, 2) := by decide +kernel
theorem d_X2_moveItems_22 : decode cX2_moveItems 22 = .ok (.iload 5, 2) := by decide +kernel
theorem d_X2_moveItems_24 : decode cX2_moveItems 24 = .ok (.iload 4, 2) := by decide +kernel
theorem d_X2_moveItems_26 : decode cX2_moveItems 26 = .ok (.if_icmp .ge 31, 3) := by decide +kernel
theorem d_X2_moveItems_29 : decode cX2_moveItems 29 = .ok (.aload_n 0, 1) := by decide +kernel
theorem d_X2_moveItems_30 : decode cX2_moveItems 30 = .ok (.getfield 15, 3) := by decide +kernel
theorem d_X2_moveItems_33 : decode cX2_moveItems 33 = .ok (.iload_n 3, 1) := by decide +kernel
theorem d_X2_moveItems_34 : decode cX2_moveItems 34 = .ok (.iconst 1, 1) := by decide +kernel
theorem d_X2_moveItems_35 : decode cX2_moveItems 35 = .ok (.iadd, 1) := by decide +kernel
theorem d_X2_moveItems_36 : decode cX2_moveItems 36 = .ok (.iload 5, 2) := by decide +kernel
theorem d_X2_moveItems_38 : decode cX2_moveItems 38 = .ok (.iadd, 1) := by decide +kernel
theorem d_X2_moveItems_39 : decode cX2_moveItems 39 = .ok (.iload_n 2, 1) := by decide +kernel
theorem d_X2_moveItems_40 : decode cX2_moveItems 40 = .ok (.isub, 1) := by decide +kernel
theorem d_X2_moveItems_41 : decode cX2_moveItems 41 = .ok (.aload_n 0, 1) := by decide +kernel
theorem d_X2_moveItems_42 : decode cX2_moveItems 42 = .ok (.iload_n 1, 1) := by decide +kernel
theorem d_X2_moveItems_43 : decode cX2_moveItems 43 = .ok (.iload 5, 2) := by decide +kernel
theorem d_X2_moveItems_45 : decode cX2_moveItems 45 = .ok (.invokevirtual 49, 3) := by decide +kernel
theorem d_X2_moveItems_48 : decode cX2_moveItems 48 = .ok (.invokestatic 31, 3) := by decide +kernel
theorem d_X2_moveItems_51 : decode cX2_moveItems 51 = .ok (.iinc 5 1, 3) := by decide +kernel
theorem d_X2_moveItems_54 : decode cX2_moveItems 54 = .ok (.goto (-32), 3) := by decide +kernel
theorem d_X2_moveItems_57 : decode cX2_moveItems 57 = .ok (.aload_n 0, 1) := by decide +kernel
theorem d_X2_moveItems_58 : decode cX2_moveItems 58 = .ok (.getfield 15, 3) := by decide +kernel
theorem d_X2_moveItems_61 : decode cX2_moveItems 61 = .ok (.iload_n 1, 1) := by decide +kernel
theorem d_X2_moveItems_62 : decode cX2_moveItems 62 = .ok (.iload_n 2, 1) := by decide +kernel
theorem d_X2_moveItems_63 : decode cX2_moveItems 63 = .ok (.invokestatic 31, 3) := by decide +kernel
theorem d_X2_moveItems_66 : decode cX2_moveItems 66 = .ok (.return_, 1) := by decide +kernel
theorem d_X3_splitLeaf_48 : decode cX3_splitLeaf 48 = .ok (.aload_n 0, 1) := by decide +kernel
theorem d_X3_splitLeaf_49 : decode cX3_splitLeaf 49 = .ok (.getfield 9, 3) := by decide +kernel
theorem d_X3_splitLeaf_52 : decode cX3_splitLeaf 52 = .ok (.iload_n 2, 1) := by decide +kernel
theorem d_X3_splitLeaf_53 : decode cX3_splitLeaf 53 = .ok (.iload 4, 2) := by decide +kernel
theorem d_X3_splitLeaf_55 : decode cX3_splitLeaf 55 = .ok (.iconst 3, 1) := by decide +kernel
theorem d_X3_splitLeaf_56 : decode cX3_splitLeaf 56 = .ok (.isub, 1) := by decide +kernel
theorem d_X3_splitLeaf_57 : decode cX3_splitLeaf 57 = .ok (.iload_n 3, 1) := by decide +kernel
theorem d_X3_splitLeaf_58 : decode cX3_splitLeaf 58 = .ok (.invokevirtual 70, 3) := by decide +kernel
theorem d_X3_splitLeaf_61 : decode cX3_splitLeaf 61 = .ok (.return_, 1) := by decide +kernel
theorem d_X3_splitLeaf_14 : decode cX3_splitLeaf 14 = .ok (.aload_n 0, 1) := by decide +kernel
theorem d_X3_splitLeaf_15 : decode cX3_splitLeaf 15 = .ok (.getfield 9, 3) := by decide +kernel
theorem d_X3_splitLeaf_18 : decode cX3_splitLeaf 18 = .ok (.iload_n 1, 1) := by decide +kernel
theorem d_X3_splitLeaf_19 : decode cX3_splitLeaf 19 = .ok (.iconst 2, 1) := by decide +kernel
theorem d_X3_splitLeaf_20 : decode cX3_splitLeaf 20 = .ok (.iload_n 2, 1) := by decide +kernel
theorem d_X3_splitLeaf_21 : decode cX3_splitLeaf 21 = .ok (.invokevirtual 101, 3) := by decide +kernel
theorem d_X3_splitLeaf_24 : decode cX3_splitLeaf 24 = .ok (.aload_n 0, 1) := by decide +kernel
theorem d_X3_splitLeaf_25 : decode cX3_splitLeaf 25 = .ok (.getfield 9, 3) := by decide +kernel
theorem d_X3_splitLeaf_28 : decode cX3_splitLeaf 28 = .ok (.iload_n 1, 1) := by decide +kernel
theorem d_X3_splitLeaf_29 : decode cX3_splitLeaf 29 = .ok (.iload 4, 2) := by decide +kernel
theorem d_X3_splitLeaf_31 : decode cX3_splitLeaf 31 = .ok (.iload_n 3, 1) := by decide +kernel
theorem d_X3_splitLeaf_32 : decode cX3_splitLeaf 32 = .ok (.invokevirtual 70, 3) := by decide +kernel
theorem d_X3_splitLeaf_35 : decode cX3_splitLeaf 35 = .ok (.goto 26, 3) := by decide +kernel
theorem d_X3_putIn_138 : decode cX3_putIn 138 = .ok (.return_, 1) := by decide +kernel
theorem d_X3_putIn_99 : decode cX3_putIn 99 = .ok (.aload_n 0, 1) := by decide +kernel
theorem d_X3_putIn_100 : decode cX3_putIn 100 = .ok (.getfield 9, 3) := by decide +kernel
theorem d_X3_putIn_103 : decode cX3_putIn 103 = .ok (.iload 5, 2) := by decide +kernel
theorem d_X3_putIn_105 : decode cX3_putIn 105 = .ok (.aload_n 0, 1) := by decide +kernel
theorem d_X3_putIn_106 : decode cX3_putIn 106 = .ok (.iload 5, 2) := by decide +kernel
theorem d_X3_putIn_108 : decode cX3_putIn 108 = .ok (.iload_n 2, 1) := by decide +kernel
theorem d_X3_putIn_109 : decode cX3_putIn 109 = .ok (.invokevirtual 74, 3) := by decide +kernel
theorem d_X3_putIn_112 : decode cX3_putIn 112 = .ok (.iload_n 2, 1) := by decide +kernel
theorem d_X3_putIn_113 : decode cX3_putIn 113 = .ok (.invokevirtual 70, 3) := by decide +kernel
theorem d_X3_putIn_116 : decode cX3_putIn 116 = .ok (.goto 22, 3) := by decide +kernel
theorem d_X3_putIn_16 : decode cX3_putIn 16 = .ok (.aload_n 0, 1) := by decide +kernel
theorem d_X3_putIn_17 : decode cX3_putIn 17 = .ok (.getfield 15, 3) := by decide +kernel
theorem d_X3_putIn_20 : decode cX3_putIn 20 = .ok (.iload_n 3, 1) := by decide +kernel
theorem d_X3_putIn_21 : decode cX3_putIn 21 = .ok (.invokevirtual 63, 3) := by decide +kernel
theorem d_X3_putIn_24 : decode cX3_putIn 24 = .ok (.istore 4, 2) := by decide +kernel
theorem d_X3_putIn_26 : decode cX3_putIn 26 = .ok (.aload_n 0, 1) := by decide +kernel
theorem d_X3_putIn_27 : decode cX3_putIn 27 = .ok (.getfield 9, 3) := by decide +kernel
theorem d_X3_putIn_30 : decode cX3_putIn 30 = .ok (.iload 4, 2) := by decide +kernel
theorem d_X3_putIn_32 : decode cX3_putIn 32 = .ok (.iconst 0, 1) := by decide +kernel
theorem d_X3_putIn_33 : decode cX3_putIn 33 = .ok (.invokevirtual 66, 3) := by decide +kernel
theorem d_X3_putIn_36 : decode cX3_putIn 36 = .ok (.aload_n 0, 1) := by decide +kernel
theorem d_X3_putIn_37 : decode cX3_putIn 37 = .ok (.getfield 9, 3) := by decide +kernel
theorem d_X3_putIn_40 : decode cX3_putIn 40 = .ok (.iload 4, 2) := by decide +kernel
theorem d_X3_putIn_42 : decode cX3_putIn 42 = .ok (.iconst 0, 1) := by decide +kernel
theorem d_X3_putIn_43 : decode cX3_putIn 43 = .ok (.iload_n 2, 1) := by decide +kernel
theorem d_X3_putIn_44 : decode cX3_putIn 44 = .ok (.invokevirtual 70, 3) := by decide +kernel
theorem d_X3_putIn_47 : decode cX3_putIn 47 = .ok (.aload_n 0, 1) := by decide +kernel
theorem d_X3_putIn_48 : decode cX3_putIn 48 = .ok (.getfield 9, 3) := by decide +kernel
theorem d_X3_putIn_51 : decode cX3_putIn 51 = .ok (.iload_n 1, 1) := by decide +kernel
theorem d_X3_putIn_52 : decode cX3_putIn 52 = .ok (.iconst 2, 1) := by decide +kernel
theorem d_X3_putIn_53 : decode cX3_putIn 53 = .ok (.iadd, 1) := by decide +kernel
theorem d_X3_putIn_54 : decode cX3_putIn 54 = .ok (.iload 4, 2) := by decide +kernel
theorem d_X3_putIn_56 : decode cX3_putIn 56 = .ok (.invokevirtual 66, 3) := by decide +kernel
theorem d_X3_putIn_59 : decode cX3_putIn 59 = .ok (.return_, 1) := by decide +kernel
theorem d_X7_makeSubkey_164 : decode cX7_makeSubkey 164 = .ok (.aload_n 0, 1) := by decide +kernel
theorem d_X7_makeSubkey_165 : decode cX7_makeSubkey 165 = .ok (.iload_n 1, 1) := by decide +kernel
theorem d_X7_makeSubkey_166 : decode cX7_makeSubkey 166 = .ok (.iconst 1, 1) := by decide +kernel
theorem d_X7_makeSubkey_167 : decode cX7_makeSubkey 167 = .ok (.invokevirtual 146, 3) := by decide +kernel
abbrev Y_X7_tellUpwards : YT := (cX7_tellUpwards, 5, none, yX7_tellUpwards, [], 3)
theorem mk_X7_tellUpwards : MK Y_X7_tellUpwards 2 := ⟨KW.at (i := 75) (by decide +kernel) rfl, KW.at (i := 737) (by decide +kernel) rfl, ⟨by decide +kernel, by decide +kernel⟩, by decide +kernel, by decide +kernel, rfl, by decide⟩
theorem vm_X7_tellUpwards : KW (.instanceMethod (yN Y_X7_tellUpwards)) ∧ KW (.selects (yN Y_X7_tellUpwards).cls (yN Y_X7_tellUpwards) (yN Y_X7_tellUpwards)) := ⟨KW.at (i := 736) (by decide +kernel) rfl, KW.at (i := 23) (by decide +kernel) rfl⟩
theorem ck_RX7_146 : CKV RX7 146 Y_X7_tellUpwards 2 := ⟨KW.at (i := 734) (by decide +kernel) rfl, vm_X7_tellUpwards.1, vm_X7_tellUpwards.2, mk_X7_tellUpwards⟩
theorem d_X7_tellUpwards_0 : decode cX7_tellUpwards 0 = .ok (.aload_n 0, 1) := by decide +kernel
theorem d_X7_tellUpwards_1 : decode cX7_tellUpwards 1 = .ok (.getfield 55, 3) := by decide +kernel
theorem fk_RX7_55 : FK RX7 55 7 5 := ⟨RX7, TX7, 8, rfl, by decide, ws_X7, KW.at (i := 368) (by decide +kernel) rfl⟩
theorem d_X7_tellUpwards_4 : decode cX7_tellUpwards 4 = .ok (.iload_n 1, 1) := by decide +kernel
theorem d_X7_tellUpwards_5 : decode cX7_tellUpwards 5 = .ok (.iload_n 2, 1) := by decide +kernel
theorem d_X7_tellUpwards_6 : decode cX7_tellUpwards 6 = .ok (.iconst 0, 1) := by decide +kernel
theorem d_X7_tellUpwards_7 : decode cX7_tellUpwards 7 = .ok (.invokevirtual 378, 3) := by decide +kernel
abbrev Y_X6_tell : YT := (cX6_tell, 5, none, yX6_tell, [], 2)
theorem mk_X6_tell : MK Y_X6_tell 3 := ⟨KW.at (i := 81) (by decide +kernel) rfl, KW.at (i := 741) (by decide +kernel) rfl, ⟨by decide +kernel, by decide +kernel⟩, by decide +kernel, by decide +kernel, rfl, by decide⟩
theorem vm_X6_tell : KW (.instanceMethod (yN Y_X6_tell)) ∧ KW (.selects (yN Y_X6_tell).cls (yN Y_X6_tell) (yN Y_X6_tell)) := ⟨KW.at (i := 739) (by decide +kernel) rfl, KW.at (i := 740) (by decide +kernel) rfl⟩
theorem ck_RX7_378 : CKV RX7 378 Y_X6_tell 3 := ⟨KW.at (i := 738) (by decide +kernel) rfl, vm_X6_tell.1, vm_X6_tell.2, mk_X6_tell⟩
theorem sh_15 : SH.getD 15 (9, 0, []) = (0, 6, [19, 20, 21, 22, 0]) := rfl
theorem d_X6_tell_0 : decode cX6_tell 0 = .ok (.aload_n 0, 1) := by decide +kernel
theorem d_X6_tell_1 : decode cX6_tell 1 = .ok (.getfield 9, 3) := by decide +kernel
theorem ws_X6 : ∀ w ∈ u_ws RX6 TX6 5, KW w := KW.all (by decide +kernel)
theorem fk_RX6_9 : FK RX6 9 6 0 := ⟨RX6, TX6, 5, rfl, by decide, ws_X6, KW.at (i := 210) (by decide +kernel) rfl⟩
theorem d_X6_tell_4 : decode cX6_tell 4 = .ok (.iload_n 1, 1) := by decide +kernel
theorem d_X6_tell_5 : decode cX6_tell 5 = .ok (.invokestatic 24, 3) := by decide +kernel
theorem ck_RX6_24 : CKN RX6 24 Y_X7_read 2 := ⟨KW.at (i := 492) (by decide +kernel) rfl, sm_X7_read, mk_X7_read⟩
theorem sh_16 : SH.getD 16 (9, 0, []) = (1, 80, []) := rfl
theorem d_X6_tell_8 : decode cX6_tell 8 = .ok (.iload_n 2, 1) := by decide +kernel
theorem d_X6_tell_9 : decode cX6_tell 9 = .ok (.iand, 1) := by decide +kernel
theorem d_X6_tell_10 : decode cX6_tell 10 = .ok (.ifCond .eq 22, 3) := by decide +kernel
theorem d_X6_tell_33 : decode cX6_tell 33 = .ok (.istore 4, 2) := by decide +kernel
theorem d_X6_tell_35 : decode cX6_tell 35 = .ok (.iload 4, 2) := by decide +kernel
theorem d_X6_tell_37 : decode cX6_tell 37 = .ok (.ifCond .eq 45, 3) := by decide +kernel
theorem d_X6_tell_82 : decode cX6_tell 82 = .ok (.return_, 1) := by decide +kernel
theorem d_X6_tell_40 : decode cX6_tell 40 = .ok (.aload_n 0, 1) := by decide +kernel
theorem d_X6_tell_41 : decode cX6_tell 41 = .ok (.getfield 18, 3) := by decide +kernel
theorem fk_RX6_18 : FK RX6 18 6 2 := ⟨RX6, TX6, 5, rfl, by decide, ws_X6, KW.at (i := 212) (by decide +kernel) rfl⟩
theorem d_X6_tell_44 : decode cX6_tell 44 = .ok (.iload_n 1, 1) := by decide +kernel
theorem d_X6_tell_45 : decode cX6_tell 45 = .ok (.invokestatic 24, 3) := by decide +kernel
theorem sh_18 : SH.getD 18 (9, 0, []) = (1, 80, []) := rfl
theorem d_X6_tell_48 : decode cX6_tell 48 = .ok (.ifCond .ne 34, 3) := by decide +kernel
theorem d_X6_tell_51 : decode cX6_tell 51 = .ok (.aload_n 0, 1) := by decide +kernel
theorem d_X6_tell_52 : decode cX6_tell 52 = .ok (.dup, 1) := by decide +kernel
theorem d_X6_tell_53 : decode cX6_tell 53 = .ok (.getfield 40, 3) := by decide +kernel
theorem fk_RX6_40 : FK RX6 40 6 4 := ⟨RX6, TX6, 5, rfl, by decide, ws_X6, KW.at (i := 214) (by decide +kernel) rfl⟩
theorem d_X6_tell_56 : decode cX6_tell 56 = .ok (.iconst 1, 1) := by decide +kernel
theorem d_X6_tell_57 : decode cX6_tell 57 = .ok (.iadd, 1) := by decide +kernel
theorem d_X6_tell_58 : decode cX6_tell 58 = .ok (.putfield 40, 3) := by decide +kernel
theorem pk_RX6_40 : PK RX6 40 6 4 .int := ⟨RX6, TX6, 5, tyX6, rfl, by decide, ws_X6, KW.at (i := 214) (by decide +kernel) rfl, tyX6_ok, nmX6, rfl, rfl⟩
theorem d_X6_tell_61 : decode cX6_tell 61 = .ok (.aload_n 0, 1) := by decide +kernel
theorem d_X6_tell_62 : decode cX6_tell 62 = .ok (.getfield 18, 3) := by decide +kernel
theorem d_X6_tell_65 : decode cX6_tell 65 = .ok (.iload_n 1, 1) := by decide +kernel
theorem d_X6_tell_66 : decode cX6_tell 66 = .ok (.iload_n 2, 1) := by decide +kernel
theorem d_X6_tell_67 : decode cX6_tell 67 = .ok (.invokestatic 28, 3) := by decide +kernel
theorem ck_RX6_28 : CKN RX6 28 Y_X7_store 3 := ⟨KW.at (i := 497) (by decide +kernel) rfl, sm_X7_store, mk_X7_store⟩
theorem d_X6_tell_70 : decode cX6_tell 70 = .ok (.aload_n 0, 1) := by decide +kernel
theorem d_X6_tell_71 : decode cX6_tell 71 = .ok (.getfield 21, 3) := by decide +kernel
theorem fk_RX6_21 : FK RX6 21 6 3 := ⟨RX6, TX6, 5, rfl, by decide, ws_X6, KW.at (i := 213) (by decide +kernel) rfl⟩
theorem d_X6_tell_74 : decode cX6_tell 74 = .ok (.iload_n 1, 1) := by decide +kernel
theorem d_X6_tell_75 : decode cX6_tell 75 = .ok (.aload_n 0, 1) := by decide +kernel
theorem d_X6_tell_76 : decode cX6_tell 76 = .ok (.getfield 40, 3) := by decide +kernel
theorem d_X6_tell_79 : decode cX6_tell 79 = .ok (.invokestatic 28, 3) := by decide +kernel
theorem sh_19 : SH.getD 19 (9, 0, []) = (1, 80, []) := rfl
theorem d_X6_tell_32 : decode cX6_tell 32 = .ok (.iconst 0, 1) := by decide +kernel
theorem d_X6_tell_13 : decode cX6_tell 13 = .ok (.aload_n 0, 1) := by decide +kernel
theorem d_X6_tell_14 : decode cX6_tell 14 = .ok (.getfield 15, 3) := by decide +kernel
theorem fk_RX6_15 : FK RX6 15 6 1 := ⟨RX6, TX6, 5, rfl, by decide, ws_X6, KW.at (i := 211) (by decide +kernel) rfl⟩
theorem d_X6_tell_17 : decode cX6_tell 17 = .ok (.iload_n 1, 1) := by decide +kernel
theorem d_X6_tell_18 : decode cX6_tell 18 = .ok (.invokestatic 24, 3) := by decide +kernel
theorem sh_17 : SH.getD 17 (9, 0, []) = (1, 80, []) := rfl
theorem d_X6_tell_21 : decode cX6_tell 21 = .ok (.ifCond .ne 7, 3) := by decide +kernel
theorem d_X6_tell_28 : decode cX6_tell 28 = .ok (.iconst 1, 1) := by decide +kernel
theorem d_X6_tell_29 : decode cX6_tell 29 = .ok (.goto 4, 3) := by decide +kernel
theorem d_X6_tell_24 : decode cX6_tell 24 = .ok (.iload_n 3, 1) := by decide +kernel
theorem d_X6_tell_25 : decode cX6_tell 25 = .ok (.ifCond .ne 7, 3) := by decide +kernel
theorem d_X7_tellUpwards_10 : decode cX7_tellUpwards 10 = .ok (.aload_n 0, 1) := by decide +kernel
theorem d_X7_tellUpwards_11 : decode cX7_tellUpwards 11 = .ok (.getfield 21, 3) := by decide +kernel
theorem d_X7_tellUpwards_14 : decode cX7_tellUpwards 14 = .ok (.aload_n 0, 1) := by decide +kernel
theorem d_X7_tellUpwards_15 : decode cX7_tellUpwards 15 = .ok (.getfield 21, 3) := by decide +kernel
theorem d_X7_tellUpwards_18 : decode cX7_tellUpwards 18 = .ok (.iload_n 1, 1) := by decide +kernel
theorem d_X7_tellUpwards_19 : decode cX7_tellUpwards 19 = .ok (.invokevirtual 108, 3) := by decide +kernel
theorem d_X7_tellUpwards_22 : decode cX7_tellUpwards 22 = .ok (.iconst 1, 1) := by decide +kernel
theorem d_X7_tellUpwards_23 : decode cX7_tellUpwards 23 = .ok (.iadd, 1) := by decide +kernel
theorem d_X7_tellUpwards_24 : decode cX7_tellUpwards 24 = .ok (.invokevirtual 111, 3) := by decide +kernel
theorem d_X7_tellUpwards_27 : decode cX7_tellUpwards 27 = .ok (.istore_n 3, 1) := by decide +kernel
theorem d_X7_tellUpwards_28 : decode cX7_tellUpwards 28 = .ok (.iconst 0, 1) := by decide +kernel
theorem d_X7_tellUpwards_29 : decode cX7_tellUpwards 29 = .ok (.istore 4, 2) := by decide +kernel
theorem d_X7_tellUpwards_31 : decode cX7_tellUpwards 31 = .ok (.iload 4, 2) := by decide +kernel
theorem d_X7_tellUpwards_33 : decode cX7_tellUpwards 33 = .ok (.bipush 80, 2) := by decide +kernel
theorem d_X7_tellUpwards_35 : decode cX7_tellUpwards 35 = .ok (.if_icmp .ge 42, 3) := by decide +kernel
theorem d_X7_tellUpwards_77 : decode cX7_tellUpwards 77 = .ok (.return_, 1) := by decide +kernel
theorem d_X7_tellUpwards_38 : decode cX7_tellUpwards 38 = .ok (.iload_n 3, 1) := by decide +kernel
theorem d_X7_tellUpwards_39 : decode cX7_tellUpwards 39 = .ok (.iconst (-1), 1) := by decide +kernel
theorem d_X7_tellUpwards_40 : decode cX7_tellUpwards 40 = .ok (.if_icmp .eq 37, 3) := by decide +kernel
theorem d_X7_tellUpwards_43 : decode cX7_tellUpwards 43 = .ok (.aload_n 0, 1) := by decide +kernel
theorem d_X7_tellUpwards_44 : decode cX7_tellUpwards 44 = .ok (.getfield 55, 3) := by decide +kernel
theorem d_X7_tellUpwards_47 : decode cX7_tellUpwards 47 = .ok (.iload_n 3, 1) := by decide +kernel
theorem d_X7_tellUpwards_48 : decode cX7_tellUpwards 48 = .ok (.iload_n 2, 1) := by decide +kernel
theorem d_X7_tellUpwards_49 : decode cX7_tellUpwards 49 = .ok (.iconst 1, 1) := by decide +kernel
theorem d_X7_tellUpwards_50 : decode cX7_tellUpwards 50 = .ok (.invokevirtual 378, 3) := by decide +kernel
theorem d_X7_tellUpwards_53 : decode cX7_tellUpwards 53 = .ok (.aload_n 0, 1) := by decide +kernel
theorem d_X7_tellUpwards_54 : decode cX7_tellUpwards 54 = .ok (.getfield 21, 3) := by decide +kernel
theorem d_X7_tellUpwards_57 : decode cX7_tellUpwards 57 = .ok (.aload_n 0, 1) := by decide +kernel
theorem d_X7_tellUpwards_58 : decode cX7_tellUpwards 58 = .ok (.getfield 21, 3) := by decide +kernel
theorem d_X7_tellUpwards_61 : decode cX7_tellUpwards 61 = .ok (.iload_n 3, 1) := by decide +kernel
theorem d_X7_tellUpwards_62 : decode cX7_tellUpwards 62 = .ok (.invokevirtual 108, 3) := by decide +kernel
theorem d_X7_tellUpwards_65 : decode cX7_tellUpwards 65 = .ok (.iconst 1, 1) := by decide +kernel
theorem d_X7_tellUpwards_66 : decode cX7_tellUpwards 66 = .ok (.iadd, 1) := by decide +kernel
theorem d_X7_tellUpwards_67 : decode cX7_tellUpwards 67 = .ok (.invokevirtual 111, 3) := by decide +kernel
theorem d_X7_tellUpwards_70 : decode cX7_tellUpwards 70 = .ok (.istore_n 3, 1) := by decide +kernel
theorem d_X7_tellUpwards_71 : decode cX7_tellUpwards 71 = .ok (.iinc 4 1, 3) := by decide +kernel
theorem d_X7_tellUpwards_74 : decode cX7_tellUpwards 74 = .ok (.goto (-43), 3) := by decide +kernel
theorem d_X7_makeSubkey_170 : decode cX7_makeSubkey 170 = .ok (.iload 5, 2) := by decide +kernel
theorem d_X7_makeSubkey_172 : decode cX7_makeSubkey 172 = .ok (.ireturn, 1) := by decide +kernel
theorem d_X7_makeSubkey_46 : decode cX7_makeSubkey 46 = .ok (.new 204, 3) := by decide +kernel
theorem d_X7_makeSubkey_49 : decode cX7_makeSubkey 49 = .ok (.dup, 1) := by decide +kernel
theorem d_X7_makeSubkey_50 : decode cX7_makeSubkey 50 = .ok (.ldc_w 373, 3) := by decide +kernel
theorem d_X7_makeSubkey_53 : decode cX7_makeSubkey 53 = .ok (.invokespecial 208, 3) := by decide +kernel
theorem d_X7_makeSubkey_56 : decode cX7_makeSubkey 56 = .ok (.athrow, 1) := by decide +kernel
theorem d_X7_make_16 : decode cX7_make 16 = .ok (.ireturn, 1) := by decide +kernel
abbrev Y_X7_makeLink : YT := (cX7_makeLink, 4, (some .int), yX7_makeLink, [], 8)
theorem d_X7_makeLink_0 : decode cX7_makeLink 0 = .ok (.aload_n 0, 1) := by decide +kernel
theorem d_X7_makeLink_1 : decode cX7_makeLink 1 = .ok (.iload_n 1, 1) := by decide +kernel
theorem d_X7_makeLink_2 : decode cX7_makeLink 2 = .ok (.invokevirtual 95, 3) := by decide +kernel
theorem d_X7_makeLink_5 : decode cX7_makeLink 5 = .ok (.aload_n 0, 1) := by decide +kernel
theorem d_X7_makeLink_6 : decode cX7_makeLink 6 = .ok (.iload_n 3, 1) := by decide +kernel
theorem d_X7_makeLink_7 : decode cX7_makeLink 7 = .ok (.invokevirtual 95, 3) := by decide +kernel
theorem d_X7_makeLink_10 : decode cX7_makeLink 10 = .ok (.iload_n 2, 1) := by decide +kernel
theorem d_X7_makeLink_11 : decode cX7_makeLink 11 = .ok (.invokestatic 98, 3) := by decide +kernel
theorem d_X7_makeLink_14 : decode cX7_makeLink 14 = .ok (.aload_n 0, 1) := by decide +kernel
theorem d_X7_makeLink_15 : decode cX7_makeLink 15 = .ok (.iload_n 1, 1) := by decide +kernel
theorem d_X7_makeLink_16 : decode cX7_makeLink 16 = .ok (.iload_n 2, 1) := by decide +kernel
theorem d_X7_makeLink_17 : decode cX7_makeLink 17 = .ok (.iload_n 3, 1) := by decide +kernel
theorem d_X7_makeLink_18 : decode cX7_makeLink 18 = .ok (.invokevirtual 101, 3) := by decide +kernel
theorem d_X7_makeLink_21 : decode cX7_makeLink 21 = .ok (.ireturn, 1) := by decide +kernel
abbrev Y_X7_rename : YT := (cX7_rename, 7, (some .int), yX7_rename, [], 7)
theorem d_X7_rename_0 : decode cX7_rename 0 = .ok (.aload_n 0, 1) := by decide +kernel
theorem d_X7_rename_1 : decode cX7_rename 1 = .ok (.iload_n 1, 1) := by decide +kernel
theorem d_X7_rename_2 : decode cX7_rename 2 = .ok (.invokevirtual 95, 3) := by decide +kernel
theorem d_X7_rename_5 : decode cX7_rename 5 = .ok (.iload_n 2, 1) := by decide +kernel
theorem d_X7_rename_6 : decode cX7_rename 6 = .ok (.invokestatic 98, 3) := by decide +kernel
theorem d_X7_rename_9 : decode cX7_rename 9 = .ok (.iload_n 1, 1) := by decide +kernel
theorem d_X7_rename_10 : decode cX7_rename 10 = .ok (.invokestatic 105, 3) := by decide +kernel
abbrev Y_X7_requireNotRoot : YT := (cX7_requireNotRoot, 1, none, yX7_requireNotRoot, [], 6)
theorem mk_X7_requireNotRoot : MK Y_X7_requireNotRoot 1 := ⟨KW.at (i := 75) (by decide +kernel) rfl, KW.at (i := 758) (by decide +kernel) rfl, ⟨by decide +kernel, by decide +kernel⟩, by decide +kernel, by decide +kernel, rfl, by decide⟩
theorem sm_X7_requireNotRoot : KW (.static (yN Y_X7_requireNotRoot)) := KW.at (i := 757) (by decide +kernel) rfl
theorem ck_RX7_105 : CKS RX7 105 Y_X7_requireNotRoot 1 := ⟨KW.at (i := 756) (by decide +kernel) rfl, sm_X7_requireNotRoot, mk_X7_requireNotRoot⟩
theorem d_X7_requireNotRoot_0 : decode cX7_requireNotRoot 0 = .ok (.iload_n 0, 1) := by decide +kernel
theorem d_X7_requireNotRoot_1 : decode cX7_requireNotRoot 1 = .ok (.ifCond .ne 14, 3) := by decide +kernel
theorem d_X7_requireNotRoot_15 : decode cX7_requireNotRoot 15 = .ok (.return_, 1) := by decide +kernel
theorem d_X7_requireNotRoot_4 : decode cX7_requireNotRoot 4 = .ok (.new 204, 3) := by decide +kernel
theorem d_X7_requireNotRoot_7 : decode cX7_requireNotRoot 7 = .ok (.dup, 1) := by decide +kernel
theorem d_X7_requireNotRoot_8 : decode cX7_requireNotRoot 8 = .ok (.ldc_w 358, 3) := by decide +kernel
theorem d_X7_requireNotRoot_11 : decode cX7_requireNotRoot 11 = .ok (.invokespecial 208, 3) := by decide +kernel
theorem d_X7_requireNotRoot_14 : decode cX7_requireNotRoot 14 = .ok (.athrow, 1) := by decide +kernel
theorem d_X7_rename_13 : decode cX7_rename 13 = .ok (.aload_n 0, 1) := by decide +kernel
theorem d_X7_rename_14 : decode cX7_rename 14 = .ok (.getfield 21, 3) := by decide +kernel
theorem d_X7_rename_17 : decode cX7_rename 17 = .ok (.iload_n 1, 1) := by decide +kernel
theorem d_X7_rename_18 : decode cX7_rename 18 = .ok (.invokevirtual 108, 3) := by decide +kernel
theorem d_X7_rename_21 : decode cX7_rename 21 = .ok (.istore_n 3, 1) := by decide +kernel
theorem d_X7_rename_22 : decode cX7_rename 22 = .ok (.aload_n 0, 1) := by decide +kernel
theorem d_X7_rename_23 : decode cX7_rename 23 = .ok (.getfield 21, 3) := by decide +kernel
theorem d_X7_rename_26 : decode cX7_rename 26 = .ok (.iload_n 3, 1) := by decide +kernel
theorem d_X7_rename_27 : decode cX7_rename 27 = .ok (.iconst 1, 1) := by decide +kernel
theorem d_X7_rename_28 : decode cX7_rename 28 = .ok (.iadd, 1) := by decide +kernel
theorem d_X7_rename_29 : decode cX7_rename 29 = .ok (.invokevirtual 111, 3) := by decide +kernel
theorem d_X7_rename_32 : decode cX7_rename 32 = .ok (.istore 4, 2) := by decide +kernel
theorem d_X7_rename_34 : decode cX7_rename 34 = .ok (.aload_n 0, 1) := by decide +kernel
theorem d_X7_rename_35 : decode cX7_rename 35 = .ok (.getfield 21, 3) := by decide +kernel
theorem d_X7_rename_38 : decode cX7_rename 38 = .ok (.iload 4, 2) := by decide +kernel
theorem d_X7_rename_40 : decode cX7_rename 40 = .ok (.invokevirtual 108, 3) := by decide +kernel
theorem d_X7_rename_43 : decode cX7_rename 43 = .ok (.istore 5, 2) := by decide +kernel
theorem d_X7_rename_45 : decode cX7_rename 45 = .ok (.aload_n 0, 1) := by decide +kernel
theorem d_X7_rename_46 : decode cX7_rename 46 = .ok (.getfield 21, 3) := by decide +kernel
theorem d_X7_rename_49 : decode cX7_rename 49 = .ok (.iload_n 3, 1) := by decide +kernel
theorem d_X7_rename_50 : decode cX7_rename 50 = .ok (.iconst 0, 1) := by decide +kernel
theorem d_X7_rename_51 : decode cX7_rename 51 = .ok (.iadd, 1) := by decide +kernel
theorem d_X7_rename_52 : decode cX7_rename 52 = .ok (.invokevirtual 111, 3) := by decide +kernel
theorem d_X7_rename_55 : decode cX7_rename 55 = .ok (.istore 6, 2) := by decide +kernel
theorem d_X7_rename_57 : decode cX7_rename 57 = .ok (.aload_n 0, 1) := by decide +kernel
theorem d_X7_rename_58 : decode cX7_rename 58 = .ok (.iload 5, 2) := by decide +kernel
theorem d_X7_rename_60 : decode cX7_rename 60 = .ok (.iload_n 2, 1) := by decide +kernel
theorem d_X7_rename_61 : decode cX7_rename 61 = .ok (.invokevirtual 114, 3) := by decide +kernel
theorem d_X7_rename_64 : decode cX7_rename 64 = .ok (.aload_n 0, 1) := by decide +kernel
theorem d_X7_rename_65 : decode cX7_rename 65 = .ok (.getfield 25, 3) := by decide +kernel
theorem d_X7_rename_68 : decode cX7_rename 68 = .ok (.invokevirtual 66, 3) := by decide +kernel
theorem d_X7_rename_71 : decode cX7_rename 71 = .ok (.aload_n 0, 1) := by decide +kernel
theorem d_X7_rename_72 : decode cX7_rename 72 = .ok (.getfield 34, 3) := by decide +kernel
theorem d_X7_rename_75 : decode cX7_rename 75 = .ok (.iload 5, 2) := by decide +kernel
theorem d_X7_rename_77 : decode cX7_rename 77 = .ok (.iload_n 1, 1) := by decide +kernel
theorem d_X7_rename_78 : decode cX7_rename 78 = .ok (.iload_n 2, 1) := by decide +kernel
theorem d_X7_rename_79 : decode cX7_rename 79 = .ok (.invokestatic 118, 3) := by decide +kernel
theorem d_X7_rename_82 : decode cX7_rename 82 = .ok (.invokevirtual 122, 3) := by decide +kernel
theorem d_X7_rename_85 : decode cX7_rename 85 = .ok (.invokestatic 126, 3) := by decide +kernel
theorem d_X7_rename_88 : decode cX7_rename 88 = .ok (.aload_n 0, 1) := by decide +kernel
theorem d_X7_rename_89 : decode cX7_rename 89 = .ok (.getfield 25, 3) := by decide +kernel
theorem d_X7_rename_92 : decode cX7_rename 92 = .ok (.invokevirtual 73, 3) := by decide +kernel
theorem d_X7_rename_95 : decode cX7_rename 95 = .ok (.invokestatic 130, 3) := by decide +kernel
theorem d_X7_rename_98 : decode cX7_rename 98 = .ok (.aload_n 0, 1) := by decide +kernel
theorem d_X7_rename_99 : decode cX7_rename 99 = .ok (.getfield 34, 3) := by decide +kernel
theorem d_X7_rename_102 : decode cX7_rename 102 = .ok (.iload 5, 2) := by decide +kernel
theorem d_X7_rename_104 : decode cX7_rename 104 = .ok (.iload_n 1, 1) := by decide +kernel
theorem d_X7_rename_105 : decode cX7_rename 105 = .ok (.iload_n 2, 1) := by decide +kernel
theorem d_X7_rename_106 : decode cX7_rename 106 = .ok (.invokestatic 118, 3) := by decide +kernel
theorem d_X7_rename_109 : decode cX7_rename 109 = .ok (.iconst 0, 1) := by decide +kernel
theorem d_X7_rename_110 : decode cX7_rename 110 = .ok (.invokevirtual 133, 3) := by decide +kernel
theorem d_X7_rename_113 : decode cX7_rename 113 = .ok (.aload_n 0, 1) := by decide +kernel
theorem d_X7_rename_114 : decode cX7_rename 114 = .ok (.getfield 34, 3) := by decide +kernel
theorem d_X7_rename_117 : decode cX7_rename 117 = .ok (.iload 5, 2) := by decide +kernel
theorem d_X7_rename_119 : decode cX7_rename 119 = .ok (.iload_n 1, 1) := by decide +kernel
theorem d_X7_rename_120 : decode cX7_rename 120 = .ok (.iload 6, 2) := by decide +kernel
theorem d_X7_rename_122 : decode cX7_rename 122 = .ok (.invokestatic 118, 3) := by decide +kernel
theorem d_X7_rename_125 : decode cX7_rename 125 = .ok (.invokevirtual 137, 3) := by decide +kernel
abbrev Y_X3_takeOut : YT := (cX3_takeOut, 5, (some .int), yX3_takeOut, [], 5)
theorem mk_X3_takeOut : MK Y_X3_takeOut 2 := ⟨KW.at (i := 78) (by decide +kernel) rfl, KW.at (i := 763) (by decide +kernel) rfl, ⟨by decide +kernel, by decide +kernel⟩, by decide +kernel, by decide +kernel, rfl, by decide⟩
theorem vm_X3_takeOut : KW (.instanceMethod (yN Y_X3_takeOut)) ∧ KW (.selects (yN Y_X3_takeOut).cls (yN Y_X3_takeOut) (yN Y_X3_takeOut)) := ⟨KW.at (i := 761) (by decide +kernel) rfl, KW.at (i := 762) (by decide +kernel) rfl⟩
theorem ck_RX7_137 : CKV RX7 137 Y_X3_takeOut 2 := ⟨KW.at (i := 760) (by decide +kernel) rfl, vm_X3_takeOut.1, vm_X3_takeOut.2, mk_X3_takeOut⟩
theorem d_X3_takeOut_0 : decode cX3_takeOut 0 = .ok (.aload_n 0, 1) := by decide +kernel
theorem d_X3_takeOut_1 : decode cX3_takeOut 1 = .ok (.getfield 15, 3) := by decide +kernel
theorem d_X3_takeOut_4 : decode cX3_takeOut 4 = .ok (.iload_n 1, 1) := by decide +kernel
theorem d_X3_takeOut_5 : decode cX3_takeOut 5 = .ok (.invokevirtual 60, 3) := by decide +kernel
theorem d_X3_takeOut_8 : decode cX3_takeOut 8 = .ok (.aload_n 0, 1) := by decide +kernel
theorem d_X3_takeOut_9 : decode cX3_takeOut 9 = .ok (.iload_n 1, 1) := by decide +kernel
theorem d_X3_takeOut_10 : decode cX3_takeOut 10 = .ok (.iload_n 2, 1) := by decide +kernel
theorem d_X3_takeOut_11 : decode cX3_takeOut 11 = .ok (.invokevirtual 51, 3) := by decide +kernel
theorem d_X3_takeOut_14 : decode cX3_takeOut 14 = .ok (.istore_n 3, 1) := by decide +kernel
theorem d_X3_takeOut_15 : decode cX3_takeOut 15 = .ok (.aload_n 0, 1) := by decide +kernel
theorem d_X3_takeOut_16 : decode cX3_takeOut 16 = .ok (.iload_n 1, 1) := by decide +kernel
theorem d_X3_takeOut_17 : decode cX3_takeOut 17 = .ok (.iload_n 3, 1) := by decide +kernel
theorem d_X3_takeOut_18 : decode cX3_takeOut 18 = .ok (.invokevirtual 38, 3) := by decide +kernel
theorem d_X3_takeOut_21 : decode cX3_takeOut 21 = .ok (.istore 4, 2) := by decide +kernel
theorem d_X3_takeOut_23 : decode cX3_takeOut 23 = .ok (.aload_n 0, 1) := by decide +kernel
theorem d_X3_takeOut_24 : decode cX3_takeOut 24 = .ok (.getfield 15, 3) := by decide +kernel
theorem d_X3_takeOut_27 : decode cX3_takeOut 27 = .ok (.iload 4, 2) := by decide +kernel
theorem d_X3_takeOut_29 : decode cX3_takeOut 29 = .ok (.invokevirtual 60, 3) := by decide +kernel
theorem d_X3_takeOut_32 : decode cX3_takeOut 32 = .ok (.aload_n 0, 1) := by decide +kernel
theorem d_X3_takeOut_33 : decode cX3_takeOut 33 = .ok (.getfield 9, 3) := by decide +kernel
theorem d_X3_takeOut_36 : decode cX3_takeOut 36 = .ok (.iload 4, 2) := by decide +kernel
theorem d_X3_takeOut_38 : decode cX3_takeOut 38 = .ok (.aload_n 0, 1) := by decide +kernel
theorem d_X3_takeOut_39 : decode cX3_takeOut 39 = .ok (.iload 4, 2) := by decide +kernel
theorem d_X3_takeOut_41 : decode cX3_takeOut 41 = .ok (.iload_n 2, 1) := by decide +kernel
theorem d_X3_takeOut_42 : decode cX3_takeOut 42 = .ok (.invokevirtual 74, 3) := by decide +kernel
theorem d_X3_takeOut_45 : decode cX3_takeOut 45 = .ok (.invokevirtual 84, 3) := by decide +kernel
abbrev Y_X2_removeItem : YT := (cX2_removeItem, 5, none, yX2_removeItem, [], 3)
theorem mk_X2_removeItem : MK Y_X2_removeItem 2 := ⟨KW.at (i := 76) (by decide +kernel) rfl, KW.at (i := 767) (by decide +kernel) rfl, ⟨by decide +kernel, by decide +kernel⟩, by decide +kernel, by decide +kernel, rfl, by decide⟩
theorem vm_X2_removeItem : KW (.instanceMethod (yN Y_X2_removeItem)) ∧ KW (.selects (yN Y_X2_removeItem).cls (yN Y_X2_removeItem) (yN Y_X2_removeItem)) := ⟨KW.at (i := 765) (by decide +kernel) rfl, KW.at (i := 766) (by decide +kernel) rfl⟩
theorem ck_RX3_84 : CKV RX3 84 Y_X2_removeItem 2 := ⟨KW.at (i := 764) (by decide +kernel) rfl, vm_X2_removeItem.1, vm_X2_removeItem.2, mk_X2_removeItem⟩
theorem d_X2_removeItem_0 : decode cX2_removeItem 0 = .ok (.aload_n 0, 1) := by decide +kernel
theorem d_X2_removeItem_1 : decode cX2_removeItem 1 = .ok (.iload_n 1, 1) := by decide +kernel
theorem d_X2_removeItem_2 : decode cX2_removeItem 2 = .ok (.invokevirtual 45, 3) := by decide +kernel
theorem d_X2_removeItem_5 : decode cX2_removeItem 5 = .ok (.iconst 1, 1) := by decide +kernel
theorem d_X2_removeItem_6 : decode cX2_removeItem 6 = .ok (.isub, 1) := by decide +kernel
theorem d_X2_removeItem_7 : decode cX2_removeItem 7 = .ok (.istore_n 3, 1) := by decide +kernel
theorem d_X2_removeItem_8 : decode cX2_removeItem 8 = .ok (.iload_n 2, 1) := by decide +kernel
theorem d_X2_removeItem_9 : decode cX2_removeItem 9 = .ok (.istore 4, 2) := by decide +kernel
theorem d_X2_removeItem_11 : decode cX2_removeItem 11 = .ok (.iload 4, 2) := by decide +kernel
theorem d_X2_removeItem_13 : decode cX2_removeItem 13 = .ok (.iload_n 3, 1) := by decide +kernel
theorem d_X2_removeItem_14 : decode cX2_removeItem 14 = .ok (.if_icmp .ge 31, 3) := by decide +kernel
theorem d_X2_removeItem_17 : decode cX2_removeItem 17 = .ok (.aload_n 0, 1) := by decide +kernel
theorem d_X2_removeItem_18 : decode cX2_removeItem 18 = .ok (.getfield 15, 3) := by decide +kernel
theorem d_X2_removeItem_21 : decode cX2_removeItem 21 = .ok (.iload_n 1, 1) := by decide +kernel
theorem d_X2_removeItem_22 : decode cX2_removeItem 22 = .ok (.iconst 1, 1) := by decide +kernel
theorem d_X2_removeItem_23 : decode cX2_removeItem 23 = .ok (.iadd, 1) := by decide +kernel
theorem d_X2_removeItem_24 : decode cX2_removeItem 24 = .ok (.iload 4, 2) := by decide +kernel
theorem d_X2_removeItem_26 : decode cX2_removeItem 26 = .ok (.iadd, 1) := by decide +kernel
theorem d_X2_removeItem_27 : decode cX2_removeItem 27 = .ok (.aload_n 0, 1) := by decide +kernel
theorem d_X2_removeItem_28 : decode cX2_removeItem 28 = .ok (.iload_n 1, 1) := by decide +kernel
theorem d_X2_removeItem_29 : decode cX2_removeItem 29 = .ok (.iload 4, 2) := by decide +kernel
theorem d_X2_removeItem_31 : decode cX2_removeItem 31 = .ok (.iconst 1, 1) := by decide +kernel
theorem d_X2_removeItem_32 : decode cX2_removeItem 32 = .ok (.iadd, 1) := by decide +kernel
theorem d_X2_removeItem_33 : decode cX2_removeItem 33 = .ok (.invokevirtual 49, 3) := by decide +kernel
theorem d_X2_removeItem_36 : decode cX2_removeItem 36 = .ok (.invokestatic 31, 3) := by decide +kernel
theorem d_X2_removeItem_39 : decode cX2_removeItem 39 = .ok (.iinc 4 1, 3) := by decide +kernel
theorem d_X2_removeItem_42 : decode cX2_removeItem 42 = .ok (.goto (-31), 3) := by decide +kernel
theorem d_X2_removeItem_45 : decode cX2_removeItem 45 = .ok (.aload_n 0, 1) := by decide +kernel
theorem d_X2_removeItem_46 : decode cX2_removeItem 46 = .ok (.getfield 15, 3) := by decide +kernel
theorem d_X2_removeItem_49 : decode cX2_removeItem 49 = .ok (.iload_n 1, 1) := by decide +kernel
theorem d_X2_removeItem_50 : decode cX2_removeItem 50 = .ok (.iload_n 3, 1) := by decide +kernel
theorem d_X2_removeItem_51 : decode cX2_removeItem 51 = .ok (.invokestatic 31, 3) := by decide +kernel
theorem d_X2_removeItem_54 : decode cX2_removeItem 54 = .ok (.return_, 1) := by decide +kernel
theorem d_X3_takeOut_48 : decode cX3_takeOut 48 = .ok (.aload_n 0, 1) := by decide +kernel
theorem d_X3_takeOut_49 : decode cX3_takeOut 49 = .ok (.getfield 9, 3) := by decide +kernel
theorem d_X3_takeOut_52 : decode cX3_takeOut 52 = .ok (.iload 4, 2) := by decide +kernel
theorem d_X3_takeOut_54 : decode cX3_takeOut 54 = .ok (.invokevirtual 32, 3) := by decide +kernel
theorem d_X3_takeOut_57 : decode cX3_takeOut 57 = .ok (.ifCond .le 5, 3) := by decide +kernel
theorem d_X3_takeOut_62 : decode cX3_takeOut 62 = .ok (.aload_n 0, 1) := by decide +kernel
theorem d_X3_takeOut_63 : decode cX3_takeOut 63 = .ok (.getfield 15, 3) := by decide +kernel
theorem d_X3_takeOut_66 : decode cX3_takeOut 66 = .ok (.iload 4, 2) := by decide +kernel
theorem d_X3_takeOut_68 : decode cX3_takeOut 68 = .ok (.invokevirtual 87, 3) := by decide +kernel
abbrev Y_X0_giveBack : YT := (cX0_giveBack, 7, (some .int), yX0_giveBack, [], 3)
theorem mk_X0_giveBack : MK Y_X0_giveBack 1 := ⟨KW.at (i := 77) (by decide +kernel) rfl, KW.at (i := 771) (by decide +kernel) rfl, ⟨by decide +kernel, by decide +kernel⟩, by decide +kernel, by decide +kernel, rfl, by decide⟩
theorem vm_X0_giveBack : KW (.instanceMethod (yN Y_X0_giveBack)) ∧ KW (.selects (yN Y_X0_giveBack).cls (yN Y_X0_giveBack) (yN Y_X0_giveBack)) := ⟨KW.at (i := 769) (by decide +kernel) rfl, KW.at (i := 770) (by decide +kernel) rfl⟩
theorem ck_RX3_87 : CKV RX3 87 Y_X0_giveBack 1 := ⟨KW.at (i := 768) (by decide +kernel) rfl, vm_X0_giveBack.1, vm_X0_giveBack.2, mk_X0_giveBack⟩
theorem d_X0_giveBack_0 : decode cX0_giveBack 0 = .ok (.aload_n 0, 1) := by decide +kernel
theorem d_X0_giveBack_1 : decode cX0_giveBack 1 = .ok (.iload_n 1, 1) := by decide +kernel
theorem d_X0_giveBack_2 : decode cX0_giveBack 2 = .ok (.invokevirtual 55, 3) := by decide +kernel
theorem d_X0_giveBack_5 : decode cX0_giveBack 5 = .ok (.aload_n 0, 1) := by decide +kernel
theorem d_X0_giveBack_6 : decode cX0_giveBack 6 = .ok (.getfield 23, 3) := by decide +kernel
theorem d_X0_giveBack_9 : decode cX0_giveBack 9 = .ok (.getfield 38, 3) := by decide +kernel
theorem d_X0_giveBack_12 : decode cX0_giveBack 12 = .ok (.iload_n 1, 1) := by decide +kernel
theorem d_X0_giveBack_13 : decode cX0_giveBack 13 = .ok (.invokestatic 47, 3) := by decide +kernel
theorem d_X0_giveBack_16 : decode cX0_giveBack 16 = .ok (.istore_n 2, 1) := by decide +kernel
theorem d_X0_giveBack_17 : decode cX0_giveBack 17 = .ok (.iload_n 1, 1) := by decide +kernel
theorem d_X0_giveBack_18 : decode cX0_giveBack 18 = .ok (.istore_n 3, 1) := by decide +kernel
theorem d_X0_giveBack_19 : decode cX0_giveBack 19 = .ok (.iload_n 2, 1) := by decide +kernel
theorem d_X0_giveBack_20 : decode cX0_giveBack 20 = .ok (.istore 4, 2) := by decide +kernel
theorem d_X0_giveBack_22 : decode cX0_giveBack 22 = .ok (.iload_n 1, 1) := by decide +kernel
theorem d_X0_giveBack_23 : decode cX0_giveBack 23 = .ok (.iload_n 2, 1) := by decide +kernel
theorem d_X0_giveBack_24 : decode cX0_giveBack 24 = .ok (.iadd, 1) := by decide +kernel
theorem d_X0_giveBack_25 : decode cX0_giveBack 25 = .ok (.istore 5, 2) := by decide +kernel
theorem d_X0_giveBack_27 : decode cX0_giveBack 27 = .ok (.aload_n 0, 1) := by decide +kernel
theorem d_X0_giveBack_28 : decode cX0_giveBack 28 = .ok (.getfield 23, 3) := by decide +kernel
theorem d_X0_giveBack_31 : decode cX0_giveBack 31 = .ok (.getfield 38, 3) := by decide +kernel
theorem d_X0_giveBack_34 : decode cX0_giveBack 34 = .ok (.iload 5, 2) := by decide +kernel
theorem d_X0_giveBack_36 : decode cX0_giveBack 36 = .ok (.invokestatic 47, 3) := by decide +kernel
theorem d_X0_giveBack_39 : decode cX0_giveBack 39 = .ok (.ifCond .ge 33, 3) := by decide +kernel
theorem d_X0_giveBack_72 : decode cX0_giveBack 72 = .ok (.aload_n 0, 1) := by decide +kernel
theorem d_X0_giveBack_73 : decode cX0_giveBack 73 = .ok (.iload_n 1, 1) := by decide +kernel
theorem d_X0_giveBack_74 : decode cX0_giveBack 74 = .ok (.invokevirtual 59, 3) := by decide +kernel
theorem d_X0_giveBack_77 : decode cX0_giveBack 77 = .ok (.istore 6, 2) := by decide +kernel
theorem d_X0_giveBack_79 : decode cX0_giveBack 79 = .ok (.aload_n 0, 1) := by decide +kernel
theorem d_X0_giveBack_80 : decode cX0_giveBack 80 = .ok (.getfield 23, 3) := by decide +kernel
theorem d_X0_giveBack_83 : decode cX0_giveBack 83 = .ok (.getfield 38, 3) := by decide +kernel
theorem d_X0_giveBack_86 : decode cX0_giveBack 86 = .ok (.iload 6, 2) := by decide +kernel
theorem d_X0_giveBack_88 : decode cX0_giveBack 88 = .ok (.invokestatic 47, 3) := by decide +kernel
theorem d_X0_giveBack_91 : decode cX0_giveBack 91 = .ok (.ifCond .ge 35, 3) := by decide +kernel
theorem d_X0_giveBack_126 : decode cX0_giveBack 126 = .ok (.aload_n 0, 1) := by decide +kernel
theorem d_X0_giveBack_127 : decode cX0_giveBack 127 = .ok (.getfield 23, 3) := by decide +kernel
theorem d_X0_giveBack_130 : decode cX0_giveBack 130 = .ok (.getfield 38, 3) := by decide +kernel
theorem d_X0_giveBack_133 : decode cX0_giveBack 133 = .ok (.iload_n 3, 1) := by decide +kernel
theorem d_X0_giveBack_134 : decode cX0_giveBack 134 = .ok (.iload 4, 2) := by decide +kernel
theorem d_X0_giveBack_136 : decode cX0_giveBack 136 = .ok (.ineg, 1) := by decide +kernel
theorem d_X0_giveBack_137 : decode cX0_giveBack 137 = .ok (.invokestatic 31, 3) := by decide +kernel
theorem d_X0_giveBack_140 : decode cX0_giveBack 140 = .ok (.iload_n 2, 1) := by decide +kernel
theorem d_X0_giveBack_141 : decode cX0_giveBack 141 = .ok (.ireturn, 1) := by decide +kernel
theorem d_X0_giveBack_94 : decode cX0_giveBack 94 = .ok (.iload 4, 2) := by decide +kernel
theorem d_X0_giveBack_96 : decode cX0_giveBack 96 = .ok (.aload_n 0, 1) := by decide +kernel
theorem d_X0_giveBack_97 : decode cX0_giveBack 97 = .ok (.getfield 23, 3) := by decide +kernel
theorem d_X0_giveBack_100 : decode cX0_giveBack 100 = .ok (.getfield 38, 3) := by decide +kernel
theorem d_X0_giveBack_103 : decode cX0_giveBack 103 = .ok (.iload 6, 2) := by decide +kernel
theorem d_X0_giveBack_105 : decode cX0_giveBack 105 = .ok (.invokestatic 47, 3) := by decide +kernel
theorem d_X0_giveBack_108 : decode cX0_giveBack 108 = .ok (.isub, 1) := by decide +kernel
theorem d_X0_giveBack_109 : decode cX0_giveBack 109 = .ok (.istore 4, 2) := by decide +kernel
theorem d_X0_giveBack_111 : decode cX0_giveBack 111 = .ok (.aload_n 0, 1) := by decide +kernel
theorem d_X0_giveBack_112 : decode cX0_giveBack 112 = .ok (.getfield 23, 3) := by decide +kernel
theorem d_X0_giveBack_115 : decode cX0_giveBack 115 = .ok (.getfield 38, 3) := by decide +kernel
theorem d_X0_giveBack_118 : decode cX0_giveBack 118 = .ok (.iload_n 1, 1) := by decide +kernel
theorem d_X0_giveBack_119 : decode cX0_giveBack 119 = .ok (.iconst 0, 1) := by decide +kernel
theorem d_X0_giveBack_120 : decode cX0_giveBack 120 = .ok (.invokestatic 31, 3) := by decide +kernel
theorem d_X0_giveBack_123 : decode cX0_giveBack 123 = .ok (.iload 6, 2) := by decide +kernel
theorem d_X0_giveBack_125 : decode cX0_giveBack 125 = .ok (.istore_n 3, 1) := by decide +kernel
theorem d_X0_giveBack_42 : decode cX0_giveBack 42 = .ok (.iload 4, 2) := by decide +kernel
theorem d_X0_giveBack_44 : decode cX0_giveBack 44 = .ok (.aload_n 0, 1) := by decide +kernel
theorem d_X0_giveBack_45 : decode cX0_giveBack 45 = .ok (.getfield 23, 3) := by decide +kernel
theorem d_X0_giveBack_48 : decode cX0_giveBack 48 = .ok (.getfield 38, 3) := by decide +kernel
theorem d_X0_giveBack_51 : decode cX0_giveBack 51 = .ok (.iload 5, 2) := by decide +kernel
theorem d_X0_giveBack_53 : decode cX0_giveBack 53 = .ok (.invokestatic 47, 3) := by decide +kernel
theorem d_X0_giveBack_56 : decode cX0_giveBack 56 = .ok (.isub, 1) := by decide +kernel
theorem d_X0_giveBack_57 : decode cX0_giveBack 57 = .ok (.istore 4, 2) := by decide +kernel
theorem d_X0_giveBack_59 : decode cX0_giveBack 59 = .ok (.aload_n 0, 1) := by decide +kernel
theorem d_X0_giveBack_60 : decode cX0_giveBack 60 = .ok (.getfield 23, 3) := by decide +kernel
theorem d_X0_giveBack_63 : decode cX0_giveBack 63 = .ok (.getfield 38, 3) := by decide +kernel
theorem d_X0_giveBack_66 : decode cX0_giveBack 66 = .ok (.iload 5, 2) := by decide +kernel
theorem d_X0_giveBack_68 : decode cX0_giveBack 68 = .ok (.iconst 0, 1) := by decide +kernel
theorem d_X0_giveBack_69 : decode cX0_giveBack 69 = .ok (.invokestatic 31, 3) := by decide +kernel
theorem d_X3_takeOut_71 : decode cX3_takeOut 71 = .ok (.aload_n 0, 1) := by decide +kernel
theorem d_X3_takeOut_72 : decode cX3_takeOut 72 = .ok (.iload_n 1, 1) := by decide +kernel
theorem d_X3_takeOut_73 : decode cX3_takeOut 73 = .ok (.iload_n 3, 1) := by decide +kernel
theorem d_X3_takeOut_74 : decode cX3_takeOut 74 = .ok (.invokevirtual 90, 3) := by decide +kernel
abbrev Y_X3_removeLeaf : YT := (cX3_removeLeaf, 4, (some .int), yX3_removeLeaf, [], 4)
theorem mk_X3_removeLeaf : MK Y_X3_removeLeaf 2 := ⟨KW.at (i := 78) (by decide +kernel) rfl, KW.at (i := 775) (by decide +kernel) rfl, ⟨by decide +kernel, by decide +kernel⟩, by decide +kernel, by decide +kernel, rfl, by decide⟩
theorem vm_X3_removeLeaf : KW (.instanceMethod (yN Y_X3_removeLeaf)) ∧ KW (.selects (yN Y_X3_removeLeaf).cls (yN Y_X3_removeLeaf) (yN Y_X3_removeLeaf)) := ⟨KW.at (i := 774) (by decide +kernel) rfl, KW.at (i := 24) (by decide +kernel) rfl⟩
theorem ck_RX3_90 : CKV RX3 90 Y_X3_removeLeaf 2 := ⟨KW.at (i := 772) (by decide +kernel) rfl, vm_X3_removeLeaf.1, vm_X3_removeLeaf.2, mk_X3_removeLeaf⟩
theorem d_X3_removeLeaf_0 : decode cX3_removeLeaf 0 = .ok (.aload_n 0, 1) := by decide +kernel
theorem d_X3_removeLeaf_1 : decode cX3_removeLeaf 1 = .ok (.getfield 9, 3) := by decide +kernel
theorem d_X3_removeLeaf_4 : decode cX3_removeLeaf 4 = .ok (.iload_n 1, 1) := by decide +kernel
theorem d_X3_removeLeaf_5 : decode cX3_removeLeaf 5 = .ok (.iconst 2, 1) := by decide +kernel
theorem d_X3_removeLeaf_6 : decode cX3_removeLeaf 6 = .ok (.iadd, 1) := by decide +kernel
theorem d_X3_removeLeaf_7 : decode cX3_removeLeaf 7 = .ok (.invokevirtual 23, 3) := by decide +kernel
theorem d_X3_removeLeaf_10 : decode cX3_removeLeaf 10 = .ok (.istore_n 3, 1) := by decide +kernel
theorem d_X3_removeLeaf_11 : decode cX3_removeLeaf 11 = .ok (.aload_n 0, 1) := by decide +kernel
theorem d_X3_removeLeaf_12 : decode cX3_removeLeaf 12 = .ok (.iload_n 3, 1) := by decide +kernel
theorem d_X3_removeLeaf_13 : decode cX3_removeLeaf 13 = .ok (.invokevirtual 28, 3) := by decide +kernel
theorem d_X3_removeLeaf_16 : decode cX3_removeLeaf 16 = .ok (.ifCond .ne 16, 3) := by decide +kernel
theorem d_X3_removeLeaf_32 : decode cX3_removeLeaf 32 = .ok (.aload_n 0, 1) := by decide +kernel
theorem d_X3_removeLeaf_33 : decode cX3_removeLeaf 33 = .ok (.getfield 9, 3) := by decide +kernel
theorem d_X3_removeLeaf_36 : decode cX3_removeLeaf 36 = .ok (.iload_n 3, 1) := by decide +kernel
theorem d_X3_removeLeaf_37 : decode cX3_removeLeaf 37 = .ok (.iload_n 2, 1) := by decide +kernel
theorem d_X3_removeLeaf_38 : decode cX3_removeLeaf 38 = .ok (.invokevirtual 84, 3) := by decide +kernel
theorem d_X3_removeLeaf_41 : decode cX3_removeLeaf 41 = .ok (.aload_n 0, 1) := by decide +kernel
theorem d_X3_removeLeaf_42 : decode cX3_removeLeaf 42 = .ok (.getfield 15, 3) := by decide +kernel
theorem d_X3_removeLeaf_45 : decode cX3_removeLeaf 45 = .ok (.iload_n 3, 1) := by decide +kernel
theorem d_X3_removeLeaf_46 : decode cX3_removeLeaf 46 = .ok (.invokevirtual 60, 3) := by decide +kernel
theorem d_X3_removeLeaf_49 : decode cX3_removeLeaf 49 = .ok (.aload_n 0, 1) := by decide +kernel
theorem d_X3_removeLeaf_50 : decode cX3_removeLeaf 50 = .ok (.getfield 9, 3) := by decide +kernel
theorem d_X3_removeLeaf_53 : decode cX3_removeLeaf 53 = .ok (.iload_n 3, 1) := by decide +kernel
theorem d_X3_removeLeaf_54 : decode cX3_removeLeaf 54 = .ok (.invokevirtual 32, 3) := by decide +kernel
theorem d_X3_removeLeaf_57 : decode cX3_removeLeaf 57 = .ok (.iconst 1, 1) := by decide +kernel
theorem d_X3_removeLeaf_58 : decode cX3_removeLeaf 58 = .ok (.if_icmp .le 5, 3) := by decide +kernel
theorem d_X3_removeLeaf_63 : decode cX3_removeLeaf 63 = .ok (.aload_n 0, 1) := by decide +kernel
theorem d_X3_removeLeaf_64 : decode cX3_removeLeaf 64 = .ok (.getfield 9, 3) := by decide +kernel
theorem d_X3_removeLeaf_67 : decode cX3_removeLeaf 67 = .ok (.iload_n 1, 1) := by decide +kernel
theorem d_X3_removeLeaf_68 : decode cX3_removeLeaf 68 = .ok (.iconst 2, 1) := by decide +kernel
theorem d_X3_removeLeaf_69 : decode cX3_removeLeaf 69 = .ok (.iadd, 1) := by decide +kernel
theorem d_X3_removeLeaf_70 : decode cX3_removeLeaf 70 = .ok (.aload_n 0, 1) := by decide +kernel
theorem d_X3_removeLeaf_71 : decode cX3_removeLeaf 71 = .ok (.getfield 9, 3) := by decide +kernel
theorem d_X3_removeLeaf_74 : decode cX3_removeLeaf 74 = .ok (.iload_n 3, 1) := by decide +kernel
theorem d_X3_removeLeaf_75 : decode cX3_removeLeaf 75 = .ok (.iconst 0, 1) := by decide +kernel
theorem d_X3_removeLeaf_76 : decode cX3_removeLeaf 76 = .ok (.invokevirtual 45, 3) := by decide +kernel
theorem d_X3_removeLeaf_79 : decode cX3_removeLeaf 79 = .ok (.invokevirtual 66, 3) := by decide +kernel
theorem d_X3_removeLeaf_82 : decode cX3_removeLeaf 82 = .ok (.aload_n 0, 1) := by decide +kernel
theorem d_X3_removeLeaf_83 : decode cX3_removeLeaf 83 = .ok (.getfield 15, 3) := by decide +kernel
theorem d_X3_removeLeaf_86 : decode cX3_removeLeaf 86 = .ok (.iload_n 3, 1) := by decide +kernel
theorem d_X3_removeLeaf_87 : decode cX3_removeLeaf 87 = .ok (.invokevirtual 87, 3) := by decide +kernel
theorem d_X3_removeLeaf_90 : decode cX3_removeLeaf 90 = .ok (.ireturn, 1) := by decide +kernel
theorem d_X3_removeLeaf_61 : decode cX3_removeLeaf 61 = .ok (.iconst 0, 1) := by decide +kernel
theorem d_X3_removeLeaf_62 : decode cX3_removeLeaf 62 = .ok (.ireturn, 1) := by decide +kernel
theorem d_X3_removeLeaf_19 : decode cX3_removeLeaf 19 = .ok (.aload_n 0, 1) := by decide +kernel
theorem d_X3_removeLeaf_20 : decode cX3_removeLeaf 20 = .ok (.getfield 9, 3) := by decide +kernel
theorem d_X3_removeLeaf_23 : decode cX3_removeLeaf 23 = .ok (.iload_n 1, 1) := by decide +kernel
theorem d_X3_removeLeaf_24 : decode cX3_removeLeaf 24 = .ok (.iconst 2, 1) := by decide +kernel
theorem d_X3_removeLeaf_25 : decode cX3_removeLeaf 25 = .ok (.iadd, 1) := by decide +kernel
theorem d_X3_removeLeaf_26 : decode cX3_removeLeaf 26 = .ok (.iconst 0, 1) := by decide +kernel
theorem d_X3_removeLeaf_27 : decode cX3_removeLeaf 27 = .ok (.invokevirtual 66, 3) := by decide +kernel
theorem d_X3_removeLeaf_30 : decode cX3_removeLeaf 30 = .ok (.iconst 0, 1) := by decide +kernel
theorem d_X3_removeLeaf_31 : decode cX3_removeLeaf 31 = .ok (.ireturn, 1) := by decide +kernel
theorem d_X3_takeOut_77 : decode cX3_takeOut 77 = .ok (.iadd, 1) := by decide +kernel
theorem d_X3_takeOut_78 : decode cX3_takeOut 78 = .ok (.ireturn, 1) := by decide +kernel
theorem d_X3_takeOut_60 : decode cX3_takeOut 60 = .ok (.iconst 0, 1) := by decide +kernel
theorem d_X3_takeOut_61 : decode cX3_takeOut 61 = .ok (.ireturn, 1) := by decide +kernel
theorem d_X7_rename_128 : decode cX7_rename 128 = .ok (.pop, 1) := by decide +kernel
theorem d_X7_rename_129 : decode cX7_rename 129 = .ok (.aload_n 0, 1) := by decide +kernel
theorem d_X7_rename_130 : decode cX7_rename 130 = .ok (.getfield 21, 3) := by decide +kernel
theorem d_X7_rename_133 : decode cX7_rename 133 = .ok (.iload_n 3, 1) := by decide +kernel
theorem d_X7_rename_134 : decode cX7_rename 134 = .ok (.iconst 0, 1) := by decide +kernel
theorem d_X7_rename_135 : decode cX7_rename 135 = .ok (.iadd, 1) := by decide +kernel
theorem d_X7_rename_136 : decode cX7_rename 136 = .ok (.iload_n 2, 1) := by decide +kernel
theorem d_X7_rename_137 : decode cX7_rename 137 = .ok (.invokevirtual 140, 3) := by decide +kernel
theorem d_X7_rename_140 : decode cX7_rename 140 = .ok (.aload_n 0, 1) := by decide +kernel
theorem d_X7_rename_141 : decode cX7_rename 141 = .ok (.getfield 25, 3) := by decide +kernel
theorem d_X7_rename_144 : decode cX7_rename 144 = .ok (.iload_n 3, 1) := by decide +kernel
theorem d_X7_rename_145 : decode cX7_rename 145 = .ok (.invokevirtual 143, 3) := by decide +kernel
theorem ck_RX7_143 : CKV RX7 143 Y_X0_markWritten 1 := ⟨KW.at (i := 776) (by decide +kernel) rfl, vm_X0_markWritten.1, vm_X0_markWritten.2, mk_X0_markWritten⟩
theorem d_X7_rename_148 : decode cX7_rename 148 = .ok (.aload_n 0, 1) := by decide +kernel
theorem d_X7_rename_149 : decode cX7_rename 149 = .ok (.iload 4, 2) := by decide +kernel
theorem d_X7_rename_151 : decode cX7_rename 151 = .ok (.iconst 1, 1) := by decide +kernel
theorem d_X7_rename_152 : decode cX7_rename 152 = .ok (.invokevirtual 146, 3) := by decide +kernel
theorem d_X7_rename_155 : decode cX7_rename 155 = .ok (.iload 6, 2) := by decide +kernel
theorem d_X7_rename_157 : decode cX7_rename 157 = .ok (.ireturn, 1) := by decide +kernel
abbrev Y_X7_delete : YT := (cX7_delete, 7, (some .int), yX7_delete, [], 7)
theorem d_X7_delete_0 : decode cX7_delete 0 = .ok (.aload_n 0, 1) := by decide +kernel
theorem d_X7_delete_1 : decode cX7_delete 1 = .ok (.iload_n 1, 1) := by decide +kernel
theorem d_X7_delete_2 : decode cX7_delete 2 = .ok (.invokevirtual 95, 3) := by decide +kernel
theorem d_X7_delete_5 : decode cX7_delete 5 = .ok (.iload_n 1, 1) := by decide +kernel
theorem d_X7_delete_6 : decode cX7_delete 6 = .ok (.invokestatic 105, 3) := by decide +kernel
theorem d_X7_delete_9 : decode cX7_delete 9 = .ok (.aload_n 0, 1) := by decide +kernel
theorem d_X7_delete_10 : decode cX7_delete 10 = .ok (.getfield 21, 3) := by decide +kernel
theorem d_X7_delete_13 : decode cX7_delete 13 = .ok (.iload_n 1, 1) := by decide +kernel
theorem d_X7_delete_14 : decode cX7_delete 14 = .ok (.invokevirtual 108, 3) := by decide +kernel
theorem d_X7_delete_17 : decode cX7_delete 17 = .ok (.istore_n 2, 1) := by decide +kernel
theorem d_X7_delete_18 : decode cX7_delete 18 = .ok (.aload_n 0, 1) := by decide +kernel
theorem d_X7_delete_19 : decode cX7_delete 19 = .ok (.iload_n 2, 1) := by decide +kernel
theorem d_X7_delete_20 : decode cX7_delete 20 = .ok (.invokevirtual 149, 3) := by decide +kernel
abbrev Y_X7_requireNoSubkeys : YT := (cX7_requireNoSubkeys, 2, none, yX7_requireNoSubkeys, [], 6)
theorem mk_X7_requireNoSubkeys : MK Y_X7_requireNoSubkeys 1 := ⟨KW.at (i := 75) (by decide +kernel) rfl, KW.at (i := 787) (by decide +kernel) rfl, ⟨by decide +kernel, by decide +kernel⟩, by decide +kernel, by decide +kernel, rfl, by decide⟩
theorem vm_X7_requireNoSubkeys : KW (.instanceMethod (yN Y_X7_requireNoSubkeys)) ∧ KW (.selects (yN Y_X7_requireNoSubkeys).cls (yN Y_X7_requireNoSubkeys) (yN Y_X7_requireNoSubkeys)) := ⟨KW.at (i := 786) (by decide +kernel) rfl, KW.at (i := 25) (by decide +kernel) rfl⟩
theorem ck_RX7_149 : CKV RX7 149 Y_X7_requireNoSubkeys 1 := ⟨KW.at (i := 784) (by decide +kernel) rfl, vm_X7_requireNoSubkeys.1, vm_X7_requireNoSubkeys.2, mk_X7_requireNoSubkeys⟩
theorem d_X7_requireNoSubkeys_0 : decode cX7_requireNoSubkeys 0 = .ok (.aload_n 0, 1) := by decide +kernel
theorem d_X7_requireNoSubkeys_1 : decode cX7_requireNoSubkeys 1 = .ok (.getfield 34, 3) := by decide +kernel
theorem d_X7_requireNoSubkeys_4 : decode cX7_requireNoSubkeys 4 = .ok (.iload_n 1, 1) := by decide +kernel
theorem d_X7_requireNoSubkeys_5 : decode cX7_requireNoSubkeys 5 = .ok (.invokevirtual 183, 3) := by decide +kernel
theorem ck_RX7_183 : CKV RX7 183 Y_X3_leafCount 1 := ⟨KW.at (i := 788) (by decide +kernel) rfl, vm_X3_leafCount.1, vm_X3_leafCount.2, mk_X3_leafCount⟩
theorem d_X7_requireNoSubkeys_8 : decode cX7_requireNoSubkeys 8 = .ok (.ifCond .eq 14, 3) := by decide +kernel
theorem d_X7_requireNoSubkeys_22 : decode cX7_requireNoSubkeys 22 = .ok (.return_, 1) := by decide +kernel
theorem d_X7_requireNoSubkeys_11 : decode cX7_requireNoSubkeys 11 = .ok (.new 204, 3) := by decide +kernel
theorem d_X7_requireNoSubkeys_14 : decode cX7_requireNoSubkeys 14 = .ok (.dup, 1) := by decide +kernel
theorem d_X7_requireNoSubkeys_15 : decode cX7_requireNoSubkeys 15 = .ok (.ldc_w 360, 3) := by decide +kernel
theorem d_X7_requireNoSubkeys_18 : decode cX7_requireNoSubkeys 18 = .ok (.invokespecial 208, 3) := by decide +kernel
theorem d_X7_requireNoSubkeys_21 : decode cX7_requireNoSubkeys 21 = .ok (.athrow, 1) := by decide +kernel
theorem d_X7_delete_23 : decode cX7_delete 23 = .ok (.aload_n 0, 1) := by decide +kernel
theorem d_X7_delete_24 : decode cX7_delete 24 = .ok (.getfield 21, 3) := by decide +kernel
theorem d_X7_delete_27 : decode cX7_delete 27 = .ok (.iload_n 2, 1) := by decide +kernel
theorem d_X7_delete_28 : decode cX7_delete 28 = .ok (.iconst 1, 1) := by decide +kernel
theorem d_X7_delete_29 : decode cX7_delete 29 = .ok (.iadd, 1) := by decide +kernel
theorem d_X7_delete_30 : decode cX7_delete 30 = .ok (.invokevirtual 111, 3) := by decide +kernel
theorem d_X7_delete_33 : decode cX7_delete 33 = .ok (.istore_n 3, 1) := by decide +kernel
theorem d_X7_delete_34 : decode cX7_delete 34 = .ok (.iload_n 1, 1) := by decide +kernel
theorem d_X7_delete_35 : decode cX7_delete 35 = .ok (.aload_n 0, 1) := by decide +kernel
theorem d_X7_delete_36 : decode cX7_delete 36 = .ok (.getfield 21, 3) := by decide +kernel
theorem d_X7_delete_39 : decode cX7_delete 39 = .ok (.iload_n 2, 1) := by decide +kernel
theorem d_X7_delete_40 : decode cX7_delete 40 = .ok (.iconst 0, 1) := by decide +kernel
theorem d_X7_delete_41 : decode cX7_delete 41 = .ok (.iadd, 1) := by decide +kernel
theorem d_X7_delete_42 : decode cX7_delete 42 = .ok (.invokevirtual 111, 3) := by decide +kernel
theorem d_X7_delete_45 : decode cX7_delete 45 = .ok (.invokestatic 118, 3) := by decide +kernel
theorem d_X7_delete_48 : decode cX7_delete 48 = .ok (.istore 4, 2) := by decide +kernel
theorem d_X7_delete_50 : decode cX7_delete 50 = .ok (.aload_n 0, 1) := by decide +kernel
theorem d_X7_delete_51 : decode cX7_delete 51 = .ok (.getfield 21, 3) := by decide +kernel
theorem d_X7_delete_54 : decode cX7_delete 54 = .ok (.iload_n 2, 1) := by decide +kernel
theorem d_X7_delete_55 : decode cX7_delete 55 = .ok (.iconst 4, 1) := by decide +kernel
theorem d_X7_delete_56 : decode cX7_delete 56 = .ok (.iadd, 1) := by decide +kernel
theorem d_X7_delete_57 : decode cX7_delete 57 = .ok (.invokevirtual 111, 3) := by decide +kernel
theorem d_X7_delete_60 : decode cX7_delete 60 = .ok (.istore 5, 2) := by decide +kernel
theorem d_X7_delete_62 : decode cX7_delete 62 = .ok (.aload_n 0, 1) := by decide +kernel
theorem d_X7_delete_63 : decode cX7_delete 63 = .ok (.getfield 41, 3) := by decide +kernel
theorem fk_RX7_41 : FK RX7 41 7 3 := ⟨RX7, TX7, 8, rfl, by decide, ws_X7, KW.at (i := 366) (by decide +kernel) rfl⟩
theorem d_X7_delete_66 : decode cX7_delete 66 = .ok (.iload_n 2, 1) := by decide +kernel
theorem d_X7_delete_67 : decode cX7_delete 67 = .ok (.invokevirtual 152, 3) := by decide +kernel
abbrev Y_X5_dropAll : YT := (cX5_dropAll, 5, (some .int), yX5_dropAll, [], 6)
theorem mk_X5_dropAll : MK Y_X5_dropAll 1 := ⟨KW.at (i := 79) (by decide +kernel) rfl, KW.at (i := 793) (by decide +kernel) rfl, ⟨by decide +kernel, by decide +kernel⟩, by decide +kernel, by decide +kernel, rfl, by decide⟩
theorem vm_X5_dropAll : KW (.instanceMethod (yN Y_X5_dropAll)) ∧ KW (.selects (yN Y_X5_dropAll).cls (yN Y_X5_dropAll) (yN Y_X5_dropAll)) := ⟨KW.at (i := 791) (by decide +kernel) rfl, KW.at (i := 792) (by decide +kernel) rfl⟩
theorem ck_RX7_152 : CKV RX7 152 Y_X5_dropAll 1 := ⟨KW.at (i := 790) (by decide +kernel) rfl, vm_X5_dropAll.1, vm_X5_dropAll.2, mk_X5_dropAll⟩
theorem sh_12 : SH.getD 12 (9, 0, []) = (0, 5, [5, 10]) := rfl
theorem d_X5_dropAll_0 : decode cX5_dropAll 0 = .ok (.aload_n 0, 1) := by decide +kernel
theorem d_X5_dropAll_1 : decode cX5_dropAll 1 = .ok (.iload_n 1, 1) := by decide +kernel
theorem d_X5_dropAll_2 : decode cX5_dropAll 2 = .ok (.invokevirtual 28, 3) := by decide +kernel
abbrev Y_X5_valueCount : YT := (cX5_valueCount, 3, (some .int), yX5_valueCount, [], 3)
theorem mk_X5_valueCount : MK Y_X5_valueCount 1 := ⟨KW.at (i := 79) (by decide +kernel) rfl, KW.at (i := 455) (by decide +kernel) rfl, ⟨by decide +kernel, by decide +kernel⟩, by decide +kernel, by decide +kernel, rfl, by decide⟩
theorem vm_X5_valueCount : KW (.instanceMethod (yN Y_X5_valueCount)) ∧ KW (.selects (yN Y_X5_valueCount).cls (yN Y_X5_valueCount) (yN Y_X5_valueCount)) := ⟨KW.at (i := 453) (by decide +kernel) rfl, KW.at (i := 454) (by decide +kernel) rfl⟩
theorem ck_RX5_28 : CKV RX5 28 Y_X5_valueCount 1 := ⟨KW.at (i := 452) (by decide +kernel) rfl, vm_X5_valueCount.1, vm_X5_valueCount.2, mk_X5_valueCount⟩
theorem d_X5_valueCount_0 : decode cX5_valueCount 0 = .ok (.aload_n 0, 1) := by decide +kernel
theorem d_X5_valueCount_1 : decode cX5_valueCount 1 = .ok (.getfield 9, 3) := by decide +kernel
theorem ws_X5 : ∀ w ∈ u_ws RX5 TX5 2, KW w := KW.all (by decide +kernel)
theorem fk_RX5_9 : FK RX5 9 5 0 := ⟨RX5, TX5, 2, rfl, by decide, ws_X5, KW.at (i := 181) (by decide +kernel) rfl⟩
theorem d_X5_valueCount_4 : decode cX5_valueCount 4 = .ok (.iload_n 1, 1) := by decide +kernel
theorem d_X5_valueCount_5 : decode cX5_valueCount 5 = .ok (.iconst 3, 1) := by decide +kernel
theorem d_X5_valueCount_6 : decode cX5_valueCount 6 = .ok (.iadd, 1) := by decide +kernel
theorem d_X5_valueCount_7 : decode cX5_valueCount 7 = .ok (.invokevirtual 19, 3) := by decide +kernel
theorem ck_RX5_19 : CKV RX5 19 Y_X2_unitAt 1 := ⟨KW.at (i := 456) (by decide +kernel) rfl, vm_X2_unitAt.1, vm_X2_unitAt.2, mk_X2_unitAt⟩
theorem d_X5_valueCount_10 : decode cX5_valueCount 10 = .ok (.istore_n 2, 1) := by decide +kernel
theorem d_X5_valueCount_11 : decode cX5_valueCount 11 = .ok (.iload_n 2, 1) := by decide +kernel
theorem d_X5_valueCount_12 : decode cX5_valueCount 12 = .ok (.ifCond .ne 7, 3) := by decide +kernel
theorem d_X5_valueCount_19 : decode cX5_valueCount 19 = .ok (.aload_n 0, 1) := by decide +kernel
theorem d_X5_valueCount_20 : decode cX5_valueCount 20 = .ok (.getfield 9, 3) := by decide +kernel
theorem d_X5_valueCount_23 : decode cX5_valueCount 23 = .ok (.iload_n 2, 1) := by decide +kernel
theorem d_X5_valueCount_24 : decode cX5_valueCount 24 = .ok (.invokevirtual 25, 3) := by decide +kernel
theorem ck_RX5_25 : CKV RX5 25 Y_X2_itemCount 1 := ⟨KW.at (i := 457) (by decide +kernel) rfl, vm_X2_itemCount.1, vm_X2_itemCount.2, mk_X2_itemCount⟩
theorem d_X5_valueCount_27 : decode cX5_valueCount 27 = .ok (.ireturn, 1) := by decide +kernel
theorem d_X5_valueCount_15 : decode cX5_valueCount 15 = .ok (.iconst 0, 1) := by decide +kernel
theorem d_X5_valueCount_16 : decode cX5_valueCount 16 = .ok (.goto 11, 3) := by decide +kernel
theorem d_X5_dropAll_5 : decode cX5_dropAll 5 = .ok (.istore_n 2, 1) := by decide +kernel
theorem d_X5_dropAll_6 : decode cX5_dropAll 6 = .ok (.iconst 0, 1) := by decide +kernel
theorem d_X5_dropAll_7 : decode cX5_dropAll 7 = .ok (.istore_n 3, 1) := by decide +kernel
theorem d_X5_dropAll_8 : decode cX5_dropAll 8 = .ok (.iconst 0, 1) := by decide +kernel
theorem d_X5_dropAll_9 : decode cX5_dropAll 9 = .ok (.istore 4, 2) := by decide +kernel
theorem d_X5_dropAll_11 : decode cX5_dropAll 11 = .ok (.iload 4, 2) := by decide +kernel
theorem d_X5_dropAll_13 : decode cX5_dropAll 13 = .ok (.iload_n 2, 1) := by decide +kernel
theorem d_X5_dropAll_14 : decode cX5_dropAll 14 = .ok (.if_icmp .ge 23, 3) := by decide +kernel
theorem d_X5_dropAll_17 : decode cX5_dropAll 17 = .ok (.iload_n 3, 1) := by decide +kernel
theorem d_X5_dropAll_18 : decode cX5_dropAll 18 = .ok (.aload_n 0, 1) := by decide +kernel
theorem d_X5_dropAll_19 : decode cX5_dropAll 19 = .ok (.aload_n 0, 1) := by decide +kernel
theorem d_X5_dropAll_20 : decode cX5_dropAll 20 = .ok (.iload_n 1, 1) := by decide +kernel
theorem d_X5_dropAll_21 : decode cX5_dropAll 21 = .ok (.iload 4, 2) := by decide +kernel
theorem d_X5_dropAll_23 : decode cX5_dropAll 23 = .ok (.invokevirtual 31, 3) := by decide +kernel
abbrev Y_X5_cellNumbered : YT := (cX5_cellNumbered, 3, (some .int), yX5_cellNumbered, [], 3)
theorem mk_X5_cellNumbered : MK Y_X5_cellNumbered 2 := ⟨KW.at (i := 79) (by decide +kernel) rfl, KW.at (i := 462) (by decide +kernel) rfl, ⟨by decide +kernel, by decide +kernel⟩, by decide +kernel, by decide +kernel, rfl, by decide⟩
theorem vm_X5_cellNumbered : KW (.instanceMethod (yN Y_X5_cellNumbered)) ∧ KW (.selects (yN Y_X5_cellNumbered).cls (yN Y_X5_cellNumbered) (yN Y_X5_cellNumbered)) := ⟨KW.at (i := 461) (by decide +kernel) rfl, KW.at (i := 7) (by decide +kernel) rfl⟩
theorem ck_RX5_31 : CKV RX5 31 Y_X5_cellNumbered 2 := ⟨KW.at (i := 459) (by decide +kernel) rfl, vm_X5_cellNumbered.1, vm_X5_cellNumbered.2, mk_X5_cellNumbered⟩
theorem d_X5_cellNumbered_0 : decode cX5_cellNumbered 0 = .ok (.aload_n 0, 1) := by decide +kernel
theorem d_X5_cellNumbered_1 : decode cX5_cellNumbered 1 = .ok (.getfield 9, 3) := by decide +kernel
theorem d_X5_cellNumbered_4 : decode cX5_cellNumbered 4 = .ok (.aload_n 0, 1) := by decide +kernel
theorem d_X5_cellNumbered_5 : decode cX5_cellNumbered 5 = .ok (.getfield 9, 3) := by decide +kernel
theorem d_X5_cellNumbered_8 : decode cX5_cellNumbered 8 = .ok (.iload_n 1, 1) := by decide +kernel
theorem d_X5_cellNumbered_9 : decode cX5_cellNumbered 9 = .ok (.iconst 3, 1) := by decide +kernel
theorem d_X5_cellNumbered_10 : decode cX5_cellNumbered 10 = .ok (.iadd, 1) := by decide +kernel
theorem d_X5_cellNumbered_11 : decode cX5_cellNumbered 11 = .ok (.invokevirtual 19, 3) := by decide +kernel
theorem d_X5_cellNumbered_14 : decode cX5_cellNumbered 14 = .ok (.iload_n 2, 1) := by decide +kernel
theorem d_X5_cellNumbered_15 : decode cX5_cellNumbered 15 = .ok (.invokevirtual 104, 3) := by decide +kernel
theorem ck_RX5_104 : CKV RX5 104 Y_X2_item 2 := ⟨KW.at (i := 463) (by decide +kernel) rfl, vm_X2_item.1, vm_X2_item.2, mk_X2_item⟩
theorem d_X5_cellNumbered_18 : decode cX5_cellNumbered 18 = .ok (.ireturn, 1) := by decide +kernel
theorem d_X5_dropAll_26 : decode cX5_dropAll 26 = .ok (.invokevirtual 92, 3) := by decide +kernel
abbrev Y_X5_giveBackValue : YT := (cX5_giveBackValue, 2, (some .int), yX5_giveBackValue, [], 5)
theorem mk_X5_giveBackValue : MK Y_X5_giveBackValue 1 := ⟨KW.at (i := 79) (by decide +kernel) rfl, KW.at (i := 797) (by decide +kernel) rfl, ⟨by decide +kernel, by decide +kernel⟩, by decide +kernel, by decide +kernel, rfl, by decide⟩
theorem vm_X5_giveBackValue : KW (.instanceMethod (yN Y_X5_giveBackValue)) ∧ KW (.selects (yN Y_X5_giveBackValue).cls (yN Y_X5_giveBackValue) (yN Y_X5_giveBackValue)) := ⟨KW.at (i := 796) (by decide +kernel) rfl, KW.at (i := 26) (by decide +kernel) rfl⟩
theorem ck_RX5_92 : CKV RX5 92 Y_X5_giveBackValue 1 := ⟨KW.at (i := 794) (by decide +kernel) rfl, vm_X5_giveBackValue.1, vm_X5_giveBackValue.2, mk_X5_giveBackValue⟩
theorem d_X5_giveBackValue_0 : decode cX5_giveBackValue 0 = .ok (.aload_n 0, 1) := by decide +kernel
theorem d_X5_giveBackValue_1 : decode cX5_giveBackValue 1 = .ok (.aload_n 0, 1) := by decide +kernel
theorem d_X5_giveBackValue_2 : decode cX5_giveBackValue 2 = .ok (.getfield 9, 3) := by decide +kernel
theorem d_X5_giveBackValue_5 : decode cX5_giveBackValue 5 = .ok (.iload_n 1, 1) := by decide +kernel
theorem d_X5_giveBackValue_6 : decode cX5_giveBackValue 6 = .ok (.iconst 2, 1) := by decide +kernel
theorem d_X5_giveBackValue_7 : decode cX5_giveBackValue 7 = .ok (.iadd, 1) := by decide +kernel
theorem d_X5_giveBackValue_8 : decode cX5_giveBackValue 8 = .ok (.invokevirtual 19, 3) := by decide +kernel
theorem d_X5_giveBackValue_11 : decode cX5_giveBackValue 11 = .ok (.invokevirtual 80, 3) := by decide +kernel
abbrev Y_X5_giveBackPieces : YT := (cX5_giveBackPieces, 6, (some .int), yX5_giveBackPieces, [], 4)
theorem mk_X5_giveBackPieces : MK Y_X5_giveBackPieces 1 := ⟨KW.at (i := 79) (by decide +kernel) rfl, KW.at (i := 801) (by decide +kernel) rfl, ⟨by decide +kernel, by decide +kernel⟩, by decide +kernel, by decide +kernel, rfl, by decide⟩
theorem vm_X5_giveBackPieces : KW (.instanceMethod (yN Y_X5_giveBackPieces)) ∧ KW (.selects (yN Y_X5_giveBackPieces).cls (yN Y_X5_giveBackPieces) (yN Y_X5_giveBackPieces)) := ⟨KW.at (i := 800) (by decide +kernel) rfl, KW.at (i := 27) (by decide +kernel) rfl⟩
theorem ck_RX5_80 : CKV RX5 80 Y_X5_giveBackPieces 1 := ⟨KW.at (i := 798) (by decide +kernel) rfl, vm_X5_giveBackPieces.1, vm_X5_giveBackPieces.2, mk_X5_giveBackPieces⟩
theorem d_X5_giveBackPieces_0 : decode cX5_giveBackPieces 0 = .ok (.iconst 0, 1) := by decide +kernel
theorem d_X5_giveBackPieces_1 : decode cX5_giveBackPieces 1 = .ok (.istore_n 2, 1) := by decide +kernel
theorem d_X5_giveBackPieces_2 : decode cX5_giveBackPieces 2 = .ok (.iload_n 1, 1) := by decide +kernel
theorem d_X5_giveBackPieces_3 : decode cX5_giveBackPieces 3 = .ok (.istore_n 3, 1) := by decide +kernel
theorem d_X5_giveBackPieces_4 : decode cX5_giveBackPieces 4 = .ok (.iconst 0, 1) := by decide +kernel
theorem d_X5_giveBackPieces_5 : decode cX5_giveBackPieces 5 = .ok (.istore 4, 2) := by decide +kernel
theorem d_X5_giveBackPieces_7 : decode cX5_giveBackPieces 7 = .ok (.iload 4, 2) := by decide +kernel
theorem d_X5_giveBackPieces_9 : decode cX5_giveBackPieces 9 = .ok (.iconst 4, 1) := by decide +kernel
theorem d_X5_giveBackPieces_10 : decode cX5_giveBackPieces 10 = .ok (.if_icmp .ge 37, 3) := by decide +kernel
theorem d_X5_giveBackPieces_47 : decode cX5_giveBackPieces 47 = .ok (.iload_n 2, 1) := by decide +kernel
theorem d_X5_giveBackPieces_48 : decode cX5_giveBackPieces 48 = .ok (.ireturn, 1) := by decide +kernel
theorem d_X5_giveBackPieces_13 : decode cX5_giveBackPieces 13 = .ok (.iload_n 3, 1) := by decide +kernel
theorem d_X5_giveBackPieces_14 : decode cX5_giveBackPieces 14 = .ok (.ifCond .eq 33, 3) := by decide +kernel
theorem d_X5_giveBackPieces_17 : decode cX5_giveBackPieces 17 = .ok (.aload_n 0, 1) := by decide +kernel
theorem d_X5_giveBackPieces_18 : decode cX5_giveBackPieces 18 = .ok (.getfield 9, 3) := by decide +kernel
theorem d_X5_giveBackPieces_21 : decode cX5_giveBackPieces 21 = .ok (.iload_n 3, 1) := by decide +kernel
theorem d_X5_giveBackPieces_22 : decode cX5_giveBackPieces 22 = .ok (.invokevirtual 19, 3) := by decide +kernel
theorem d_X5_giveBackPieces_25 : decode cX5_giveBackPieces 25 = .ok (.istore 5, 2) := by decide +kernel
theorem d_X5_giveBackPieces_27 : decode cX5_giveBackPieces 27 = .ok (.iload_n 2, 1) := by decide +kernel
theorem d_X5_giveBackPieces_28 : decode cX5_giveBackPieces 28 = .ok (.aload_n 0, 1) := by decide +kernel
theorem d_X5_giveBackPieces_29 : decode cX5_giveBackPieces 29 = .ok (.getfield 15, 3) := by decide +kernel
theorem fk_RX5_15 : FK RX5 15 5 1 := ⟨RX5, TX5, 2, rfl, by decide, ws_X5, KW.at (i := 182) (by decide +kernel) rfl⟩
theorem d_X5_giveBackPieces_32 : decode cX5_giveBackPieces 32 = .ok (.iload_n 3, 1) := by decide +kernel
theorem d_X5_giveBackPieces_33 : decode cX5_giveBackPieces 33 = .ok (.invokevirtual 115, 3) := by decide +kernel
theorem ck_RX5_115 : CKV RX5 115 Y_X0_giveBack 1 := ⟨KW.at (i := 802) (by decide +kernel) rfl, vm_X0_giveBack.1, vm_X0_giveBack.2, mk_X0_giveBack⟩
theorem d_X5_giveBackPieces_36 : decode cX5_giveBackPieces 36 = .ok (.iadd, 1) := by decide +kernel
theorem d_X5_giveBackPieces_37 : decode cX5_giveBackPieces 37 = .ok (.istore_n 2, 1) := by decide +kernel
theorem d_X5_giveBackPieces_38 : decode cX5_giveBackPieces 38 = .ok (.iload 5, 2) := by decide +kernel
theorem d_X5_giveBackPieces_40 : decode cX5_giveBackPieces 40 = .ok (.istore_n 3, 1) := by decide +kernel
theorem d_X5_giveBackPieces_41 : decode cX5_giveBackPieces 41 = .ok (.iinc 4 1, 3) := by decide +kernel
theorem d_X5_giveBackPieces_44 : decode cX5_giveBackPieces 44 = .ok (.goto (-37), 3) := by decide +kernel
theorem d_X5_giveBackValue_14 : decode cX5_giveBackValue 14 = .ok (.aload_n 0, 1) := by decide +kernel
theorem d_X5_giveBackValue_15 : decode cX5_giveBackValue 15 = .ok (.getfield 15, 3) := by decide +kernel
theorem d_X5_giveBackValue_18 : decode cX5_giveBackValue 18 = .ok (.iload_n 1, 1) := by decide +kernel
theorem d_X5_giveBackValue_19 : decode cX5_giveBackValue 19 = .ok (.invokevirtual 115, 3) := by decide +kernel
theorem d_X5_giveBackValue_22 : decode cX5_giveBackValue 22 = .ok (.iadd, 1) := by decide +kernel
theorem d_X5_giveBackValue_23 : decode cX5_giveBackValue 23 = .ok (.ireturn, 1) := by decide +kernel
theorem d_X5_dropAll_29 : decode cX5_dropAll 29 = .ok (.iadd, 1) := by decide +kernel
theorem d_X5_dropAll_30 : decode cX5_dropAll 30 = .ok (.istore_n 3, 1) := by decide +kernel
theorem d_X5_dropAll_31 : decode cX5_dropAll 31 = .ok (.iinc 4 1, 3) := by decide +kernel
theorem d_X5_dropAll_34 : decode cX5_dropAll 34 = .ok (.goto (-23), 3) := by decide +kernel
theorem d_X5_dropAll_37 : decode cX5_dropAll 37 = .ok (.iload_n 3, 1) := by decide +kernel
theorem d_X5_dropAll_38 : decode cX5_dropAll 38 = .ok (.iload_n 2, 1) := by decide +kernel
theorem d_X5_dropAll_39 : decode cX5_dropAll 39 = .ok (.ifCond .ne 7, 3) := by decide +kernel
theorem d_X5_dropAll_51 : decode cX5_dropAll 51 = .ok (.iadd, 1) := by decide +kernel
theorem d_X5_dropAll_52 : decode cX5_dropAll 52 = .ok (.ireturn, 1) := by decide +kernel
theorem d_X5_dropAll_46 : decode cX5_dropAll 46 = .ok (.aload_n 0, 1) := by decide +kernel
theorem d_X5_dropAll_47 : decode cX5_dropAll 47 = .ok (.iload_n 1, 1) := by decide +kernel
theorem d_X5_dropAll_48 : decode cX5_dropAll 48 = .ok (.invokevirtual 101, 3) := by decide +kernel
abbrev Y_X5_giveBackList : YT := (cX5_giveBackList, 3, (some .int), yX5_giveBackList, [], 4)
theorem mk_X5_giveBackList : MK Y_X5_giveBackList 1 := ⟨KW.at (i := 79) (by decide +kernel) rfl, KW.at (i := 806) (by decide +kernel) rfl, ⟨by decide +kernel, by decide +kernel⟩, by decide +kernel, by decide +kernel, rfl, by decide⟩
theorem vm_X5_giveBackList : KW (.instanceMethod (yN Y_X5_giveBackList)) ∧ KW (.selects (yN Y_X5_giveBackList).cls (yN Y_X5_giveBackList) (yN Y_X5_giveBackList)) := ⟨KW.at (i := 805) (by decide +kernel) rfl, KW.at (i := 28) (by decide +kernel) rfl⟩
theorem ck_RX5_101 : CKV RX5 101 Y_X5_giveBackList 1 := ⟨KW.at (i := 803) (by decide +kernel) rfl, vm_X5_giveBackList.1, vm_X5_giveBackList.2, mk_X5_giveBackList⟩
theorem d_X5_giveBackList_0 : decode cX5_giveBackList 0 = .ok (.aload_n 0, 1) := by decide +kernel
theorem d_X5_giveBackList_1 : decode cX5_giveBackList 1 = .ok (.getfield 9, 3) := by decide +kernel
theorem d_X5_giveBackList_4 : decode cX5_giveBackList 4 = .ok (.iload_n 1, 1) := by decide +kernel
theorem d_X5_giveBackList_5 : decode cX5_giveBackList 5 = .ok (.iconst 3, 1) := by decide +kernel
theorem d_X5_giveBackList_6 : decode cX5_giveBackList 6 = .ok (.iadd, 1) := by decide +kernel
theorem d_X5_giveBackList_7 : decode cX5_giveBackList 7 = .ok (.invokevirtual 19, 3) := by decide +kernel
theorem d_X5_giveBackList_10 : decode cX5_giveBackList 10 = .ok (.istore_n 2, 1) := by decide +kernel
theorem d_X5_giveBackList_11 : decode cX5_giveBackList 11 = .ok (.aload_n 0, 1) := by decide +kernel
theorem d_X5_giveBackList_12 : decode cX5_giveBackList 12 = .ok (.getfield 9, 3) := by decide +kernel
theorem d_X5_giveBackList_15 : decode cX5_giveBackList 15 = .ok (.iload_n 1, 1) := by decide +kernel
theorem d_X5_giveBackList_16 : decode cX5_giveBackList 16 = .ok (.iconst 3, 1) := by decide +kernel
theorem d_X5_giveBackList_17 : decode cX5_giveBackList 17 = .ok (.iadd, 1) := by decide +kernel
theorem d_X5_giveBackList_18 : decode cX5_giveBackList 18 = .ok (.iconst 0, 1) := by decide +kernel
theorem d_X5_giveBackList_19 : decode cX5_giveBackList 19 = .ok (.invokevirtual 74, 3) := by decide +kernel
theorem ck_RX5_74 : CKV RX5 74 Y_X2_putUnit 2 := ⟨KW.at (i := 807) (by decide +kernel) rfl, vm_X2_putUnit.1, vm_X2_putUnit.2, mk_X2_putUnit⟩
theorem d_X5_giveBackList_22 : decode cX5_giveBackList 22 = .ok (.aload_n 0, 1) := by decide +kernel
theorem d_X5_giveBackList_23 : decode cX5_giveBackList 23 = .ok (.getfield 15, 3) := by decide +kernel
theorem d_X5_giveBackList_26 : decode cX5_giveBackList 26 = .ok (.iload_n 2, 1) := by decide +kernel
theorem d_X5_giveBackList_27 : decode cX5_giveBackList 27 = .ok (.invokevirtual 115, 3) := by decide +kernel
theorem d_X5_giveBackList_30 : decode cX5_giveBackList 30 = .ok (.ireturn, 1) := by decide +kernel
theorem d_X5_dropAll_42 : decode cX5_dropAll 42 = .ok (.iconst 0, 1) := by decide +kernel
theorem d_X5_dropAll_43 : decode cX5_dropAll 43 = .ok (.goto 8, 3) := by decide +kernel
theorem d_X7_delete_70 : decode cX7_delete 70 = .ok (.istore 6, 2) := by decide +kernel
theorem d_X7_delete_72 : decode cX7_delete 72 = .ok (.iload 6, 2) := by decide +kernel
theorem d_X7_delete_74 : decode cX7_delete 74 = .ok (.aload_n 0, 1) := by decide +kernel
theorem d_X7_delete_75 : decode cX7_delete 75 = .ok (.getfield 25, 3) := by decide +kernel
theorem d_X7_delete_78 : decode cX7_delete 78 = .ok (.iload_n 2, 1) := by decide +kernel
theorem d_X7_delete_79 : decode cX7_delete 79 = .ok (.invokevirtual 155, 3) := by decide +kernel
theorem ck_RX7_155 : CKV RX7 155 Y_X0_giveBack 1 := ⟨KW.at (i := 808) (by decide +kernel) rfl, vm_X0_giveBack.1, vm_X0_giveBack.2, mk_X0_giveBack⟩
theorem d_X7_delete_82 : decode cX7_delete 82 = .ok (.iadd, 1) := by decide +kernel
theorem d_X7_delete_83 : decode cX7_delete 83 = .ok (.istore 6, 2) := by decide +kernel
theorem d_X7_delete_85 : decode cX7_delete 85 = .ok (.aload_n 0, 1) := by decide +kernel
theorem d_X7_delete_86 : decode cX7_delete 86 = .ok (.getfield 21, 3) := by decide +kernel
theorem d_X7_delete_89 : decode cX7_delete 89 = .ok (.iload_n 1, 1) := by decide +kernel
theorem d_X7_delete_90 : decode cX7_delete 90 = .ok (.iconst 0, 1) := by decide +kernel
theorem d_X7_delete_91 : decode cX7_delete 91 = .ok (.invokevirtual 158, 3) := by decide +kernel
theorem d_X7_delete_94 : decode cX7_delete 94 = .ok (.iload 6, 2) := by decide +kernel
theorem d_X7_delete_96 : decode cX7_delete 96 = .ok (.aload_n 0, 1) := by decide +kernel
theorem d_X7_delete_97 : decode cX7_delete 97 = .ok (.getfield 48, 3) := by decide +kernel
theorem d_X7_delete_100 : decode cX7_delete 100 = .ok (.iload 5, 2) := by decide +kernel
theorem d_X7_delete_102 : decode cX7_delete 102 = .ok (.invokevirtual 161, 3) := by decide +kernel
abbrev Y_X4_leave : YT := (cX4_leave, 3, (some .int), yX4_leave, [], 4)
theorem mk_X4_leave : MK Y_X4_leave 1 := ⟨KW.at (i := 80) (by decide +kernel) rfl, KW.at (i := 812) (by decide +kernel) rfl, ⟨by decide +kernel, by decide +kernel⟩, by decide +kernel, by decide +kernel, rfl, by decide⟩
theorem vm_X4_leave : KW (.instanceMethod (yN Y_X4_leave)) ∧ KW (.selects (yN Y_X4_leave).cls (yN Y_X4_leave) (yN Y_X4_leave)) := ⟨KW.at (i := 810) (by decide +kernel) rfl, KW.at (i := 811) (by decide +kernel) rfl⟩
theorem ck_RX7_161 : CKV RX7 161 Y_X4_leave 1 := ⟨KW.at (i := 809) (by decide +kernel) rfl, vm_X4_leave.1, vm_X4_leave.2, mk_X4_leave⟩
theorem d_X4_leave_0 : decode cX4_leave 0 = .ok (.aload_n 0, 1) := by decide +kernel
theorem d_X4_leave_1 : decode cX4_leave 1 = .ok (.iload_n 1, 1) := by decide +kernel
theorem d_X4_leave_2 : decode cX4_leave 2 = .ok (.iconst (-1), 1) := by decide +kernel
theorem d_X4_leave_3 : decode cX4_leave 3 = .ok (.invokevirtual 58, 3) := by decide +kernel
theorem ck_RX4_58 : CKV RX4 58 Y_X4_changeCount 2 := ⟨KW.at (i := 341) (by decide +kernel) rfl, vm_X4_changeCount.1, vm_X4_changeCount.2, mk_X4_changeCount⟩
theorem d_X4_leave_6 : decode cX4_leave 6 = .ok (.aload_n 0, 1) := by decide +kernel
theorem d_X4_leave_7 : decode cX4_leave 7 = .ok (.iload_n 1, 1) := by decide +kernel
theorem d_X4_leave_8 : decode cX4_leave 8 = .ok (.invokevirtual 61, 3) := by decide +kernel
abbrev Y_X4_keysWith : YT := (cX4_keysWith, 3, (some .int), yX4_keysWith, [], 3)
theorem mk_X4_keysWith : MK Y_X4_keysWith 1 := ⟨KW.at (i := 80) (by decide +kernel) rfl, KW.at (i := 816) (by decide +kernel) rfl, ⟨by decide +kernel, by decide +kernel⟩, by decide +kernel, by decide +kernel, rfl, by decide⟩
theorem vm_X4_keysWith : KW (.instanceMethod (yN Y_X4_keysWith)) ∧ KW (.selects (yN Y_X4_keysWith).cls (yN Y_X4_keysWith) (yN Y_X4_keysWith)) := ⟨KW.at (i := 814) (by decide +kernel) rfl, KW.at (i := 815) (by decide +kernel) rfl⟩
theorem ck_RX4_61 : CKV RX4 61 Y_X4_keysWith 1 := ⟨KW.at (i := 813) (by decide +kernel) rfl, vm_X4_keysWith.1, vm_X4_keysWith.2, mk_X4_keysWith⟩
theorem d_X4_keysWith_0 : decode cX4_keysWith 0 = .ok (.aload_n 0, 1) := by decide +kernel
theorem d_X4_keysWith_1 : decode cX4_keysWith 1 = .ok (.getfield 15, 3) := by decide +kernel
theorem d_X4_keysWith_4 : decode cX4_keysWith 4 = .ok (.iload_n 1, 1) := by decide +kernel
theorem d_X4_keysWith_5 : decode cX4_keysWith 5 = .ok (.invokevirtual 23, 3) := by decide +kernel
theorem d_X4_keysWith_8 : decode cX4_keysWith 8 = .ok (.istore_n 2, 1) := by decide +kernel
theorem d_X4_keysWith_9 : decode cX4_keysWith 9 = .ok (.iload_n 2, 1) := by decide +kernel
theorem d_X4_keysWith_10 : decode cX4_keysWith 10 = .ok (.ifCond .ne 7, 3) := by decide +kernel
theorem d_X4_keysWith_17 : decode cX4_keysWith 17 = .ok (.aload_n 0, 1) := by decide +kernel
theorem d_X4_keysWith_18 : decode cX4_keysWith 18 = .ok (.getfield 15, 3) := by decide +kernel
theorem d_X4_keysWith_21 : decode cX4_keysWith 21 = .ok (.iload_n 2, 1) := by decide +kernel
theorem d_X4_keysWith_22 : decode cX4_keysWith 22 = .ok (.invokevirtual 29, 3) := by decide +kernel
theorem d_X4_keysWith_25 : decode cX4_keysWith 25 = .ok (.ireturn, 1) := by decide +kernel
theorem d_X4_keysWith_13 : decode cX4_keysWith 13 = .ok (.iconst 0, 1) := by decide +kernel
theorem d_X4_keysWith_14 : decode cX4_keysWith 14 = .ok (.goto 11, 3) := by decide +kernel
theorem d_X4_leave_11 : decode cX4_leave 11 = .ok (.ifCond .le 5, 3) := by decide +kernel
theorem d_X4_leave_16 : decode cX4_leave 16 = .ok (.aload_n 0, 1) := by decide +kernel
theorem d_X4_leave_17 : decode cX4_leave 17 = .ok (.getfield 15, 3) := by decide +kernel
theorem d_X4_leave_20 : decode cX4_leave 20 = .ok (.iload_n 1, 1) := by decide +kernel
theorem d_X4_leave_21 : decode cX4_leave 21 = .ok (.invokevirtual 23, 3) := by decide +kernel
theorem d_X4_leave_24 : decode cX4_leave 24 = .ok (.istore_n 2, 1) := by decide +kernel
theorem d_X4_leave_25 : decode cX4_leave 25 = .ok (.aload_n 0, 1) := by decide +kernel
theorem d_X4_leave_26 : decode cX4_leave 26 = .ok (.getfield 15, 3) := by decide +kernel
theorem d_X4_leave_29 : decode cX4_leave 29 = .ok (.iload_n 1, 1) := by decide +kernel
theorem d_X4_leave_30 : decode cX4_leave 30 = .ok (.iconst 0, 1) := by decide +kernel
theorem d_X4_leave_31 : decode cX4_leave 31 = .ok (.invokevirtual 55, 3) := by decide +kernel
abbrev Y_X2_setPlaceOfRights : YT := (cX2_setPlaceOfRights, 3, none, yX2_setPlaceOfRights, [], 2)
theorem mk_X2_setPlaceOfRights : MK Y_X2_setPlaceOfRights 2 := ⟨KW.at (i := 76) (by decide +kernel) rfl, KW.at (i := 339) (by decide +kernel) rfl, ⟨by decide +kernel, by decide +kernel⟩, by decide +kernel, by decide +kernel, rfl, by decide⟩
theorem vm_X2_setPlaceOfRights : KW (.instanceMethod (yN Y_X2_setPlaceOfRights)) ∧ KW (.selects (yN Y_X2_setPlaceOfRights).cls (yN Y_X2_setPlaceOfRights) (yN Y_X2_setPlaceOfRights)) := ⟨KW.at (i := 337) (by decide +kernel) rfl, KW.at (i := 338) (by decide +kernel) rfl⟩
theorem ck_RX4_55 : CKV RX4 55 Y_X2_setPlaceOfRights 2 := ⟨KW.at (i := 336) (by decide +kernel) rfl, vm_X2_setPlaceOfRights.1, vm_X2_setPlaceOfRights.2, mk_X2_setPlaceOfRights⟩
theorem d_X2_setPlaceOfRights_0 : decode cX2_setPlaceOfRights 0 = .ok (.aload_n 0, 1) := by decide +kernel
theorem d_X2_setPlaceOfRights_1 : decode cX2_setPlaceOfRights 1 = .ok (.getfield 21, 3) := by decide +kernel
theorem d_X2_setPlaceOfRights_4 : decode cX2_setPlaceOfRights 4 = .ok (.iload_n 1, 1) := by decide +kernel
theorem d_X2_setPlaceOfRights_5 : decode cX2_setPlaceOfRights 5 = .ok (.iload_n 2, 1) := by decide +kernel
theorem d_X2_setPlaceOfRights_6 : decode cX2_setPlaceOfRights 6 = .ok (.invokestatic 31, 3) := by decide +kernel
theorem d_X2_setPlaceOfRights_9 : decode cX2_setPlaceOfRights 9 = .ok (.return_, 1) := by decide +kernel
theorem d_X4_leave_34 : decode cX4_leave 34 = .ok (.aload_n 0, 1) := by decide +kernel
theorem d_X4_leave_35 : decode cX4_leave 35 = .ok (.getfield 19, 3) := by decide +kernel
theorem d_X4_leave_38 : decode cX4_leave 38 = .ok (.iload_n 2, 1) := by decide +kernel
theorem d_X4_leave_39 : decode cX4_leave 39 = .ok (.invokevirtual 64, 3) := by decide +kernel
theorem ck_RX4_64 : CKV RX4 64 Y_X0_giveBack 1 := ⟨KW.at (i := 817) (by decide +kernel) rfl, vm_X0_giveBack.1, vm_X0_giveBack.2, mk_X0_giveBack⟩
theorem d_X4_leave_42 : decode cX4_leave 42 = .ok (.ireturn, 1) := by decide +kernel
theorem d_X4_leave_14 : decode cX4_leave 14 = .ok (.iconst 0, 1) := by decide +kernel
theorem d_X4_leave_15 : decode cX4_leave 15 = .ok (.ireturn, 1) := by decide +kernel
theorem d_X7_delete_105 : decode cX7_delete 105 = .ok (.iadd, 1) := by decide +kernel
theorem d_X7_delete_106 : decode cX7_delete 106 = .ok (.istore 6, 2) := by decide +kernel
theorem d_X7_delete_108 : decode cX7_delete 108 = .ok (.iload 6, 2) := by decide +kernel
theorem d_X7_delete_110 : decode cX7_delete 110 = .ok (.aload_n 0, 1) := by decide +kernel
theorem d_X7_delete_111 : decode cX7_delete 111 = .ok (.getfield 34, 3) := by decide +kernel
theorem d_X7_delete_114 : decode cX7_delete 114 = .ok (.aload_n 0, 1) := by decide +kernel
theorem d_X7_delete_115 : decode cX7_delete 115 = .ok (.getfield 21, 3) := by decide +kernel
theorem d_X7_delete_118 : decode cX7_delete 118 = .ok (.iload_n 3, 1) := by decide +kernel
theorem d_X7_delete_119 : decode cX7_delete 119 = .ok (.invokevirtual 108, 3) := by decide +kernel
theorem d_X7_delete_122 : decode cX7_delete 122 = .ok (.iload 4, 2) := by decide +kernel
theorem d_X7_delete_124 : decode cX7_delete 124 = .ok (.invokevirtual 137, 3) := by decide +kernel
theorem d_X7_delete_127 : decode cX7_delete 127 = .ok (.iadd, 1) := by decide +kernel
theorem d_X7_delete_128 : decode cX7_delete 128 = .ok (.istore 6, 2) := by decide +kernel
theorem d_X7_delete_130 : decode cX7_delete 130 = .ok (.aload_n 0, 1) := by decide +kernel
theorem d_X7_delete_131 : decode cX7_delete 131 = .ok (.getfield 55, 3) := by decide +kernel
theorem d_X7_delete_134 : decode cX7_delete 134 = .ok (.iload_n 1, 1) := by decide +kernel
theorem d_X7_delete_135 : decode cX7_delete 135 = .ok (.invokevirtual 164, 3) := by decide +kernel
abbrev Y_X6_end : YT := (cX6_end, 2, none, yX6_end, [], 3)
theorem mk_X6_end : MK Y_X6_end 1 := ⟨KW.at (i := 81) (by decide +kernel) rfl, KW.at (i := 529) (by decide +kernel) rfl, ⟨by decide +kernel, by decide +kernel⟩, by decide +kernel, by decide +kernel, rfl, by decide⟩
theorem vm_X6_end : KW (.instanceMethod (yN Y_X6_end)) ∧ KW (.selects (yN Y_X6_end).cls (yN Y_X6_end) (yN Y_X6_end)) := ⟨KW.at (i := 527) (by decide +kernel) rfl, KW.at (i := 528) (by decide +kernel) rfl⟩
theorem ck_RX7_164 : CKV RX7 164 Y_X6_end 1 := ⟨KW.at (i := 818) (by decide +kernel) rfl, vm_X6_end.1, vm_X6_end.2, mk_X6_end⟩
theorem d_X6_end_0 : decode cX6_end 0 = .ok (.aload_n 0, 1) := by decide +kernel
theorem d_X6_end_1 : decode cX6_end 1 = .ok (.iload_n 1, 1) := by decide +kernel
theorem d_X6_end_2 : decode cX6_end 2 = .ok (.iconst 0, 1) := by decide +kernel
theorem d_X6_end_3 : decode cX6_end 3 = .ok (.iconst 0, 1) := by decide +kernel
theorem d_X6_end_4 : decode cX6_end 4 = .ok (.invokevirtual 32, 3) := by decide +kernel
abbrev Y_X6_start : YT := (cX6_start, 4, none, yX6_start, [], 2)
theorem mk_X6_start : MK Y_X6_start 3 := ⟨KW.at (i := 81) (by decide +kernel) rfl, KW.at (i := 533) (by decide +kernel) rfl, ⟨by decide +kernel, by decide +kernel⟩, by decide +kernel, by decide +kernel, rfl, by decide⟩
theorem vm_X6_start : KW (.instanceMethod (yN Y_X6_start)) ∧ KW (.selects (yN Y_X6_start).cls (yN Y_X6_start) (yN Y_X6_start)) := ⟨KW.at (i := 531) (by decide +kernel) rfl, KW.at (i := 532) (by decide +kernel) rfl⟩
theorem ck_RX6_32 : CKV RX6 32 Y_X6_start 3 := ⟨KW.at (i := 530) (by decide +kernel) rfl, vm_X6_start.1, vm_X6_start.2, mk_X6_start⟩
theorem d_X6_start_0 : decode cX6_start 0 = .ok (.aload_n 0, 1) := by decide +kernel
theorem d_X6_start_1 : decode cX6_start 1 = .ok (.getfield 9, 3) := by decide +kernel
theorem d_X6_start_4 : decode cX6_start 4 = .ok (.iload_n 1, 1) := by decide +kernel
theorem d_X6_start_5 : decode cX6_start 5 = .ok (.iload_n 2, 1) := by decide +kernel
theorem d_X6_start_6 : decode cX6_start 6 = .ok (.invokestatic 28, 3) := by decide +kernel
theorem d_X6_start_9 : decode cX6_start 9 = .ok (.aload_n 0, 1) := by decide +kernel
theorem d_X6_start_10 : decode cX6_start 10 = .ok (.getfield 15, 3) := by decide +kernel
theorem d_X6_start_13 : decode cX6_start 13 = .ok (.iload_n 1, 1) := by decide +kernel
theorem d_X6_start_14 : decode cX6_start 14 = .ok (.iload_n 3, 1) := by decide +kernel
theorem d_X6_start_15 : decode cX6_start 15 = .ok (.ifCond .eq 7, 3) := by decide +kernel
theorem d_X6_start_23 : decode cX6_start 23 = .ok (.invokestatic 28, 3) := by decide +kernel
theorem d_X6_start_26 : decode cX6_start 26 = .ok (.aload_n 0, 1) := by decide +kernel
theorem d_X6_start_27 : decode cX6_start 27 = .ok (.getfield 18, 3) := by decide +kernel
theorem d_X6_start_30 : decode cX6_start 30 = .ok (.iload_n 1, 1) := by decide +kernel
theorem d_X6_start_31 : decode cX6_start 31 = .ok (.iconst 0, 1) := by decide +kernel
theorem d_X6_start_32 : decode cX6_start 32 = .ok (.invokestatic 28, 3) := by decide +kernel
theorem d_X6_start_35 : decode cX6_start 35 = .ok (.aload_n 0, 1) := by decide +kernel
theorem d_X6_start_36 : decode cX6_start 36 = .ok (.getfield 21, 3) := by decide +kernel
theorem d_X6_start_39 : decode cX6_start 39 = .ok (.iload_n 1, 1) := by decide +kernel
theorem d_X6_start_40 : decode cX6_start 40 = .ok (.iconst 0, 1) := by decide +kernel
theorem d_X6_start_41 : decode cX6_start 41 = .ok (.invokestatic 28, 3) := by decide +kernel
theorem d_X6_start_44 : decode cX6_start 44 = .ok (.return_, 1) := by decide +kernel
theorem d_X6_start_22 : decode cX6_start 22 = .ok (.iconst 0, 1) := by decide +kernel
theorem d_X6_start_18 : decode cX6_start 18 = .ok (.iconst 1, 1) := by decide +kernel
theorem d_X6_start_19 : decode cX6_start 19 = .ok (.goto 4, 3) := by decide +kernel
theorem d_X6_end_7 : decode cX6_end 7 = .ok (.return_, 1) := by decide +kernel
theorem d_X7_delete_138 : decode cX7_delete 138 = .ok (.aload_n 0, 1) := by decide +kernel
theorem d_X7_delete_139 : decode cX7_delete 139 = .ok (.iload_n 3, 1) := by decide +kernel
theorem d_X7_delete_140 : decode cX7_delete 140 = .ok (.iconst 1, 1) := by decide +kernel
theorem d_X7_delete_141 : decode cX7_delete 141 = .ok (.invokevirtual 146, 3) := by decide +kernel
theorem d_X7_delete_144 : decode cX7_delete 144 = .ok (.iload 6, 2) := by decide +kernel
theorem d_X7_delete_146 : decode cX7_delete 146 = .ok (.ireturn, 1) := by decide +kernel
abbrev Y_X7_find : YT := (cX7_find, 3, (some .int), yX7_find, [], 7)
theorem d_X7_find_0 : decode cX7_find 0 = .ok (.aload_n 0, 1) := by decide +kernel
theorem d_X7_find_1 : decode cX7_find 1 = .ok (.iload_n 1, 1) := by decide +kernel
theorem d_X7_find_2 : decode cX7_find 2 = .ok (.invokevirtual 95, 3) := by decide +kernel
theorem d_X7_find_5 : decode cX7_find 5 = .ok (.iload_n 2, 1) := by decide +kernel
theorem d_X7_find_6 : decode cX7_find 6 = .ok (.invokestatic 98, 3) := by decide +kernel
theorem d_X7_find_9 : decode cX7_find 9 = .ok (.aload_n 0, 1) := by decide +kernel
theorem d_X7_find_10 : decode cX7_find 10 = .ok (.getfield 34, 3) := by decide +kernel
theorem d_X7_find_13 : decode cX7_find 13 = .ok (.aload_n 0, 1) := by decide +kernel
theorem d_X7_find_14 : decode cX7_find 14 = .ok (.getfield 21, 3) := by decide +kernel
theorem d_X7_find_17 : decode cX7_find 17 = .ok (.iload_n 1, 1) := by decide +kernel
theorem d_X7_find_18 : decode cX7_find 18 = .ok (.invokevirtual 108, 3) := by decide +kernel
theorem d_X7_find_21 : decode cX7_find 21 = .ok (.iload_n 2, 1) := by decide +kernel
theorem d_X7_find_22 : decode cX7_find 22 = .ok (.invokevirtual 167, 3) := by decide +kernel
theorem d_X7_find_25 : decode cX7_find 25 = .ok (.ireturn, 1) := by decide +kernel
abbrev Y_X7_subkeyAt : YT := (cX7_subkeyAt, 4, (some .int), yX7_subkeyAt, [], 7)
theorem d_X7_subkeyAt_0 : decode cX7_subkeyAt 0 = .ok (.aload_n 0, 1) := by decide +kernel
theorem d_X7_subkeyAt_1 : decode cX7_subkeyAt 1 = .ok (.iload_n 1, 1) := by decide +kernel
theorem d_X7_subkeyAt_2 : decode cX7_subkeyAt 2 = .ok (.invokevirtual 95, 3) := by decide +kernel
theorem d_X7_subkeyAt_5 : decode cX7_subkeyAt 5 = .ok (.aload_n 0, 1) := by decide +kernel
theorem d_X7_subkeyAt_6 : decode cX7_subkeyAt 6 = .ok (.getfield 21, 3) := by decide +kernel
theorem d_X7_subkeyAt_9 : decode cX7_subkeyAt 9 = .ok (.iload_n 1, 1) := by decide +kernel
theorem d_X7_subkeyAt_10 : decode cX7_subkeyAt 10 = .ok (.invokevirtual 108, 3) := by decide +kernel
theorem d_X7_subkeyAt_13 : decode cX7_subkeyAt 13 = .ok (.istore_n 3, 1) := by decide +kernel
theorem d_X7_subkeyAt_14 : decode cX7_subkeyAt 14 = .ok (.iload_n 2, 1) := by decide +kernel
theorem d_X7_subkeyAt_15 : decode cX7_subkeyAt 15 = .ok (.ifCond .lt 15, 3) := by decide +kernel
theorem d_X7_subkeyAt_30 : decode cX7_subkeyAt 30 = .ok (.new 173, 3) := by decide +kernel
theorem d_X7_subkeyAt_33 : decode cX7_subkeyAt 33 = .ok (.dup, 1) := by decide +kernel
theorem d_X7_subkeyAt_34 : decode cX7_subkeyAt 34 = .ok (.ldc 175, 2) := by decide +kernel
theorem d_X7_subkeyAt_36 : decode cX7_subkeyAt 36 = .ok (.invokespecial 177, 3) := by decide +kernel
theorem d_X7_subkeyAt_39 : decode cX7_subkeyAt 39 = .ok (.athrow, 1) := by decide +kernel
theorem d_X7_subkeyAt_18 : decode cX7_subkeyAt 18 = .ok (.iload_n 2, 1) := by decide +kernel
theorem d_X7_subkeyAt_19 : decode cX7_subkeyAt 19 = .ok (.aload_n 0, 1) := by decide +kernel
theorem d_X7_subkeyAt_20 : decode cX7_subkeyAt 20 = .ok (.getfield 34, 3) := by decide +kernel
theorem d_X7_subkeyAt_23 : decode cX7_subkeyAt 23 = .ok (.iload_n 3, 1) := by decide +kernel
theorem d_X7_subkeyAt_24 : decode cX7_subkeyAt 24 = .ok (.invokevirtual 170, 3) := by decide +kernel
abbrev Y_X3_entryCount : YT := (cX3_entryCount, 5, (some .int), yX3_entryCount, [], 4)
theorem mk_X3_entryCount : MK Y_X3_entryCount 1 := ⟨KW.at (i := 78) (by decide +kernel) rfl, KW.at (i := 479) (by decide +kernel) rfl, ⟨by decide +kernel, by decide +kernel⟩, by decide +kernel, by decide +kernel, rfl, by decide⟩
theorem vm_X3_entryCount : KW (.instanceMethod (yN Y_X3_entryCount)) ∧ KW (.selects (yN Y_X3_entryCount).cls (yN Y_X3_entryCount) (yN Y_X3_entryCount)) := ⟨KW.at (i := 477) (by decide +kernel) rfl, KW.at (i := 478) (by decide +kernel) rfl⟩
theorem ck_RX7_170 : CKV RX7 170 Y_X3_entryCount 1 := ⟨KW.at (i := 476) (by decide +kernel) rfl, vm_X3_entryCount.1, vm_X3_entryCount.2, mk_X3_entryCount⟩
theorem d_X3_entryCount_0 : decode cX3_entryCount 0 = .ok (.aload_n 0, 1) := by decide +kernel
theorem d_X3_entryCount_1 : decode cX3_entryCount 1 = .ok (.iload_n 1, 1) := by decide +kernel
theorem d_X3_entryCount_2 : decode cX3_entryCount 2 = .ok (.invokevirtual 35, 3) := by decide +kernel
theorem d_X3_entryCount_5 : decode cX3_entryCount 5 = .ok (.istore_n 2, 1) := by decide +kernel
theorem d_X3_entryCount_6 : decode cX3_entryCount 6 = .ok (.iconst 0, 1) := by decide +kernel
theorem d_X3_entryCount_7 : decode cX3_entryCount 7 = .ok (.istore_n 3, 1) := by decide +kernel
theorem d_X3_entryCount_8 : decode cX3_entryCount 8 = .ok (.iconst 0, 1) := by decide +kernel
theorem d_X3_entryCount_9 : decode cX3_entryCount 9 = .ok (.istore 4, 2) := by decide +kernel
theorem d_X3_entryCount_11 : decode cX3_entryCount 11 = .ok (.iload 4, 2) := by decide +kernel
theorem d_X3_entryCount_13 : decode cX3_entryCount 13 = .ok (.iload_n 2, 1) := by decide +kernel
theorem d_X3_entryCount_14 : decode cX3_entryCount 14 = .ok (.if_icmp .ge 26, 3) := by decide +kernel
theorem d_X3_entryCount_40 : decode cX3_entryCount 40 = .ok (.iload_n 3, 1) := by decide +kernel
theorem d_X3_entryCount_41 : decode cX3_entryCount 41 = .ok (.ireturn, 1) := by decide +kernel
theorem d_X3_entryCount_17 : decode cX3_entryCount 17 = .ok (.iload_n 3, 1) := by decide +kernel
theorem d_X3_entryCount_18 : decode cX3_entryCount 18 = .ok (.aload_n 0, 1) := by decide +kernel
theorem d_X3_entryCount_19 : decode cX3_entryCount 19 = .ok (.getfield 9, 3) := by decide +kernel
theorem d_X3_entryCount_22 : decode cX3_entryCount 22 = .ok (.aload_n 0, 1) := by decide +kernel
theorem d_X3_entryCount_23 : decode cX3_entryCount 23 = .ok (.iload_n 1, 1) := by decide +kernel
theorem d_X3_entryCount_24 : decode cX3_entryCount 24 = .ok (.iload 4, 2) := by decide +kernel
theorem d_X3_entryCount_26 : decode cX3_entryCount 26 = .ok (.invokevirtual 38, 3) := by decide +kernel
theorem d_X3_entryCount_29 : decode cX3_entryCount 29 = .ok (.invokevirtual 32, 3) := by decide +kernel
theorem d_X3_entryCount_32 : decode cX3_entryCount 32 = .ok (.iadd, 1) := by decide +kernel
theorem d_X3_entryCount_33 : decode cX3_entryCount 33 = .ok (.istore_n 3, 1) := by decide +kernel
theorem d_X3_entryCount_34 : decode cX3_entryCount 34 = .ok (.iinc 4 1, 3) := by decide +kernel
theorem d_X3_entryCount_37 : decode cX3_entryCount 37 = .ok (.goto (-26), 3) := by decide +kernel
theorem d_X7_subkeyAt_27 : decode cX7_subkeyAt 27 = .ok (.if_icmp .lt 13, 3) := by decide +kernel
theorem d_X7_subkeyAt_40 : decode cX7_subkeyAt 40 = .ok (.aload_n 0, 1) := by decide +kernel
theorem d_X7_subkeyAt_41 : decode cX7_subkeyAt 41 = .ok (.getfield 34, 3) := by decide +kernel
theorem d_X7_subkeyAt_44 : decode cX7_subkeyAt 44 = .ok (.iload_n 3, 1) := by decide +kernel
theorem d_X7_subkeyAt_45 : decode cX7_subkeyAt 45 = .ok (.iload_n 2, 1) := by decide +kernel
theorem d_X7_subkeyAt_46 : decode cX7_subkeyAt 46 = .ok (.invokevirtual 180, 3) := by decide +kernel
abbrev Y_X3_subkeyNumbered : YT := (cX3_subkeyNumbered, 7, (some .int), yX3_subkeyNumbered, [], 4)
theorem mk_X3_subkeyNumbered : MK Y_X3_subkeyNumbered 2 := ⟨KW.at (i := 78) (by decide +kernel) rfl, KW.at (i := 483) (by decide +kernel) rfl, ⟨by decide +kernel, by decide +kernel⟩, by decide +kernel, by decide +kernel, rfl, by decide⟩
theorem vm_X3_subkeyNumbered : KW (.instanceMethod (yN Y_X3_subkeyNumbered)) ∧ KW (.selects (yN Y_X3_subkeyNumbered).cls (yN Y_X3_subkeyNumbered) (yN Y_X3_subkeyNumbered)) := ⟨KW.at (i := 481) (by decide +kernel) rfl, KW.at (i := 482) (by decide +kernel) rfl⟩
theorem ck_RX7_180 : CKV RX7 180 Y_X3_subkeyNumbered 2 := ⟨KW.at (i := 480) (by decide +kernel) rfl, vm_X3_subkeyNumbered.1, vm_X3_subkeyNumbered.2, mk_X3_subkeyNumbered⟩
theorem d_X3_subkeyNumbered_0 : decode cX3_subkeyNumbered 0 = .ok (.aload_n 0, 1) := by decide +kernel
theorem d_X3_subkeyNumbered_1 : decode cX3_subkeyNumbered 1 = .ok (.iload_n 1, 1) := by decide +kernel
theorem d_X3_subkeyNumbered_2 : decode cX3_subkeyNumbered 2 = .ok (.invokevirtual 35, 3) := by decide +kernel
theorem d_X3_subkeyNumbered_5 : decode cX3_subkeyNumbered 5 = .ok (.istore_n 3, 1) := by decide +kernel
theorem d_X3_subkeyNumbered_6 : decode cX3_subkeyNumbered 6 = .ok (.iload_n 2, 1) := by decide +kernel
theorem d_X3_subkeyNumbered_7 : decode cX3_subkeyNumbered 7 = .ok (.istore 4, 2) := by decide +kernel
theorem d_X3_subkeyNumbered_9 : decode cX3_subkeyNumbered 9 = .ok (.iconst 0, 1) := by decide +kernel
theorem d_X3_subkeyNumbered_10 : decode cX3_subkeyNumbered 10 = .ok (.istore 5, 2) := by decide +kernel
theorem d_X3_subkeyNumbered_12 : decode cX3_subkeyNumbered 12 = .ok (.iload 5, 2) := by decide +kernel
theorem d_X3_subkeyNumbered_14 : decode cX3_subkeyNumbered 14 = .ok (.iload_n 3, 1) := by decide +kernel
theorem d_X3_subkeyNumbered_15 : decode cX3_subkeyNumbered 15 = .ok (.if_icmp .ge 61, 3) := by decide +kernel
theorem d_X3_subkeyNumbered_76 : decode cX3_subkeyNumbered 76 = .ok (.iconst (-1), 1) := by decide +kernel
theorem d_X3_subkeyNumbered_77 : decode cX3_subkeyNumbered 77 = .ok (.ireturn, 1) := by decide +kernel
theorem d_X3_subkeyNumbered_18 : decode cX3_subkeyNumbered 18 = .ok (.aload_n 0, 1) := by decide +kernel
theorem d_X3_subkeyNumbered_19 : decode cX3_subkeyNumbered 19 = .ok (.iload_n 1, 1) := by decide +kernel
theorem d_X3_subkeyNumbered_20 : decode cX3_subkeyNumbered 20 = .ok (.iload 5, 2) := by decide +kernel
theorem d_X3_subkeyNumbered_22 : decode cX3_subkeyNumbered 22 = .ok (.invokevirtual 38, 3) := by decide +kernel
theorem d_X3_subkeyNumbered_25 : decode cX3_subkeyNumbered 25 = .ok (.istore 6, 2) := by decide +kernel
theorem d_X3_subkeyNumbered_27 : decode cX3_subkeyNumbered 27 = .ok (.iload 4, 2) := by decide +kernel
theorem d_X3_subkeyNumbered_29 : decode cX3_subkeyNumbered 29 = .ok (.aload_n 0, 1) := by decide +kernel
theorem d_X3_subkeyNumbered_30 : decode cX3_subkeyNumbered 30 = .ok (.getfield 9, 3) := by decide +kernel
theorem d_X3_subkeyNumbered_33 : decode cX3_subkeyNumbered 33 = .ok (.iload 6, 2) := by decide +kernel
theorem d_X3_subkeyNumbered_35 : decode cX3_subkeyNumbered 35 = .ok (.invokevirtual 32, 3) := by decide +kernel
theorem d_X3_subkeyNumbered_38 : decode cX3_subkeyNumbered 38 = .ok (.if_icmp .ge 18, 3) := by decide +kernel
theorem d_X3_subkeyNumbered_56 : decode cX3_subkeyNumbered 56 = .ok (.iload 4, 2) := by decide +kernel
theorem d_X3_subkeyNumbered_58 : decode cX3_subkeyNumbered 58 = .ok (.aload_n 0, 1) := by decide +kernel
theorem d_X3_subkeyNumbered_59 : decode cX3_subkeyNumbered 59 = .ok (.getfield 9, 3) := by decide +kernel
theorem d_X3_subkeyNumbered_62 : decode cX3_subkeyNumbered 62 = .ok (.iload 6, 2) := by decide +kernel
theorem d_X3_subkeyNumbered_64 : decode cX3_subkeyNumbered 64 = .ok (.invokevirtual 32, 3) := by decide +kernel
theorem d_X3_subkeyNumbered_67 : decode cX3_subkeyNumbered 67 = .ok (.isub, 1) := by decide +kernel
theorem d_X3_subkeyNumbered_68 : decode cX3_subkeyNumbered 68 = .ok (.istore 4, 2) := by decide +kernel
theorem d_X3_subkeyNumbered_70 : decode cX3_subkeyNumbered 70 = .ok (.iinc 5 1, 3) := by decide +kernel
theorem d_X3_subkeyNumbered_73 : decode cX3_subkeyNumbered 73 = .ok (.goto (-61), 3) := by decide +kernel
theorem d_X3_subkeyNumbered_41 : decode cX3_subkeyNumbered 41 = .ok (.aload_n 0, 1) := by decide +kernel
theorem d_X3_subkeyNumbered_42 : decode cX3_subkeyNumbered 42 = .ok (.getfield 9, 3) := by decide +kernel
theorem d_X3_subkeyNumbered_45 : decode cX3_subkeyNumbered 45 = .ok (.iload 6, 2) := by decide +kernel
theorem d_X3_subkeyNumbered_47 : decode cX3_subkeyNumbered 47 = .ok (.iload 4, 2) := by decide +kernel
theorem d_X3_subkeyNumbered_49 : decode cX3_subkeyNumbered 49 = .ok (.invokevirtual 45, 3) := by decide +kernel
theorem d_X3_subkeyNumbered_52 : decode cX3_subkeyNumbered 52 = .ok (.bipush 80, 2) := by decide +kernel
theorem d_X3_subkeyNumbered_54 : decode cX3_subkeyNumbered 54 = .ok (.irem, 1) := by decide +kernel
theorem d_X3_subkeyNumbered_55 : decode cX3_subkeyNumbered 55 = .ok (.ireturn, 1) := by decide +kernel
theorem d_X7_subkeyAt_49 : decode cX7_subkeyAt 49 = .ok (.ireturn, 1) := by decide +kernel
abbrev Y_X7_list : YT := (cX7_list, 3, (some .int), yX7_list, [], 7)
theorem d_X7_list_0 : decode cX7_list 0 = .ok (.aload_n 0, 1) := by decide +kernel
theorem d_X7_list_1 : decode cX7_list 1 = .ok (.iload_n 1, 1) := by decide +kernel
theorem d_X7_list_2 : decode cX7_list 2 = .ok (.invokevirtual 95, 3) := by decide +kernel
theorem d_X7_list_5 : decode cX7_list 5 = .ok (.aload_n 0, 1) := by decide +kernel
theorem d_X7_list_6 : decode cX7_list 6 = .ok (.getfield 21, 3) := by decide +kernel
theorem d_X7_list_9 : decode cX7_list 9 = .ok (.iload_n 1, 1) := by decide +kernel
theorem d_X7_list_10 : decode cX7_list 10 = .ok (.invokevirtual 108, 3) := by decide +kernel
theorem d_X7_list_13 : decode cX7_list 13 = .ok (.istore_n 2, 1) := by decide +kernel
theorem d_X7_list_14 : decode cX7_list 14 = .ok (.bipush 10, 2) := by decide +kernel
theorem d_X7_list_16 : decode cX7_list 16 = .ok (.aload_n 0, 1) := by decide +kernel
theorem d_X7_list_17 : decode cX7_list 17 = .ok (.getfield 34, 3) := by decide +kernel
theorem d_X7_list_20 : decode cX7_list 20 = .ok (.iload_n 2, 1) := by decide +kernel
theorem d_X7_list_21 : decode cX7_list 21 = .ok (.invokevirtual 170, 3) := by decide +kernel
theorem d_X7_list_24 : decode cX7_list 24 = .ok (.imul, 1) := by decide +kernel
theorem d_X7_list_25 : decode cX7_list 25 = .ok (.aload_n 0, 1) := by decide +kernel
theorem d_X7_list_26 : decode cX7_list 26 = .ok (.getfield 34, 3) := by decide +kernel
theorem d_X7_list_29 : decode cX7_list 29 = .ok (.iload_n 2, 1) := by decide +kernel
theorem d_X7_list_30 : decode cX7_list 30 = .ok (.invokevirtual 183, 3) := by decide +kernel
theorem d_X7_list_33 : decode cX7_list 33 = .ok (.iadd, 1) := by decide +kernel
theorem d_X7_list_34 : decode cX7_list 34 = .ok (.ireturn, 1) := by decide +kernel
abbrev Y_X7_follow : YT := (cX7_follow, 4, (some .int), yX7_follow, [], 7)
theorem d_X7_follow_0 : decode cX7_follow 0 = .ok (.aload_n 0, 1) := by decide +kernel
theorem d_X7_follow_1 : decode cX7_follow 1 = .ok (.iload_n 1, 1) := by decide +kernel
theorem d_X7_follow_2 : decode cX7_follow 2 = .ok (.invokevirtual 95, 3) := by decide +kernel
theorem d_X7_follow_5 : decode cX7_follow 5 = .ok (.iload_n 1, 1) := by decide +kernel
theorem d_X7_follow_6 : decode cX7_follow 6 = .ok (.istore_n 2, 1) := by decide +kernel
theorem d_X7_follow_7 : decode cX7_follow 7 = .ok (.iconst 0, 1) := by decide +kernel
theorem d_X7_follow_8 : decode cX7_follow 8 = .ok (.istore_n 3, 1) := by decide +kernel
theorem d_X7_follow_9 : decode cX7_follow 9 = .ok (.iload_n 3, 1) := by decide +kernel
theorem d_X7_follow_10 : decode cX7_follow 10 = .ok (.iconst 4, 1) := by decide +kernel
theorem d_X7_follow_11 : decode cX7_follow 11 = .ok (.if_icmp .ge 35, 3) := by decide +kernel
theorem d_X7_follow_14 : decode cX7_follow 14 = .ok (.aload_n 0, 1) := by decide +kernel
theorem d_X7_follow_15 : decode cX7_follow 15 = .ok (.iload_n 2, 1) := by decide +kernel
theorem d_X7_follow_16 : decode cX7_follow 16 = .ok (.invokevirtual 186, 3) := by decide +kernel
theorem d_X7_follow_19 : decode cX7_follow 19 = .ok (.ifCond .eq 27, 3) := by decide +kernel
theorem d_X7_follow_22 : decode cX7_follow 22 = .ok (.aload_n 0, 1) := by decide +kernel
theorem d_X7_follow_23 : decode cX7_follow 23 = .ok (.getfield 21, 3) := by decide +kernel
theorem d_X7_follow_26 : decode cX7_follow 26 = .ok (.aload_n 0, 1) := by decide +kernel
theorem d_X7_follow_27 : decode cX7_follow 27 = .ok (.getfield 21, 3) := by decide +kernel
theorem d_X7_follow_30 : decode cX7_follow 30 = .ok (.iload_n 2, 1) := by decide +kernel
theorem d_X7_follow_31 : decode cX7_follow 31 = .ok (.invokevirtual 108, 3) := by decide +kernel
theorem d_X7_follow_34 : decode cX7_follow 34 = .ok (.iconst 5, 1) := by decide +kernel
theorem d_X7_follow_35 : decode cX7_follow 35 = .ok (.iadd, 1) := by decide +kernel
theorem d_X7_follow_36 : decode cX7_follow 36 = .ok (.invokevirtual 111, 3) := by decide +kernel
theorem d_X7_follow_39 : decode cX7_follow 39 = .ok (.istore_n 2, 1) := by decide +kernel
theorem d_X7_follow_40 : decode cX7_follow 40 = .ok (.iinc 3 1, 3) := by decide +kernel
theorem d_X7_follow_43 : decode cX7_follow 43 = .ok (.goto (-34), 3) := by decide +kernel
theorem d_X7_follow_46 : decode cX7_follow 46 = .ok (.aload_n 0, 1) := by decide +kernel
theorem d_X7_follow_47 : decode cX7_follow 47 = .ok (.iload_n 2, 1) := by decide +kernel
theorem d_X7_follow_48 : decode cX7_follow 48 = .ok (.invokevirtual 189, 3) := by decide +kernel
theorem d_X7_follow_51 : decode cX7_follow 51 = .ok (.ifCond .eq 15, 3) := by decide +kernel
theorem d_X7_follow_66 : decode cX7_follow 66 = .ok (.iconst (-1), 1) := by decide +kernel
theorem d_X7_follow_67 : decode cX7_follow 67 = .ok (.ireturn, 1) := by decide +kernel
theorem d_X7_follow_54 : decode cX7_follow 54 = .ok (.aload_n 0, 1) := by decide +kernel
theorem d_X7_follow_55 : decode cX7_follow 55 = .ok (.iload_n 2, 1) := by decide +kernel
theorem d_X7_follow_56 : decode cX7_follow 56 = .ok (.invokevirtual 186, 3) := by decide +kernel
theorem d_X7_follow_59 : decode cX7_follow 59 = .ok (.ifCond .ne 7, 3) := by decide +kernel
theorem d_X7_follow_62 : decode cX7_follow 62 = .ok (.iload_n 2, 1) := by decide +kernel
theorem d_X7_follow_63 : decode cX7_follow 63 = .ok (.goto 4, 3) := by decide +kernel
abbrev Y_X7_setValue : YT := (cX7_setValue, 6, (some .int), yX7_setValue, [], 7)
theorem d_X7_setValue_0 : decode cX7_setValue 0 = .ok (.aload_n 0, 1) := by decide +kernel
theorem d_X7_setValue_1 : decode cX7_setValue 1 = .ok (.iload_n 1, 1) := by decide +kernel
theorem d_X7_setValue_2 : decode cX7_setValue 2 = .ok (.invokevirtual 95, 3) := by decide +kernel
theorem d_X7_setValue_5 : decode cX7_setValue 5 = .ok (.iload_n 2, 1) := by decide +kernel
theorem d_X7_setValue_6 : decode cX7_setValue 6 = .ok (.invokestatic 192, 3) := by decide +kernel
abbrev Y_X7_requireValueName : YT := (cX7_requireValueName, 1, none, yX7_requireValueName, [], 6)
theorem mk_X7_requireValueName : MK Y_X7_requireValueName 1 := ⟨KW.at (i := 75) (by decide +kernel) rfl, KW.at (i := 857) (by decide +kernel) rfl, ⟨by decide +kernel, by decide +kernel⟩, by decide +kernel, by decide +kernel, rfl, by decide⟩
theorem sm_X7_requireValueName : KW (.static (yN Y_X7_requireValueName)) := KW.at (i := 856) (by decide +kernel) rfl
theorem ck_RX7_192 : CKS RX7 192 Y_X7_requireValueName 1 := ⟨KW.at (i := 855) (by decide +kernel) rfl, sm_X7_requireValueName, mk_X7_requireValueName⟩
theorem d_X7_requireValueName_0 : decode cX7_requireValueName 0 = .ok (.iload_n 0, 1) := by decide +kernel
theorem d_X7_requireValueName_1 : decode cX7_requireValueName 1 = .ok (.ifCond .lt 9, 3) := by decide +kernel
theorem d_X7_requireValueName_10 : decode cX7_requireValueName 10 = .ok (.new 279, 3) := by decide +kernel
theorem d_X7_requireValueName_13 : decode cX7_requireValueName 13 = .ok (.dup, 1) := by decide +kernel
theorem d_X7_requireValueName_14 : decode cX7_requireValueName 14 = .ok (.ldc_w 352, 3) := by decide +kernel
theorem d_X7_requireValueName_17 : decode cX7_requireValueName 17 = .ok (.invokespecial 283, 3) := by decide +kernel
theorem d_X7_requireValueName_20 : decode cX7_requireValueName 20 = .ok (.athrow, 1) := by decide +kernel
theorem d_X7_requireValueName_4 : decode cX7_requireValueName 4 = .ok (.iload_n 0, 1) := by decide +kernel
theorem d_X7_requireValueName_5 : decode cX7_requireValueName 5 = .ok (.bipush 99, 2) := by decide +kernel
theorem d_X7_requireValueName_7 : decode cX7_requireValueName 7 = .ok (.if_icmp .le 14, 3) := by decide +kernel
theorem d_X7_requireValueName_21 : decode cX7_requireValueName 21 = .ok (.return_, 1) := by decide +kernel
theorem d_X7_setValue_9 : decode cX7_setValue 9 = .ok (.iload_n 3, 1) := by decide +kernel
theorem d_X7_setValue_10 : decode cX7_setValue 10 = .ok (.invokestatic 195, 3) := by decide +kernel
abbrev Y_X7_requireLength : YT := (cX7_requireLength, 1, none, yX7_requireLength, [], 6)
theorem mk_X7_requireLength : MK Y_X7_requireLength 1 := ⟨KW.at (i := 75) (by decide +kernel) rfl, KW.at (i := 861) (by decide +kernel) rfl, ⟨by decide +kernel, by decide +kernel⟩, by decide +kernel, by decide +kernel, rfl, by decide⟩
theorem sm_X7_requireLength : KW (.static (yN Y_X7_requireLength)) := KW.at (i := 860) (by decide +kernel) rfl
theorem ck_RX7_195 : CKS RX7 195 Y_X7_requireLength 1 := ⟨KW.at (i := 859) (by decide +kernel) rfl, sm_X7_requireLength, mk_X7_requireLength⟩
theorem d_X7_requireLength_0 : decode cX7_requireLength 0 = .ok (.iload_n 0, 1) := by decide +kernel
theorem d_X7_requireLength_1 : decode cX7_requireLength 1 = .ok (.ifCond .lt 9, 3) := by decide +kernel
theorem d_X7_requireLength_10 : decode cX7_requireLength 10 = .ok (.new 279, 3) := by decide +kernel
theorem d_X7_requireLength_13 : decode cX7_requireLength 13 = .ok (.dup, 1) := by decide +kernel
theorem d_X7_requireLength_14 : decode cX7_requireLength 14 = .ok (.ldc_w 354, 3) := by decide +kernel
theorem d_X7_requireLength_17 : decode cX7_requireLength 17 = .ok (.invokespecial 283, 3) := by decide +kernel
theorem d_X7_requireLength_20 : decode cX7_requireLength 20 = .ok (.athrow, 1) := by decide +kernel
theorem d_X7_requireLength_4 : decode cX7_requireLength 4 = .ok (.iload_n 0, 1) := by decide +kernel
theorem d_X7_requireLength_5 : decode cX7_requireLength 5 = .ok (.bipush 30, 2) := by decide +kernel
theorem d_X7_requireLength_7 : decode cX7_requireLength 7 = .ok (.if_icmp .le 14, 3) := by decide +kernel
theorem d_X7_requireLength_21 : decode cX7_requireLength 21 = .ok (.return_, 1) := by decide +kernel
theorem d_X7_setValue_13 : decode cX7_setValue 13 = .ok (.aload_n 0, 1) := by decide +kernel
theorem d_X7_setValue_14 : decode cX7_setValue 14 = .ok (.iload_n 1, 1) := by decide +kernel
theorem d_X7_setValue_15 : decode cX7_setValue 15 = .ok (.invokevirtual 198, 3) := by decide +kernel
theorem d_X7_setValue_18 : decode cX7_setValue 18 = .ok (.aload_n 0, 1) := by decide +kernel
theorem d_X7_setValue_19 : decode cX7_setValue 19 = .ok (.getfield 21, 3) := by decide +kernel
theorem d_X7_setValue_22 : decode cX7_setValue 22 = .ok (.iload_n 1, 1) := by decide +kernel
theorem d_X7_setValue_23 : decode cX7_setValue 23 = .ok (.invokevirtual 108, 3) := by decide +kernel
theorem d_X7_setValue_26 : decode cX7_setValue 26 = .ok (.istore 5, 2) := by decide +kernel
theorem d_X7_setValue_28 : decode cX7_setValue 28 = .ok (.aload_n 0, 1) := by decide +kernel
theorem d_X7_setValue_29 : decode cX7_setValue 29 = .ok (.getfield 41, 3) := by decide +kernel
theorem d_X7_setValue_32 : decode cX7_setValue 32 = .ok (.iload 5, 2) := by decide +kernel
theorem d_X7_setValue_34 : decode cX7_setValue 34 = .ok (.iload_n 2, 1) := by decide +kernel
theorem d_X7_setValue_35 : decode cX7_setValue 35 = .ok (.invokevirtual 201, 3) := by decide +kernel
abbrev Y_X5_canHold : YT := (cX5_canHold, 3, (some .boolean), yX5_canHold, [], 5)
theorem mk_X5_canHold : MK Y_X5_canHold 2 := ⟨KW.at (i := 79) (by decide +kernel) rfl, KW.at (i := 866) (by decide +kernel) rfl, ⟨by decide +kernel, by decide +kernel⟩, by decide +kernel, by decide +kernel, rfl, by decide⟩
theorem vm_X5_canHold : KW (.instanceMethod (yN Y_X5_canHold)) ∧ KW (.selects (yN Y_X5_canHold).cls (yN Y_X5_canHold) (yN Y_X5_canHold)) := ⟨KW.at (i := 864) (by decide +kernel) rfl, KW.at (i := 865) (by decide +kernel) rfl⟩
theorem ck_RX7_201 : CKV RX7 201 Y_X5_canHold 2 := ⟨KW.at (i := 863) (by decide +kernel) rfl, vm_X5_canHold.1, vm_X5_canHold.2, mk_X5_canHold⟩
theorem d_X5_canHold_0 : decode cX5_canHold 0 = .ok (.aload_n 0, 1) := by decide +kernel
theorem d_X5_canHold_1 : decode cX5_canHold 1 = .ok (.iload_n 1, 1) := by decide +kernel
theorem d_X5_canHold_2 : decode cX5_canHold 2 = .ok (.invokevirtual 28, 3) := by decide +kernel
theorem d_X5_canHold_5 : decode cX5_canHold 5 = .ok (.bipush 8, 2) := by decide +kernel
theorem d_X5_canHold_7 : decode cX5_canHold 7 = .ok (.if_icmp .lt 12, 3) := by decide +kernel
theorem d_X5_canHold_19 : decode cX5_canHold 19 = .ok (.iconst 1, 1) := by decide +kernel
theorem d_X5_canHold_20 : decode cX5_canHold 20 = .ok (.goto 4, 3) := by decide +kernel
theorem d_X5_canHold_24 : decode cX5_canHold 24 = .ok (.ireturn, 1) := by decide +kernel
theorem d_X5_canHold_10 : decode cX5_canHold 10 = .ok (.aload_n 0, 1) := by decide +kernel
theorem d_X5_canHold_11 : decode cX5_canHold 11 = .ok (.iload_n 1, 1) := by decide +kernel
theorem d_X5_canHold_12 : decode cX5_canHold 12 = .ok (.iload_n 2, 1) := by decide +kernel
theorem d_X5_canHold_13 : decode cX5_canHold 13 = .ok (.invokevirtual 38, 3) := by decide +kernel
abbrev Y_X5_cellNamed : YT := (cX5_cellNamed, 6, (some .int), yX5_cellNamed, [], 4)
theorem mk_X5_cellNamed : MK Y_X5_cellNamed 2 := ⟨KW.at (i := 79) (by decide +kernel) rfl, KW.at (i := 870) (by decide +kernel) rfl, ⟨by decide +kernel, by decide +kernel⟩, by decide +kernel, by decide +kernel, rfl, by decide⟩
theorem vm_X5_cellNamed : KW (.instanceMethod (yN Y_X5_cellNamed)) ∧ KW (.selects (yN Y_X5_cellNamed).cls (yN Y_X5_cellNamed) (yN Y_X5_cellNamed)) := ⟨KW.at (i := 868) (by decide +kernel) rfl, KW.at (i := 869) (by decide +kernel) rfl⟩
theorem ck_RX5_38 : CKV RX5 38 Y_X5_cellNamed 2 := ⟨KW.at (i := 867) (by decide +kernel) rfl, vm_X5_cellNamed.1, vm_X5_cellNamed.2, mk_X5_cellNamed⟩
theorem d_X5_cellNamed_0 : decode cX5_cellNamed 0 = .ok (.aload_n 0, 1) := by decide +kernel
theorem d_X5_cellNamed_1 : decode cX5_cellNamed 1 = .ok (.iload_n 1, 1) := by decide +kernel
theorem d_X5_cellNamed_2 : decode cX5_cellNamed 2 = .ok (.invokevirtual 28, 3) := by decide +kernel
theorem d_X5_cellNamed_5 : decode cX5_cellNamed 5 = .ok (.istore_n 3, 1) := by decide +kernel
theorem d_X5_cellNamed_6 : decode cX5_cellNamed 6 = .ok (.iconst 0, 1) := by decide +kernel
theorem d_X5_cellNamed_7 : decode cX5_cellNamed 7 = .ok (.istore 4, 2) := by decide +kernel
theorem d_X5_cellNamed_9 : decode cX5_cellNamed 9 = .ok (.iload 4, 2) := by decide +kernel
theorem d_X5_cellNamed_11 : decode cX5_cellNamed 11 = .ok (.iload_n 3, 1) := by decide +kernel
theorem d_X5_cellNamed_12 : decode cX5_cellNamed 12 = .ok (.if_icmp .ge 39, 3) := by decide +kernel
theorem d_X5_cellNamed_51 : decode cX5_cellNamed 51 = .ok (.iconst 0, 1) := by decide +kernel
theorem d_X5_cellNamed_52 : decode cX5_cellNamed 52 = .ok (.ireturn, 1) := by decide +kernel
theorem d_X5_cellNamed_15 : decode cX5_cellNamed 15 = .ok (.aload_n 0, 1) := by decide +kernel
theorem d_X5_cellNamed_16 : decode cX5_cellNamed 16 = .ok (.iload_n 1, 1) := by decide +kernel
theorem d_X5_cellNamed_17 : decode cX5_cellNamed 17 = .ok (.iload 4, 2) := by decide +kernel
theorem d_X5_cellNamed_19 : decode cX5_cellNamed 19 = .ok (.invokevirtual 31, 3) := by decide +kernel
theorem d_X5_cellNamed_22 : decode cX5_cellNamed 22 = .ok (.istore 5, 2) := by decide +kernel
theorem d_X5_cellNamed_24 : decode cX5_cellNamed 24 = .ok (.aload_n 0, 1) := by decide +kernel
theorem d_X5_cellNamed_25 : decode cX5_cellNamed 25 = .ok (.getfield 9, 3) := by decide +kernel
theorem d_X5_cellNamed_28 : decode cX5_cellNamed 28 = .ok (.iload 5, 2) := by decide +kernel
theorem d_X5_cellNamed_30 : decode cX5_cellNamed 30 = .ok (.iconst 0, 1) := by decide +kernel
theorem d_X5_cellNamed_31 : decode cX5_cellNamed 31 = .ok (.iadd, 1) := by decide +kernel
theorem d_X5_cellNamed_32 : decode cX5_cellNamed 32 = .ok (.invokevirtual 19, 3) := by decide +kernel
theorem d_X5_cellNamed_35 : decode cX5_cellNamed 35 = .ok (.bipush 31, 2) := by decide +kernel
theorem d_X5_cellNamed_37 : decode cX5_cellNamed 37 = .ok (.idiv, 1) := by decide +kernel
theorem d_X5_cellNamed_38 : decode cX5_cellNamed 38 = .ok (.iload_n 2, 1) := by decide +kernel
theorem d_X5_cellNamed_39 : decode cX5_cellNamed 39 = .ok (.if_icmp .ne 6, 3) := by decide +kernel
theorem d_X5_cellNamed_45 : decode cX5_cellNamed 45 = .ok (.iinc 4 1, 3) := by decide +kernel
theorem d_X5_cellNamed_48 : decode cX5_cellNamed 48 = .ok (.goto (-39), 3) := by decide +kernel
theorem d_X5_cellNamed_42 : decode cX5_cellNamed 42 = .ok (.iload 5, 2) := by decide +kernel
theorem d_X5_cellNamed_44 : decode cX5_cellNamed 44 = .ok (.ireturn, 1) := by decide +kernel
theorem d_X5_canHold_16 : decode cX5_canHold 16 = .ok (.ifCond .eq 7, 3) := by decide +kernel
theorem d_X5_canHold_23 : decode cX5_canHold 23 = .ok (.iconst 0, 1) := by decide +kernel
theorem d_X7_setValue_38 : decode cX7_setValue 38 = .ok (.ifCond .ne 13, 3) := by decide +kernel
theorem d_X7_setValue_51 : decode cX7_setValue 51 = .ok (.aload_n 0, 1) := by decide +kernel
theorem d_X7_setValue_52 : decode cX7_setValue 52 = .ok (.getfield 41, 3) := by decide +kernel
theorem d_X7_setValue_55 : decode cX7_setValue 55 = .ok (.iload 5, 2) := by decide +kernel
theorem d_X7_setValue_57 : decode cX7_setValue 57 = .ok (.iload_n 2, 1) := by decide +kernel
theorem d_X7_setValue_58 : decode cX7_setValue 58 = .ok (.iload_n 3, 1) := by decide +kernel
theorem d_X7_setValue_59 : decode cX7_setValue 59 = .ok (.iload 4, 2) := by decide +kernel
theorem d_X7_setValue_61 : decode cX7_setValue 61 = .ok (.invokevirtual 209, 3) := by decide +kernel
abbrev Y_X5_assign : YT := (cX5_assign, 9, (some .boolean), yX5_assign, [], 6)
theorem mk_X5_assign : MK Y_X5_assign 4 := ⟨KW.at (i := 79) (by decide +kernel) rfl, KW.at (i := 875) (by decide +kernel) rfl, ⟨by decide +kernel, by decide +kernel⟩, by decide +kernel, by decide +kernel, rfl, by decide⟩
theorem vm_X5_assign : KW (.instanceMethod (yN Y_X5_assign)) ∧ KW (.selects (yN Y_X5_assign).cls (yN Y_X5_assign) (yN Y_X5_assign)) := ⟨KW.at (i := 873) (by decide +kernel) rfl, KW.at (i := 874) (by decide +kernel) rfl⟩
theorem ck_RX7_209 : CKV RX7 209 Y_X5_assign 4 := ⟨KW.at (i := 872) (by decide +kernel) rfl, vm_X5_assign.1, vm_X5_assign.2, mk_X5_assign⟩
theorem d_X5_assign_0 : decode cX5_assign 0 = .ok (.aload_n 0, 1) := by decide +kernel
theorem d_X5_assign_1 : decode cX5_assign 1 = .ok (.iload_n 1, 1) := by decide +kernel
theorem d_X5_assign_2 : decode cX5_assign 2 = .ok (.iload_n 2, 1) := by decide +kernel
theorem d_X5_assign_3 : decode cX5_assign 3 = .ok (.invokevirtual 38, 3) := by decide +kernel
theorem d_X5_assign_6 : decode cX5_assign 6 = .ok (.istore 5, 2) := by decide +kernel
theorem d_X5_assign_8 : decode cX5_assign 8 = .ok (.iload 5, 2) := by decide +kernel
theorem d_X5_assign_10 : decode cX5_assign 10 = .ok (.ifCond .ne 7, 3) := by decide +kernel
theorem d_X5_assign_18 : decode cX5_assign 18 = .ok (.istore 6, 2) := by decide +kernel
theorem d_X5_assign_20 : decode cX5_assign 20 = .ok (.iload_n 3, 1) := by decide +kernel
theorem d_X5_assign_21 : decode cX5_assign 21 = .ok (.invokestatic 41, 3) := by decide +kernel
abbrev Y_X5_pieceCount : YT := (cX5_pieceCount, 1, (some .int), yX5_pieceCount, [], 1)
theorem mk_X5_pieceCount : MK Y_X5_pieceCount 1 := ⟨KW.at (i := 79) (by decide +kernel) rfl, KW.at (i := 878) (by decide +kernel) rfl, ⟨by decide +kernel, by decide +kernel⟩, by decide +kernel, by decide +kernel, rfl, by decide⟩
theorem sm_X5_pieceCount : KW (.static (yN Y_X5_pieceCount)) := KW.at (i := 877) (by decide +kernel) rfl
theorem ck_RX5_41 : CKS RX5 41 Y_X5_pieceCount 1 := ⟨KW.at (i := 876) (by decide +kernel) rfl, sm_X5_pieceCount, mk_X5_pieceCount⟩
theorem d_X5_pieceCount_0 : decode cX5_pieceCount 0 = .ok (.iload_n 0, 1) := by decide +kernel
theorem d_X5_pieceCount_1 : decode cX5_pieceCount 1 = .ok (.iconst 1, 1) := by decide +kernel
theorem d_X5_pieceCount_2 : decode cX5_pieceCount 2 = .ok (.if_icmp .gt 7, 3) := by decide +kernel
theorem d_X5_pieceCount_9 : decode cX5_pieceCount 9 = .ok (.iload_n 0, 1) := by decide +kernel
theorem d_X5_pieceCount_10 : decode cX5_pieceCount 10 = .ok (.bipush 8, 2) := by decide +kernel
theorem d_X5_pieceCount_12 : decode cX5_pieceCount 12 = .ok (.iadd, 1) := by decide +kernel
theorem d_X5_pieceCount_13 : decode cX5_pieceCount 13 = .ok (.iconst 1, 1) := by decide +kernel
theorem d_X5_pieceCount_14 : decode cX5_pieceCount 14 = .ok (.isub, 1) := by decide +kernel
theorem d_X5_pieceCount_15 : decode cX5_pieceCount 15 = .ok (.bipush 8, 2) := by decide +kernel
theorem d_X5_pieceCount_17 : decode cX5_pieceCount 17 = .ok (.idiv, 1) := by decide +kernel
theorem d_X5_pieceCount_18 : decode cX5_pieceCount 18 = .ok (.ireturn, 1) := by decide +kernel
theorem d_X5_pieceCount_5 : decode cX5_pieceCount 5 = .ok (.iconst 0, 1) := by decide +kernel
theorem d_X5_pieceCount_6 : decode cX5_pieceCount 6 = .ok (.goto 12, 3) := by decide +kernel
theorem d_X5_assign_24 : decode cX5_assign 24 = .ok (.istore 7, 2) := by decide +kernel
theorem d_X5_assign_26 : decode cX5_assign 26 = .ok (.aload_n 0, 1) := by decide +kernel
theorem d_X5_assign_27 : decode cX5_assign 27 = .ok (.getfield 15, 3) := by decide +kernel
theorem d_X5_assign_30 : decode cX5_assign 30 = .ok (.invokevirtual 44, 3) := by decide +kernel
theorem ck_RX5_44 : CKV RX5 44 Y_X0_wantNothing 0 := ⟨KW.at (i := 879) (by decide +kernel) rfl, vm_X0_wantNothing.1, vm_X0_wantNothing.2, mk_X0_wantNothing⟩
theorem d_X5_assign_33 : decode cX5_assign 33 = .ok (.aload_n 0, 1) := by decide +kernel
theorem d_X5_assign_34 : decode cX5_assign 34 = .ok (.iload_n 3, 1) := by decide +kernel
theorem d_X5_assign_35 : decode cX5_assign 35 = .ok (.iconst 0, 1) := by decide +kernel
theorem d_X5_assign_36 : decode cX5_assign 36 = .ok (.invokevirtual 49, 3) := by decide +kernel
abbrev Y_X5_wantPieces : YT := (cX5_wantPieces, 5, none, yX5_wantPieces, [], 3)
theorem mk_X5_wantPieces : MK Y_X5_wantPieces 2 := ⟨KW.at (i := 79) (by decide +kernel) rfl, KW.at (i := 883) (by decide +kernel) rfl, ⟨by decide +kernel, by decide +kernel⟩, by decide +kernel, by decide +kernel, rfl, by decide⟩
theorem vm_X5_wantPieces : KW (.instanceMethod (yN Y_X5_wantPieces)) ∧ KW (.selects (yN Y_X5_wantPieces).cls (yN Y_X5_wantPieces) (yN Y_X5_wantPieces)) := ⟨KW.at (i := 882) (by decide +kernel) rfl, KW.at (i := 29) (by decide +kernel) rfl⟩
theorem ck_RX5_49 : CKV RX5 49 Y_X5_wantPieces 2 := ⟨KW.at (i := 880) (by decide +kernel) rfl, vm_X5_wantPieces.1, vm_X5_wantPieces.2, mk_X5_wantPieces⟩
theorem d_X5_wantPieces_0 : decode cX5_wantPieces 0 = .ok (.iload_n 1, 1) := by decide +kernel
theorem d_X5_wantPieces_1 : decode cX5_wantPieces 1 = .ok (.invokestatic 41, 3) := by decide +kernel
theorem d_X5_wantPieces_4 : decode cX5_wantPieces 4 = .ok (.istore_n 3, 1) := by decide +kernel
theorem d_X5_wantPieces_5 : decode cX5_wantPieces 5 = .ok (.iload_n 2, 1) := by decide +kernel
theorem d_X5_wantPieces_6 : decode cX5_wantPieces 6 = .ok (.istore 4, 2) := by decide +kernel
theorem d_X5_wantPieces_8 : decode cX5_wantPieces 8 = .ok (.iload 4, 2) := by decide +kernel
theorem d_X5_wantPieces_10 : decode cX5_wantPieces 10 = .ok (.iload_n 3, 1) := by decide +kernel
theorem d_X5_wantPieces_11 : decode cX5_wantPieces 11 = .ok (.if_icmp .ge 24, 3) := by decide +kernel
theorem d_X5_wantPieces_35 : decode cX5_wantPieces 35 = .ok (.return_, 1) := by decide +kernel
theorem d_X5_wantPieces_14 : decode cX5_wantPieces 14 = .ok (.aload_n 0, 1) := by decide +kernel
theorem d_X5_wantPieces_15 : decode cX5_wantPieces 15 = .ok (.getfield 15, 3) := by decide +kernel
theorem d_X5_wantPieces_18 : decode cX5_wantPieces 18 = .ok (.iconst 2, 1) := by decide +kernel
theorem d_X5_wantPieces_19 : decode cX5_wantPieces 19 = .ok (.iload_n 1, 1) := by decide +kernel
theorem d_X5_wantPieces_20 : decode cX5_wantPieces 20 = .ok (.iload 4, 2) := by decide +kernel
theorem d_X5_wantPieces_22 : decode cX5_wantPieces 22 = .ok (.invokestatic 112, 3) := by decide +kernel
abbrev Y_X5_unitsInPiece : YT := (cX5_unitsInPiece, 2, (some .int), yX5_unitsInPiece, [], 2)
theorem mk_X5_unitsInPiece : MK Y_X5_unitsInPiece 2 := ⟨KW.at (i := 79) (by decide +kernel) rfl, KW.at (i := 886) (by decide +kernel) rfl, ⟨by decide +kernel, by decide +kernel⟩, by decide +kernel, by decide +kernel, rfl, by decide⟩
theorem sm_X5_unitsInPiece : KW (.static (yN Y_X5_unitsInPiece)) := KW.at (i := 885) (by decide +kernel) rfl
theorem ck_RX5_112 : CKS RX5 112 Y_X5_unitsInPiece 2 := ⟨KW.at (i := 884) (by decide +kernel) rfl, sm_X5_unitsInPiece, mk_X5_unitsInPiece⟩
theorem d_X5_unitsInPiece_0 : decode cX5_unitsInPiece 0 = .ok (.bipush 8, 2) := by decide +kernel
theorem d_X5_unitsInPiece_2 : decode cX5_unitsInPiece 2 = .ok (.iload_n 0, 1) := by decide +kernel
theorem d_X5_unitsInPiece_3 : decode cX5_unitsInPiece 3 = .ok (.bipush 8, 2) := by decide +kernel
theorem d_X5_unitsInPiece_5 : decode cX5_unitsInPiece 5 = .ok (.iload_n 1, 1) := by decide +kernel
theorem d_X5_unitsInPiece_6 : decode cX5_unitsInPiece 6 = .ok (.imul, 1) := by decide +kernel
theorem d_X5_unitsInPiece_7 : decode cX5_unitsInPiece 7 = .ok (.isub, 1) := by decide +kernel
theorem d_X5_unitsInPiece_8 : decode cX5_unitsInPiece 8 = .ok (.invokestatic 107, 3) := by decide +kernel
theorem mx_RX5_107 : MX RX5 107 Lib.Math.min.name Lib.Math.min.code 2 := ⟨KW.at (i := 887) (by decide +kernel) rfl, KW.at (i := 888) (by decide +kernel) rfl, KW.at (i := 84) (by decide +kernel) rfl, KW.at (i := 889) (by decide +kernel) rfl⟩
theorem d_X5_unitsInPiece_11 : decode cX5_unitsInPiece 11 = .ok (.ireturn, 1) := by decide +kernel
theorem d_X5_wantPieces_25 : decode cX5_wantPieces 25 = .ok (.iadd, 1) := by decide +kernel
theorem d_X5_wantPieces_26 : decode cX5_wantPieces 26 = .ok (.invokevirtual 53, 3) := by decide +kernel
theorem ck_RX5_53 : CKV RX5 53 Y_X0_want 1 := ⟨KW.at (i := 890) (by decide +kernel) rfl, vm_X0_want.1, vm_X0_want.2, mk_X0_want⟩
theorem d_X5_wantPieces_29 : decode cX5_wantPieces 29 = .ok (.iinc 4 1, 3) := by decide +kernel
theorem d_X5_wantPieces_32 : decode cX5_wantPieces 32 = .ok (.goto (-24), 3) := by decide +kernel
theorem d_X5_assign_39 : decode cX5_assign 39 = .ok (.iload 6, 2) := by decide +kernel
theorem d_X5_assign_41 : decode cX5_assign 41 = .ok (.ifCond .eq 16, 3) := by decide +kernel
theorem d_X5_assign_57 : decode cX5_assign 57 = .ok (.aload_n 0, 1) := by decide +kernel
theorem d_X5_assign_58 : decode cX5_assign 58 = .ok (.getfield 15, 3) := by decide +kernel
theorem d_X5_assign_61 : decode cX5_assign 61 = .ok (.invokevirtual 60, 3) := by decide +kernel
theorem ck_RX5_60 : CKV RX5 60 Y_X0_getAllWanted 0 := ⟨KW.at (i := 899) (by decide +kernel) rfl, vm_X0_getAllWanted.1, vm_X0_getAllWanted.2, mk_X0_getAllWanted⟩
theorem d_X5_assign_64 : decode cX5_assign 64 = .ok (.ifCond .ne 5, 3) := by decide +kernel
theorem d_X5_assign_69 : decode cX5_assign 69 = .ok (.iconst 0, 1) := by decide +kernel
theorem d_X5_assign_70 : decode cX5_assign 70 = .ok (.istore 8, 2) := by decide +kernel
theorem d_X5_assign_72 : decode cX5_assign 72 = .ok (.iload 6, 2) := by decide +kernel
theorem d_X5_assign_74 : decode cX5_assign 74 = .ok (.ifCond .eq 35, 3) := by decide +kernel
theorem d_X5_assign_122 : decode cX5_assign 122 = .ok (.aload_n 0, 1) := by decide +kernel
theorem d_X5_assign_123 : decode cX5_assign 123 = .ok (.iload 5, 2) := by decide +kernel
theorem d_X5_assign_125 : decode cX5_assign 125 = .ok (.iload_n 2, 1) := by decide +kernel
theorem d_X5_assign_126 : decode cX5_assign 126 = .ok (.iload_n 3, 1) := by decide +kernel
theorem d_X5_assign_127 : decode cX5_assign 127 = .ok (.invokevirtual 71, 3) := by decide +kernel
abbrev Y_X5_putHead : YT := (cX5_putHead, 4, none, yX5_putHead, [], 3)
theorem mk_X5_putHead : MK Y_X5_putHead 3 := ⟨KW.at (i := 79) (by decide +kernel) rfl, KW.at (i := 911) (by decide +kernel) rfl, ⟨by decide +kernel, by decide +kernel⟩, by decide +kernel, by decide +kernel, rfl, by decide⟩
theorem vm_X5_putHead : KW (.instanceMethod (yN Y_X5_putHead)) ∧ KW (.selects (yN Y_X5_putHead).cls (yN Y_X5_putHead) (yN Y_X5_putHead)) := ⟨KW.at (i := 910) (by decide +kernel) rfl, KW.at (i := 33) (by decide +kernel) rfl⟩
theorem ck_RX5_71 : CKV RX5 71 Y_X5_putHead 3 := ⟨KW.at (i := 908) (by decide +kernel) rfl, vm_X5_putHead.1, vm_X5_putHead.2, mk_X5_putHead⟩
theorem d_X5_putHead_0 : decode cX5_putHead 0 = .ok (.aload_n 0, 1) := by decide +kernel
theorem d_X5_putHead_1 : decode cX5_putHead 1 = .ok (.getfield 9, 3) := by decide +kernel
theorem d_X5_putHead_4 : decode cX5_putHead 4 = .ok (.iload_n 1, 1) := by decide +kernel
theorem d_X5_putHead_5 : decode cX5_putHead 5 = .ok (.iconst 0, 1) := by decide +kernel
theorem d_X5_putHead_6 : decode cX5_putHead 6 = .ok (.iadd, 1) := by decide +kernel
theorem d_X5_putHead_7 : decode cX5_putHead 7 = .ok (.iload_n 2, 1) := by decide +kernel
theorem d_X5_putHead_8 : decode cX5_putHead 8 = .ok (.bipush 31, 2) := by decide +kernel
theorem d_X5_putHead_10 : decode cX5_putHead 10 = .ok (.imul, 1) := by decide +kernel
theorem d_X5_putHead_11 : decode cX5_putHead 11 = .ok (.iload_n 3, 1) := by decide +kernel
theorem d_X5_putHead_12 : decode cX5_putHead 12 = .ok (.iadd, 1) := by decide +kernel
theorem d_X5_putHead_13 : decode cX5_putHead 13 = .ok (.invokevirtual 74, 3) := by decide +kernel
theorem d_X5_putHead_16 : decode cX5_putHead 16 = .ok (.return_, 1) := by decide +kernel
theorem d_X5_assign_130 : decode cX5_assign 130 = .ok (.aload_n 0, 1) := by decide +kernel
theorem d_X5_assign_131 : decode cX5_assign 131 = .ok (.getfield 9, 3) := by decide +kernel
theorem d_X5_assign_134 : decode cX5_assign 134 = .ok (.iload 5, 2) := by decide +kernel
theorem d_X5_assign_136 : decode cX5_assign 136 = .ok (.iconst 1, 1) := by decide +kernel
theorem d_X5_assign_137 : decode cX5_assign 137 = .ok (.iadd, 1) := by decide +kernel
theorem d_X5_assign_138 : decode cX5_assign 138 = .ok (.iload 4, 2) := by decide +kernel
theorem d_X5_assign_140 : decode cX5_assign 140 = .ok (.invokevirtual 74, 3) := by decide +kernel
theorem d_X5_assign_143 : decode cX5_assign 143 = .ok (.aload_n 0, 1) := by decide +kernel
theorem d_X5_assign_144 : decode cX5_assign 144 = .ok (.iload 5, 2) := by decide +kernel
theorem d_X5_assign_146 : decode cX5_assign 146 = .ok (.iconst 2, 1) := by decide +kernel
theorem d_X5_assign_147 : decode cX5_assign 147 = .ok (.iadd, 1) := by decide +kernel
theorem d_X5_assign_148 : decode cX5_assign 148 = .ok (.iload 7, 2) := by decide +kernel
theorem d_X5_assign_150 : decode cX5_assign 150 = .ok (.invokevirtual 77, 3) := by decide +kernel
abbrev Y_X5_chainPieces : YT := (cX5_chainPieces, 5, none, yX5_chainPieces, [], 3)
theorem mk_X5_chainPieces : MK Y_X5_chainPieces 2 := ⟨KW.at (i := 79) (by decide +kernel) rfl, KW.at (i := 915) (by decide +kernel) rfl, ⟨by decide +kernel, by decide +kernel⟩, by decide +kernel, by decide +kernel, rfl, by decide⟩
theorem vm_X5_chainPieces : KW (.instanceMethod (yN Y_X5_chainPieces)) ∧ KW (.selects (yN Y_X5_chainPieces).cls (yN Y_X5_chainPieces) (yN Y_X5_chainPieces)) := ⟨KW.at (i := 914) (by decide +kernel) rfl, KW.at (i := 34) (by decide +kernel) rfl⟩
theorem ck_RX5_77 : CKV RX5 77 Y_X5_chainPieces 2 := ⟨KW.at (i := 912) (by decide +kernel) rfl, vm_X5_chainPieces.1, vm_X5_chainPieces.2, mk_X5_chainPieces⟩
theorem d_X5_chainPieces_0 : decode cX5_chainPieces 0 = .ok (.iload_n 1, 1) := by decide +kernel
theorem d_X5_chainPieces_1 : decode cX5_chainPieces 1 = .ok (.istore_n 3, 1) := by decide +kernel
theorem d_X5_chainPieces_2 : decode cX5_chainPieces 2 = .ok (.iconst 0, 1) := by decide +kernel
theorem d_X5_chainPieces_3 : decode cX5_chainPieces 3 = .ok (.istore 4, 2) := by decide +kernel
theorem d_X5_chainPieces_5 : decode cX5_chainPieces 5 = .ok (.iload 4, 2) := by decide +kernel
theorem d_X5_chainPieces_7 : decode cX5_chainPieces 7 = .ok (.iload_n 2, 1) := by decide +kernel
theorem d_X5_chainPieces_8 : decode cX5_chainPieces 8 = .ok (.if_icmp .ge 36, 3) := by decide +kernel
theorem d_X5_chainPieces_11 : decode cX5_chainPieces 11 = .ok (.aload_n 0, 1) := by decide +kernel
theorem d_X5_chainPieces_12 : decode cX5_chainPieces 12 = .ok (.getfield 9, 3) := by decide +kernel
theorem d_X5_chainPieces_15 : decode cX5_chainPieces 15 = .ok (.iload_n 3, 1) := by decide +kernel
theorem d_X5_chainPieces_16 : decode cX5_chainPieces 16 = .ok (.aload_n 0, 1) := by decide +kernel
theorem d_X5_chainPieces_17 : decode cX5_chainPieces 17 = .ok (.getfield 15, 3) := by decide +kernel
theorem d_X5_chainPieces_20 : decode cX5_chainPieces 20 = .ok (.iload 4, 2) := by decide +kernel
theorem d_X5_chainPieces_22 : decode cX5_chainPieces 22 = .ok (.invokevirtual 64, 3) := by decide +kernel
theorem ck_RX5_64 : CKV RX5 64 Y_X0_got 1 := ⟨KW.at (i := 900) (by decide +kernel) rfl, vm_X0_got.1, vm_X0_got.2, mk_X0_got⟩
theorem d_X5_chainPieces_25 : decode cX5_chainPieces 25 = .ok (.invokevirtual 74, 3) := by decide +kernel
theorem d_X5_chainPieces_28 : decode cX5_chainPieces 28 = .ok (.aload_n 0, 1) := by decide +kernel
theorem d_X5_chainPieces_29 : decode cX5_chainPieces 29 = .ok (.getfield 15, 3) := by decide +kernel
theorem d_X5_chainPieces_32 : decode cX5_chainPieces 32 = .ok (.iload 4, 2) := by decide +kernel
theorem d_X5_chainPieces_34 : decode cX5_chainPieces 34 = .ok (.invokevirtual 64, 3) := by decide +kernel
theorem d_X5_chainPieces_37 : decode cX5_chainPieces 37 = .ok (.istore_n 3, 1) := by decide +kernel
theorem d_X5_chainPieces_38 : decode cX5_chainPieces 38 = .ok (.iinc 4 1, 3) := by decide +kernel
theorem d_X5_chainPieces_41 : decode cX5_chainPieces 41 = .ok (.goto (-36), 3) := by decide +kernel
theorem d_X5_chainPieces_44 : decode cX5_chainPieces 44 = .ok (.aload_n 0, 1) := by decide +kernel
theorem d_X5_chainPieces_45 : decode cX5_chainPieces 45 = .ok (.getfield 9, 3) := by decide +kernel
theorem d_X5_chainPieces_48 : decode cX5_chainPieces 48 = .ok (.iload_n 3, 1) := by decide +kernel
theorem d_X5_chainPieces_49 : decode cX5_chainPieces 49 = .ok (.iconst 0, 1) := by decide +kernel
theorem d_X5_chainPieces_50 : decode cX5_chainPieces 50 = .ok (.invokevirtual 74, 3) := by decide +kernel
theorem d_X5_chainPieces_53 : decode cX5_chainPieces 53 = .ok (.return_, 1) := by decide +kernel
theorem d_X5_assign_153 : decode cX5_assign 153 = .ok (.aload_n 0, 1) := by decide +kernel
theorem d_X5_assign_154 : decode cX5_assign 154 = .ok (.iload 8, 2) := by decide +kernel
theorem d_X5_assign_156 : decode cX5_assign 156 = .ok (.invokevirtual 80, 3) := by decide +kernel
theorem d_X5_assign_159 : decode cX5_assign 159 = .ok (.pop, 1) := by decide +kernel
theorem d_X5_assign_160 : decode cX5_assign 160 = .ok (.aload_n 0, 1) := by decide +kernel
theorem d_X5_assign_161 : decode cX5_assign 161 = .ok (.getfield 15, 3) := by decide +kernel
theorem d_X5_assign_164 : decode cX5_assign 164 = .ok (.iload 5, 2) := by decide +kernel
theorem d_X5_assign_166 : decode cX5_assign 166 = .ok (.invokevirtual 83, 3) := by decide +kernel
theorem ck_RX5_83 : CKV RX5 83 Y_X0_markWritten 1 := ⟨KW.at (i := 907) (by decide +kernel) rfl, vm_X0_markWritten.1, vm_X0_markWritten.2, mk_X0_markWritten⟩
theorem d_X5_assign_169 : decode cX5_assign 169 = .ok (.aload_n 0, 1) := by decide +kernel
theorem d_X5_assign_170 : decode cX5_assign 170 = .ok (.getfield 15, 3) := by decide +kernel
theorem d_X5_assign_173 : decode cX5_assign 173 = .ok (.iload_n 1, 1) := by decide +kernel
theorem d_X5_assign_174 : decode cX5_assign 174 = .ok (.invokevirtual 83, 3) := by decide +kernel
theorem d_X5_assign_177 : decode cX5_assign 177 = .ok (.iconst 1, 1) := by decide +kernel
theorem d_X5_assign_178 : decode cX5_assign 178 = .ok (.ireturn, 1) := by decide +kernel
theorem d_X5_assign_109 : decode cX5_assign 109 = .ok (.aload_n 0, 1) := by decide +kernel
theorem d_X5_assign_110 : decode cX5_assign 110 = .ok (.getfield 9, 3) := by decide +kernel
theorem d_X5_assign_113 : decode cX5_assign 113 = .ok (.iload 5, 2) := by decide +kernel
theorem d_X5_assign_115 : decode cX5_assign 115 = .ok (.iconst 2, 1) := by decide +kernel
theorem d_X5_assign_116 : decode cX5_assign 116 = .ok (.iadd, 1) := by decide +kernel
theorem d_X5_assign_117 : decode cX5_assign 117 = .ok (.invokevirtual 19, 3) := by decide +kernel
theorem d_X5_assign_120 : decode cX5_assign 120 = .ok (.istore 8, 2) := by decide +kernel
theorem d_X5_assign_77 : decode cX5_assign 77 = .ok (.aload_n 0, 1) := by decide +kernel
theorem d_X5_assign_78 : decode cX5_assign 78 = .ok (.getfield 15, 3) := by decide +kernel
theorem d_X5_assign_81 : decode cX5_assign 81 = .ok (.iload 7, 2) := by decide +kernel
theorem d_X5_assign_83 : decode cX5_assign 83 = .ok (.invokevirtual 64, 3) := by decide +kernel
theorem d_X5_assign_86 : decode cX5_assign 86 = .ok (.istore 5, 2) := by decide +kernel
theorem d_X5_assign_88 : decode cX5_assign 88 = .ok (.aload_n 0, 1) := by decide +kernel
theorem d_X5_assign_89 : decode cX5_assign 89 = .ok (.iload_n 1, 1) := by decide +kernel
theorem d_X5_assign_90 : decode cX5_assign 90 = .ok (.iload 5, 2) := by decide +kernel
theorem d_X5_assign_92 : decode cX5_assign 92 = .ok (.aload_n 0, 1) := by decide +kernel
theorem d_X5_assign_93 : decode cX5_assign 93 = .ok (.getfield 15, 3) := by decide +kernel
theorem d_X5_assign_96 : decode cX5_assign 96 = .ok (.iload 7, 2) := by decide +kernel
theorem d_X5_assign_98 : decode cX5_assign 98 = .ok (.iconst 1, 1) := by decide +kernel
theorem d_X5_assign_99 : decode cX5_assign 99 = .ok (.iadd, 1) := by decide +kernel
theorem d_X5_assign_100 : decode cX5_assign 100 = .ok (.invokevirtual 64, 3) := by decide +kernel
theorem d_X5_assign_103 : decode cX5_assign 103 = .ok (.invokevirtual 67, 3) := by decide +kernel
abbrev Y_X5_addToList : YT := (cX5_addToList, 5, none, yX5_addToList, [], 4)
theorem mk_X5_addToList : MK Y_X5_addToList 3 := ⟨KW.at (i := 79) (by decide +kernel) rfl, KW.at (i := 904) (by decide +kernel) rfl, ⟨by decide +kernel, by decide +kernel⟩, by decide +kernel, by decide +kernel, rfl, by decide⟩
theorem vm_X5_addToList : KW (.instanceMethod (yN Y_X5_addToList)) ∧ KW (.selects (yN Y_X5_addToList).cls (yN Y_X5_addToList) (yN Y_X5_addToList)) := ⟨KW.at (i := 903) (by decide +kernel) rfl, KW.at (i := 32) (by decide +kernel) rfl⟩
theorem ck_RX5_67 : CKV RX5 67 Y_X5_addToList 3 := ⟨KW.at (i := 901) (by decide +kernel) rfl, vm_X5_addToList.1, vm_X5_addToList.2, mk_X5_addToList⟩
theorem d_X5_addToList_0 : decode cX5_addToList 0 = .ok (.aload_n 0, 1) := by decide +kernel
theorem d_X5_addToList_1 : decode cX5_addToList 1 = .ok (.getfield 9, 3) := by decide +kernel
theorem d_X5_addToList_4 : decode cX5_addToList 4 = .ok (.iload_n 1, 1) := by decide +kernel
theorem d_X5_addToList_5 : decode cX5_addToList 5 = .ok (.iconst 3, 1) := by decide +kernel
theorem d_X5_addToList_6 : decode cX5_addToList 6 = .ok (.iadd, 1) := by decide +kernel
theorem d_X5_addToList_7 : decode cX5_addToList 7 = .ok (.invokevirtual 19, 3) := by decide +kernel
theorem d_X5_addToList_10 : decode cX5_addToList 10 = .ok (.istore 4, 2) := by decide +kernel
theorem d_X5_addToList_12 : decode cX5_addToList 12 = .ok (.aload_n 0, 1) := by decide +kernel
theorem d_X5_addToList_13 : decode cX5_addToList 13 = .ok (.iload_n 1, 1) := by decide +kernel
theorem d_X5_addToList_14 : decode cX5_addToList 14 = .ok (.invokevirtual 118, 3) := by decide +kernel
abbrev Y_X5_needsListForOneMore : YT := (cX5_needsListForOneMore, 3, (some .boolean), yX5_needsListForOneMore, [], 3)
theorem mk_X5_needsListForOneMore : MK Y_X5_needsListForOneMore 1 := ⟨KW.at (i := 79) (by decide +kernel) rfl, KW.at (i := 898) (by decide +kernel) rfl, ⟨by decide +kernel, by decide +kernel⟩, by decide +kernel, by decide +kernel, rfl, by decide⟩
theorem vm_X5_needsListForOneMore : KW (.instanceMethod (yN Y_X5_needsListForOneMore)) ∧ KW (.selects (yN Y_X5_needsListForOneMore).cls (yN Y_X5_needsListForOneMore) (yN Y_X5_needsListForOneMore)) := ⟨KW.at (i := 897) (by decide +kernel) rfl, KW.at (i := 31) (by decide +kernel) rfl⟩
theorem ck_RX5_118 : CKV RX5 118 Y_X5_needsListForOneMore 1 := ⟨KW.at (i := 895) (by decide +kernel) rfl, vm_X5_needsListForOneMore.1, vm_X5_needsListForOneMore.2, mk_X5_needsListForOneMore⟩
theorem d_X5_needsListForOneMore_0 : decode cX5_needsListForOneMore 0 = .ok (.aload_n 0, 1) := by decide +kernel
theorem d_X5_needsListForOneMore_1 : decode cX5_needsListForOneMore 1 = .ok (.getfield 9, 3) := by decide +kernel
theorem d_X5_needsListForOneMore_4 : decode cX5_needsListForOneMore 4 = .ok (.iload_n 1, 1) := by decide +kernel
theorem d_X5_needsListForOneMore_5 : decode cX5_needsListForOneMore 5 = .ok (.iconst 3, 1) := by decide +kernel
theorem d_X5_needsListForOneMore_6 : decode cX5_needsListForOneMore 6 = .ok (.iadd, 1) := by decide +kernel
theorem d_X5_needsListForOneMore_7 : decode cX5_needsListForOneMore 7 = .ok (.invokevirtual 19, 3) := by decide +kernel
theorem d_X5_needsListForOneMore_10 : decode cX5_needsListForOneMore 10 = .ok (.istore_n 2, 1) := by decide +kernel
theorem d_X5_needsListForOneMore_11 : decode cX5_needsListForOneMore 11 = .ok (.iload_n 2, 1) := by decide +kernel
theorem d_X5_needsListForOneMore_12 : decode cX5_needsListForOneMore 12 = .ok (.ifCond .eq 24, 3) := by decide +kernel
theorem d_X5_needsListForOneMore_36 : decode cX5_needsListForOneMore 36 = .ok (.iconst 1, 1) := by decide +kernel
theorem d_X5_needsListForOneMore_37 : decode cX5_needsListForOneMore 37 = .ok (.goto 4, 3) := by decide +kernel
theorem d_X5_needsListForOneMore_41 : decode cX5_needsListForOneMore 41 = .ok (.ireturn, 1) := by decide +kernel
theorem d_X5_needsListForOneMore_15 : decode cX5_needsListForOneMore 15 = .ok (.iconst 1, 1) := by decide +kernel
theorem d_X5_needsListForOneMore_16 : decode cX5_needsListForOneMore 16 = .ok (.aload_n 0, 1) := by decide +kernel
theorem d_X5_needsListForOneMore_17 : decode cX5_needsListForOneMore 17 = .ok (.getfield 9, 3) := by decide +kernel
theorem d_X5_needsListForOneMore_20 : decode cX5_needsListForOneMore 20 = .ok (.iload_n 2, 1) := by decide +kernel
theorem d_X5_needsListForOneMore_21 : decode cX5_needsListForOneMore 21 = .ok (.invokevirtual 25, 3) := by decide +kernel
theorem d_X5_needsListForOneMore_24 : decode cX5_needsListForOneMore 24 = .ok (.iadd, 1) := by decide +kernel
theorem d_X5_needsListForOneMore_25 : decode cX5_needsListForOneMore 25 = .ok (.aload_n 0, 1) := by decide +kernel
theorem d_X5_needsListForOneMore_26 : decode cX5_needsListForOneMore 26 = .ok (.getfield 9, 3) := by decide +kernel
theorem d_X5_needsListForOneMore_29 : decode cX5_needsListForOneMore 29 = .ok (.iload_n 2, 1) := by decide +kernel
theorem d_X5_needsListForOneMore_30 : decode cX5_needsListForOneMore 30 = .ok (.invokevirtual 35, 3) := by decide +kernel
abbrev Y_X2_sizeAt : YT := (cX2_sizeAt, 2, (some .int), yX2_sizeAt, [], 2)
theorem mk_X2_sizeAt : MK Y_X2_sizeAt 1 := ⟨KW.at (i := 76) (by decide +kernel) rfl, KW.at (i := 420) (by decide +kernel) rfl, ⟨by decide +kernel, by decide +kernel⟩, by decide +kernel, by decide +kernel, rfl, by decide⟩
theorem vm_X2_sizeAt : KW (.instanceMethod (yN Y_X2_sizeAt)) ∧ KW (.selects (yN Y_X2_sizeAt).cls (yN Y_X2_sizeAt) (yN Y_X2_sizeAt)) := ⟨KW.at (i := 418) (by decide +kernel) rfl, KW.at (i := 419) (by decide +kernel) rfl⟩
theorem ck_RX5_35 : CKV RX5 35 Y_X2_sizeAt 1 := ⟨KW.at (i := 458) (by decide +kernel) rfl, vm_X2_sizeAt.1, vm_X2_sizeAt.2, mk_X2_sizeAt⟩
theorem d_X2_sizeAt_0 : decode cX2_sizeAt 0 = .ok (.aload_n 0, 1) := by decide +kernel
theorem d_X2_sizeAt_1 : decode cX2_sizeAt 1 = .ok (.getfield 11, 3) := by decide +kernel
theorem fk_RX2_11 : FK RX2 11 2 0 := ⟨RX2, TX2, 6, rfl, by decide, ws_X2, KW.at (i := 111) (by decide +kernel) rfl⟩
theorem d_X2_sizeAt_4 : decode cX2_sizeAt 4 = .ok (.iload_n 1, 1) := by decide +kernel
theorem d_X2_sizeAt_5 : decode cX2_sizeAt 5 = .ok (.invokestatic 41, 3) := by decide +kernel
theorem d_X2_sizeAt_8 : decode cX2_sizeAt 8 = .ok (.ireturn, 1) := by decide +kernel
theorem d_X5_needsListForOneMore_33 : decode cX5_needsListForOneMore 33 = .ok (.if_icmp .ne 7, 3) := by decide +kernel
theorem d_X5_needsListForOneMore_40 : decode cX5_needsListForOneMore 40 = .ok (.iconst 0, 1) := by decide +kernel
theorem d_X5_addToList_17 : decode cX5_addToList 17 = .ok (.ifCond .eq 52, 3) := by decide +kernel
theorem d_X5_addToList_69 : decode cX5_addToList 69 = .ok (.aload_n 0, 1) := by decide +kernel
theorem d_X5_addToList_70 : decode cX5_addToList 70 = .ok (.getfield 9, 3) := by decide +kernel
theorem d_X5_addToList_73 : decode cX5_addToList 73 = .ok (.iload 4, 2) := by decide +kernel
theorem d_X5_addToList_75 : decode cX5_addToList 75 = .ok (.aload_n 0, 1) := by decide +kernel
theorem d_X5_addToList_76 : decode cX5_addToList 76 = .ok (.getfield 9, 3) := by decide +kernel
theorem d_X5_addToList_79 : decode cX5_addToList 79 = .ok (.iload 4, 2) := by decide +kernel
theorem d_X5_addToList_81 : decode cX5_addToList 81 = .ok (.invokevirtual 25, 3) := by decide +kernel
theorem d_X5_addToList_84 : decode cX5_addToList 84 = .ok (.iload_n 2, 1) := by decide +kernel
theorem d_X5_addToList_85 : decode cX5_addToList 85 = .ok (.invokevirtual 125, 3) := by decide +kernel
theorem ck_RX5_125 : CKV RX5 125 Y_X2_insertItem 3 := ⟨KW.at (i := 906) (by decide +kernel) rfl, vm_X2_insertItem.1, vm_X2_insertItem.2, mk_X2_insertItem⟩
theorem d_X5_addToList_88 : decode cX5_addToList 88 = .ok (.aload_n 0, 1) := by decide +kernel
theorem d_X5_addToList_89 : decode cX5_addToList 89 = .ok (.getfield 15, 3) := by decide +kernel
theorem d_X5_addToList_92 : decode cX5_addToList 92 = .ok (.iload 4, 2) := by decide +kernel
theorem d_X5_addToList_94 : decode cX5_addToList 94 = .ok (.invokevirtual 83, 3) := by decide +kernel
theorem d_X5_addToList_97 : decode cX5_addToList 97 = .ok (.return_, 1) := by decide +kernel
theorem d_X5_addToList_20 : decode cX5_addToList 20 = .ok (.aload_n 0, 1) := by decide +kernel
theorem d_X5_addToList_21 : decode cX5_addToList 21 = .ok (.getfield 9, 3) := by decide +kernel
theorem d_X5_addToList_24 : decode cX5_addToList 24 = .ok (.iload_n 3, 1) := by decide +kernel
theorem d_X5_addToList_25 : decode cX5_addToList 25 = .ok (.iconst 0, 1) := by decide +kernel
theorem d_X5_addToList_26 : decode cX5_addToList 26 = .ok (.invokevirtual 74, 3) := by decide +kernel
theorem d_X5_addToList_29 : decode cX5_addToList 29 = .ok (.iload 4, 2) := by decide +kernel
theorem d_X5_addToList_31 : decode cX5_addToList 31 = .ok (.ifCond .eq 24, 3) := by decide +kernel
theorem d_X5_addToList_55 : decode cX5_addToList 55 = .ok (.aload_n 0, 1) := by decide +kernel
theorem d_X5_addToList_56 : decode cX5_addToList 56 = .ok (.getfield 9, 3) := by decide +kernel
theorem d_X5_addToList_59 : decode cX5_addToList 59 = .ok (.iload_n 1, 1) := by decide +kernel
theorem d_X5_addToList_60 : decode cX5_addToList 60 = .ok (.iconst 3, 1) := by decide +kernel
theorem d_X5_addToList_61 : decode cX5_addToList 61 = .ok (.iadd, 1) := by decide +kernel
theorem d_X5_addToList_62 : decode cX5_addToList 62 = .ok (.iload_n 3, 1) := by decide +kernel
theorem d_X5_addToList_63 : decode cX5_addToList 63 = .ok (.invokevirtual 74, 3) := by decide +kernel
theorem d_X5_addToList_66 : decode cX5_addToList 66 = .ok (.iload_n 3, 1) := by decide +kernel
theorem d_X5_addToList_67 : decode cX5_addToList 67 = .ok (.istore 4, 2) := by decide +kernel
theorem d_X5_addToList_34 : decode cX5_addToList 34 = .ok (.aload_n 0, 1) := by decide +kernel
theorem d_X5_addToList_35 : decode cX5_addToList 35 = .ok (.getfield 9, 3) := by decide +kernel
theorem d_X5_addToList_38 : decode cX5_addToList 38 = .ok (.iload 4, 2) := by decide +kernel
theorem d_X5_addToList_40 : decode cX5_addToList 40 = .ok (.iconst 0, 1) := by decide +kernel
theorem d_X5_addToList_41 : decode cX5_addToList 41 = .ok (.iload_n 3, 1) := by decide +kernel
theorem d_X5_addToList_42 : decode cX5_addToList 42 = .ok (.invokevirtual 122, 3) := by decide +kernel
theorem ck_RX5_122 : CKV RX5 122 Y_X2_moveItems 3 := ⟨KW.at (i := 905) (by decide +kernel) rfl, vm_X2_moveItems.1, vm_X2_moveItems.2, mk_X2_moveItems⟩
theorem d_X5_addToList_45 : decode cX5_addToList 45 = .ok (.aload_n 0, 1) := by decide +kernel
theorem d_X5_addToList_46 : decode cX5_addToList 46 = .ok (.getfield 15, 3) := by decide +kernel
theorem d_X5_addToList_49 : decode cX5_addToList 49 = .ok (.iload 4, 2) := by decide +kernel
theorem d_X5_addToList_51 : decode cX5_addToList 51 = .ok (.invokevirtual 115, 3) := by decide +kernel
theorem d_X5_addToList_54 : decode cX5_addToList 54 = .ok (.pop, 1) := by decide +kernel
theorem d_X5_assign_106 : decode cX5_assign 106 = .ok (.goto 16, 3) := by decide +kernel
theorem d_X5_assign_67 : decode cX5_assign 67 = .ok (.iconst 0, 1) := by decide +kernel
theorem d_X5_assign_68 : decode cX5_assign 68 = .ok (.ireturn, 1) := by decide +kernel
theorem d_X5_assign_44 : decode cX5_assign 44 = .ok (.aload_n 0, 1) := by decide +kernel
theorem d_X5_assign_45 : decode cX5_assign 45 = .ok (.getfield 15, 3) := by decide +kernel
theorem d_X5_assign_48 : decode cX5_assign 48 = .ok (.iconst 3, 1) := by decide +kernel
theorem d_X5_assign_49 : decode cX5_assign 49 = .ok (.invokevirtual 53, 3) := by decide +kernel
theorem d_X5_assign_52 : decode cX5_assign 52 = .ok (.aload_n 0, 1) := by decide +kernel
theorem d_X5_assign_53 : decode cX5_assign 53 = .ok (.iload_n 1, 1) := by decide +kernel
theorem d_X5_assign_54 : decode cX5_assign 54 = .ok (.invokevirtual 57, 3) := by decide +kernel
abbrev Y_X5_wantListForOneMore : YT := (cX5_wantListForOneMore, 2, none, yX5_wantListForOneMore, [], 4)
theorem mk_X5_wantListForOneMore : MK Y_X5_wantListForOneMore 1 := ⟨KW.at (i := 79) (by decide +kernel) rfl, KW.at (i := 894) (by decide +kernel) rfl, ⟨by decide +kernel, by decide +kernel⟩, by decide +kernel, by decide +kernel, rfl, by decide⟩
theorem vm_X5_wantListForOneMore : KW (.instanceMethod (yN Y_X5_wantListForOneMore)) ∧ KW (.selects (yN Y_X5_wantListForOneMore).cls (yN Y_X5_wantListForOneMore) (yN Y_X5_wantListForOneMore)) := ⟨KW.at (i := 893) (by decide +kernel) rfl, KW.at (i := 30) (by decide +kernel) rfl⟩
theorem ck_RX5_57 : CKV RX5 57 Y_X5_wantListForOneMore 1 := ⟨KW.at (i := 891) (by decide +kernel) rfl, vm_X5_wantListForOneMore.1, vm_X5_wantListForOneMore.2, mk_X5_wantListForOneMore⟩
theorem d_X5_wantListForOneMore_0 : decode cX5_wantListForOneMore 0 = .ok (.aload_n 0, 1) := by decide +kernel
theorem d_X5_wantListForOneMore_1 : decode cX5_wantListForOneMore 1 = .ok (.iload_n 1, 1) := by decide +kernel
theorem d_X5_wantListForOneMore_2 : decode cX5_wantListForOneMore 2 = .ok (.invokevirtual 118, 3) := by decide +kernel
theorem d_X5_wantListForOneMore_5 : decode cX5_wantListForOneMore 5 = .ok (.ifCond .eq 24, 3) := by decide +kernel
theorem d_X5_wantListForOneMore_29 : decode cX5_wantListForOneMore 29 = .ok (.return_, 1) := by decide +kernel
theorem d_X5_wantListForOneMore_8 : decode cX5_wantListForOneMore 8 = .ok (.aload_n 0, 1) := by decide +kernel
theorem d_X5_wantListForOneMore_9 : decode cX5_wantListForOneMore 9 = .ok (.getfield 15, 3) := by decide +kernel
theorem d_X5_wantListForOneMore_12 : decode cX5_wantListForOneMore 12 = .ok (.aload_n 0, 1) := by decide +kernel
theorem d_X5_wantListForOneMore_13 : decode cX5_wantListForOneMore 13 = .ok (.iload_n 1, 1) := by decide +kernel
theorem d_X5_wantListForOneMore_14 : decode cX5_wantListForOneMore 14 = .ok (.invokevirtual 28, 3) := by decide +kernel
theorem d_X5_wantListForOneMore_17 : decode cX5_wantListForOneMore 17 = .ok (.ifCond .ne 7, 3) := by decide +kernel
theorem d_X5_wantListForOneMore_26 : decode cX5_wantListForOneMore 26 = .ok (.invokevirtual 53, 3) := by decide +kernel
theorem d_X5_wantListForOneMore_24 : decode cX5_wantListForOneMore 24 = .ok (.bipush 9, 2) := by decide +kernel
theorem d_X5_wantListForOneMore_20 : decode cX5_wantListForOneMore 20 = .ok (.iconst 5, 1) := by decide +kernel
theorem d_X5_wantListForOneMore_21 : decode cX5_wantListForOneMore 21 = .ok (.goto 5, 3) := by decide +kernel
theorem d_X5_assign_17 : decode cX5_assign 17 = .ok (.iconst 0, 1) := by decide +kernel
theorem d_X5_assign_13 : decode cX5_assign 13 = .ok (.iconst 1, 1) := by decide +kernel
theorem d_X5_assign_14 : decode cX5_assign 14 = .ok (.goto 4, 3) := by decide +kernel
theorem d_X7_setValue_64 : decode cX7_setValue 64 = .ok (.invokestatic 130, 3) := by decide +kernel
theorem d_X7_setValue_67 : decode cX7_setValue 67 = .ok (.aload_n 0, 1) := by decide +kernel
theorem d_X7_setValue_68 : decode cX7_setValue 68 = .ok (.iload_n 1, 1) := by decide +kernel
theorem d_X7_setValue_69 : decode cX7_setValue 69 = .ok (.iconst 2, 1) := by decide +kernel
theorem d_X7_setValue_70 : decode cX7_setValue 70 = .ok (.invokevirtual 146, 3) := by decide +kernel
theorem d_X7_setValue_73 : decode cX7_setValue 73 = .ok (.aload_n 0, 1) := by decide +kernel
theorem d_X7_setValue_74 : decode cX7_setValue 74 = .ok (.getfield 41, 3) := by decide +kernel
theorem d_X7_setValue_77 : decode cX7_setValue 77 = .ok (.iload 5, 2) := by decide +kernel
theorem d_X7_setValue_79 : decode cX7_setValue 79 = .ok (.invokevirtual 213, 3) := by decide +kernel
theorem ck_RX7_213 : CKV RX7 213 Y_X5_valueCount 1 := ⟨KW.at (i := 916) (by decide +kernel) rfl, vm_X5_valueCount.1, vm_X5_valueCount.2, mk_X5_valueCount⟩
theorem d_X7_setValue_82 : decode cX7_setValue 82 = .ok (.ireturn, 1) := by decide +kernel
theorem d_X7_setValue_41 : decode cX7_setValue 41 = .ok (.new 204, 3) := by decide +kernel
theorem d_X7_setValue_44 : decode cX7_setValue 44 = .ok (.dup, 1) := by decide +kernel
theorem d_X7_setValue_45 : decode cX7_setValue 45 = .ok (.ldc 206, 2) := by decide +kernel
theorem d_X7_setValue_47 : decode cX7_setValue 47 = .ok (.invokespecial 208, 3) := by decide +kernel
theorem d_X7_setValue_50 : decode cX7_setValue 50 = .ok (.athrow, 1) := by decide +kernel
abbrev Y_X7_resize : YT := (cX7_resize, 7, (some .int), yX7_resize, [], 7)
theorem d_X7_resize_0 : decode cX7_resize 0 = .ok (.aload_n 0, 1) := by decide +kernel
theorem d_X7_resize_1 : decode cX7_resize 1 = .ok (.iload_n 1, 1) := by decide +kernel
theorem d_X7_resize_2 : decode cX7_resize 2 = .ok (.invokevirtual 95, 3) := by decide +kernel
theorem d_X7_resize_5 : decode cX7_resize 5 = .ok (.aload_n 0, 1) := by decide +kernel
theorem d_X7_resize_6 : decode cX7_resize 6 = .ok (.getfield 21, 3) := by decide +kernel
theorem d_X7_resize_9 : decode cX7_resize 9 = .ok (.iload_n 1, 1) := by decide +kernel
theorem d_X7_resize_10 : decode cX7_resize 10 = .ok (.invokevirtual 108, 3) := by decide +kernel
theorem d_X7_resize_13 : decode cX7_resize 13 = .ok (.istore 4, 2) := by decide +kernel
theorem d_X7_resize_15 : decode cX7_resize 15 = .ok (.aload_n 0, 1) := by decide +kernel
theorem d_X7_resize_16 : decode cX7_resize 16 = .ok (.getfield 41, 3) := by decide +kernel
theorem d_X7_resize_19 : decode cX7_resize 19 = .ok (.iload 4, 2) := by decide +kernel
theorem d_X7_resize_21 : decode cX7_resize 21 = .ok (.iload_n 2, 1) := by decide +kernel
theorem d_X7_resize_22 : decode cX7_resize 22 = .ok (.invokevirtual 216, 3) := by decide +kernel
theorem ck_RX7_216 : CKV RX7 216 Y_X5_cellNamed 2 := ⟨KW.at (i := 924) (by decide +kernel) rfl, vm_X5_cellNamed.1, vm_X5_cellNamed.2, mk_X5_cellNamed⟩
theorem d_X7_resize_25 : decode cX7_resize 25 = .ok (.istore 5, 2) := by decide +kernel
theorem d_X7_resize_27 : decode cX7_resize 27 = .ok (.iload 5, 2) := by decide +kernel
theorem d_X7_resize_29 : decode cX7_resize 29 = .ok (.invokestatic 219, 3) := by decide +kernel
abbrev Y_X7_requireValue : YT := (cX7_requireValue, 1, none, yX7_requireValue, [], 6)
theorem mk_X7_requireValue : MK Y_X7_requireValue 1 := ⟨KW.at (i := 75) (by decide +kernel) rfl, KW.at (i := 927) (by decide +kernel) rfl, ⟨by decide +kernel, by decide +kernel⟩, by decide +kernel, by decide +kernel, rfl, by decide⟩
theorem sm_X7_requireValue : KW (.static (yN Y_X7_requireValue)) := KW.at (i := 926) (by decide +kernel) rfl
theorem ck_RX7_219 : CKS RX7 219 Y_X7_requireValue 1 := ⟨KW.at (i := 925) (by decide +kernel) rfl, sm_X7_requireValue, mk_X7_requireValue⟩
theorem d_X7_requireValue_0 : decode cX7_requireValue 0 = .ok (.iload_n 0, 1) := by decide +kernel
theorem d_X7_requireValue_1 : decode cX7_requireValue 1 = .ok (.ifCond .ne 14, 3) := by decide +kernel
theorem d_X7_requireValue_15 : decode cX7_requireValue 15 = .ok (.return_, 1) := by decide +kernel
theorem d_X7_requireValue_4 : decode cX7_requireValue 4 = .ok (.new 173, 3) := by decide +kernel
theorem d_X7_requireValue_7 : decode cX7_requireValue 7 = .ok (.dup, 1) := by decide +kernel
theorem d_X7_requireValue_8 : decode cX7_requireValue 8 = .ok (.ldc_w 348, 3) := by decide +kernel
theorem d_X7_requireValue_11 : decode cX7_requireValue 11 = .ok (.invokespecial 177, 3) := by decide +kernel
theorem d_X7_requireValue_14 : decode cX7_requireValue 14 = .ok (.athrow, 1) := by decide +kernel
theorem d_X7_resize_32 : decode cX7_resize 32 = .ok (.iload_n 3, 1) := by decide +kernel
theorem d_X7_resize_33 : decode cX7_resize 33 = .ok (.invokestatic 195, 3) := by decide +kernel
theorem d_X7_resize_36 : decode cX7_resize 36 = .ok (.aload_n 0, 1) := by decide +kernel
theorem d_X7_resize_37 : decode cX7_resize 37 = .ok (.getfield 41, 3) := by decide +kernel
theorem d_X7_resize_40 : decode cX7_resize 40 = .ok (.iload 5, 2) := by decide +kernel
theorem d_X7_resize_42 : decode cX7_resize 42 = .ok (.invokevirtual 222, 3) := by decide +kernel
abbrev Y_X5_lengthOf : YT := (cX5_lengthOf, 2, (some .int), yX5_lengthOf, [], 3)
theorem mk_X5_lengthOf : MK Y_X5_lengthOf 1 := ⟨KW.at (i := 79) (by decide +kernel) rfl, KW.at (i := 932) (by decide +kernel) rfl, ⟨by decide +kernel, by decide +kernel⟩, by decide +kernel, by decide +kernel, rfl, by decide⟩
theorem vm_X5_lengthOf : KW (.instanceMethod (yN Y_X5_lengthOf)) ∧ KW (.selects (yN Y_X5_lengthOf).cls (yN Y_X5_lengthOf) (yN Y_X5_lengthOf)) := ⟨KW.at (i := 930) (by decide +kernel) rfl, KW.at (i := 931) (by decide +kernel) rfl⟩
theorem ck_RX7_222 : CKV RX7 222 Y_X5_lengthOf 1 := ⟨KW.at (i := 929) (by decide +kernel) rfl, vm_X5_lengthOf.1, vm_X5_lengthOf.2, mk_X5_lengthOf⟩
theorem d_X5_lengthOf_0 : decode cX5_lengthOf 0 = .ok (.aload_n 0, 1) := by decide +kernel
theorem d_X5_lengthOf_1 : decode cX5_lengthOf 1 = .ok (.getfield 9, 3) := by decide +kernel
theorem d_X5_lengthOf_4 : decode cX5_lengthOf 4 = .ok (.iload_n 1, 1) := by decide +kernel
theorem d_X5_lengthOf_5 : decode cX5_lengthOf 5 = .ok (.iconst 0, 1) := by decide +kernel
theorem d_X5_lengthOf_6 : decode cX5_lengthOf 6 = .ok (.iadd, 1) := by decide +kernel
theorem d_X5_lengthOf_7 : decode cX5_lengthOf 7 = .ok (.invokevirtual 19, 3) := by decide +kernel
theorem d_X5_lengthOf_10 : decode cX5_lengthOf 10 = .ok (.bipush 31, 2) := by decide +kernel
theorem d_X5_lengthOf_12 : decode cX5_lengthOf 12 = .ok (.irem, 1) := by decide +kernel
theorem d_X5_lengthOf_13 : decode cX5_lengthOf 13 = .ok (.ireturn, 1) := by decide +kernel
theorem d_X7_resize_45 : decode cX7_resize 45 = .ok (.istore 6, 2) := by decide +kernel
theorem d_X7_resize_47 : decode cX7_resize 47 = .ok (.aload_n 0, 1) := by decide +kernel
theorem d_X7_resize_48 : decode cX7_resize 48 = .ok (.getfield 41, 3) := by decide +kernel
theorem d_X7_resize_51 : decode cX7_resize 51 = .ok (.iload 4, 2) := by decide +kernel
theorem d_X7_resize_53 : decode cX7_resize 53 = .ok (.iload 5, 2) := by decide +kernel
theorem d_X7_resize_55 : decode cX7_resize 55 = .ok (.iload_n 3, 1) := by decide +kernel
theorem d_X7_resize_56 : decode cX7_resize 56 = .ok (.invokevirtual 225, 3) := by decide +kernel
abbrev Y_X5_changeLength : YT := (cX5_changeLength, 7, (some .boolean), yX5_changeLength, [], 6)
theorem mk_X5_changeLength : MK Y_X5_changeLength 3 := ⟨KW.at (i := 79) (by decide +kernel) rfl, KW.at (i := 936) (by decide +kernel) rfl, ⟨by decide +kernel, by decide +kernel⟩, by decide +kernel, by decide +kernel, rfl, by decide⟩
theorem vm_X5_changeLength : KW (.instanceMethod (yN Y_X5_changeLength)) ∧ KW (.selects (yN Y_X5_changeLength).cls (yN Y_X5_changeLength) (yN Y_X5_changeLength)) := ⟨KW.at (i := 934) (by decide +kernel) rfl, KW.at (i := 935) (by decide +kernel) rfl⟩
theorem ck_RX7_225 : CKV RX7 225 Y_X5_changeLength 3 := ⟨KW.at (i := 933) (by decide +kernel) rfl, vm_X5_changeLength.1, vm_X5_changeLength.2, mk_X5_changeLength⟩
theorem d_X5_changeLength_0 : decode cX5_changeLength 0 = .ok (.aload_n 0, 1) := by decide +kernel
theorem d_X5_changeLength_1 : decode cX5_changeLength 1 = .ok (.iload_n 2, 1) := by decide +kernel
theorem d_X5_changeLength_2 : decode cX5_changeLength 2 = .ok (.invokevirtual 86, 3) := by decide +kernel
theorem ck_RX5_86 : CKV RX5 86 Y_X5_lengthOf 1 := ⟨KW.at (i := 937) (by decide +kernel) rfl, vm_X5_lengthOf.1, vm_X5_lengthOf.2, mk_X5_lengthOf⟩
theorem d_X5_changeLength_5 : decode cX5_changeLength 5 = .ok (.iload_n 3, 1) := by decide +kernel
theorem d_X5_changeLength_6 : decode cX5_changeLength 6 = .ok (.invokestatic 89, 3) := by decide +kernel
abbrev Y_X5_piecesAlike : YT := (cX5_piecesAlike, 4, (some .int), yX5_piecesAlike, [], 3)
theorem mk_X5_piecesAlike : MK Y_X5_piecesAlike 2 := ⟨KW.at (i := 79) (by decide +kernel) rfl, KW.at (i := 940) (by decide +kernel) rfl, ⟨by decide +kernel, by decide +kernel⟩, by decide +kernel, by decide +kernel, rfl, by decide⟩
theorem sm_X5_piecesAlike : KW (.static (yN Y_X5_piecesAlike)) := KW.at (i := 939) (by decide +kernel) rfl
theorem ck_RX5_89 : CKS RX5 89 Y_X5_piecesAlike 2 := ⟨KW.at (i := 938) (by decide +kernel) rfl, sm_X5_piecesAlike, mk_X5_piecesAlike⟩
theorem d_X5_piecesAlike_0 : decode cX5_piecesAlike 0 = .ok (.iload_n 0, 1) := by decide +kernel
theorem d_X5_piecesAlike_1 : decode cX5_piecesAlike 1 = .ok (.invokestatic 41, 3) := by decide +kernel
theorem d_X5_piecesAlike_4 : decode cX5_piecesAlike 4 = .ok (.iload_n 1, 1) := by decide +kernel
theorem d_X5_piecesAlike_5 : decode cX5_piecesAlike 5 = .ok (.invokestatic 41, 3) := by decide +kernel
theorem d_X5_piecesAlike_8 : decode cX5_piecesAlike 8 = .ok (.invokestatic 107, 3) := by decide +kernel
theorem d_X5_piecesAlike_11 : decode cX5_piecesAlike 11 = .ok (.istore_n 2, 1) := by decide +kernel
theorem d_X5_piecesAlike_12 : decode cX5_piecesAlike 12 = .ok (.iconst 0, 1) := by decide +kernel
theorem d_X5_piecesAlike_13 : decode cX5_piecesAlike 13 = .ok (.istore_n 3, 1) := by decide +kernel
theorem d_X5_piecesAlike_14 : decode cX5_piecesAlike 14 = .ok (.iload_n 3, 1) := by decide +kernel
theorem d_X5_piecesAlike_15 : decode cX5_piecesAlike 15 = .ok (.iload_n 2, 1) := by decide +kernel
theorem d_X5_piecesAlike_16 : decode cX5_piecesAlike 16 = .ok (.if_icmp .ge 24, 3) := by decide +kernel
theorem d_X5_piecesAlike_40 : decode cX5_piecesAlike 40 = .ok (.iload_n 2, 1) := by decide +kernel
theorem d_X5_piecesAlike_41 : decode cX5_piecesAlike 41 = .ok (.ireturn, 1) := by decide +kernel
theorem d_X5_piecesAlike_19 : decode cX5_piecesAlike 19 = .ok (.iload_n 0, 1) := by decide +kernel
theorem d_X5_piecesAlike_20 : decode cX5_piecesAlike 20 = .ok (.iload_n 3, 1) := by decide +kernel
theorem d_X5_piecesAlike_21 : decode cX5_piecesAlike 21 = .ok (.invokestatic 112, 3) := by decide +kernel
theorem d_X5_piecesAlike_24 : decode cX5_piecesAlike 24 = .ok (.iload_n 1, 1) := by decide +kernel
theorem d_X5_piecesAlike_25 : decode cX5_piecesAlike 25 = .ok (.iload_n 3, 1) := by decide +kernel
theorem d_X5_piecesAlike_26 : decode cX5_piecesAlike 26 = .ok (.invokestatic 112, 3) := by decide +kernel
theorem d_X5_piecesAlike_29 : decode cX5_piecesAlike 29 = .ok (.if_icmp .eq 5, 3) := by decide +kernel
theorem d_X5_piecesAlike_34 : decode cX5_piecesAlike 34 = .ok (.iinc 3 1, 3) := by decide +kernel
theorem d_X5_piecesAlike_37 : decode cX5_piecesAlike 37 = .ok (.goto (-23), 3) := by decide +kernel
theorem d_X5_piecesAlike_32 : decode cX5_piecesAlike 32 = .ok (.iload_n 3, 1) := by decide +kernel
theorem d_X5_piecesAlike_33 : decode cX5_piecesAlike 33 = .ok (.ireturn, 1) := by decide +kernel
theorem d_X5_changeLength_9 : decode cX5_changeLength 9 = .ok (.istore 4, 2) := by decide +kernel
theorem d_X5_changeLength_11 : decode cX5_changeLength 11 = .ok (.aload_n 0, 1) := by decide +kernel
theorem d_X5_changeLength_12 : decode cX5_changeLength 12 = .ok (.getfield 15, 3) := by decide +kernel
theorem d_X5_changeLength_15 : decode cX5_changeLength 15 = .ok (.invokevirtual 44, 3) := by decide +kernel
theorem d_X5_changeLength_18 : decode cX5_changeLength 18 = .ok (.aload_n 0, 1) := by decide +kernel
theorem d_X5_changeLength_19 : decode cX5_changeLength 19 = .ok (.iload_n 3, 1) := by decide +kernel
theorem d_X5_changeLength_20 : decode cX5_changeLength 20 = .ok (.iload 4, 2) := by decide +kernel
theorem d_X5_changeLength_22 : decode cX5_changeLength 22 = .ok (.invokevirtual 49, 3) := by decide +kernel
theorem d_X5_changeLength_25 : decode cX5_changeLength 25 = .ok (.aload_n 0, 1) := by decide +kernel
theorem d_X5_changeLength_26 : decode cX5_changeLength 26 = .ok (.getfield 15, 3) := by decide +kernel
theorem d_X5_changeLength_29 : decode cX5_changeLength 29 = .ok (.invokevirtual 60, 3) := by decide +kernel
theorem d_X5_changeLength_32 : decode cX5_changeLength 32 = .ok (.ifCond .ne 5, 3) := by decide +kernel
theorem d_X5_changeLength_37 : decode cX5_changeLength 37 = .ok (.iload_n 2, 1) := by decide +kernel
theorem d_X5_changeLength_38 : decode cX5_changeLength 38 = .ok (.iconst 2, 1) := by decide +kernel
theorem d_X5_changeLength_39 : decode cX5_changeLength 39 = .ok (.iadd, 1) := by decide +kernel
theorem d_X5_changeLength_40 : decode cX5_changeLength 40 = .ok (.istore 5, 2) := by decide +kernel
theorem d_X5_changeLength_42 : decode cX5_changeLength 42 = .ok (.iconst 0, 1) := by decide +kernel
theorem d_X5_changeLength_43 : decode cX5_changeLength 43 = .ok (.istore 6, 2) := by decide +kernel
theorem d_X5_changeLength_45 : decode cX5_changeLength 45 = .ok (.iload 6, 2) := by decide +kernel
theorem d_X5_changeLength_47 : decode cX5_changeLength 47 = .ok (.iload 4, 2) := by decide +kernel
theorem d_X5_changeLength_49 : decode cX5_changeLength 49 = .ok (.if_icmp .ge 20, 3) := by decide +kernel
theorem d_X5_changeLength_52 : decode cX5_changeLength 52 = .ok (.aload_n 0, 1) := by decide +kernel
theorem d_X5_changeLength_53 : decode cX5_changeLength 53 = .ok (.getfield 9, 3) := by decide +kernel
theorem d_X5_changeLength_56 : decode cX5_changeLength 56 = .ok (.iload 5, 2) := by decide +kernel
theorem d_X5_changeLength_58 : decode cX5_changeLength 58 = .ok (.invokevirtual 19, 3) := by decide +kernel
theorem d_X5_changeLength_61 : decode cX5_changeLength 61 = .ok (.istore 5, 2) := by decide +kernel
theorem d_X5_changeLength_63 : decode cX5_changeLength 63 = .ok (.iinc 6 1, 3) := by decide +kernel
theorem d_X5_changeLength_66 : decode cX5_changeLength 66 = .ok (.goto (-21), 3) := by decide +kernel
theorem d_X5_changeLength_69 : decode cX5_changeLength 69 = .ok (.aload_n 0, 1) := by decide +kernel
theorem d_X5_changeLength_70 : decode cX5_changeLength 70 = .ok (.getfield 9, 3) := by decide +kernel
theorem d_X5_changeLength_73 : decode cX5_changeLength 73 = .ok (.iload 5, 2) := by decide +kernel
theorem d_X5_changeLength_75 : decode cX5_changeLength 75 = .ok (.invokevirtual 19, 3) := by decide +kernel
theorem d_X5_changeLength_78 : decode cX5_changeLength 78 = .ok (.istore 6, 2) := by decide +kernel
theorem d_X5_changeLength_80 : decode cX5_changeLength 80 = .ok (.aload_n 0, 1) := by decide +kernel
theorem d_X5_changeLength_81 : decode cX5_changeLength 81 = .ok (.iload 5, 2) := by decide +kernel
theorem d_X5_changeLength_83 : decode cX5_changeLength 83 = .ok (.iload_n 3, 1) := by decide +kernel
theorem d_X5_changeLength_84 : decode cX5_changeLength 84 = .ok (.invokestatic 41, 3) := by decide +kernel
theorem d_X5_changeLength_87 : decode cX5_changeLength 87 = .ok (.iload 4, 2) := by decide +kernel
theorem d_X5_changeLength_89 : decode cX5_changeLength 89 = .ok (.isub, 1) := by decide +kernel
theorem d_X5_changeLength_90 : decode cX5_changeLength 90 = .ok (.invokevirtual 77, 3) := by decide +kernel
theorem d_X5_changeLength_93 : decode cX5_changeLength 93 = .ok (.aload_n 0, 1) := by decide +kernel
theorem d_X5_changeLength_94 : decode cX5_changeLength 94 = .ok (.iload 6, 2) := by decide +kernel
theorem d_X5_changeLength_96 : decode cX5_changeLength 96 = .ok (.invokevirtual 80, 3) := by decide +kernel
theorem d_X5_changeLength_99 : decode cX5_changeLength 99 = .ok (.pop, 1) := by decide +kernel
theorem d_X5_changeLength_100 : decode cX5_changeLength 100 = .ok (.aload_n 0, 1) := by decide +kernel
theorem d_X5_changeLength_101 : decode cX5_changeLength 101 = .ok (.iload_n 2, 1) := by decide +kernel
theorem d_X5_changeLength_102 : decode cX5_changeLength 102 = .ok (.aload_n 0, 1) := by decide +kernel
theorem d_X5_changeLength_103 : decode cX5_changeLength 103 = .ok (.getfield 9, 3) := by decide +kernel
theorem d_X5_changeLength_106 : decode cX5_changeLength 106 = .ok (.iload_n 2, 1) := by decide +kernel
theorem d_X5_changeLength_107 : decode cX5_changeLength 107 = .ok (.iconst 0, 1) := by decide +kernel
theorem d_X5_changeLength_108 : decode cX5_changeLength 108 = .ok (.iadd, 1) := by decide +kernel
theorem d_X5_changeLength_109 : decode cX5_changeLength 109 = .ok (.invokevirtual 19, 3) := by decide +kernel
theorem d_X5_changeLength_112 : decode cX5_changeLength 112 = .ok (.bipush 31, 2) := by decide +kernel
theorem d_X5_changeLength_114 : decode cX5_changeLength 114 = .ok (.idiv, 1) := by decide +kernel
theorem d_X5_changeLength_115 : decode cX5_changeLength 115 = .ok (.iload_n 3, 1) := by decide +kernel
theorem d_X5_changeLength_116 : decode cX5_changeLength 116 = .ok (.invokevirtual 71, 3) := by decide +kernel
theorem d_X5_changeLength_119 : decode cX5_changeLength 119 = .ok (.aload_n 0, 1) := by decide +kernel
theorem d_X5_changeLength_120 : decode cX5_changeLength 120 = .ok (.getfield 15, 3) := by decide +kernel
theorem d_X5_changeLength_123 : decode cX5_changeLength 123 = .ok (.iload_n 2, 1) := by decide +kernel
theorem d_X5_changeLength_124 : decode cX5_changeLength 124 = .ok (.invokevirtual 83, 3) := by decide +kernel
theorem d_X5_changeLength_127 : decode cX5_changeLength 127 = .ok (.aload_n 0, 1) := by decide +kernel
theorem d_X5_changeLength_128 : decode cX5_changeLength 128 = .ok (.getfield 15, 3) := by decide +kernel
theorem d_X5_changeLength_131 : decode cX5_changeLength 131 = .ok (.iload_n 1, 1) := by decide +kernel
theorem d_X5_changeLength_132 : decode cX5_changeLength 132 = .ok (.invokevirtual 83, 3) := by decide +kernel
theorem d_X5_changeLength_135 : decode cX5_changeLength 135 = .ok (.iconst 1, 1) := by decide +kernel
theorem d_X5_changeLength_136 : decode cX5_changeLength 136 = .ok (.ireturn, 1) := by decide +kernel
theorem d_X5_changeLength_35 : decode cX5_changeLength 35 = .ok (.iconst 0, 1) := by decide +kernel
theorem d_X5_changeLength_36 : decode cX5_changeLength 36 = .ok (.ireturn, 1) := by decide +kernel
theorem d_X7_resize_59 : decode cX7_resize 59 = .ok (.invokestatic 130, 3) := by decide +kernel
theorem d_X7_resize_62 : decode cX7_resize 62 = .ok (.aload_n 0, 1) := by decide +kernel
theorem d_X7_resize_63 : decode cX7_resize 63 = .ok (.iload_n 1, 1) := by decide +kernel
theorem d_X7_resize_64 : decode cX7_resize 64 = .ok (.iconst 2, 1) := by decide +kernel
theorem d_X7_resize_65 : decode cX7_resize 65 = .ok (.invokevirtual 146, 3) := by decide +kernel
theorem d_X7_resize_68 : decode cX7_resize 68 = .ok (.iload 6, 2) := by decide +kernel
theorem d_X7_resize_70 : decode cX7_resize 70 = .ok (.ireturn, 1) := by decide +kernel
abbrev Y_X7_dropValue : YT := (cX7_dropValue, 6, (some .int), yX7_dropValue, [], 7)
theorem d_X7_dropValue_0 : decode cX7_dropValue 0 = .ok (.aload_n 0, 1) := by decide +kernel
theorem d_X7_dropValue_1 : decode cX7_dropValue 1 = .ok (.iload_n 1, 1) := by decide +kernel
theorem d_X7_dropValue_2 : decode cX7_dropValue 2 = .ok (.invokevirtual 95, 3) := by decide +kernel
theorem d_X7_dropValue_5 : decode cX7_dropValue 5 = .ok (.aload_n 0, 1) := by decide +kernel
theorem d_X7_dropValue_6 : decode cX7_dropValue 6 = .ok (.getfield 21, 3) := by decide +kernel
theorem d_X7_dropValue_9 : decode cX7_dropValue 9 = .ok (.iload_n 1, 1) := by decide +kernel
theorem d_X7_dropValue_10 : decode cX7_dropValue 10 = .ok (.invokevirtual 108, 3) := by decide +kernel
theorem d_X7_dropValue_13 : decode cX7_dropValue 13 = .ok (.istore_n 3, 1) := by decide +kernel
theorem d_X7_dropValue_14 : decode cX7_dropValue 14 = .ok (.aload_n 0, 1) := by decide +kernel
theorem d_X7_dropValue_15 : decode cX7_dropValue 15 = .ok (.getfield 41, 3) := by decide +kernel
theorem d_X7_dropValue_18 : decode cX7_dropValue 18 = .ok (.iload_n 3, 1) := by decide +kernel
theorem d_X7_dropValue_19 : decode cX7_dropValue 19 = .ok (.iload_n 2, 1) := by decide +kernel
theorem d_X7_dropValue_20 : decode cX7_dropValue 20 = .ok (.invokevirtual 216, 3) := by decide +kernel
theorem d_X7_dropValue_23 : decode cX7_dropValue 23 = .ok (.istore 4, 2) := by decide +kernel
theorem d_X7_dropValue_25 : decode cX7_dropValue 25 = .ok (.iload 4, 2) := by decide +kernel
theorem d_X7_dropValue_27 : decode cX7_dropValue 27 = .ok (.invokestatic 219, 3) := by decide +kernel
theorem d_X7_dropValue_30 : decode cX7_dropValue 30 = .ok (.aload_n 0, 1) := by decide +kernel
theorem d_X7_dropValue_31 : decode cX7_dropValue 31 = .ok (.getfield 41, 3) := by decide +kernel
theorem d_X7_dropValue_34 : decode cX7_dropValue 34 = .ok (.iload_n 3, 1) := by decide +kernel
theorem d_X7_dropValue_35 : decode cX7_dropValue 35 = .ok (.iload 4, 2) := by decide +kernel
theorem d_X7_dropValue_37 : decode cX7_dropValue 37 = .ok (.invokevirtual 229, 3) := by decide +kernel
abbrev Y_X5_drop : YT := (cX5_drop, 5, (some .int), yX5_drop, [], 6)
theorem mk_X5_drop : MK Y_X5_drop 2 := ⟨KW.at (i := 79) (by decide +kernel) rfl, KW.at (i := 951) (by decide +kernel) rfl, ⟨by decide +kernel, by decide +kernel⟩, by decide +kernel, by decide +kernel, rfl, by decide⟩
theorem vm_X5_drop : KW (.instanceMethod (yN Y_X5_drop)) ∧ KW (.selects (yN Y_X5_drop).cls (yN Y_X5_drop) (yN Y_X5_drop)) := ⟨KW.at (i := 949) (by decide +kernel) rfl, KW.at (i := 950) (by decide +kernel) rfl⟩
theorem ck_RX7_229 : CKV RX7 229 Y_X5_drop 2 := ⟨KW.at (i := 948) (by decide +kernel) rfl, vm_X5_drop.1, vm_X5_drop.2, mk_X5_drop⟩
theorem d_X5_drop_0 : decode cX5_drop 0 = .ok (.aload_n 0, 1) := by decide +kernel
theorem d_X5_drop_1 : decode cX5_drop 1 = .ok (.getfield 9, 3) := by decide +kernel
theorem d_X5_drop_4 : decode cX5_drop 4 = .ok (.iload_n 1, 1) := by decide +kernel
theorem d_X5_drop_5 : decode cX5_drop 5 = .ok (.iconst 3, 1) := by decide +kernel
theorem d_X5_drop_6 : decode cX5_drop 6 = .ok (.iadd, 1) := by decide +kernel
theorem d_X5_drop_7 : decode cX5_drop 7 = .ok (.invokevirtual 19, 3) := by decide +kernel
theorem d_X5_drop_10 : decode cX5_drop 10 = .ok (.istore_n 3, 1) := by decide +kernel
theorem d_X5_drop_11 : decode cX5_drop 11 = .ok (.aload_n 0, 1) := by decide +kernel
theorem d_X5_drop_12 : decode cX5_drop 12 = .ok (.iload_n 2, 1) := by decide +kernel
theorem d_X5_drop_13 : decode cX5_drop 13 = .ok (.invokevirtual 92, 3) := by decide +kernel
theorem d_X5_drop_16 : decode cX5_drop 16 = .ok (.istore 4, 2) := by decide +kernel
theorem d_X5_drop_18 : decode cX5_drop 18 = .ok (.aload_n 0, 1) := by decide +kernel
theorem d_X5_drop_19 : decode cX5_drop 19 = .ok (.getfield 9, 3) := by decide +kernel
theorem d_X5_drop_22 : decode cX5_drop 22 = .ok (.iload_n 3, 1) := by decide +kernel
theorem d_X5_drop_23 : decode cX5_drop 23 = .ok (.aload_n 0, 1) := by decide +kernel
theorem d_X5_drop_24 : decode cX5_drop 24 = .ok (.getfield 9, 3) := by decide +kernel
theorem d_X5_drop_27 : decode cX5_drop 27 = .ok (.iload_n 3, 1) := by decide +kernel
theorem d_X5_drop_28 : decode cX5_drop 28 = .ok (.iload_n 2, 1) := by decide +kernel
theorem d_X5_drop_29 : decode cX5_drop 29 = .ok (.invokevirtual 95, 3) := by decide +kernel
abbrev Y_X2_numberOfItem : YT := (cX2_numberOfItem, 5, (some .int), yX2_numberOfItem, [], 3)
theorem mk_X2_numberOfItem : MK Y_X2_numberOfItem 2 := ⟨KW.at (i := 76) (by decide +kernel) rfl, KW.at (i := 955) (by decide +kernel) rfl, ⟨by decide +kernel, by decide +kernel⟩, by decide +kernel, by decide +kernel, rfl, by decide⟩
theorem vm_X2_numberOfItem : KW (.instanceMethod (yN Y_X2_numberOfItem)) ∧ KW (.selects (yN Y_X2_numberOfItem).cls (yN Y_X2_numberOfItem) (yN Y_X2_numberOfItem)) := ⟨KW.at (i := 953) (by decide +kernel) rfl, KW.at (i := 954) (by decide +kernel) rfl⟩
theorem ck_RX5_95 : CKV RX5 95 Y_X2_numberOfItem 2 := ⟨KW.at (i := 952) (by decide +kernel) rfl, vm_X2_numberOfItem.1, vm_X2_numberOfItem.2, mk_X2_numberOfItem⟩
theorem d_X2_numberOfItem_0 : decode cX2_numberOfItem 0 = .ok (.aload_n 0, 1) := by decide +kernel
theorem d_X2_numberOfItem_1 : decode cX2_numberOfItem 1 = .ok (.iload_n 1, 1) := by decide +kernel
theorem d_X2_numberOfItem_2 : decode cX2_numberOfItem 2 = .ok (.invokevirtual 45, 3) := by decide +kernel
theorem d_X2_numberOfItem_5 : decode cX2_numberOfItem 5 = .ok (.istore_n 3, 1) := by decide +kernel
theorem d_X2_numberOfItem_6 : decode cX2_numberOfItem 6 = .ok (.iconst 0, 1) := by decide +kernel
theorem d_X2_numberOfItem_7 : decode cX2_numberOfItem 7 = .ok (.istore 4, 2) := by decide +kernel
theorem d_X2_numberOfItem_9 : decode cX2_numberOfItem 9 = .ok (.iload 4, 2) := by decide +kernel
theorem d_X2_numberOfItem_11 : decode cX2_numberOfItem 11 = .ok (.iload_n 3, 1) := by decide +kernel
theorem d_X2_numberOfItem_12 : decode cX2_numberOfItem 12 = .ok (.if_icmp .ge 23, 3) := by decide +kernel
theorem d_X2_numberOfItem_35 : decode cX2_numberOfItem 35 = .ok (.iconst (-1), 1) := by decide +kernel
theorem d_X2_numberOfItem_36 : decode cX2_numberOfItem 36 = .ok (.ireturn, 1) := by decide +kernel
theorem d_X2_numberOfItem_15 : decode cX2_numberOfItem 15 = .ok (.aload_n 0, 1) := by decide +kernel
theorem d_X2_numberOfItem_16 : decode cX2_numberOfItem 16 = .ok (.iload_n 1, 1) := by decide +kernel
theorem d_X2_numberOfItem_17 : decode cX2_numberOfItem 17 = .ok (.iload 4, 2) := by decide +kernel
theorem d_X2_numberOfItem_19 : decode cX2_numberOfItem 19 = .ok (.invokevirtual 49, 3) := by decide +kernel
theorem d_X2_numberOfItem_22 : decode cX2_numberOfItem 22 = .ok (.iload_n 2, 1) := by decide +kernel
theorem d_X2_numberOfItem_23 : decode cX2_numberOfItem 23 = .ok (.if_icmp .ne 6, 3) := by decide +kernel
theorem d_X2_numberOfItem_29 : decode cX2_numberOfItem 29 = .ok (.iinc 4 1, 3) := by decide +kernel
theorem d_X2_numberOfItem_32 : decode cX2_numberOfItem 32 = .ok (.goto (-23), 3) := by decide +kernel
theorem d_X2_numberOfItem_26 : decode cX2_numberOfItem 26 = .ok (.iload 4, 2) := by decide +kernel
theorem d_X2_numberOfItem_28 : decode cX2_numberOfItem 28 = .ok (.ireturn, 1) := by decide +kernel
theorem d_X5_drop_32 : decode cX5_drop 32 = .ok (.invokevirtual 98, 3) := by decide +kernel
theorem ck_RX5_98 : CKV RX5 98 Y_X2_removeItem 2 := ⟨KW.at (i := 956) (by decide +kernel) rfl, vm_X2_removeItem.1, vm_X2_removeItem.2, mk_X2_removeItem⟩
theorem d_X5_drop_35 : decode cX5_drop 35 = .ok (.aload_n 0, 1) := by decide +kernel
theorem d_X5_drop_36 : decode cX5_drop 36 = .ok (.getfield 15, 3) := by decide +kernel
theorem d_X5_drop_39 : decode cX5_drop 39 = .ok (.iload_n 3, 1) := by decide +kernel
theorem d_X5_drop_40 : decode cX5_drop 40 = .ok (.invokevirtual 83, 3) := by decide +kernel
theorem d_X5_drop_43 : decode cX5_drop 43 = .ok (.aload_n 0, 1) := by decide +kernel
theorem d_X5_drop_44 : decode cX5_drop 44 = .ok (.getfield 15, 3) := by decide +kernel
theorem d_X5_drop_47 : decode cX5_drop 47 = .ok (.iload_n 1, 1) := by decide +kernel
theorem d_X5_drop_48 : decode cX5_drop 48 = .ok (.invokevirtual 83, 3) := by decide +kernel
theorem d_X5_drop_51 : decode cX5_drop 51 = .ok (.iload 4, 2) := by decide +kernel
theorem d_X5_drop_53 : decode cX5_drop 53 = .ok (.aload_n 0, 1) := by decide +kernel
theorem d_X5_drop_54 : decode cX5_drop 54 = .ok (.getfield 9, 3) := by decide +kernel
theorem d_X5_drop_57 : decode cX5_drop 57 = .ok (.iload_n 3, 1) := by decide +kernel
theorem d_X5_drop_58 : decode cX5_drop 58 = .ok (.invokevirtual 25, 3) := by decide +kernel
theorem d_X5_drop_61 : decode cX5_drop 61 = .ok (.ifCond .le 7, 3) := by decide +kernel
theorem d_X5_drop_73 : decode cX5_drop 73 = .ok (.iadd, 1) := by decide +kernel
theorem d_X5_drop_74 : decode cX5_drop 74 = .ok (.ireturn, 1) := by decide +kernel
theorem d_X5_drop_68 : decode cX5_drop 68 = .ok (.aload_n 0, 1) := by decide +kernel
theorem d_X5_drop_69 : decode cX5_drop 69 = .ok (.iload_n 1, 1) := by decide +kernel
theorem d_X5_drop_70 : decode cX5_drop 70 = .ok (.invokevirtual 101, 3) := by decide +kernel
theorem d_X5_drop_64 : decode cX5_drop 64 = .ok (.iconst 0, 1) := by decide +kernel
theorem d_X5_drop_65 : decode cX5_drop 65 = .ok (.goto 8, 3) := by decide +kernel
theorem d_X7_dropValue_40 : decode cX7_dropValue 40 = .ok (.istore 5, 2) := by decide +kernel
theorem d_X7_dropValue_42 : decode cX7_dropValue 42 = .ok (.aload_n 0, 1) := by decide +kernel
theorem d_X7_dropValue_43 : decode cX7_dropValue 43 = .ok (.iload_n 1, 1) := by decide +kernel
theorem d_X7_dropValue_44 : decode cX7_dropValue 44 = .ok (.iconst 2, 1) := by decide +kernel
theorem d_X7_dropValue_45 : decode cX7_dropValue 45 = .ok (.invokevirtual 146, 3) := by decide +kernel
theorem d_X7_dropValue_48 : decode cX7_dropValue 48 = .ok (.iload 5, 2) := by decide +kernel
theorem d_X7_dropValue_50 : decode cX7_dropValue 50 = .ok (.ireturn, 1) := by decide +kernel
abbrev Y_X7_unit : YT := (cX7_unit, 5, (some .int), yX7_unit, [], 7)
theorem d_X7_unit_0 : decode cX7_unit 0 = .ok (.aload_n 0, 1) := by decide +kernel
theorem d_X7_unit_1 : decode cX7_unit 1 = .ok (.iload_n 1, 1) := by decide +kernel
theorem d_X7_unit_2 : decode cX7_unit 2 = .ok (.invokevirtual 95, 3) := by decide +kernel
theorem d_X7_unit_5 : decode cX7_unit 5 = .ok (.aload_n 0, 1) := by decide +kernel
theorem d_X7_unit_6 : decode cX7_unit 6 = .ok (.getfield 41, 3) := by decide +kernel
theorem d_X7_unit_9 : decode cX7_unit 9 = .ok (.aload_n 0, 1) := by decide +kernel
theorem d_X7_unit_10 : decode cX7_unit 10 = .ok (.getfield 21, 3) := by decide +kernel
theorem d_X7_unit_13 : decode cX7_unit 13 = .ok (.iload_n 1, 1) := by decide +kernel
theorem d_X7_unit_14 : decode cX7_unit 14 = .ok (.invokevirtual 108, 3) := by decide +kernel
theorem d_X7_unit_17 : decode cX7_unit 17 = .ok (.iload_n 2, 1) := by decide +kernel
theorem d_X7_unit_18 : decode cX7_unit 18 = .ok (.invokevirtual 216, 3) := by decide +kernel
theorem d_X7_unit_21 : decode cX7_unit 21 = .ok (.istore 4, 2) := by decide +kernel
theorem d_X7_unit_23 : decode cX7_unit 23 = .ok (.iload 4, 2) := by decide +kernel
theorem d_X7_unit_25 : decode cX7_unit 25 = .ok (.invokestatic 219, 3) := by decide +kernel
theorem d_X7_unit_28 : decode cX7_unit 28 = .ok (.iload_n 3, 1) := by decide +kernel
theorem d_X7_unit_29 : decode cX7_unit 29 = .ok (.ifCond .lt 16, 3) := by decide +kernel
theorem d_X7_unit_45 : decode cX7_unit 45 = .ok (.new 173, 3) := by decide +kernel
theorem d_X7_unit_48 : decode cX7_unit 48 = .ok (.dup, 1) := by decide +kernel
theorem d_X7_unit_49 : decode cX7_unit 49 = .ok (.ldc 232, 2) := by decide +kernel
theorem d_X7_unit_51 : decode cX7_unit 51 = .ok (.invokespecial 177, 3) := by decide +kernel
theorem d_X7_unit_54 : decode cX7_unit 54 = .ok (.athrow, 1) := by decide +kernel
theorem d_X7_unit_32 : decode cX7_unit 32 = .ok (.iload_n 3, 1) := by decide +kernel
theorem d_X7_unit_33 : decode cX7_unit 33 = .ok (.aload_n 0, 1) := by decide +kernel
theorem d_X7_unit_34 : decode cX7_unit 34 = .ok (.getfield 41, 3) := by decide +kernel
theorem d_X7_unit_37 : decode cX7_unit 37 = .ok (.iload 4, 2) := by decide +kernel
theorem d_X7_unit_39 : decode cX7_unit 39 = .ok (.invokevirtual 222, 3) := by decide +kernel
theorem d_X7_unit_42 : decode cX7_unit 42 = .ok (.if_icmp .lt 13, 3) := by decide +kernel
theorem d_X7_unit_55 : decode cX7_unit 55 = .ok (.bipush 31, 2) := by decide +kernel
theorem d_X7_unit_57 : decode cX7_unit 57 = .ok (.aload_n 0, 1) := by decide +kernel
theorem d_X7_unit_58 : decode cX7_unit 58 = .ok (.getfield 41, 3) := by decide +kernel
theorem d_X7_unit_61 : decode cX7_unit 61 = .ok (.iload 4, 2) := by decide +kernel
theorem d_X7_unit_63 : decode cX7_unit 63 = .ok (.invokevirtual 234, 3) := by decide +kernel
abbrev Y_X5_seedOf : YT := (cX5_seedOf, 2, (some .int), yX5_seedOf, [], 3)
theorem mk_X5_seedOf : MK Y_X5_seedOf 1 := ⟨KW.at (i := 79) (by decide +kernel) rfl, KW.at (i := 968) (by decide +kernel) rfl, ⟨by decide +kernel, by decide +kernel⟩, by decide +kernel, by decide +kernel, rfl, by decide⟩
theorem vm_X5_seedOf : KW (.instanceMethod (yN Y_X5_seedOf)) ∧ KW (.selects (yN Y_X5_seedOf).cls (yN Y_X5_seedOf) (yN Y_X5_seedOf)) := ⟨KW.at (i := 966) (by decide +kernel) rfl, KW.at (i := 967) (by decide +kernel) rfl⟩
theorem ck_RX7_234 : CKV RX7 234 Y_X5_seedOf 1 := ⟨KW.at (i := 965) (by decide +kernel) rfl, vm_X5_seedOf.1, vm_X5_seedOf.2, mk_X5_seedOf⟩
theorem d_X5_seedOf_0 : decode cX5_seedOf 0 = .ok (.aload_n 0, 1) := by decide +kernel
theorem d_X5_seedOf_1 : decode cX5_seedOf 1 = .ok (.getfield 9, 3) := by decide +kernel
theorem d_X5_seedOf_4 : decode cX5_seedOf 4 = .ok (.iload_n 1, 1) := by decide +kernel
theorem d_X5_seedOf_5 : decode cX5_seedOf 5 = .ok (.iconst 1, 1) := by decide +kernel
theorem d_X5_seedOf_6 : decode cX5_seedOf 6 = .ok (.iadd, 1) := by decide +kernel
theorem d_X5_seedOf_7 : decode cX5_seedOf 7 = .ok (.invokevirtual 19, 3) := by decide +kernel
theorem d_X5_seedOf_10 : decode cX5_seedOf 10 = .ok (.ireturn, 1) := by decide +kernel
theorem d_X7_unit_66 : decode cX7_unit 66 = .ok (.imul, 1) := by decide +kernel
theorem d_X7_unit_67 : decode cX7_unit 67 = .ok (.bipush 17, 2) := by decide +kernel
theorem d_X7_unit_69 : decode cX7_unit 69 = .ok (.iload_n 3, 1) := by decide +kernel
theorem d_X7_unit_70 : decode cX7_unit 70 = .ok (.imul, 1) := by decide +kernel
theorem d_X7_unit_71 : decode cX7_unit 71 = .ok (.iadd, 1) := by decide +kernel
theorem d_X7_unit_72 : decode cX7_unit 72 = .ok (.ireturn, 1) := by decide +kernel
abbrev Y_X7_setRights : YT := (cX7_setRights, 5, (some .int), yX7_setRights, [], 7)
theorem d_X7_setRights_0 : decode cX7_setRights 0 = .ok (.aload_n 0, 1) := by decide +kernel
theorem d_X7_setRights_1 : decode cX7_setRights 1 = .ok (.iload_n 1, 1) := by decide +kernel
theorem d_X7_setRights_2 : decode cX7_setRights 2 = .ok (.invokevirtual 95, 3) := by decide +kernel
theorem d_X7_setRights_5 : decode cX7_setRights 5 = .ok (.iload_n 2, 1) := by decide +kernel
theorem d_X7_setRights_6 : decode cX7_setRights 6 = .ok (.invokestatic 237, 3) := by decide +kernel
abbrev Y_X7_requireRights : YT := (cX7_requireRights, 1, none, yX7_requireRights, [], 6)
theorem mk_X7_requireRights : MK Y_X7_requireRights 1 := ⟨KW.at (i := 75) (by decide +kernel) rfl, KW.at (i := 978) (by decide +kernel) rfl, ⟨by decide +kernel, by decide +kernel⟩, by decide +kernel, by decide +kernel, rfl, by decide⟩
theorem sm_X7_requireRights : KW (.static (yN Y_X7_requireRights)) := KW.at (i := 977) (by decide +kernel) rfl
theorem ck_RX7_237 : CKS RX7 237 Y_X7_requireRights 1 := ⟨KW.at (i := 976) (by decide +kernel) rfl, sm_X7_requireRights, mk_X7_requireRights⟩
theorem d_X7_requireRights_0 : decode cX7_requireRights 0 = .ok (.iload_n 0, 1) := by decide +kernel
theorem d_X7_requireRights_1 : decode cX7_requireRights 1 = .ok (.ifCond .lt 10, 3) := by decide +kernel
theorem d_X7_requireRights_11 : decode cX7_requireRights 11 = .ok (.new 279, 3) := by decide +kernel
theorem d_X7_requireRights_14 : decode cX7_requireRights 14 = .ok (.dup, 1) := by decide +kernel
theorem d_X7_requireRights_15 : decode cX7_requireRights 15 = .ok (.ldc_w 356, 3) := by decide +kernel
theorem d_X7_requireRights_18 : decode cX7_requireRights 18 = .ok (.invokespecial 283, 3) := by decide +kernel
theorem d_X7_requireRights_21 : decode cX7_requireRights 21 = .ok (.athrow, 1) := by decide +kernel
theorem d_X7_requireRights_4 : decode cX7_requireRights 4 = .ok (.iload_n 0, 1) := by decide +kernel
theorem d_X7_requireRights_5 : decode cX7_requireRights 5 = .ok (.sipush 255, 3) := by decide +kernel
theorem d_X7_requireRights_8 : decode cX7_requireRights 8 = .ok (.if_icmp .le 14, 3) := by decide +kernel
theorem d_X7_requireRights_22 : decode cX7_requireRights 22 = .ok (.return_, 1) := by decide +kernel
theorem d_X7_setRights_9 : decode cX7_setRights 9 = .ok (.aload_n 0, 1) := by decide +kernel
theorem d_X7_setRights_10 : decode cX7_setRights 10 = .ok (.getfield 21, 3) := by decide +kernel
theorem d_X7_setRights_13 : decode cX7_setRights 13 = .ok (.iload_n 1, 1) := by decide +kernel
theorem d_X7_setRights_14 : decode cX7_setRights 14 = .ok (.invokevirtual 108, 3) := by decide +kernel
theorem d_X7_setRights_17 : decode cX7_setRights 17 = .ok (.istore_n 3, 1) := by decide +kernel
theorem d_X7_setRights_18 : decode cX7_setRights 18 = .ok (.aload_n 0, 1) := by decide +kernel
theorem d_X7_setRights_19 : decode cX7_setRights 19 = .ok (.getfield 21, 3) := by decide +kernel
theorem d_X7_setRights_22 : decode cX7_setRights 22 = .ok (.iload_n 3, 1) := by decide +kernel
theorem d_X7_setRights_23 : decode cX7_setRights 23 = .ok (.iconst 4, 1) := by decide +kernel
theorem d_X7_setRights_24 : decode cX7_setRights 24 = .ok (.iadd, 1) := by decide +kernel
theorem d_X7_setRights_25 : decode cX7_setRights 25 = .ok (.invokevirtual 111, 3) := by decide +kernel
theorem d_X7_setRights_28 : decode cX7_setRights 28 = .ok (.istore 4, 2) := by decide +kernel
theorem d_X7_setRights_30 : decode cX7_setRights 30 = .ok (.iload_n 2, 1) := by decide +kernel
theorem d_X7_setRights_31 : decode cX7_setRights 31 = .ok (.iload 4, 2) := by decide +kernel
theorem d_X7_setRights_33 : decode cX7_setRights 33 = .ok (.if_icmp .eq 49, 3) := by decide +kernel
theorem d_X7_setRights_82 : decode cX7_setRights 82 = .ok (.iload 4, 2) := by decide +kernel
theorem d_X7_setRights_84 : decode cX7_setRights 84 = .ok (.ireturn, 1) := by decide +kernel
theorem d_X7_setRights_36 : decode cX7_setRights 36 = .ok (.aload_n 0, 1) := by decide +kernel
theorem d_X7_setRights_37 : decode cX7_setRights 37 = .ok (.getfield 48, 3) := by decide +kernel
theorem d_X7_setRights_40 : decode cX7_setRights 40 = .ok (.iload_n 2, 1) := by decide +kernel
theorem d_X7_setRights_41 : decode cX7_setRights 41 = .ok (.invokevirtual 85, 3) := by decide +kernel
abbrev Y_X4_join : YT := (cX4_join, 2, (some .boolean), yX4_join, [], 6)
theorem mk_X4_join : MK Y_X4_join 1 := ⟨KW.at (i := 80) (by decide +kernel) rfl, KW.at (i := 326) (by decide +kernel) rfl, ⟨by decide +kernel, by decide +kernel⟩, by decide +kernel, by decide +kernel, rfl, by decide⟩
theorem vm_X4_join : KW (.instanceMethod (yN Y_X4_join)) ∧ KW (.selects (yN Y_X4_join).cls (yN Y_X4_join) (yN Y_X4_join)) := ⟨KW.at (i := 324) (by decide +kernel) rfl, KW.at (i := 325) (by decide +kernel) rfl⟩
theorem ck_RX7_85 : CKV RX7 85 Y_X4_join 1 := ⟨KW.at (i := 323) (by decide +kernel) rfl, vm_X4_join.1, vm_X4_join.2, mk_X4_join⟩
theorem d_X4_join_0 : decode cX4_join 0 = .ok (.aload_n 0, 1) := by decide +kernel
theorem d_X4_join_1 : decode cX4_join 1 = .ok (.getfield 15, 3) := by decide +kernel
theorem d_X4_join_4 : decode cX4_join 4 = .ok (.iload_n 1, 1) := by decide +kernel
theorem d_X4_join_5 : decode cX4_join 5 = .ok (.invokevirtual 23, 3) := by decide +kernel
theorem d_X4_join_8 : decode cX4_join 8 = .ok (.ifCond .ne 62, 3) := by decide +kernel
theorem d_X4_join_70 : decode cX4_join 70 = .ok (.aload_n 0, 1) := by decide +kernel
theorem d_X4_join_71 : decode cX4_join 71 = .ok (.iload_n 1, 1) := by decide +kernel
theorem d_X4_join_72 : decode cX4_join 72 = .ok (.iconst 1, 1) := by decide +kernel
theorem d_X4_join_73 : decode cX4_join 73 = .ok (.invokevirtual 58, 3) := by decide +kernel
theorem d_X4_join_76 : decode cX4_join 76 = .ok (.iconst 1, 1) := by decide +kernel
theorem d_X4_join_77 : decode cX4_join 77 = .ok (.ireturn, 1) := by decide +kernel
theorem d_X4_join_11 : decode cX4_join 11 = .ok (.aload_n 0, 1) := by decide +kernel
theorem d_X4_join_12 : decode cX4_join 12 = .ok (.getfield 19, 3) := by decide +kernel
theorem d_X4_join_15 : decode cX4_join 15 = .ok (.invokevirtual 42, 3) := by decide +kernel
theorem ck_RX4_42 : CKV RX4 42 Y_X0_wantNothing 0 := ⟨KW.at (i := 332) (by decide +kernel) rfl, vm_X0_wantNothing.1, vm_X0_wantNothing.2, mk_X0_wantNothing⟩
theorem d_X4_join_18 : decode cX4_join 18 = .ok (.aload_n 0, 1) := by decide +kernel
theorem d_X4_join_19 : decode cX4_join 19 = .ok (.getfield 19, 3) := by decide +kernel
theorem d_X4_join_22 : decode cX4_join 22 = .ok (.iconst 2, 1) := by decide +kernel
theorem d_X4_join_23 : decode cX4_join 23 = .ok (.invokevirtual 45, 3) := by decide +kernel
theorem ck_RX4_45 : CKV RX4 45 Y_X0_want 1 := ⟨KW.at (i := 333) (by decide +kernel) rfl, vm_X0_want.1, vm_X0_want.2, mk_X0_want⟩
theorem d_X4_join_26 : decode cX4_join 26 = .ok (.aload_n 0, 1) := by decide +kernel
theorem d_X4_join_27 : decode cX4_join 27 = .ok (.getfield 19, 3) := by decide +kernel
theorem d_X4_join_30 : decode cX4_join 30 = .ok (.invokevirtual 48, 3) := by decide +kernel
theorem ck_RX4_48 : CKV RX4 48 Y_X0_getAllWanted 0 := ⟨KW.at (i := 334) (by decide +kernel) rfl, vm_X0_getAllWanted.1, vm_X0_getAllWanted.2, mk_X0_getAllWanted⟩
theorem d_X4_join_33 : decode cX4_join 33 = .ok (.ifCond .ne 5, 3) := by decide +kernel
theorem d_X4_join_38 : decode cX4_join 38 = .ok (.aload_n 0, 1) := by decide +kernel
theorem d_X4_join_39 : decode cX4_join 39 = .ok (.getfield 15, 3) := by decide +kernel
theorem d_X4_join_42 : decode cX4_join 42 = .ok (.iload_n 1, 1) := by decide +kernel
theorem d_X4_join_43 : decode cX4_join 43 = .ok (.aload_n 0, 1) := by decide +kernel
theorem d_X4_join_44 : decode cX4_join 44 = .ok (.getfield 19, 3) := by decide +kernel
theorem d_X4_join_47 : decode cX4_join 47 = .ok (.iconst 0, 1) := by decide +kernel
theorem d_X4_join_48 : decode cX4_join 48 = .ok (.invokevirtual 52, 3) := by decide +kernel
theorem ck_RX4_52 : CKV RX4 52 Y_X0_got 1 := ⟨KW.at (i := 335) (by decide +kernel) rfl, vm_X0_got.1, vm_X0_got.2, mk_X0_got⟩
theorem d_X4_join_51 : decode cX4_join 51 = .ok (.invokevirtual 55, 3) := by decide +kernel
theorem d_X4_join_54 : decode cX4_join 54 = .ok (.aload_n 0, 1) := by decide +kernel
theorem d_X4_join_55 : decode cX4_join 55 = .ok (.getfield 15, 3) := by decide +kernel
theorem d_X4_join_58 : decode cX4_join 58 = .ok (.aload_n 0, 1) := by decide +kernel
theorem d_X4_join_59 : decode cX4_join 59 = .ok (.getfield 19, 3) := by decide +kernel
theorem d_X4_join_62 : decode cX4_join 62 = .ok (.iconst 0, 1) := by decide +kernel
theorem d_X4_join_63 : decode cX4_join 63 = .ok (.invokevirtual 52, 3) := by decide +kernel
theorem d_X4_join_66 : decode cX4_join 66 = .ok (.iconst 0, 1) := by decide +kernel
theorem d_X4_join_67 : decode cX4_join 67 = .ok (.invokevirtual 32, 3) := by decide +kernel
theorem d_X4_join_36 : decode cX4_join 36 = .ok (.iconst 0, 1) := by decide +kernel
theorem d_X4_join_37 : decode cX4_join 37 = .ok (.ireturn, 1) := by decide +kernel
theorem d_X7_setRights_44 : decode cX7_setRights 44 = .ok (.invokestatic 130, 3) := by decide +kernel
theorem d_X7_setRights_47 : decode cX7_setRights 47 = .ok (.aload_n 0, 1) := by decide +kernel
theorem d_X7_setRights_48 : decode cX7_setRights 48 = .ok (.getfield 48, 3) := by decide +kernel
theorem d_X7_setRights_51 : decode cX7_setRights 51 = .ok (.iload 4, 2) := by decide +kernel
theorem d_X7_setRights_53 : decode cX7_setRights 53 = .ok (.invokevirtual 161, 3) := by decide +kernel
theorem d_X7_setRights_56 : decode cX7_setRights 56 = .ok (.pop, 1) := by decide +kernel
theorem d_X7_setRights_57 : decode cX7_setRights 57 = .ok (.aload_n 0, 1) := by decide +kernel
theorem d_X7_setRights_58 : decode cX7_setRights 58 = .ok (.getfield 21, 3) := by decide +kernel
theorem d_X7_setRights_61 : decode cX7_setRights 61 = .ok (.iload_n 3, 1) := by decide +kernel
theorem d_X7_setRights_62 : decode cX7_setRights 62 = .ok (.iconst 4, 1) := by decide +kernel
theorem d_X7_setRights_63 : decode cX7_setRights 63 = .ok (.iadd, 1) := by decide +kernel
theorem d_X7_setRights_64 : decode cX7_setRights 64 = .ok (.iload_n 2, 1) := by decide +kernel
theorem d_X7_setRights_65 : decode cX7_setRights 65 = .ok (.invokevirtual 140, 3) := by decide +kernel
theorem d_X7_setRights_68 : decode cX7_setRights 68 = .ok (.aload_n 0, 1) := by decide +kernel
theorem d_X7_setRights_69 : decode cX7_setRights 69 = .ok (.getfield 25, 3) := by decide +kernel
theorem d_X7_setRights_72 : decode cX7_setRights 72 = .ok (.iload_n 3, 1) := by decide +kernel
theorem d_X7_setRights_73 : decode cX7_setRights 73 = .ok (.invokevirtual 143, 3) := by decide +kernel
theorem d_X7_setRights_76 : decode cX7_setRights 76 = .ok (.aload_n 0, 1) := by decide +kernel
theorem d_X7_setRights_77 : decode cX7_setRights 77 = .ok (.iload_n 1, 1) := by decide +kernel
theorem d_X7_setRights_78 : decode cX7_setRights 78 = .ok (.iconst 4, 1) := by decide +kernel
theorem d_X7_setRights_79 : decode cX7_setRights 79 = .ok (.invokevirtual 146, 3) := by decide +kernel
abbrev Y_X7_sharers : YT := (cX7_sharers, 2, (some .int), yX7_sharers, [], 7)
theorem d_X7_sharers_0 : decode cX7_sharers 0 = .ok (.iload_n 1, 1) := by decide +kernel
theorem d_X7_sharers_1 : decode cX7_sharers 1 = .ok (.invokestatic 237, 3) := by decide +kernel
theorem d_X7_sharers_4 : decode cX7_sharers 4 = .ok (.aload_n 0, 1) := by decide +kernel
theorem d_X7_sharers_5 : decode cX7_sharers 5 = .ok (.getfield 48, 3) := by decide +kernel
theorem d_X7_sharers_8 : decode cX7_sharers 8 = .ok (.iload_n 1, 1) := by decide +kernel
theorem d_X7_sharers_9 : decode cX7_sharers 9 = .ok (.invokevirtual 240, 3) := by decide +kernel
theorem ck_RX7_240 : CKV RX7 240 Y_X4_keysWith 1 := ⟨KW.at (i := 987) (by decide +kernel) rfl, vm_X4_keysWith.1, vm_X4_keysWith.2, mk_X4_keysWith⟩
theorem d_X7_sharers_12 : decode cX7_sharers 12 = .ok (.ireturn, 1) := by decide +kernel
abbrev Y_X7_sectors : YT := (cX7_sectors, 1, (some .int), yX7_sectors, [], 1)
theorem d_X7_sectors_0 : decode cX7_sectors 0 = .ok (.aload_n 0, 1) := by decide +kernel
theorem d_X7_sectors_1 : decode cX7_sectors 1 = .ok (.getfield 21, 3) := by decide +kernel
theorem d_X7_sectors_4 : decode cX7_sectors 4 = .ok (.getfield 243, 3) := by decide +kernel
theorem fk_RX7_243 : FK RX7 243 2 4 := ⟨RX2, TX2, 6, rfl, by decide, ws_X2, KW.at (i := 119) (by decide +kernel) rfl⟩
theorem d_X7_sectors_7 : decode cX7_sectors 7 = .ok (.ireturn, 1) := by decide +kernel
abbrev Y_X7_cell : YT := (cX7_cell, 2, (some .int), yX7_cell, [], 6)
theorem d_X7_cell_0 : decode cX7_cell 0 = .ok (.iload_n 1, 1) := by decide +kernel
theorem d_X7_cell_1 : decode cX7_cell 1 = .ok (.ifCond .lt 14, 3) := by decide +kernel
theorem d_X7_cell_15 : decode cX7_cell 15 = .ok (.new 173, 3) := by decide +kernel
theorem d_X7_cell_18 : decode cX7_cell 18 = .ok (.dup, 1) := by decide +kernel
theorem d_X7_cell_19 : decode cX7_cell 19 = .ok (.ldc 250, 2) := by decide +kernel
theorem d_X7_cell_21 : decode cX7_cell 21 = .ok (.invokespecial 177, 3) := by decide +kernel
theorem d_X7_cell_24 : decode cX7_cell 24 = .ok (.athrow, 1) := by decide +kernel
theorem d_X7_cell_4 : decode cX7_cell 4 = .ok (.iload_n 1, 1) := by decide +kernel
theorem d_X7_cell_5 : decode cX7_cell 5 = .ok (.aload_n 0, 1) := by decide +kernel
theorem d_X7_cell_6 : decode cX7_cell 6 = .ok (.getfield 21, 3) := by decide +kernel
theorem d_X7_cell_9 : decode cX7_cell 9 = .ok (.invokevirtual 247, 3) := by decide +kernel
theorem ck_RX7_247 : CKV RX7 247 Y_X2_end 0 := ⟨KW.at (i := 995) (by decide +kernel) rfl, vm_X2_end.1, vm_X2_end.2, mk_X2_end⟩
theorem d_X7_cell_12 : decode cX7_cell 12 = .ok (.if_icmp .lt 13, 3) := by decide +kernel
theorem d_X7_cell_25 : decode cX7_cell 25 = .ok (.aload_n 0, 1) := by decide +kernel
theorem d_X7_cell_26 : decode cX7_cell 26 = .ok (.getfield 21, 3) := by decide +kernel
theorem d_X7_cell_29 : decode cX7_cell 29 = .ok (.iload_n 1, 1) := by decide +kernel
theorem d_X7_cell_30 : decode cX7_cell 30 = .ok (.invokevirtual 252, 3) := by decide +kernel
theorem ck_RX7_252 : CKV RX7 252 Y_X2_sizeAt 1 := ⟨KW.at (i := 417) (by decide +kernel) rfl, vm_X2_sizeAt.1, vm_X2_sizeAt.2, mk_X2_sizeAt⟩
theorem d_X7_cell_33 : decode cX7_cell 33 = .ok (.ireturn, 1) := by decide +kernel
abbrev Y_X7_place : YT := (cX7_place, 2, (some .int), yX7_place, [], 7)
theorem d_X7_place_0 : decode cX7_place 0 = .ok (.aload_n 0, 1) := by decide +kernel
theorem d_X7_place_1 : decode cX7_place 1 = .ok (.iload_n 1, 1) := by decide +kernel
theorem d_X7_place_2 : decode cX7_place 2 = .ok (.invokevirtual 95, 3) := by decide +kernel
theorem d_X7_place_5 : decode cX7_place 5 = .ok (.aload_n 0, 1) := by decide +kernel
theorem d_X7_place_6 : decode cX7_place 6 = .ok (.getfield 21, 3) := by decide +kernel
theorem d_X7_place_9 : decode cX7_place 9 = .ok (.iload_n 1, 1) := by decide +kernel
theorem d_X7_place_10 : decode cX7_place 10 = .ok (.invokevirtual 108, 3) := by decide +kernel
theorem d_X7_place_13 : decode cX7_place 13 = .ok (.ireturn, 1) := by decide +kernel
abbrev Y_X7_used : YT := (cX7_used, 1, (some .int), yX7_used, [], 3)
theorem d_X7_used_0 : decode cX7_used 0 = .ok (.aload_n 0, 1) := by decide +kernel
theorem d_X7_used_1 : decode cX7_used 1 = .ok (.getfield 25, 3) := by decide +kernel
theorem d_X7_used_4 : decode cX7_used 4 = .ok (.invokevirtual 255, 3) := by decide +kernel
abbrev Y_X0_unitsInUse : YT := (cX0_unitsInUse, 5, (some .int), yX0_unitsInUse, [], 2)
theorem mk_X0_unitsInUse : MK Y_X0_unitsInUse 0 := ⟨KW.at (i := 77) (by decide +kernel) rfl, KW.at (i := 399) (by decide +kernel) rfl, ⟨by decide +kernel, by decide +kernel⟩, by decide +kernel, by decide +kernel, rfl, by decide⟩
theorem vm_X0_unitsInUse : KW (.instanceMethod (yN Y_X0_unitsInUse)) ∧ KW (.selects (yN Y_X0_unitsInUse).cls (yN Y_X0_unitsInUse) (yN Y_X0_unitsInUse)) := ⟨KW.at (i := 397) (by decide +kernel) rfl, KW.at (i := 398) (by decide +kernel) rfl⟩
theorem ck_RX7_255 : CKV RX7 255 Y_X0_unitsInUse 0 := ⟨KW.at (i := 396) (by decide +kernel) rfl, vm_X0_unitsInUse.1, vm_X0_unitsInUse.2, mk_X0_unitsInUse⟩
theorem d_X0_unitsInUse_0 : decode cX0_unitsInUse 0 = .ok (.iconst 0, 1) := by decide +kernel
theorem d_X0_unitsInUse_1 : decode cX0_unitsInUse 1 = .ok (.istore_n 1, 1) := by decide +kernel
theorem d_X0_unitsInUse_2 : decode cX0_unitsInUse 2 = .ok (.aload_n 0, 1) := by decide +kernel
theorem d_X0_unitsInUse_3 : decode cX0_unitsInUse 3 = .ok (.getfield 23, 3) := by decide +kernel
theorem d_X0_unitsInUse_6 : decode cX0_unitsInUse 6 = .ok (.invokevirtual 66, 3) := by decide +kernel
theorem d_X0_unitsInUse_9 : decode cX0_unitsInUse 9 = .ok (.istore_n 2, 1) := by decide +kernel
theorem d_X0_unitsInUse_10 : decode cX0_unitsInUse 10 = .ok (.iconst 4, 1) := by decide +kernel
theorem d_X0_unitsInUse_11 : decode cX0_unitsInUse 11 = .ok (.istore_n 3, 1) := by decide +kernel
theorem d_X0_unitsInUse_12 : decode cX0_unitsInUse 12 = .ok (.iload_n 3, 1) := by decide +kernel
theorem d_X0_unitsInUse_13 : decode cX0_unitsInUse 13 = .ok (.iload_n 2, 1) := by decide +kernel
theorem d_X0_unitsInUse_14 : decode cX0_unitsInUse 14 = .ok (.if_icmp .ge 40, 3) := by decide +kernel
theorem d_X0_unitsInUse_54 : decode cX0_unitsInUse 54 = .ok (.iload_n 1, 1) := by decide +kernel
theorem d_X0_unitsInUse_55 : decode cX0_unitsInUse 55 = .ok (.ireturn, 1) := by decide +kernel
theorem d_X0_unitsInUse_17 : decode cX0_unitsInUse 17 = .ok (.aload_n 0, 1) := by decide +kernel
theorem d_X0_unitsInUse_18 : decode cX0_unitsInUse 18 = .ok (.getfield 23, 3) := by decide +kernel
theorem d_X0_unitsInUse_21 : decode cX0_unitsInUse 21 = .ok (.getfield 38, 3) := by decide +kernel
theorem d_X0_unitsInUse_24 : decode cX0_unitsInUse 24 = .ok (.iload_n 3, 1) := by decide +kernel
theorem d_X0_unitsInUse_25 : decode cX0_unitsInUse 25 = .ok (.invokestatic 47, 3) := by decide +kernel
theorem d_X0_unitsInUse_28 : decode cX0_unitsInUse 28 = .ok (.istore 4, 2) := by decide +kernel
theorem d_X0_unitsInUse_30 : decode cX0_unitsInUse 30 = .ok (.iload_n 1, 1) := by decide +kernel
theorem d_X0_unitsInUse_31 : decode cX0_unitsInUse 31 = .ok (.iconst 0, 1) := by decide +kernel
theorem d_X0_unitsInUse_32 : decode cX0_unitsInUse 32 = .ok (.iload 4, 2) := by decide +kernel
theorem d_X0_unitsInUse_34 : decode cX0_unitsInUse 34 = .ok (.invokestatic 70, 3) := by decide +kernel
theorem d_X0_unitsInUse_37 : decode cX0_unitsInUse 37 = .ok (.iadd, 1) := by decide +kernel
theorem d_X0_unitsInUse_38 : decode cX0_unitsInUse 38 = .ok (.istore_n 1, 1) := by decide +kernel
theorem d_X0_unitsInUse_39 : decode cX0_unitsInUse 39 = .ok (.iload_n 3, 1) := by decide +kernel
theorem d_X0_unitsInUse_40 : decode cX0_unitsInUse 40 = .ok (.iconst 1, 1) := by decide +kernel
theorem d_X0_unitsInUse_41 : decode cX0_unitsInUse 41 = .ok (.iload 4, 2) := by decide +kernel
theorem d_X0_unitsInUse_43 : decode cX0_unitsInUse 43 = .ok (.invokestatic 76, 3) := by decide +kernel
theorem d_X0_unitsInUse_46 : decode cX0_unitsInUse 46 = .ok (.invokestatic 70, 3) := by decide +kernel
theorem d_X0_unitsInUse_49 : decode cX0_unitsInUse 49 = .ok (.iadd, 1) := by decide +kernel
theorem d_X0_unitsInUse_50 : decode cX0_unitsInUse 50 = .ok (.istore_n 3, 1) := by decide +kernel
theorem d_X0_unitsInUse_51 : decode cX0_unitsInUse 51 = .ok (.goto (-39), 3) := by decide +kernel
theorem d_X7_used_7 : decode cX7_used 7 = .ok (.ireturn, 1) := by decide +kernel
abbrev Y_X7_usedByTree : YT := (cX7_usedByTree, 5, (some .int), yX7_usedByTree, [], 6)
theorem d_X7_usedByTree_0 : decode cX7_usedByTree 0 = .ok (.aload_n 0, 1) := by decide +kernel
theorem d_X7_usedByTree_1 : decode cX7_usedByTree 1 = .ok (.getfield 48, 3) := by decide +kernel
theorem d_X7_usedByTree_4 : decode cX7_usedByTree 4 = .ok (.invokevirtual 258, 3) := by decide +kernel
abbrev Y_X4_startCounting : YT := (cX4_startCounting, 1, none, yX4_startCounting, [], 2)
theorem mk_X4_startCounting : MK Y_X4_startCounting 0 := ⟨KW.at (i := 80) (by decide +kernel) rfl, KW.at (i := 407) (by decide +kernel) rfl, ⟨by decide +kernel, by decide +kernel⟩, by decide +kernel, by decide +kernel, rfl, by decide⟩
theorem vm_X4_startCounting : KW (.instanceMethod (yN Y_X4_startCounting)) ∧ KW (.selects (yN Y_X4_startCounting).cls (yN Y_X4_startCounting) (yN Y_X4_startCounting)) := ⟨KW.at (i := 405) (by decide +kernel) rfl, KW.at (i := 406) (by decide +kernel) rfl⟩
theorem ck_RX7_258 : CKV RX7 258 Y_X4_startCounting 0 := ⟨KW.at (i := 404) (by decide +kernel) rfl, vm_X4_startCounting.1, vm_X4_startCounting.2, mk_X4_startCounting⟩
theorem d_X4_startCounting_0 : decode cX4_startCounting 0 = .ok (.aload_n 0, 1) := by decide +kernel
theorem d_X4_startCounting_1 : decode cX4_startCounting 1 = .ok (.getfield 9, 3) := by decide +kernel
theorem fk_RX4_9 : FK RX4 9 4 2 := ⟨RX4, TX4, 3, rfl, by decide, ws_X4, KW.at (i := 196) (by decide +kernel) rfl⟩
theorem d_X4_startCounting_4 : decode cX4_startCounting 4 = .ok (.iconst 0, 1) := by decide +kernel
theorem d_X4_startCounting_5 : decode cX4_startCounting 5 = .ok (.invokestatic 67, 3) := by decide +kernel
abbrev Y_J7_fill_53178 : YT := (cJ7_fill_53178, 4, none, yJ7_fill_53178, [], 1)
theorem mk_J7_fill_53178 : MK Y_J7_fill_53178 2 := ⟨KW.at (i := 92) (by decide +kernel) rfl, KW.at (i := 410) (by decide +kernel) rfl, ⟨by decide +kernel, by decide +kernel⟩, by decide +kernel, by decide +kernel, rfl, by decide⟩
theorem sm_J7_fill_53178 : KW (.static (yN Y_J7_fill_53178)) := KW.at (i := 409) (by decide +kernel) rfl
theorem ck_RX4_67 : CKS RX4 67 Y_J7_fill_53178 2 := ⟨KW.at (i := 408) (by decide +kernel) rfl, sm_J7_fill_53178, mk_J7_fill_53178⟩
theorem d_J7_fill_53178_0 : decode cJ7_fill_53178 0 = .ok (.iconst 0, 1) := by decide +kernel
theorem d_J7_fill_53178_1 : decode cJ7_fill_53178 1 = .ok (.istore_n 2, 1) := by decide +kernel
theorem d_J7_fill_53178_2 : decode cJ7_fill_53178 2 = .ok (.aload_n 0, 1) := by decide +kernel
theorem d_J7_fill_53178_3 : decode cJ7_fill_53178 3 = .ok (.arraylength, 1) := by decide +kernel
theorem sh_14 : SH.getD 14 (9, 0, []) = (1, 256, []) := rfl
theorem d_J7_fill_53178_4 : decode cJ7_fill_53178 4 = .ok (.istore_n 3, 1) := by decide +kernel
theorem d_J7_fill_53178_5 : decode cJ7_fill_53178 5 = .ok (.iload_n 2, 1) := by decide +kernel
theorem d_J7_fill_53178_6 : decode cJ7_fill_53178 6 = .ok (.iload_n 3, 1) := by decide +kernel
theorem d_J7_fill_53178_7 : decode cJ7_fill_53178 7 = .ok (.if_icmp .ge 13, 3) := by decide +kernel
theorem d_J7_fill_53178_20 : decode cJ7_fill_53178 20 = .ok (.return_, 1) := by decide +kernel
theorem d_J7_fill_53178_10 : decode cJ7_fill_53178 10 = .ok (.aload_n 0, 1) := by decide +kernel
theorem d_J7_fill_53178_11 : decode cJ7_fill_53178 11 = .ok (.iload_n 2, 1) := by decide +kernel
theorem d_J7_fill_53178_12 : decode cJ7_fill_53178 12 = .ok (.iload_n 1, 1) := by decide +kernel
theorem d_J7_fill_53178_13 : decode cJ7_fill_53178 13 = .ok (.iastore, 1) := by decide +kernel
theorem d_J7_fill_53178_14 : decode cJ7_fill_53178 14 = .ok (.iinc 2 1, 3) := by decide +kernel
theorem d_J7_fill_53178_17 : decode cJ7_fill_53178 17 = .ok (.goto (-12), 3) := by decide +kernel
theorem d_X4_startCounting_8 : decode cX4_startCounting 8 = .ok (.return_, 1) := by decide +kernel
theorem d_X7_usedByTree_7 : decode cX7_usedByTree 7 = .ok (.aload_n 0, 1) := by decide +kernel
theorem d_X7_usedByTree_8 : decode cX7_usedByTree 8 = .ok (.getfield 9, 3) := by decide +kernel
theorem fk_RX7_9 : FK RX7 9 7 7 := ⟨RX7, TX7, 8, rfl, by decide, ws_X7, KW.at (i := 370) (by decide +kernel) rfl⟩
theorem d_X7_usedByTree_11 : decode cX7_usedByTree 11 = .ok (.iconst 0, 1) := by decide +kernel
theorem d_X7_usedByTree_12 : decode cX7_usedByTree 12 = .ok (.iconst 0, 1) := by decide +kernel
theorem d_X7_usedByTree_13 : decode cX7_usedByTree 13 = .ok (.invokestatic 261, 3) := by decide +kernel
theorem ck_RX7_261 : CKS RX7 261 Y_X7_store 3 := ⟨KW.at (i := 411) (by decide +kernel) rfl, sm_X7_store, mk_X7_store⟩
theorem sh_1 : SH.getD 1 (9, 0, []) = (1, 80, []) := rfl
theorem d_X7_usedByTree_16 : decode cX7_usedByTree 16 = .ok (.iconst 1, 1) := by decide +kernel
theorem d_X7_usedByTree_17 : decode cX7_usedByTree 17 = .ok (.istore_n 1, 1) := by decide +kernel
theorem d_X7_usedByTree_18 : decode cX7_usedByTree 18 = .ok (.iconst 0, 1) := by decide +kernel
theorem d_X7_usedByTree_19 : decode cX7_usedByTree 19 = .ok (.istore_n 2, 1) := by decide +kernel
theorem d_X7_usedByTree_20 : decode cX7_usedByTree 20 = .ok (.iconst 0, 1) := by decide +kernel
theorem d_X7_usedByTree_21 : decode cX7_usedByTree 21 = .ok (.istore_n 3, 1) := by decide +kernel
theorem d_X7_usedByTree_22 : decode cX7_usedByTree 22 = .ok (.iload_n 3, 1) := by decide +kernel
theorem d_X7_usedByTree_23 : decode cX7_usedByTree 23 = .ok (.iload_n 1, 1) := by decide +kernel
theorem d_X7_usedByTree_24 : decode cX7_usedByTree 24 = .ok (.if_icmp .ge 97, 3) := by decide +kernel
theorem d_X7_usedByTree_121 : decode cX7_usedByTree 121 = .ok (.iload_n 2, 1) := by decide +kernel
theorem d_X7_usedByTree_122 : decode cX7_usedByTree 122 = .ok (.ireturn, 1) := by decide +kernel
theorem d_X7_usedByTree_27 : decode cX7_usedByTree 27 = .ok (.iload_n 3, 1) := by decide +kernel
theorem d_X7_usedByTree_28 : decode cX7_usedByTree 28 = .ok (.bipush 80, 2) := by decide +kernel
theorem d_X7_usedByTree_30 : decode cX7_usedByTree 30 = .ok (.if_icmp .ge 91, 3) := by decide +kernel
theorem d_X7_usedByTree_33 : decode cX7_usedByTree 33 = .ok (.aload_n 0, 1) := by decide +kernel
theorem d_X7_usedByTree_34 : decode cX7_usedByTree 34 = .ok (.getfield 21, 3) := by decide +kernel
theorem d_X7_usedByTree_37 : decode cX7_usedByTree 37 = .ok (.aload_n 0, 1) := by decide +kernel
theorem d_X7_usedByTree_38 : decode cX7_usedByTree 38 = .ok (.getfield 9, 3) := by decide +kernel
theorem d_X7_usedByTree_41 : decode cX7_usedByTree 41 = .ok (.iload_n 3, 1) := by decide +kernel
theorem d_X7_usedByTree_42 : decode cX7_usedByTree 42 = .ok (.invokestatic 265, 3) := by decide +kernel
theorem ck_RX7_265 : CKS RX7 265 Y_X7_read 2 := ⟨KW.at (i := 412) (by decide +kernel) rfl, sm_X7_read, mk_X7_read⟩
theorem d_X7_usedByTree_45 : decode cX7_usedByTree 45 = .ok (.invokevirtual 108, 3) := by decide +kernel
theorem d_X7_usedByTree_48 : decode cX7_usedByTree 48 = .ok (.istore 4, 2) := by decide +kernel
theorem d_X7_usedByTree_50 : decode cX7_usedByTree 50 = .ok (.iload_n 2, 1) := by decide +kernel
theorem d_X7_usedByTree_51 : decode cX7_usedByTree 51 = .ok (.aload_n 0, 1) := by decide +kernel
theorem d_X7_usedByTree_52 : decode cX7_usedByTree 52 = .ok (.getfield 21, 3) := by decide +kernel
theorem d_X7_usedByTree_55 : decode cX7_usedByTree 55 = .ok (.iload 4, 2) := by decide +kernel
theorem d_X7_usedByTree_57 : decode cX7_usedByTree 57 = .ok (.invokevirtual 252, 3) := by decide +kernel
theorem d_X7_usedByTree_60 : decode cX7_usedByTree 60 = .ok (.iadd, 1) := by decide +kernel
theorem d_X7_usedByTree_61 : decode cX7_usedByTree 61 = .ok (.istore_n 2, 1) := by decide +kernel
theorem d_X7_usedByTree_62 : decode cX7_usedByTree 62 = .ok (.iload_n 2, 1) := by decide +kernel
theorem d_X7_usedByTree_63 : decode cX7_usedByTree 63 = .ok (.aload_n 0, 1) := by decide +kernel
theorem d_X7_usedByTree_64 : decode cX7_usedByTree 64 = .ok (.getfield 34, 3) := by decide +kernel
theorem d_X7_usedByTree_67 : decode cX7_usedByTree 67 = .ok (.iload 4, 2) := by decide +kernel
theorem d_X7_usedByTree_69 : decode cX7_usedByTree 69 = .ok (.invokevirtual 269, 3) := by decide +kernel
abbrev Y_X3_unitsOf : YT := (cX3_unitsOf, 6, (some .int), yX3_unitsOf, [], 4)
theorem mk_X3_unitsOf : MK Y_X3_unitsOf 1 := ⟨KW.at (i := 78) (by decide +kernel) rfl, KW.at (i := 424) (by decide +kernel) rfl, ⟨by decide +kernel, by decide +kernel⟩, by decide +kernel, by decide +kernel, rfl, by decide⟩
theorem vm_X3_unitsOf : KW (.instanceMethod (yN Y_X3_unitsOf)) ∧ KW (.selects (yN Y_X3_unitsOf).cls (yN Y_X3_unitsOf) (yN Y_X3_unitsOf)) := ⟨KW.at (i := 422) (by decide +kernel) rfl, KW.at (i := 423) (by decide +kernel) rfl⟩
theorem ck_RX7_269 : CKV RX7 269 Y_X3_unitsOf 1 := ⟨KW.at (i := 421) (by decide +kernel) rfl, vm_X3_unitsOf.1, vm_X3_unitsOf.2, mk_X3_unitsOf⟩
theorem d_X3_unitsOf_0 : decode cX3_unitsOf 0 = .ok (.aload_n 0, 1) := by decide +kernel
theorem d_X3_unitsOf_1 : decode cX3_unitsOf 1 = .ok (.getfield 9, 3) := by decide +kernel
theorem d_X3_unitsOf_4 : decode cX3_unitsOf 4 = .ok (.iload_n 1, 1) := by decide +kernel
theorem d_X3_unitsOf_5 : decode cX3_unitsOf 5 = .ok (.iconst 2, 1) := by decide +kernel
theorem d_X3_unitsOf_6 : decode cX3_unitsOf 6 = .ok (.iadd, 1) := by decide +kernel
theorem d_X3_unitsOf_7 : decode cX3_unitsOf 7 = .ok (.invokevirtual 23, 3) := by decide +kernel
theorem d_X3_unitsOf_10 : decode cX3_unitsOf 10 = .ok (.istore_n 2, 1) := by decide +kernel
theorem d_X3_unitsOf_11 : decode cX3_unitsOf 11 = .ok (.aload_n 0, 1) := by decide +kernel
theorem d_X3_unitsOf_12 : decode cX3_unitsOf 12 = .ok (.iload_n 1, 1) := by decide +kernel
theorem d_X3_unitsOf_13 : decode cX3_unitsOf 13 = .ok (.invokevirtual 35, 3) := by decide +kernel
theorem d_X3_unitsOf_16 : decode cX3_unitsOf 16 = .ok (.istore_n 3, 1) := by decide +kernel
theorem d_X3_unitsOf_17 : decode cX3_unitsOf 17 = .ok (.iload_n 3, 1) := by decide +kernel
theorem d_X3_unitsOf_18 : decode cX3_unitsOf 18 = .ok (.iconst 1, 1) := by decide +kernel
theorem d_X3_unitsOf_19 : decode cX3_unitsOf 19 = .ok (.if_icmp .le 14, 3) := by decide +kernel
theorem d_X3_unitsOf_34 : decode cX3_unitsOf 34 = .ok (.istore 4, 2) := by decide +kernel
theorem d_X3_unitsOf_36 : decode cX3_unitsOf 36 = .ok (.iconst 0, 1) := by decide +kernel
theorem d_X3_unitsOf_37 : decode cX3_unitsOf 37 = .ok (.istore 5, 2) := by decide +kernel
theorem d_X3_unitsOf_39 : decode cX3_unitsOf 39 = .ok (.iload 5, 2) := by decide +kernel
theorem d_X3_unitsOf_41 : decode cX3_unitsOf 41 = .ok (.iload_n 3, 1) := by decide +kernel
theorem d_X3_unitsOf_42 : decode cX3_unitsOf 42 = .ok (.if_icmp .ge 28, 3) := by decide +kernel
theorem d_X3_unitsOf_70 : decode cX3_unitsOf 70 = .ok (.iload 4, 2) := by decide +kernel
theorem d_X3_unitsOf_72 : decode cX3_unitsOf 72 = .ok (.ireturn, 1) := by decide +kernel
theorem d_X3_unitsOf_45 : decode cX3_unitsOf 45 = .ok (.iload 4, 2) := by decide +kernel
theorem d_X3_unitsOf_47 : decode cX3_unitsOf 47 = .ok (.aload_n 0, 1) := by decide +kernel
theorem d_X3_unitsOf_48 : decode cX3_unitsOf 48 = .ok (.getfield 9, 3) := by decide +kernel
theorem d_X3_unitsOf_51 : decode cX3_unitsOf 51 = .ok (.aload_n 0, 1) := by decide +kernel
theorem d_X3_unitsOf_52 : decode cX3_unitsOf 52 = .ok (.iload_n 1, 1) := by decide +kernel
theorem d_X3_unitsOf_53 : decode cX3_unitsOf 53 = .ok (.iload 5, 2) := by decide +kernel
theorem d_X3_unitsOf_55 : decode cX3_unitsOf 55 = .ok (.invokevirtual 38, 3) := by decide +kernel
theorem d_X3_unitsOf_58 : decode cX3_unitsOf 58 = .ok (.invokevirtual 48, 3) := by decide +kernel
theorem ck_RX3_48 : CKV RX3 48 Y_X2_sizeAt 1 := ⟨KW.at (i := 439) (by decide +kernel) rfl, vm_X2_sizeAt.1, vm_X2_sizeAt.2, mk_X2_sizeAt⟩
theorem d_X3_unitsOf_61 : decode cX3_unitsOf 61 = .ok (.iadd, 1) := by decide +kernel
theorem d_X3_unitsOf_62 : decode cX3_unitsOf 62 = .ok (.istore 4, 2) := by decide +kernel
theorem d_X3_unitsOf_64 : decode cX3_unitsOf 64 = .ok (.iinc 5 1, 3) := by decide +kernel
theorem d_X3_unitsOf_67 : decode cX3_unitsOf 67 = .ok (.goto (-28), 3) := by decide +kernel
theorem d_X3_unitsOf_33 : decode cX3_unitsOf 33 = .ok (.iconst 0, 1) := by decide +kernel
theorem d_X3_unitsOf_22 : decode cX3_unitsOf 22 = .ok (.aload_n 0, 1) := by decide +kernel
theorem d_X3_unitsOf_23 : decode cX3_unitsOf 23 = .ok (.getfield 9, 3) := by decide +kernel
theorem d_X3_unitsOf_26 : decode cX3_unitsOf 26 = .ok (.iload_n 2, 1) := by decide +kernel
theorem d_X3_unitsOf_27 : decode cX3_unitsOf 27 = .ok (.invokevirtual 48, 3) := by decide +kernel
theorem d_X3_unitsOf_30 : decode cX3_unitsOf 30 = .ok (.goto 4, 3) := by decide +kernel
theorem d_X7_usedByTree_72 : decode cX7_usedByTree 72 = .ok (.iadd, 1) := by decide +kernel
theorem d_X7_usedByTree_73 : decode cX7_usedByTree 73 = .ok (.istore_n 2, 1) := by decide +kernel
theorem d_X7_usedByTree_74 : decode cX7_usedByTree 74 = .ok (.iload_n 2, 1) := by decide +kernel
theorem d_X7_usedByTree_75 : decode cX7_usedByTree 75 = .ok (.aload_n 0, 1) := by decide +kernel
theorem d_X7_usedByTree_76 : decode cX7_usedByTree 76 = .ok (.getfield 41, 3) := by decide +kernel
theorem d_X7_usedByTree_79 : decode cX7_usedByTree 79 = .ok (.iload 4, 2) := by decide +kernel
theorem d_X7_usedByTree_81 : decode cX7_usedByTree 81 = .ok (.invokevirtual 272, 3) := by decide +kernel
abbrev Y_X5_unitsOf : YT := (cX5_unitsOf, 8, (some .int), yX5_unitsOf, [], 4)
theorem mk_X5_unitsOf : MK Y_X5_unitsOf 1 := ⟨KW.at (i := 79) (by decide +kernel) rfl, KW.at (i := 451) (by decide +kernel) rfl, ⟨by decide +kernel, by decide +kernel⟩, by decide +kernel, by decide +kernel, rfl, by decide⟩
theorem vm_X5_unitsOf : KW (.instanceMethod (yN Y_X5_unitsOf)) ∧ KW (.selects (yN Y_X5_unitsOf).cls (yN Y_X5_unitsOf) (yN Y_X5_unitsOf)) := ⟨KW.at (i := 449) (by decide +kernel) rfl, KW.at (i := 450) (by decide +kernel) rfl⟩
theorem ck_RX7_272 : CKV RX7 272 Y_X5_unitsOf 1 := ⟨KW.at (i := 448) (by decide +kernel) rfl, vm_X5_unitsOf.1, vm_X5_unitsOf.2, mk_X5_unitsOf⟩
theorem d_X5_unitsOf_0 : decode cX5_unitsOf 0 = .ok (.aload_n 0, 1) := by decide +kernel
theorem d_X5_unitsOf_1 : decode cX5_unitsOf 1 = .ok (.iload_n 1, 1) := by decide +kernel
theorem d_X5_unitsOf_2 : decode cX5_unitsOf 2 = .ok (.invokevirtual 28, 3) := by decide +kernel
theorem d_X5_unitsOf_5 : decode cX5_unitsOf 5 = .ok (.istore_n 2, 1) := by decide +kernel
theorem d_X5_unitsOf_6 : decode cX5_unitsOf 6 = .ok (.iload_n 2, 1) := by decide +kernel
theorem d_X5_unitsOf_7 : decode cX5_unitsOf 7 = .ok (.ifCond .ne 7, 3) := by decide +kernel
theorem d_X5_unitsOf_31 : decode cX5_unitsOf 31 = .ok (.istore_n 3, 1) := by decide +kernel
theorem d_X5_unitsOf_32 : decode cX5_unitsOf 32 = .ok (.iconst 0, 1) := by decide +kernel
theorem d_X5_unitsOf_33 : decode cX5_unitsOf 33 = .ok (.istore 4, 2) := by decide +kernel
theorem d_X5_unitsOf_35 : decode cX5_unitsOf 35 = .ok (.iload 4, 2) := by decide +kernel
theorem d_X5_unitsOf_37 : decode cX5_unitsOf 37 = .ok (.iload_n 2, 1) := by decide +kernel
theorem d_X5_unitsOf_38 : decode cX5_unitsOf 38 = .ok (.if_icmp .ge 86, 3) := by decide +kernel
theorem d_X5_unitsOf_124 : decode cX5_unitsOf 124 = .ok (.iload_n 3, 1) := by decide +kernel
theorem d_X5_unitsOf_125 : decode cX5_unitsOf 125 = .ok (.ireturn, 1) := by decide +kernel
theorem d_X5_unitsOf_41 : decode cX5_unitsOf 41 = .ok (.aload_n 0, 1) := by decide +kernel
theorem d_X5_unitsOf_42 : decode cX5_unitsOf 42 = .ok (.iload_n 1, 1) := by decide +kernel
theorem d_X5_unitsOf_43 : decode cX5_unitsOf 43 = .ok (.iload 4, 2) := by decide +kernel
theorem d_X5_unitsOf_45 : decode cX5_unitsOf 45 = .ok (.invokevirtual 31, 3) := by decide +kernel
theorem d_X5_unitsOf_48 : decode cX5_unitsOf 48 = .ok (.istore 5, 2) := by decide +kernel
theorem d_X5_unitsOf_50 : decode cX5_unitsOf 50 = .ok (.iload_n 3, 1) := by decide +kernel
theorem d_X5_unitsOf_51 : decode cX5_unitsOf 51 = .ok (.aload_n 0, 1) := by decide +kernel
theorem d_X5_unitsOf_52 : decode cX5_unitsOf 52 = .ok (.getfield 9, 3) := by decide +kernel
theorem d_X5_unitsOf_55 : decode cX5_unitsOf 55 = .ok (.iload 5, 2) := by decide +kernel
theorem d_X5_unitsOf_57 : decode cX5_unitsOf 57 = .ok (.invokevirtual 35, 3) := by decide +kernel
theorem d_X5_unitsOf_60 : decode cX5_unitsOf 60 = .ok (.iadd, 1) := by decide +kernel
theorem d_X5_unitsOf_61 : decode cX5_unitsOf 61 = .ok (.istore_n 3, 1) := by decide +kernel
theorem d_X5_unitsOf_62 : decode cX5_unitsOf 62 = .ok (.aload_n 0, 1) := by decide +kernel
theorem d_X5_unitsOf_63 : decode cX5_unitsOf 63 = .ok (.getfield 9, 3) := by decide +kernel
theorem d_X5_unitsOf_66 : decode cX5_unitsOf 66 = .ok (.iload 5, 2) := by decide +kernel
theorem d_X5_unitsOf_68 : decode cX5_unitsOf 68 = .ok (.iconst 2, 1) := by decide +kernel
theorem d_X5_unitsOf_69 : decode cX5_unitsOf 69 = .ok (.iadd, 1) := by decide +kernel
theorem d_X5_unitsOf_70 : decode cX5_unitsOf 70 = .ok (.invokevirtual 19, 3) := by decide +kernel
theorem d_X5_unitsOf_73 : decode cX5_unitsOf 73 = .ok (.istore 6, 2) := by decide +kernel
theorem d_X5_unitsOf_75 : decode cX5_unitsOf 75 = .ok (.iconst 0, 1) := by decide +kernel
theorem d_X5_unitsOf_76 : decode cX5_unitsOf 76 = .ok (.istore 7, 2) := by decide +kernel
theorem d_X5_unitsOf_78 : decode cX5_unitsOf 78 = .ok (.iload 7, 2) := by decide +kernel
theorem d_X5_unitsOf_80 : decode cX5_unitsOf 80 = .ok (.iconst 4, 1) := by decide +kernel
theorem d_X5_unitsOf_81 : decode cX5_unitsOf 81 = .ok (.if_icmp .ge 37, 3) := by decide +kernel
theorem d_X5_unitsOf_84 : decode cX5_unitsOf 84 = .ok (.iload 6, 2) := by decide +kernel
theorem d_X5_unitsOf_86 : decode cX5_unitsOf 86 = .ok (.ifCond .eq 32, 3) := by decide +kernel
theorem d_X5_unitsOf_89 : decode cX5_unitsOf 89 = .ok (.iload_n 3, 1) := by decide +kernel
theorem d_X5_unitsOf_90 : decode cX5_unitsOf 90 = .ok (.aload_n 0, 1) := by decide +kernel
theorem d_X5_unitsOf_91 : decode cX5_unitsOf 91 = .ok (.getfield 9, 3) := by decide +kernel
theorem d_X5_unitsOf_94 : decode cX5_unitsOf 94 = .ok (.iload 6, 2) := by decide +kernel
theorem d_X5_unitsOf_96 : decode cX5_unitsOf 96 = .ok (.invokevirtual 35, 3) := by decide +kernel
theorem d_X5_unitsOf_99 : decode cX5_unitsOf 99 = .ok (.iadd, 1) := by decide +kernel
theorem d_X5_unitsOf_100 : decode cX5_unitsOf 100 = .ok (.istore_n 3, 1) := by decide +kernel
theorem d_X5_unitsOf_101 : decode cX5_unitsOf 101 = .ok (.aload_n 0, 1) := by decide +kernel
theorem d_X5_unitsOf_102 : decode cX5_unitsOf 102 = .ok (.getfield 9, 3) := by decide +kernel
theorem d_X5_unitsOf_105 : decode cX5_unitsOf 105 = .ok (.iload 6, 2) := by decide +kernel
theorem d_X5_unitsOf_107 : decode cX5_unitsOf 107 = .ok (.invokevirtual 19, 3) := by decide +kernel
theorem d_X5_unitsOf_110 : decode cX5_unitsOf 110 = .ok (.istore 6, 2) := by decide +kernel
theorem d_X5_unitsOf_112 : decode cX5_unitsOf 112 = .ok (.iinc 7 1, 3) := by decide +kernel
theorem d_X5_unitsOf_115 : decode cX5_unitsOf 115 = .ok (.goto (-37), 3) := by decide +kernel
theorem d_X5_unitsOf_118 : decode cX5_unitsOf 118 = .ok (.iinc 4 1, 3) := by decide +kernel
theorem d_X5_unitsOf_121 : decode cX5_unitsOf 121 = .ok (.goto (-86), 3) := by decide +kernel
theorem d_X5_unitsOf_14 : decode cX5_unitsOf 14 = .ok (.aload_n 0, 1) := by decide +kernel
theorem d_X5_unitsOf_15 : decode cX5_unitsOf 15 = .ok (.getfield 9, 3) := by decide +kernel
theorem d_X5_unitsOf_18 : decode cX5_unitsOf 18 = .ok (.aload_n 0, 1) := by decide +kernel
theorem d_X5_unitsOf_19 : decode cX5_unitsOf 19 = .ok (.getfield 9, 3) := by decide +kernel
theorem d_X5_unitsOf_22 : decode cX5_unitsOf 22 = .ok (.iload_n 1, 1) := by decide +kernel
theorem d_X5_unitsOf_23 : decode cX5_unitsOf 23 = .ok (.iconst 3, 1) := by decide +kernel
theorem d_X5_unitsOf_24 : decode cX5_unitsOf 24 = .ok (.iadd, 1) := by decide +kernel
theorem d_X5_unitsOf_25 : decode cX5_unitsOf 25 = .ok (.invokevirtual 19, 3) := by decide +kernel
theorem d_X5_unitsOf_28 : decode cX5_unitsOf 28 = .ok (.invokevirtual 35, 3) := by decide +kernel
theorem d_X5_unitsOf_10 : decode cX5_unitsOf 10 = .ok (.iconst 0, 1) := by decide +kernel
theorem d_X5_unitsOf_11 : decode cX5_unitsOf 11 = .ok (.goto 20, 3) := by decide +kernel
theorem d_X7_usedByTree_84 : decode cX7_usedByTree 84 = .ok (.iadd, 1) := by decide +kernel
theorem d_X7_usedByTree_85 : decode cX7_usedByTree 85 = .ok (.istore_n 2, 1) := by decide +kernel
theorem d_X7_usedByTree_86 : decode cX7_usedByTree 86 = .ok (.iload_n 2, 1) := by decide +kernel
theorem d_X7_usedByTree_87 : decode cX7_usedByTree 87 = .ok (.aload_n 0, 1) := by decide +kernel
theorem d_X7_usedByTree_88 : decode cX7_usedByTree 88 = .ok (.getfield 48, 3) := by decide +kernel
theorem d_X7_usedByTree_91 : decode cX7_usedByTree 91 = .ok (.aload_n 0, 1) := by decide +kernel
theorem d_X7_usedByTree_92 : decode cX7_usedByTree 92 = .ok (.getfield 21, 3) := by decide +kernel
theorem d_X7_usedByTree_95 : decode cX7_usedByTree 95 = .ok (.iload 4, 2) := by decide +kernel
theorem d_X7_usedByTree_97 : decode cX7_usedByTree 97 = .ok (.iconst 4, 1) := by decide +kernel
theorem d_X7_usedByTree_98 : decode cX7_usedByTree 98 = .ok (.iadd, 1) := by decide +kernel
theorem d_X7_usedByTree_99 : decode cX7_usedByTree 99 = .ok (.invokevirtual 111, 3) := by decide +kernel
theorem d_X7_usedByTree_102 : decode cX7_usedByTree 102 = .ok (.invokevirtual 273, 3) := by decide +kernel
abbrev Y_X4_unitsNotYetCounted : YT := (cX4_unitsNotYetCounted, 3, (some .int), yX4_unitsNotYetCounted, [], 3)
theorem mk_X4_unitsNotYetCounted : MK Y_X4_unitsNotYetCounted 1 := ⟨KW.at (i := 80) (by decide +kernel) rfl, KW.at (i := 468) (by decide +kernel) rfl, ⟨by decide +kernel, by decide +kernel⟩, by decide +kernel, by decide +kernel, rfl, by decide⟩
theorem vm_X4_unitsNotYetCounted : KW (.instanceMethod (yN Y_X4_unitsNotYetCounted)) ∧ KW (.selects (yN Y_X4_unitsNotYetCounted).cls (yN Y_X4_unitsNotYetCounted) (yN Y_X4_unitsNotYetCounted)) := ⟨KW.at (i := 466) (by decide +kernel) rfl, KW.at (i := 467) (by decide +kernel) rfl⟩
theorem ck_RX7_273 : CKV RX7 273 Y_X4_unitsNotYetCounted 1 := ⟨KW.at (i := 465) (by decide +kernel) rfl, vm_X4_unitsNotYetCounted.1, vm_X4_unitsNotYetCounted.2, mk_X4_unitsNotYetCounted⟩
theorem d_X4_unitsNotYetCounted_0 : decode cX4_unitsNotYetCounted 0 = .ok (.aload_n 0, 1) := by decide +kernel
theorem d_X4_unitsNotYetCounted_1 : decode cX4_unitsNotYetCounted 1 = .ok (.getfield 9, 3) := by decide +kernel
theorem d_X4_unitsNotYetCounted_4 : decode cX4_unitsNotYetCounted 4 = .ok (.iload_n 1, 1) := by decide +kernel
theorem d_X4_unitsNotYetCounted_5 : decode cX4_unitsNotYetCounted 5 = .ok (.invokestatic 73, 3) := by decide +kernel
theorem ck_RX4_73 : CKN RX4 73 Y_X7_read 2 := ⟨KW.at (i := 469) (by decide +kernel) rfl, sm_X7_read, mk_X7_read⟩
theorem d_X4_unitsNotYetCounted_8 : decode cX4_unitsNotYetCounted 8 = .ok (.ifCond .ne 21, 3) := by decide +kernel
theorem d_X4_unitsNotYetCounted_30 : decode cX4_unitsNotYetCounted 30 = .ok (.istore_n 2, 1) := by decide +kernel
theorem d_X4_unitsNotYetCounted_31 : decode cX4_unitsNotYetCounted 31 = .ok (.aload_n 0, 1) := by decide +kernel
theorem d_X4_unitsNotYetCounted_32 : decode cX4_unitsNotYetCounted 32 = .ok (.getfield 9, 3) := by decide +kernel
theorem d_X4_unitsNotYetCounted_35 : decode cX4_unitsNotYetCounted 35 = .ok (.iload_n 1, 1) := by decide +kernel
theorem d_X4_unitsNotYetCounted_36 : decode cX4_unitsNotYetCounted 36 = .ok (.iconst 1, 1) := by decide +kernel
theorem d_X4_unitsNotYetCounted_37 : decode cX4_unitsNotYetCounted 37 = .ok (.invokestatic 80, 3) := by decide +kernel
theorem ck_RX4_80 : CKN RX4 80 Y_X7_store 3 := ⟨KW.at (i := 471) (by decide +kernel) rfl, sm_X7_store, mk_X7_store⟩
theorem d_X4_unitsNotYetCounted_40 : decode cX4_unitsNotYetCounted 40 = .ok (.iload_n 2, 1) := by decide +kernel
theorem d_X4_unitsNotYetCounted_41 : decode cX4_unitsNotYetCounted 41 = .ok (.ireturn, 1) := by decide +kernel
theorem d_X4_unitsNotYetCounted_29 : decode cX4_unitsNotYetCounted 29 = .ok (.iconst 0, 1) := by decide +kernel
theorem d_X4_unitsNotYetCounted_11 : decode cX4_unitsNotYetCounted 11 = .ok (.aload_n 0, 1) := by decide +kernel
theorem d_X4_unitsNotYetCounted_12 : decode cX4_unitsNotYetCounted 12 = .ok (.getfield 15, 3) := by decide +kernel
theorem d_X4_unitsNotYetCounted_15 : decode cX4_unitsNotYetCounted 15 = .ok (.aload_n 0, 1) := by decide +kernel
theorem d_X4_unitsNotYetCounted_16 : decode cX4_unitsNotYetCounted 16 = .ok (.getfield 15, 3) := by decide +kernel
theorem d_X4_unitsNotYetCounted_19 : decode cX4_unitsNotYetCounted 19 = .ok (.iload_n 1, 1) := by decide +kernel
theorem d_X4_unitsNotYetCounted_20 : decode cX4_unitsNotYetCounted 20 = .ok (.invokevirtual 23, 3) := by decide +kernel
theorem d_X4_unitsNotYetCounted_23 : decode cX4_unitsNotYetCounted 23 = .ok (.invokevirtual 77, 3) := by decide +kernel
theorem ck_RX4_77 : CKV RX4 77 Y_X2_sizeAt 1 := ⟨KW.at (i := 470) (by decide +kernel) rfl, vm_X2_sizeAt.1, vm_X2_sizeAt.2, mk_X2_sizeAt⟩
theorem d_X4_unitsNotYetCounted_26 : decode cX4_unitsNotYetCounted 26 = .ok (.goto 4, 3) := by decide +kernel
theorem d_X7_usedByTree_105 : decode cX7_usedByTree 105 = .ok (.iadd, 1) := by decide +kernel
theorem d_X7_usedByTree_106 : decode cX7_usedByTree 106 = .ok (.istore_n 2, 1) := by decide +kernel
theorem d_X7_usedByTree_107 : decode cX7_usedByTree 107 = .ok (.aload_n 0, 1) := by decide +kernel
theorem d_X7_usedByTree_108 : decode cX7_usedByTree 108 = .ok (.iload 4, 2) := by decide +kernel
theorem d_X7_usedByTree_110 : decode cX7_usedByTree 110 = .ok (.iload_n 1, 1) := by decide +kernel
theorem d_X7_usedByTree_111 : decode cX7_usedByTree 111 = .ok (.invokevirtual 276, 3) := by decide +kernel
abbrev Y_X7_addSubkeysToWalk : YT := (cX7_addSubkeysToWalk, 5, (some .int), yX7_addSubkeysToWalk, [], 5)
theorem mk_X7_addSubkeysToWalk : MK Y_X7_addSubkeysToWalk 2 := ⟨KW.at (i := 75) (by decide +kernel) rfl, KW.at (i := 475) (by decide +kernel) rfl, ⟨by decide +kernel, by decide +kernel⟩, by decide +kernel, by decide +kernel, rfl, by decide⟩
theorem vm_X7_addSubkeysToWalk : KW (.instanceMethod (yN Y_X7_addSubkeysToWalk)) ∧ KW (.selects (yN Y_X7_addSubkeysToWalk).cls (yN Y_X7_addSubkeysToWalk) (yN Y_X7_addSubkeysToWalk)) := ⟨KW.at (i := 474) (by decide +kernel) rfl, KW.at (i := 8) (by decide +kernel) rfl⟩
theorem ck_RX7_276 : CKV RX7 276 Y_X7_addSubkeysToWalk 2 := ⟨KW.at (i := 472) (by decide +kernel) rfl, vm_X7_addSubkeysToWalk.1, vm_X7_addSubkeysToWalk.2, mk_X7_addSubkeysToWalk⟩
theorem d_X7_addSubkeysToWalk_0 : decode cX7_addSubkeysToWalk 0 = .ok (.aload_n 0, 1) := by decide +kernel
theorem d_X7_addSubkeysToWalk_1 : decode cX7_addSubkeysToWalk 1 = .ok (.getfield 34, 3) := by decide +kernel
theorem d_X7_addSubkeysToWalk_4 : decode cX7_addSubkeysToWalk 4 = .ok (.iload_n 1, 1) := by decide +kernel
theorem d_X7_addSubkeysToWalk_5 : decode cX7_addSubkeysToWalk 5 = .ok (.invokevirtual 170, 3) := by decide +kernel
theorem d_X7_addSubkeysToWalk_8 : decode cX7_addSubkeysToWalk 8 = .ok (.istore_n 3, 1) := by decide +kernel
theorem d_X7_addSubkeysToWalk_9 : decode cX7_addSubkeysToWalk 9 = .ok (.iconst 0, 1) := by decide +kernel
theorem d_X7_addSubkeysToWalk_10 : decode cX7_addSubkeysToWalk 10 = .ok (.istore 4, 2) := by decide +kernel
theorem d_X7_addSubkeysToWalk_12 : decode cX7_addSubkeysToWalk 12 = .ok (.iload 4, 2) := by decide +kernel
theorem d_X7_addSubkeysToWalk_14 : decode cX7_addSubkeysToWalk 14 = .ok (.iload_n 3, 1) := by decide +kernel
theorem d_X7_addSubkeysToWalk_15 : decode cX7_addSubkeysToWalk 15 = .ok (.if_icmp .ge 30, 3) := by decide +kernel
theorem d_X7_addSubkeysToWalk_18 : decode cX7_addSubkeysToWalk 18 = .ok (.aload_n 0, 1) := by decide +kernel
theorem d_X7_addSubkeysToWalk_19 : decode cX7_addSubkeysToWalk 19 = .ok (.getfield 9, 3) := by decide +kernel
theorem d_X7_addSubkeysToWalk_22 : decode cX7_addSubkeysToWalk 22 = .ok (.iload_n 2, 1) := by decide +kernel
theorem d_X7_addSubkeysToWalk_23 : decode cX7_addSubkeysToWalk 23 = .ok (.iload 4, 2) := by decide +kernel
theorem d_X7_addSubkeysToWalk_25 : decode cX7_addSubkeysToWalk 25 = .ok (.iadd, 1) := by decide +kernel
theorem d_X7_addSubkeysToWalk_26 : decode cX7_addSubkeysToWalk 26 = .ok (.aload_n 0, 1) := by decide +kernel
theorem d_X7_addSubkeysToWalk_27 : decode cX7_addSubkeysToWalk 27 = .ok (.getfield 34, 3) := by decide +kernel
theorem d_X7_addSubkeysToWalk_30 : decode cX7_addSubkeysToWalk 30 = .ok (.iload_n 1, 1) := by decide +kernel
theorem d_X7_addSubkeysToWalk_31 : decode cX7_addSubkeysToWalk 31 = .ok (.iload 4, 2) := by decide +kernel
theorem d_X7_addSubkeysToWalk_33 : decode cX7_addSubkeysToWalk 33 = .ok (.invokevirtual 180, 3) := by decide +kernel
theorem d_X7_addSubkeysToWalk_36 : decode cX7_addSubkeysToWalk 36 = .ok (.invokestatic 261, 3) := by decide +kernel
theorem d_X7_addSubkeysToWalk_39 : decode cX7_addSubkeysToWalk 39 = .ok (.iinc 4 1, 3) := by decide +kernel
theorem d_X7_addSubkeysToWalk_42 : decode cX7_addSubkeysToWalk 42 = .ok (.goto (-30), 3) := by decide +kernel
theorem d_X7_addSubkeysToWalk_45 : decode cX7_addSubkeysToWalk 45 = .ok (.iload_n 2, 1) := by decide +kernel
theorem d_X7_addSubkeysToWalk_46 : decode cX7_addSubkeysToWalk 46 = .ok (.iload_n 3, 1) := by decide +kernel
theorem d_X7_addSubkeysToWalk_47 : decode cX7_addSubkeysToWalk 47 = .ok (.iadd, 1) := by decide +kernel
theorem d_X7_addSubkeysToWalk_48 : decode cX7_addSubkeysToWalk 48 = .ok (.ireturn, 1) := by decide +kernel
theorem d_X7_usedByTree_114 : decode cX7_usedByTree 114 = .ok (.istore_n 1, 1) := by decide +kernel
theorem d_X7_usedByTree_115 : decode cX7_usedByTree 115 = .ok (.iinc 3 1, 3) := by decide +kernel
theorem d_X7_usedByTree_118 : decode cX7_usedByTree 118 = .ok (.goto (-96), 3) := by decide +kernel
abbrev Y_X7_watch : YT := (cX7_watch, 5, (some .boolean), yX7_watch, [], 7)
theorem d_X7_watch_0 : decode cX7_watch 0 = .ok (.aload_n 0, 1) := by decide +kernel
theorem d_X7_watch_1 : decode cX7_watch 1 = .ok (.iload_n 1, 1) := by decide +kernel
theorem d_X7_watch_2 : decode cX7_watch 2 = .ok (.invokevirtual 95, 3) := by decide +kernel
theorem d_X7_watch_5 : decode cX7_watch 5 = .ok (.iload_n 2, 1) := by decide +kernel
theorem d_X7_watch_6 : decode cX7_watch 6 = .ok (.iconst 1, 1) := by decide +kernel
theorem d_X7_watch_7 : decode cX7_watch 7 = .ok (.if_icmp .lt 9, 3) := by decide +kernel
theorem d_X7_watch_16 : decode cX7_watch 16 = .ok (.new 279, 3) := by decide +kernel
theorem d_X7_watch_19 : decode cX7_watch 19 = .ok (.dup, 1) := by decide +kernel
theorem d_X7_watch_20 : decode cX7_watch 20 = .ok (.ldc_w 281, 3) := by decide +kernel
theorem d_X7_watch_23 : decode cX7_watch 23 = .ok (.invokespecial 283, 3) := by decide +kernel
theorem d_X7_watch_26 : decode cX7_watch 26 = .ok (.athrow, 1) := by decide +kernel
theorem d_X7_watch_10 : decode cX7_watch 10 = .ok (.iload_n 2, 1) := by decide +kernel
theorem d_X7_watch_11 : decode cX7_watch 11 = .ok (.bipush 7, 2) := by decide +kernel
theorem d_X7_watch_13 : decode cX7_watch 13 = .ok (.if_icmp .le 14, 3) := by decide +kernel
theorem d_X7_watch_27 : decode cX7_watch 27 = .ok (.aload_n 0, 1) := by decide +kernel
theorem d_X7_watch_28 : decode cX7_watch 28 = .ok (.getfield 55, 3) := by decide +kernel
theorem d_X7_watch_31 : decode cX7_watch 31 = .ok (.iload_n 1, 1) := by decide +kernel
theorem d_X7_watch_32 : decode cX7_watch 32 = .ok (.invokevirtual 284, 3) := by decide +kernel
abbrev Y_X6_isWatched : YT := (cX6_isWatched, 2, (some .boolean), yX6_isWatched, [], 2)
theorem mk_X6_isWatched : MK Y_X6_isWatched 1 := ⟨KW.at (i := 81) (by decide +kernel) rfl, KW.at (i := 1015) (by decide +kernel) rfl, ⟨by decide +kernel, by decide +kernel⟩, by decide +kernel, by decide +kernel, rfl, by decide⟩
theorem vm_X6_isWatched : KW (.instanceMethod (yN Y_X6_isWatched)) ∧ KW (.selects (yN Y_X6_isWatched).cls (yN Y_X6_isWatched) (yN Y_X6_isWatched)) := ⟨KW.at (i := 1013) (by decide +kernel) rfl, KW.at (i := 1014) (by decide +kernel) rfl⟩
theorem ck_RX7_284 : CKV RX7 284 Y_X6_isWatched 1 := ⟨KW.at (i := 1012) (by decide +kernel) rfl, vm_X6_isWatched.1, vm_X6_isWatched.2, mk_X6_isWatched⟩
theorem d_X6_isWatched_0 : decode cX6_isWatched 0 = .ok (.aload_n 0, 1) := by decide +kernel
theorem d_X6_isWatched_1 : decode cX6_isWatched 1 = .ok (.getfield 9, 3) := by decide +kernel
theorem d_X6_isWatched_4 : decode cX6_isWatched 4 = .ok (.iload_n 1, 1) := by decide +kernel
theorem d_X6_isWatched_5 : decode cX6_isWatched 5 = .ok (.invokestatic 24, 3) := by decide +kernel
theorem d_X6_isWatched_8 : decode cX6_isWatched 8 = .ok (.ifCond .eq 7, 3) := by decide +kernel
theorem d_X6_isWatched_15 : decode cX6_isWatched 15 = .ok (.iconst 0, 1) := by decide +kernel
theorem d_X6_isWatched_16 : decode cX6_isWatched 16 = .ok (.ireturn, 1) := by decide +kernel
theorem d_X6_isWatched_11 : decode cX6_isWatched 11 = .ok (.iconst 1, 1) := by decide +kernel
theorem d_X6_isWatched_12 : decode cX6_isWatched 12 = .ok (.goto 4, 3) := by decide +kernel
theorem d_X7_watch_35 : decode cX7_watch 35 = .ok (.ifCond .ne 7, 3) := by decide +kernel
theorem d_X7_watch_43 : decode cX7_watch 43 = .ok (.istore 4, 2) := by decide +kernel
theorem d_X7_watch_45 : decode cX7_watch 45 = .ok (.aload_n 0, 1) := by decide +kernel
theorem d_X7_watch_46 : decode cX7_watch 46 = .ok (.getfield 55, 3) := by decide +kernel
theorem d_X7_watch_49 : decode cX7_watch 49 = .ok (.iload_n 1, 1) := by decide +kernel
theorem d_X7_watch_50 : decode cX7_watch 50 = .ok (.iload_n 2, 1) := by decide +kernel
theorem d_X7_watch_51 : decode cX7_watch 51 = .ok (.iload_n 3, 1) := by decide +kernel
theorem d_X7_watch_52 : decode cX7_watch 52 = .ok (.invokevirtual 287, 3) := by decide +kernel
theorem ck_RX7_287 : CKV RX7 287 Y_X6_start 3 := ⟨KW.at (i := 1016) (by decide +kernel) rfl, vm_X6_start.1, vm_X6_start.2, mk_X6_start⟩
theorem d_X7_watch_55 : decode cX7_watch 55 = .ok (.iload 4, 2) := by decide +kernel
theorem d_X7_watch_57 : decode cX7_watch 57 = .ok (.ireturn, 1) := by decide +kernel
theorem d_X7_watch_42 : decode cX7_watch 42 = .ok (.iconst 0, 1) := by decide +kernel
theorem d_X7_watch_38 : decode cX7_watch 38 = .ok (.iconst 1, 1) := by decide +kernel
theorem d_X7_watch_39 : decode cX7_watch 39 = .ok (.goto 4, 3) := by decide +kernel
abbrev Y_X7_takeNotice : YT := (cX7_takeNotice, 2, (some .int), yX7_takeNotice, [], 3)
theorem d_X7_takeNotice_0 : decode cX7_takeNotice 0 = .ok (.aload_n 0, 1) := by decide +kernel
theorem d_X7_takeNotice_1 : decode cX7_takeNotice 1 = .ok (.getfield 55, 3) := by decide +kernel
theorem d_X7_takeNotice_4 : decode cX7_takeNotice 4 = .ok (.invokevirtual 291, 3) := by decide +kernel
abbrev Y_X6_keyToldFirst : YT := (cX6_keyToldFirst, 4, (some .int), yX6_keyToldFirst, [], 2)
theorem mk_X6_keyToldFirst : MK Y_X6_keyToldFirst 0 := ⟨KW.at (i := 81) (by decide +kernel) rfl, KW.at (i := 491) (by decide +kernel) rfl, ⟨by decide +kernel, by decide +kernel⟩, by decide +kernel, by decide +kernel, rfl, by decide⟩
theorem vm_X6_keyToldFirst : KW (.instanceMethod (yN Y_X6_keyToldFirst)) ∧ KW (.selects (yN Y_X6_keyToldFirst).cls (yN Y_X6_keyToldFirst) (yN Y_X6_keyToldFirst)) := ⟨KW.at (i := 489) (by decide +kernel) rfl, KW.at (i := 490) (by decide +kernel) rfl⟩
theorem ck_RX7_291 : CKV RX7 291 Y_X6_keyToldFirst 0 := ⟨KW.at (i := 488) (by decide +kernel) rfl, vm_X6_keyToldFirst.1, vm_X6_keyToldFirst.2, mk_X6_keyToldFirst⟩
theorem d_X6_keyToldFirst_0 : decode cX6_keyToldFirst 0 = .ok (.iconst (-1), 1) := by decide +kernel
theorem d_X6_keyToldFirst_1 : decode cX6_keyToldFirst 1 = .ok (.istore_n 1, 1) := by decide +kernel
theorem d_X6_keyToldFirst_2 : decode cX6_keyToldFirst 2 = .ok (.iconst 0, 1) := by decide +kernel
theorem d_X6_keyToldFirst_3 : decode cX6_keyToldFirst 3 = .ok (.istore_n 2, 1) := by decide +kernel
theorem d_X6_keyToldFirst_4 : decode cX6_keyToldFirst 4 = .ok (.iload_n 2, 1) := by decide +kernel
theorem d_X6_keyToldFirst_5 : decode cX6_keyToldFirst 5 = .ok (.bipush 80, 2) := by decide +kernel
theorem d_X6_keyToldFirst_7 : decode cX6_keyToldFirst 7 = .ok (.if_icmp .ge 41, 3) := by decide +kernel
theorem d_X6_keyToldFirst_48 : decode cX6_keyToldFirst 48 = .ok (.iload_n 1, 1) := by decide +kernel
theorem d_X6_keyToldFirst_49 : decode cX6_keyToldFirst 49 = .ok (.ireturn, 1) := by decide +kernel
theorem d_X6_keyToldFirst_10 : decode cX6_keyToldFirst 10 = .ok (.aload_n 0, 1) := by decide +kernel
theorem d_X6_keyToldFirst_11 : decode cX6_keyToldFirst 11 = .ok (.getfield 21, 3) := by decide +kernel
theorem d_X6_keyToldFirst_14 : decode cX6_keyToldFirst 14 = .ok (.iload_n 2, 1) := by decide +kernel
theorem d_X6_keyToldFirst_15 : decode cX6_keyToldFirst 15 = .ok (.invokestatic 24, 3) := by decide +kernel
theorem d_X6_keyToldFirst_18 : decode cX6_keyToldFirst 18 = .ok (.istore_n 3, 1) := by decide +kernel
theorem d_X6_keyToldFirst_19 : decode cX6_keyToldFirst 19 = .ok (.iload_n 3, 1) := by decide +kernel
theorem d_X6_keyToldFirst_20 : decode cX6_keyToldFirst 20 = .ok (.ifCond .eq 22, 3) := by decide +kernel
theorem d_X6_keyToldFirst_42 : decode cX6_keyToldFirst 42 = .ok (.iinc 2 1, 3) := by decide +kernel
theorem d_X6_keyToldFirst_45 : decode cX6_keyToldFirst 45 = .ok (.goto (-41), 3) := by decide +kernel
theorem d_X6_keyToldFirst_23 : decode cX6_keyToldFirst 23 = .ok (.iload_n 1, 1) := by decide +kernel
theorem d_X6_keyToldFirst_24 : decode cX6_keyToldFirst 24 = .ok (.iconst (-1), 1) := by decide +kernel
theorem d_X6_keyToldFirst_25 : decode cX6_keyToldFirst 25 = .ok (.if_icmp .eq 15, 3) := by decide +kernel
theorem d_X6_keyToldFirst_40 : decode cX6_keyToldFirst 40 = .ok (.iload_n 2, 1) := by decide +kernel
theorem d_X6_keyToldFirst_41 : decode cX6_keyToldFirst 41 = .ok (.istore_n 1, 1) := by decide +kernel
theorem d_X6_keyToldFirst_28 : decode cX6_keyToldFirst 28 = .ok (.iload_n 3, 1) := by decide +kernel
theorem d_X6_keyToldFirst_29 : decode cX6_keyToldFirst 29 = .ok (.aload_n 0, 1) := by decide +kernel
theorem d_X6_keyToldFirst_30 : decode cX6_keyToldFirst 30 = .ok (.getfield 21, 3) := by decide +kernel
theorem d_X6_keyToldFirst_33 : decode cX6_keyToldFirst 33 = .ok (.iload_n 1, 1) := by decide +kernel
theorem d_X6_keyToldFirst_34 : decode cX6_keyToldFirst 34 = .ok (.invokestatic 24, 3) := by decide +kernel
theorem d_X6_keyToldFirst_37 : decode cX6_keyToldFirst 37 = .ok (.if_icmp .ge 5, 3) := by decide +kernel
theorem d_X7_takeNotice_7 : decode cX7_takeNotice 7 = .ok (.istore_n 1, 1) := by decide +kernel
theorem d_X7_takeNotice_8 : decode cX7_takeNotice 8 = .ok (.iload_n 1, 1) := by decide +kernel
theorem d_X7_takeNotice_9 : decode cX7_takeNotice 9 = .ok (.iconst (-1), 1) := by decide +kernel
theorem d_X7_takeNotice_10 : decode cX7_takeNotice 10 = .ok (.if_icmp .ne 7, 3) := by decide +kernel
theorem d_X7_takeNotice_17 : decode cX7_takeNotice 17 = .ok (.bipush 10, 2) := by decide +kernel
theorem d_X7_takeNotice_19 : decode cX7_takeNotice 19 = .ok (.iload_n 1, 1) := by decide +kernel
theorem d_X7_takeNotice_20 : decode cX7_takeNotice 20 = .ok (.imul, 1) := by decide +kernel
theorem d_X7_takeNotice_21 : decode cX7_takeNotice 21 = .ok (.aload_n 0, 1) := by decide +kernel
theorem d_X7_takeNotice_22 : decode cX7_takeNotice 22 = .ok (.getfield 55, 3) := by decide +kernel
theorem d_X7_takeNotice_25 : decode cX7_takeNotice 25 = .ok (.iload_n 1, 1) := by decide +kernel
theorem d_X7_takeNotice_26 : decode cX7_takeNotice 26 = .ok (.invokevirtual 294, 3) := by decide +kernel
abbrev Y_X6_takeKindTold : YT := (cX6_takeKindTold, 2, (some .int), yX6_takeKindTold, [], 2)
theorem mk_X6_takeKindTold : MK Y_X6_takeKindTold 1 := ⟨KW.at (i := 81) (by decide +kernel) rfl, KW.at (i := 496) (by decide +kernel) rfl, ⟨by decide +kernel, by decide +kernel⟩, by decide +kernel, by decide +kernel, rfl, by decide⟩
theorem vm_X6_takeKindTold : KW (.instanceMethod (yN Y_X6_takeKindTold)) ∧ KW (.selects (yN Y_X6_takeKindTold).cls (yN Y_X6_takeKindTold) (yN Y_X6_takeKindTold)) := ⟨KW.at (i := 494) (by decide +kernel) rfl, KW.at (i := 495) (by decide +kernel) rfl⟩
theorem ck_RX7_294 : CKV RX7 294 Y_X6_takeKindTold 1 := ⟨KW.at (i := 493) (by decide +kernel) rfl, vm_X6_takeKindTold.1, vm_X6_takeKindTold.2, mk_X6_takeKindTold⟩
theorem d_X6_takeKindTold_0 : decode cX6_takeKindTold 0 = .ok (.aload_n 0, 1) := by decide +kernel
theorem d_X6_takeKindTold_1 : decode cX6_takeKindTold 1 = .ok (.getfield 21, 3) := by decide +kernel
theorem d_X6_takeKindTold_4 : decode cX6_takeKindTold 4 = .ok (.iload_n 1, 1) := by decide +kernel
theorem d_X6_takeKindTold_5 : decode cX6_takeKindTold 5 = .ok (.iconst 0, 1) := by decide +kernel
theorem d_X6_takeKindTold_6 : decode cX6_takeKindTold 6 = .ok (.invokestatic 28, 3) := by decide +kernel
theorem d_X6_takeKindTold_9 : decode cX6_takeKindTold 9 = .ok (.aload_n 0, 1) := by decide +kernel
theorem d_X6_takeKindTold_10 : decode cX6_takeKindTold 10 = .ok (.getfield 18, 3) := by decide +kernel
theorem d_X6_takeKindTold_13 : decode cX6_takeKindTold 13 = .ok (.iload_n 1, 1) := by decide +kernel
theorem d_X6_takeKindTold_14 : decode cX6_takeKindTold 14 = .ok (.invokestatic 24, 3) := by decide +kernel
theorem d_X6_takeKindTold_17 : decode cX6_takeKindTold 17 = .ok (.ireturn, 1) := by decide +kernel
theorem d_X7_takeNotice_29 : decode cX7_takeNotice 29 = .ok (.iadd, 1) := by decide +kernel
theorem d_X7_takeNotice_30 : decode cX7_takeNotice 30 = .ok (.ireturn, 1) := by decide +kernel
theorem d_X7_takeNotice_13 : decode cX7_takeNotice 13 = .ok (.iconst (-1), 1) := by decide +kernel
theorem d_X7_takeNotice_14 : decode cX7_takeNotice 14 = .ok (.goto 16, 3) := by decide +kernel
abbrev Y_X7_dirty : YT := (cX7_dirty, 1, (some .long), yX7_dirty, [], 1)
theorem d_X7_dirty_0 : decode cX7_dirty 0 = .ok (.aload_n 0, 1) := by decide +kernel
theorem d_X7_dirty_1 : decode cX7_dirty 1 = .ok (.getfield 25, 3) := by decide +kernel
theorem d_X7_dirty_4 : decode cX7_dirty 4 = .ok (.getfield 297, 3) := by decide +kernel
theorem fk_RX7_297 : FK RX7 297 0 5 := ⟨RX0, TX0, 6, rfl, by decide, ws_X0, KW.at (i := 148) (by decide +kernel) rfl⟩
theorem d_X7_dirty_7 : decode cX7_dirty 7 = .ok (.lreturn, 1) := by decide +kernel
abbrev Y_X7_flush : YT := (cX7_flush, 1, (some .int), yX7_flush, [], 6)
theorem d_X7_flush_0 : decode cX7_flush 0 = .ok (.aload_n 0, 1) := by decide +kernel
theorem d_X7_flush_1 : decode cX7_flush 1 = .ok (.getfield 62, 3) := by decide +kernel
theorem fk_RX7_62 : FK RX7 62 7 6 := ⟨RX7, TX7, 8, rfl, by decide, ws_X7, KW.at (i := 369) (by decide +kernel) rfl⟩
theorem d_X7_flush_4 : decode cX7_flush 4 = .ok (.getfield 301, 3) := by decide +kernel
theorem ws_X1 : ∀ w ∈ u_ws RX1 TX1 7, KW w := KW.all (by decide +kernel)
theorem fk_RX7_301 : FK RX7 301 1 6 := ⟨RX1, TX1, 7, rfl, by decide, ws_X1, KW.at (i := 242) (by decide +kernel) rfl⟩
theorem sh_20 : SH.getD 20 (9, 0, []) = (0, 1, [24, 29, 34, 0, 0, 0, 1]) := rfl
theorem d_X7_flush_7 : decode cX7_flush 7 = .ok (.ifCond .eq 14, 3) := by decide +kernel
theorem d_X7_flush_21 : decode cX7_flush 21 = .ok (.aload_n 0, 1) := by decide +kernel
theorem d_X7_flush_22 : decode cX7_flush 22 = .ok (.getfield 25, 3) := by decide +kernel
theorem d_X7_flush_25 : decode cX7_flush 25 = .ok (.getfield 297, 3) := by decide +kernel
theorem d_X7_flush_28 : decode cX7_flush 28 = .ok (.lconst 0, 1) := by decide +kernel
theorem d_X7_flush_29 : decode cX7_flush 29 = .ok (.lcmp, 1) := by decide +kernel
theorem d_X7_flush_30 : decode cX7_flush 30 = .ok (.ifCond .ne 14, 3) := by decide +kernel
theorem d_X7_flush_44 : decode cX7_flush 44 = .ok (.aload_n 0, 1) := by decide +kernel
theorem d_X7_flush_45 : decode cX7_flush 45 = .ok (.getfield 62, 3) := by decide +kernel
theorem d_X7_flush_48 : decode cX7_flush 48 = .ok (.aload_n 0, 1) := by decide +kernel
theorem d_X7_flush_49 : decode cX7_flush 49 = .ok (.getfield 21, 3) := by decide +kernel
theorem d_X7_flush_52 : decode cX7_flush 52 = .ok (.aload_n 0, 1) := by decide +kernel
theorem d_X7_flush_53 : decode cX7_flush 53 = .ok (.getfield 25, 3) := by decide +kernel
theorem d_X7_flush_56 : decode cX7_flush 56 = .ok (.getfield 297, 3) := by decide +kernel
theorem d_X7_flush_59 : decode cX7_flush 59 = .ok (.invokestatic 309, 3) := by decide +kernel
abbrev Y_J13_bitCount_95d88 : YT := (cJ13_bitCount_95d88, 2, (some .int), yJ13_bitCount_95d88, [], 1)
theorem mk_J13_bitCount_95d88 : MK Y_J13_bitCount_95d88 1 := ⟨KW.at (i := 93) (by decide +kernel) rfl, KW.at (i := 1028) (by decide +kernel) rfl, ⟨by decide +kernel, by decide +kernel⟩, by decide +kernel, by decide +kernel, rfl, by decide⟩
theorem sm_J13_bitCount_95d88 : KW (.static (yN Y_J13_bitCount_95d88)) := KW.at (i := 1027) (by decide +kernel) rfl
theorem ck_RX7_309 : CKS RX7 309 Y_J13_bitCount_95d88 1 := ⟨KW.at (i := 1026) (by decide +kernel) rfl, sm_J13_bitCount_95d88, mk_J13_bitCount_95d88⟩
theorem d_J13_bitCount_95d88_0 : decode cJ13_bitCount_95d88 0 = .ok (.lload_n 0, 1) := by decide +kernel
theorem d_J13_bitCount_95d88_1 : decode cJ13_bitCount_95d88 1 = .ok (.lload_n 0, 1) := by decide +kernel
theorem d_J13_bitCount_95d88_2 : decode cJ13_bitCount_95d88 2 = .ok (.iconst 1, 1) := by decide +kernel
theorem d_J13_bitCount_95d88_3 : decode cJ13_bitCount_95d88 3 = .ok (.lushr, 1) := by decide +kernel
theorem d_J13_bitCount_95d88_4 : decode cJ13_bitCount_95d88 4 = .ok (.ldc2_w 314, 3) := by decide +kernel
theorem kl_RJ13_314 : KW (.constantLong RJ13 314 (Int64.ofInt 6148914691236517205)) := KW.at (i := 1029) (by decide +kernel) rfl
theorem d_J13_bitCount_95d88_7 : decode cJ13_bitCount_95d88 7 = .ok (.land, 1) := by decide +kernel
theorem d_J13_bitCount_95d88_8 : decode cJ13_bitCount_95d88 8 = .ok (.lsub, 1) := by decide +kernel
theorem d_J13_bitCount_95d88_9 : decode cJ13_bitCount_95d88 9 = .ok (.lstore_n 0, 1) := by decide +kernel
theorem d_J13_bitCount_95d88_10 : decode cJ13_bitCount_95d88 10 = .ok (.lload_n 0, 1) := by decide +kernel
theorem d_J13_bitCount_95d88_11 : decode cJ13_bitCount_95d88 11 = .ok (.ldc2_w 316, 3) := by decide +kernel
theorem kl_RJ13_316 : KW (.constantLong RJ13 316 (Int64.ofInt 3689348814741910323)) := KW.at (i := 1030) (by decide +kernel) rfl
theorem d_J13_bitCount_95d88_14 : decode cJ13_bitCount_95d88 14 = .ok (.land, 1) := by decide +kernel
theorem d_J13_bitCount_95d88_15 : decode cJ13_bitCount_95d88 15 = .ok (.lload_n 0, 1) := by decide +kernel
theorem d_J13_bitCount_95d88_16 : decode cJ13_bitCount_95d88 16 = .ok (.iconst 2, 1) := by decide +kernel
theorem d_J13_bitCount_95d88_17 : decode cJ13_bitCount_95d88 17 = .ok (.lushr, 1) := by decide +kernel
theorem d_J13_bitCount_95d88_18 : decode cJ13_bitCount_95d88 18 = .ok (.ldc2_w 316, 3) := by decide +kernel
theorem d_J13_bitCount_95d88_21 : decode cJ13_bitCount_95d88 21 = .ok (.land, 1) := by decide +kernel
theorem d_J13_bitCount_95d88_22 : decode cJ13_bitCount_95d88 22 = .ok (.ladd, 1) := by decide +kernel
theorem d_J13_bitCount_95d88_23 : decode cJ13_bitCount_95d88 23 = .ok (.lstore_n 0, 1) := by decide +kernel
theorem d_J13_bitCount_95d88_24 : decode cJ13_bitCount_95d88 24 = .ok (.lload_n 0, 1) := by decide +kernel
theorem d_J13_bitCount_95d88_25 : decode cJ13_bitCount_95d88 25 = .ok (.lload_n 0, 1) := by decide +kernel
theorem d_J13_bitCount_95d88_26 : decode cJ13_bitCount_95d88 26 = .ok (.iconst 4, 1) := by decide +kernel
theorem d_J13_bitCount_95d88_27 : decode cJ13_bitCount_95d88 27 = .ok (.lushr, 1) := by decide +kernel
theorem d_J13_bitCount_95d88_28 : decode cJ13_bitCount_95d88 28 = .ok (.ladd, 1) := by decide +kernel
theorem d_J13_bitCount_95d88_29 : decode cJ13_bitCount_95d88 29 = .ok (.ldc2_w 318, 3) := by decide +kernel
theorem kl_RJ13_318 : KW (.constantLong RJ13 318 (Int64.ofInt 1085102592571150095)) := KW.at (i := 1031) (by decide +kernel) rfl
theorem d_J13_bitCount_95d88_32 : decode cJ13_bitCount_95d88 32 = .ok (.land, 1) := by decide +kernel
theorem d_J13_bitCount_95d88_33 : decode cJ13_bitCount_95d88 33 = .ok (.lstore_n 0, 1) := by decide +kernel
theorem d_J13_bitCount_95d88_34 : decode cJ13_bitCount_95d88 34 = .ok (.lload_n 0, 1) := by decide +kernel
theorem d_J13_bitCount_95d88_35 : decode cJ13_bitCount_95d88 35 = .ok (.lload_n 0, 1) := by decide +kernel
theorem d_J13_bitCount_95d88_36 : decode cJ13_bitCount_95d88 36 = .ok (.bipush 8, 2) := by decide +kernel
theorem d_J13_bitCount_95d88_38 : decode cJ13_bitCount_95d88 38 = .ok (.lushr, 1) := by decide +kernel
theorem d_J13_bitCount_95d88_39 : decode cJ13_bitCount_95d88 39 = .ok (.ladd, 1) := by decide +kernel
theorem d_J13_bitCount_95d88_40 : decode cJ13_bitCount_95d88 40 = .ok (.lstore_n 0, 1) := by decide +kernel
theorem d_J13_bitCount_95d88_41 : decode cJ13_bitCount_95d88 41 = .ok (.lload_n 0, 1) := by decide +kernel
theorem d_J13_bitCount_95d88_42 : decode cJ13_bitCount_95d88 42 = .ok (.lload_n 0, 1) := by decide +kernel
theorem d_J13_bitCount_95d88_43 : decode cJ13_bitCount_95d88 43 = .ok (.bipush 16, 2) := by decide +kernel
theorem d_J13_bitCount_95d88_45 : decode cJ13_bitCount_95d88 45 = .ok (.lushr, 1) := by decide +kernel
theorem d_J13_bitCount_95d88_46 : decode cJ13_bitCount_95d88 46 = .ok (.ladd, 1) := by decide +kernel
theorem d_J13_bitCount_95d88_47 : decode cJ13_bitCount_95d88 47 = .ok (.lstore_n 0, 1) := by decide +kernel
theorem d_J13_bitCount_95d88_48 : decode cJ13_bitCount_95d88 48 = .ok (.lload_n 0, 1) := by decide +kernel
theorem d_J13_bitCount_95d88_49 : decode cJ13_bitCount_95d88 49 = .ok (.lload_n 0, 1) := by decide +kernel
theorem d_J13_bitCount_95d88_50 : decode cJ13_bitCount_95d88 50 = .ok (.bipush 32, 2) := by decide +kernel
theorem d_J13_bitCount_95d88_52 : decode cJ13_bitCount_95d88 52 = .ok (.lushr, 1) := by decide +kernel
theorem d_J13_bitCount_95d88_53 : decode cJ13_bitCount_95d88 53 = .ok (.ladd, 1) := by decide +kernel
theorem d_J13_bitCount_95d88_54 : decode cJ13_bitCount_95d88 54 = .ok (.lstore_n 0, 1) := by decide +kernel
theorem d_J13_bitCount_95d88_55 : decode cJ13_bitCount_95d88 55 = .ok (.lload_n 0, 1) := by decide +kernel
theorem d_J13_bitCount_95d88_56 : decode cJ13_bitCount_95d88 56 = .ok (.l2i, 1) := by decide +kernel
theorem d_J13_bitCount_95d88_57 : decode cJ13_bitCount_95d88 57 = .ok (.bipush 127, 2) := by decide +kernel
theorem d_J13_bitCount_95d88_59 : decode cJ13_bitCount_95d88 59 = .ok (.iand, 1) := by decide +kernel
theorem d_J13_bitCount_95d88_60 : decode cJ13_bitCount_95d88 60 = .ok (.ireturn, 1) := by decide +kernel
theorem d_X7_flush_62 : decode cX7_flush 62 = .ok (.invokevirtual 315, 3) := by decide +kernel
abbrev Y_X1_begin : YT := (cX1_begin, 3, none, yX1_begin, [], 2)
theorem mk_X1_begin : MK Y_X1_begin 2 := ⟨KW.at (i := 82) (by decide +kernel) rfl, KW.at (i := 1035) (by decide +kernel) rfl, ⟨by decide +kernel, by decide +kernel⟩, by decide +kernel, by decide +kernel, rfl, by decide⟩
theorem vm_X1_begin : KW (.instanceMethod (yN Y_X1_begin)) ∧ KW (.selects (yN Y_X1_begin).cls (yN Y_X1_begin) (yN Y_X1_begin)) := ⟨KW.at (i := 1033) (by decide +kernel) rfl, KW.at (i := 1034) (by decide +kernel) rfl⟩
theorem ck_RX7_315 : CKV RX7 315 Y_X1_begin 2 := ⟨KW.at (i := 1032) (by decide +kernel) rfl, vm_X1_begin.1, vm_X1_begin.2, mk_X1_begin⟩
theorem d_X1_begin_0 : decode cX1_begin 0 = .ok (.aload_n 0, 1) := by decide +kernel
theorem d_X1_begin_1 : decode cX1_begin 1 = .ok (.getfield 16, 3) := by decide +kernel
theorem fk_RX1_16 : FK RX1 16 1 1 := ⟨RX1, TX1, 7, rfl, by decide, ws_X1, KW.at (i := 235) (by decide +kernel) rfl⟩
theorem d_X1_begin_4 : decode cX1_begin 4 = .ok (.aload_n 1, 1) := by decide +kernel
theorem d_X1_begin_5 : decode cX1_begin 5 = .ok (.invokevirtual 23, 3) := by decide +kernel
abbrev Y_X2_copyFrom : YT := (cX2_copyFrom, 2, none, yX2_copyFrom, [], 1)
theorem mk_X2_copyFrom : MK Y_X2_copyFrom 1 := ⟨KW.at (i := 76) (by decide +kernel) rfl, KW.at (i := 361) (by decide +kernel) rfl, ⟨by decide +kernel, by decide +kernel⟩, by decide +kernel, by decide +kernel, rfl, by decide⟩
theorem vm_X2_copyFrom : KW (.instanceMethod (yN Y_X2_copyFrom)) ∧ KW (.selects (yN Y_X2_copyFrom).cls (yN Y_X2_copyFrom) (yN Y_X2_copyFrom)) := ⟨KW.at (i := 359) (by decide +kernel) rfl, KW.at (i := 360) (by decide +kernel) rfl⟩
theorem ck_RX1_23 : CKV RX1 23 Y_X2_copyFrom 1 := ⟨KW.at (i := 358) (by decide +kernel) rfl, vm_X2_copyFrom.1, vm_X2_copyFrom.2, mk_X2_copyFrom⟩
theorem sh_26 : SH.getD 26 (9, 0, []) = (0, 2, [30, 31, 32, 33, 0, 0]) := rfl
theorem d_X2_copyFrom_0 : decode cX2_copyFrom 0 = .ok (.aload_n 1, 1) := by decide +kernel
theorem d_X2_copyFrom_1 : decode cX2_copyFrom 1 = .ok (.getfield 11, 3) := by decide +kernel
theorem d_X2_copyFrom_4 : decode cX2_copyFrom 4 = .ok (.iconst 0, 1) := by decide +kernel
theorem d_X2_copyFrom_5 : decode cX2_copyFrom 5 = .ok (.aload_n 0, 1) := by decide +kernel
theorem d_X2_copyFrom_6 : decode cX2_copyFrom 6 = .ok (.getfield 11, 3) := by decide +kernel
theorem d_X2_copyFrom_9 : decode cX2_copyFrom 9 = .ok (.iconst 0, 1) := by decide +kernel
theorem d_X2_copyFrom_10 : decode cX2_copyFrom 10 = .ok (.sipush 1024, 3) := by decide +kernel
theorem d_X2_copyFrom_13 : decode cX2_copyFrom 13 = .ok (.invokestatic 35, 3) := by decide +kernel
theorem ak_RX2_35 : AK RX2 35 := ⟨KW.at (i := 362) (by decide +kernel) rfl, KW.at (i := 273) (by decide +kernel) rfl, KW.at (i := 272) (by decide +kernel) rfl, KW.at (i := 83) (by decide +kernel) rfl⟩
theorem sh_27 : SH.getD 27 (9, 0, []) = (1, 1024, []) := rfl
theorem d_X2_copyFrom_16 : decode cX2_copyFrom 16 = .ok (.aload_n 1, 1) := by decide +kernel
theorem d_X2_copyFrom_17 : decode cX2_copyFrom 17 = .ok (.getfield 15, 3) := by decide +kernel
theorem d_X2_copyFrom_20 : decode cX2_copyFrom 20 = .ok (.iconst 0, 1) := by decide +kernel
theorem d_X2_copyFrom_21 : decode cX2_copyFrom 21 = .ok (.aload_n 0, 1) := by decide +kernel
theorem d_X2_copyFrom_22 : decode cX2_copyFrom 22 = .ok (.getfield 15, 3) := by decide +kernel
theorem d_X2_copyFrom_25 : decode cX2_copyFrom 25 = .ok (.iconst 0, 1) := by decide +kernel
theorem d_X2_copyFrom_26 : decode cX2_copyFrom 26 = .ok (.sipush 1024, 3) := by decide +kernel
theorem d_X2_copyFrom_29 : decode cX2_copyFrom 29 = .ok (.invokestatic 35, 3) := by decide +kernel
theorem sh_28 : SH.getD 28 (9, 0, []) = (1, 1024, []) := rfl
theorem d_X2_copyFrom_32 : decode cX2_copyFrom 32 = .ok (.aload_n 1, 1) := by decide +kernel
theorem d_X2_copyFrom_33 : decode cX2_copyFrom 33 = .ok (.getfield 18, 3) := by decide +kernel
theorem d_X2_copyFrom_36 : decode cX2_copyFrom 36 = .ok (.iconst 0, 1) := by decide +kernel
theorem d_X2_copyFrom_37 : decode cX2_copyFrom 37 = .ok (.aload_n 0, 1) := by decide +kernel
theorem d_X2_copyFrom_38 : decode cX2_copyFrom 38 = .ok (.getfield 18, 3) := by decide +kernel
theorem d_X2_copyFrom_41 : decode cX2_copyFrom 41 = .ok (.iconst 0, 1) := by decide +kernel
theorem d_X2_copyFrom_42 : decode cX2_copyFrom 42 = .ok (.bipush 80, 2) := by decide +kernel
theorem d_X2_copyFrom_44 : decode cX2_copyFrom 44 = .ok (.invokestatic 35, 3) := by decide +kernel
theorem sh_29 : SH.getD 29 (9, 0, []) = (1, 80, []) := rfl
theorem d_X2_copyFrom_47 : decode cX2_copyFrom 47 = .ok (.aload_n 1, 1) := by decide +kernel
theorem d_X2_copyFrom_48 : decode cX2_copyFrom 48 = .ok (.getfield 21, 3) := by decide +kernel
theorem d_X2_copyFrom_51 : decode cX2_copyFrom 51 = .ok (.iconst 0, 1) := by decide +kernel
theorem d_X2_copyFrom_52 : decode cX2_copyFrom 52 = .ok (.aload_n 0, 1) := by decide +kernel
theorem d_X2_copyFrom_53 : decode cX2_copyFrom 53 = .ok (.getfield 21, 3) := by decide +kernel
theorem d_X2_copyFrom_56 : decode cX2_copyFrom 56 = .ok (.iconst 0, 1) := by decide +kernel
theorem d_X2_copyFrom_57 : decode cX2_copyFrom 57 = .ok (.sipush 256, 3) := by decide +kernel
theorem d_X2_copyFrom_60 : decode cX2_copyFrom 60 = .ok (.invokestatic 35, 3) := by decide +kernel
theorem sh_30 : SH.getD 30 (9, 0, []) = (1, 256, []) := rfl
theorem d_X2_copyFrom_63 : decode cX2_copyFrom 63 = .ok (.aload_n 0, 1) := by decide +kernel
theorem d_X2_copyFrom_64 : decode cX2_copyFrom 64 = .ok (.aload_n 1, 1) := by decide +kernel
theorem d_X2_copyFrom_65 : decode cX2_copyFrom 65 = .ok (.getfield 24, 3) := by decide +kernel
theorem d_X2_copyFrom_68 : decode cX2_copyFrom 68 = .ok (.putfield 24, 3) := by decide +kernel
theorem pk_RX2_24 : PK RX2 24 2 4 .int := ⟨RX2, TX2, 6, tyX2, rfl, by decide, ws_X2, KW.at (i := 117) (by decide +kernel) rfl, tyX2_ok, nmX2, rfl, rfl⟩
theorem d_X2_copyFrom_71 : decode cX2_copyFrom 71 = .ok (.aload_n 0, 1) := by decide +kernel
theorem d_X2_copyFrom_72 : decode cX2_copyFrom 72 = .ok (.aload_n 1, 1) := by decide +kernel
theorem d_X2_copyFrom_73 : decode cX2_copyFrom 73 = .ok (.getfield 28, 3) := by decide +kernel
theorem fk_RX2_28 : FK RX2 28 2 5 := ⟨RX2, TX2, 6, rfl, by decide, ws_X2, KW.at (i := 120) (by decide +kernel) rfl⟩
theorem d_X2_copyFrom_76 : decode cX2_copyFrom 76 = .ok (.putfield 28, 3) := by decide +kernel
theorem pk_RX2_28 : PK RX2 28 2 5 .int := ⟨RX2, TX2, 6, tyX2, rfl, by decide, ws_X2, KW.at (i := 120) (by decide +kernel) rfl, tyX2_ok, nmX2, rfl, rfl⟩
theorem d_X2_copyFrom_79 : decode cX2_copyFrom 79 = .ok (.return_, 1) := by decide +kernel
theorem d_X1_begin_8 : decode cX1_begin 8 = .ok (.aload_n 0, 1) := by decide +kernel
theorem d_X1_begin_9 : decode cX1_begin 9 = .ok (.iload_n 2, 1) := by decide +kernel
theorem d_X1_begin_10 : decode cX1_begin 10 = .ok (.putfield 27, 3) := by decide +kernel
theorem pk_RX1_27 : PK RX1 27 1 3 .int := ⟨RX1, TX1, 7, tyX1, rfl, by decide, ws_X1, KW.at (i := 237) (by decide +kernel) rfl, tyX1_ok, nmX1, rfl, rfl⟩
theorem d_X1_begin_13 : decode cX1_begin 13 = .ok (.aload_n 0, 1) := by decide +kernel
theorem d_X1_begin_14 : decode cX1_begin 14 = .ok (.iconst 0, 1) := by decide +kernel
theorem d_X1_begin_15 : decode cX1_begin 15 = .ok (.putfield 31, 3) := by decide +kernel
theorem pk_RX1_31 : PK RX1 31 1 4 .int := ⟨RX1, TX1, 7, tyX1, rfl, by decide, ws_X1, KW.at (i := 238) (by decide +kernel) rfl, tyX1_ok, nmX1, rfl, rfl⟩
theorem d_X1_begin_18 : decode cX1_begin 18 = .ok (.aload_n 0, 1) := by decide +kernel
theorem d_X1_begin_19 : decode cX1_begin 19 = .ok (.iconst 1, 1) := by decide +kernel
theorem d_X1_begin_20 : decode cX1_begin 20 = .ok (.putfield 34, 3) := by decide +kernel
theorem pk_RX1_34 : PK RX1 34 1 6 .boolean := ⟨RX1, TX1, 7, tyX1, rfl, by decide, ws_X1, KW.at (i := 241) (by decide +kernel) rfl, tyX1_ok, nmX1, rfl, rfl⟩
theorem d_X1_begin_23 : decode cX1_begin 23 = .ok (.return_, 1) := by decide +kernel
theorem d_X7_flush_65 : decode cX7_flush 65 = .ok (.aload_n 0, 1) := by decide +kernel
theorem d_X7_flush_66 : decode cX7_flush 66 = .ok (.getfield 25, 3) := by decide +kernel
theorem d_X7_flush_69 : decode cX7_flush 69 = .ok (.invokevirtual 89, 3) := by decide +kernel
abbrev Y_X0_forgetDirty : YT := (cX0_forgetDirty, 1, none, yX0_forgetDirty, [], 1)
theorem mk_X0_forgetDirty : MK Y_X0_forgetDirty 0 := ⟨KW.at (i := 77) (by decide +kernel) rfl, KW.at (i := 353) (by decide +kernel) rfl, ⟨by decide +kernel, by decide +kernel⟩, by decide +kernel, by decide +kernel, rfl, by decide⟩
theorem vm_X0_forgetDirty : KW (.instanceMethod (yN Y_X0_forgetDirty)) ∧ KW (.selects (yN Y_X0_forgetDirty).cls (yN Y_X0_forgetDirty) (yN Y_X0_forgetDirty)) := ⟨KW.at (i := 351) (by decide +kernel) rfl, KW.at (i := 352) (by decide +kernel) rfl⟩
theorem ck_RX7_89 : CKV RX7 89 Y_X0_forgetDirty 0 := ⟨KW.at (i := 350) (by decide +kernel) rfl, vm_X0_forgetDirty.1, vm_X0_forgetDirty.2, mk_X0_forgetDirty⟩
theorem d_X0_forgetDirty_0 : decode cX0_forgetDirty 0 = .ok (.aload_n 0, 1) := by decide +kernel
theorem d_X0_forgetDirty_1 : decode cX0_forgetDirty 1 = .ok (.lconst 0, 1) := by decide +kernel
theorem d_X0_forgetDirty_2 : decode cX0_forgetDirty 2 = .ok (.putfield 62, 3) := by decide +kernel
theorem d_X0_forgetDirty_5 : decode cX0_forgetDirty 5 = .ok (.return_, 1) := by decide +kernel
theorem d_X7_flush_72 : decode cX7_flush 72 = .ok (.aload_n 0, 1) := by decide +kernel
theorem d_X7_flush_73 : decode cX7_flush 73 = .ok (.getfield 62, 3) := by decide +kernel
theorem d_X7_flush_76 : decode cX7_flush 76 = .ok (.invokevirtual 319, 3) := by decide +kernel
abbrev Y_X1_writesLeft : YT := (cX1_writesLeft, 1, (some .int), yX1_writesLeft, [], 1)
theorem mk_X1_writesLeft : MK Y_X1_writesLeft 0 := ⟨KW.at (i := 82) (by decide +kernel) rfl, KW.at (i := 1039) (by decide +kernel) rfl, ⟨by decide +kernel, by decide +kernel⟩, by decide +kernel, by decide +kernel, rfl, by decide⟩
theorem vm_X1_writesLeft : KW (.instanceMethod (yN Y_X1_writesLeft)) ∧ KW (.selects (yN Y_X1_writesLeft).cls (yN Y_X1_writesLeft) (yN Y_X1_writesLeft)) := ⟨KW.at (i := 1037) (by decide +kernel) rfl, KW.at (i := 1038) (by decide +kernel) rfl⟩
theorem ck_RX7_319 : CKV RX7 319 Y_X1_writesLeft 0 := ⟨KW.at (i := 1036) (by decide +kernel) rfl, vm_X1_writesLeft.1, vm_X1_writesLeft.2, mk_X1_writesLeft⟩
theorem d_X1_writesLeft_0 : decode cX1_writesLeft 0 = .ok (.iconst 2, 1) := by decide +kernel
theorem d_X1_writesLeft_1 : decode cX1_writesLeft 1 = .ok (.aload_n 0, 1) := by decide +kernel
theorem d_X1_writesLeft_2 : decode cX1_writesLeft 2 = .ok (.getfield 27, 3) := by decide +kernel
theorem fk_RX1_27 : FK RX1 27 1 3 := ⟨RX1, TX1, 7, rfl, by decide, ws_X1, KW.at (i := 237) (by decide +kernel) rfl⟩
theorem d_X1_writesLeft_5 : decode cX1_writesLeft 5 = .ok (.imul, 1) := by decide +kernel
theorem d_X1_writesLeft_6 : decode cX1_writesLeft 6 = .ok (.iconst 4, 1) := by decide +kernel
theorem d_X1_writesLeft_7 : decode cX1_writesLeft 7 = .ok (.iadd, 1) := by decide +kernel
theorem d_X1_writesLeft_8 : decode cX1_writesLeft 8 = .ok (.aload_n 0, 1) := by decide +kernel
theorem d_X1_writesLeft_9 : decode cX1_writesLeft 9 = .ok (.getfield 31, 3) := by decide +kernel
theorem fk_RX1_31 : FK RX1 31 1 4 := ⟨RX1, TX1, 7, rfl, by decide, ws_X1, KW.at (i := 238) (by decide +kernel) rfl⟩
theorem d_X1_writesLeft_12 : decode cX1_writesLeft 12 = .ok (.isub, 1) := by decide +kernel
theorem d_X1_writesLeft_13 : decode cX1_writesLeft 13 = .ok (.ireturn, 1) := by decide +kernel
theorem d_X7_flush_79 : decode cX7_flush 79 = .ok (.ireturn, 1) := by decide +kernel
theorem d_X7_flush_33 : decode cX7_flush 33 = .ok (.new 204, 3) := by decide +kernel
theorem d_X7_flush_36 : decode cX7_flush 36 = .ok (.dup, 1) := by decide +kernel
theorem d_X7_flush_37 : decode cX7_flush 37 = .ok (.ldc_w 307, 3) := by decide +kernel
theorem d_X7_flush_40 : decode cX7_flush 40 = .ok (.invokespecial 208, 3) := by decide +kernel
theorem d_X7_flush_43 : decode cX7_flush 43 = .ok (.athrow, 1) := by decide +kernel
theorem d_X7_flush_10 : decode cX7_flush 10 = .ok (.new 204, 3) := by decide +kernel
theorem d_X7_flush_13 : decode cX7_flush 13 = .ok (.dup, 1) := by decide +kernel
theorem d_X7_flush_14 : decode cX7_flush 14 = .ok (.ldc_w 305, 3) := by decide +kernel
theorem d_X7_flush_17 : decode cX7_flush 17 = .ok (.invokespecial 208, 3) := by decide +kernel
theorem d_X7_flush_20 : decode cX7_flush 20 = .ok (.athrow, 1) := by decide +kernel
abbrev Y_X7_write : YT := (cX7_write, 2, (some .int), yX7_write, [], 6)
theorem d_X7_write_0 : decode cX7_write 0 = .ok (.iload_n 1, 1) := by decide +kernel
theorem d_X7_write_1 : decode cX7_write 1 = .ok (.iconst 1, 1) := by decide +kernel
theorem d_X7_write_2 : decode cX7_write 2 = .ok (.if_icmp .lt 10, 3) := by decide +kernel
theorem d_X7_write_12 : decode cX7_write 12 = .ok (.new 279, 3) := by decide +kernel
theorem d_X7_write_15 : decode cX7_write 15 = .ok (.dup, 1) := by decide +kernel
theorem d_X7_write_16 : decode cX7_write 16 = .ok (.ldc_w 322, 3) := by decide +kernel
theorem d_X7_write_19 : decode cX7_write 19 = .ok (.invokespecial 283, 3) := by decide +kernel
theorem d_X7_write_22 : decode cX7_write 22 = .ok (.athrow, 1) := by decide +kernel
theorem d_X7_write_5 : decode cX7_write 5 = .ok (.iload_n 1, 1) := by decide +kernel
theorem d_X7_write_6 : decode cX7_write 6 = .ok (.sipush 200, 3) := by decide +kernel
theorem d_X7_write_9 : decode cX7_write 9 = .ok (.if_icmp .le 14, 3) := by decide +kernel
theorem d_X7_write_23 : decode cX7_write 23 = .ok (.aload_n 0, 1) := by decide +kernel
theorem d_X7_write_24 : decode cX7_write 24 = .ok (.getfield 62, 3) := by decide +kernel
theorem d_X7_write_27 : decode cX7_write 27 = .ok (.getfield 301, 3) := by decide +kernel
theorem d_X7_write_30 : decode cX7_write 30 = .ok (.ifCond .ne 14, 3) := by decide +kernel
theorem d_X7_write_44 : decode cX7_write 44 = .ok (.aload_n 0, 1) := by decide +kernel
theorem d_X7_write_45 : decode cX7_write 45 = .ok (.getfield 62, 3) := by decide +kernel
theorem d_X7_write_48 : decode cX7_write 48 = .ok (.iload_n 1, 1) := by decide +kernel
theorem d_X7_write_49 : decode cX7_write 49 = .ok (.invokevirtual 326, 3) := by decide +kernel
abbrev Y_X1_advance : YT := (cX1_advance, 3, none, yX1_advance, [], 3)
theorem mk_X1_advance : MK Y_X1_advance 1 := ⟨KW.at (i := 82) (by decide +kernel) rfl, KW.at (i := 1052) (by decide +kernel) rfl, ⟨by decide +kernel, by decide +kernel⟩, by decide +kernel, by decide +kernel, rfl, by decide⟩
theorem vm_X1_advance : KW (.instanceMethod (yN Y_X1_advance)) ∧ KW (.selects (yN Y_X1_advance).cls (yN Y_X1_advance) (yN Y_X1_advance)) := ⟨KW.at (i := 1050) (by decide +kernel) rfl, KW.at (i := 1051) (by decide +kernel) rfl⟩
theorem ck_RX7_326 : CKV RX7 326 Y_X1_advance 1 := ⟨KW.at (i := 1049) (by decide +kernel) rfl, vm_X1_advance.1, vm_X1_advance.2, mk_X1_advance⟩
theorem d_X1_advance_0 : decode cX1_advance 0 = .ok (.aload_n 0, 1) := by decide +kernel
theorem d_X1_advance_1 : decode cX1_advance 1 = .ok (.dup, 1) := by decide +kernel
theorem d_X1_advance_2 : decode cX1_advance 2 = .ok (.getfield 31, 3) := by decide +kernel
theorem d_X1_advance_5 : decode cX1_advance 5 = .ok (.iload_n 1, 1) := by decide +kernel
theorem d_X1_advance_6 : decode cX1_advance 6 = .ok (.aload_n 0, 1) := by decide +kernel
theorem d_X1_advance_7 : decode cX1_advance 7 = .ok (.invokevirtual 38, 3) := by decide +kernel
theorem ck_RX1_38 : CKV RX1 38 Y_X1_writesLeft 0 := ⟨KW.at (i := 1053) (by decide +kernel) rfl, vm_X1_writesLeft.1, vm_X1_writesLeft.2, mk_X1_writesLeft⟩
theorem d_X1_advance_10 : decode cX1_advance 10 = .ok (.invokestatic 42, 3) := by decide +kernel
theorem mx_RX1_42 : MX RX1 42 Lib.Math.min.name Lib.Math.min.code 2 := ⟨KW.at (i := 1054) (by decide +kernel) rfl, KW.at (i := 888) (by decide +kernel) rfl, KW.at (i := 84) (by decide +kernel) rfl, KW.at (i := 889) (by decide +kernel) rfl⟩
theorem d_X1_advance_13 : decode cX1_advance 13 = .ok (.iadd, 1) := by decide +kernel
theorem d_X1_advance_14 : decode cX1_advance 14 = .ok (.putfield 31, 3) := by decide +kernel
theorem d_X1_advance_17 : decode cX1_advance 17 = .ok (.aload_n 0, 1) := by decide +kernel
theorem d_X1_advance_18 : decode cX1_advance 18 = .ok (.getfield 48, 3) := by decide +kernel
theorem fk_RX1_48 : FK RX1 48 1 5 := ⟨RX1, TX1, 7, rfl, by decide, ws_X1, KW.at (i := 239) (by decide +kernel) rfl⟩
theorem d_X1_advance_21 : decode cX1_advance 21 = .ok (.iconst 1, 1) := by decide +kernel
theorem d_X1_advance_22 : decode cX1_advance 22 = .ok (.iadd, 1) := by decide +kernel
theorem d_X1_advance_23 : decode cX1_advance 23 = .ok (.istore_n 2, 1) := by decide +kernel
theorem d_X1_advance_24 : decode cX1_advance 24 = .ok (.aload_n 0, 1) := by decide +kernel
theorem d_X1_advance_25 : decode cX1_advance 25 = .ok (.getfield 19, 3) := by decide +kernel
theorem fk_RX1_19 : FK RX1 19 1 2 := ⟨RX1, TX1, 7, rfl, by decide, ws_X1, KW.at (i := 236) (by decide +kernel) rfl⟩
theorem d_X1_advance_28 : decode cX1_advance 28 = .ok (.iload_n 2, 1) := by decide +kernel
theorem d_X1_advance_29 : decode cX1_advance 29 = .ok (.iconst 2, 1) := by decide +kernel
theorem d_X1_advance_30 : decode cX1_advance 30 = .ok (.irem, 1) := by decide +kernel
theorem d_X1_advance_31 : decode cX1_advance 31 = .ok (.aload_n 0, 1) := by decide +kernel
theorem d_X1_advance_32 : decode cX1_advance 32 = .ok (.invokevirtual 51, 3) := by decide +kernel
abbrev Y_X1_isSealed : YT := (cX1_isSealed, 1, (some .boolean), yX1_isSealed, [], 1)
theorem mk_X1_isSealed : MK Y_X1_isSealed 0 := ⟨KW.at (i := 82) (by decide +kernel) rfl, KW.at (i := 513) (by decide +kernel) rfl, ⟨by decide +kernel, by decide +kernel⟩, by decide +kernel, by decide +kernel, rfl, by decide⟩
theorem vm_X1_isSealed : KW (.instanceMethod (yN Y_X1_isSealed)) ∧ KW (.selects (yN Y_X1_isSealed).cls (yN Y_X1_isSealed) (yN Y_X1_isSealed)) := ⟨KW.at (i := 512) (by decide +kernel) rfl, KW.at (i := 9) (by decide +kernel) rfl⟩
theorem ck_RX1_51 : CKV RX1 51 Y_X1_isSealed 0 := ⟨KW.at (i := 510) (by decide +kernel) rfl, vm_X1_isSealed.1, vm_X1_isSealed.2, mk_X1_isSealed⟩
theorem d_X1_isSealed_0 : decode cX1_isSealed 0 = .ok (.aload_n 0, 1) := by decide +kernel
theorem d_X1_isSealed_1 : decode cX1_isSealed 1 = .ok (.getfield 31, 3) := by decide +kernel
theorem d_X1_isSealed_4 : decode cX1_isSealed 4 = .ok (.aload_n 0, 1) := by decide +kernel
theorem d_X1_isSealed_5 : decode cX1_isSealed 5 = .ok (.getfield 27, 3) := by decide +kernel
theorem d_X1_isSealed_8 : decode cX1_isSealed 8 = .ok (.iconst 2, 1) := by decide +kernel
theorem d_X1_isSealed_9 : decode cX1_isSealed 9 = .ok (.iadd, 1) := by decide +kernel
theorem d_X1_isSealed_10 : decode cX1_isSealed 10 = .ok (.if_icmp .lt 7, 3) := by decide +kernel
theorem d_X1_isSealed_17 : decode cX1_isSealed 17 = .ok (.iconst 0, 1) := by decide +kernel
theorem d_X1_isSealed_18 : decode cX1_isSealed 18 = .ok (.ireturn, 1) := by decide +kernel
theorem d_X1_isSealed_13 : decode cX1_isSealed 13 = .ok (.iconst 1, 1) := by decide +kernel
theorem d_X1_isSealed_14 : decode cX1_isSealed 14 = .ok (.goto 4, 3) := by decide +kernel
theorem d_X1_advance_35 : decode cX1_advance 35 = .ok (.ifCond .eq 7, 3) := by decide +kernel
theorem d_X1_advance_43 : decode cX1_advance 43 = .ok (.invokestatic 55, 3) := by decide +kernel
theorem ck_RX1_55 : CKN RX1 55 Y_X7_store 3 := ⟨KW.at (i := 1055) (by decide +kernel) rfl, sm_X7_store, mk_X7_store⟩
theorem sh_31 : SH.getD 31 (9, 0, []) = (1, 2, []) := rfl
theorem d_X1_advance_46 : decode cX1_advance 46 = .ok (.aload_n 0, 1) := by decide +kernel
theorem d_X1_advance_47 : decode cX1_advance 47 = .ok (.invokevirtual 38, 3) := by decide +kernel
theorem d_X1_advance_50 : decode cX1_advance 50 = .ok (.ifCond .ne 7, 3) := by decide +kernel
theorem d_X1_advance_57 : decode cX1_advance 57 = .ok (.return_, 1) := by decide +kernel
theorem d_X1_advance_53 : decode cX1_advance 53 = .ok (.aload_n 0, 1) := by decide +kernel
theorem d_X1_advance_54 : decode cX1_advance 54 = .ok (.invokevirtual 61, 3) := by decide +kernel
abbrev Y_X1_endWhole : YT := (cX1_endWhole, 1, none, yX1_endWhole, [], 2)
theorem mk_X1_endWhole : MK Y_X1_endWhole 0 := ⟨KW.at (i := 82) (by decide +kernel) rfl, KW.at (i := 517) (by decide +kernel) rfl, ⟨by decide +kernel, by decide +kernel⟩, by decide +kernel, by decide +kernel, rfl, by decide⟩
theorem vm_X1_endWhole : KW (.instanceMethod (yN Y_X1_endWhole)) ∧ KW (.selects (yN Y_X1_endWhole).cls (yN Y_X1_endWhole) (yN Y_X1_endWhole)) := ⟨KW.at (i := 516) (by decide +kernel) rfl, KW.at (i := 10) (by decide +kernel) rfl⟩
theorem ck_RX1_61 : CKV RX1 61 Y_X1_endWhole 0 := ⟨KW.at (i := 514) (by decide +kernel) rfl, vm_X1_endWhole.1, vm_X1_endWhole.2, mk_X1_endWhole⟩
theorem d_X1_endWhole_0 : decode cX1_endWhole 0 = .ok (.aload_n 0, 1) := by decide +kernel
theorem d_X1_endWhole_1 : decode cX1_endWhole 1 = .ok (.getfield 10, 3) := by decide +kernel
theorem fk_RX1_10 : FK RX1 10 1 0 := ⟨RX1, TX1, 7, rfl, by decide, ws_X1, KW.at (i := 234) (by decide +kernel) rfl⟩
theorem d_X1_endWhole_4 : decode cX1_endWhole 4 = .ok (.aload_n 0, 1) := by decide +kernel
theorem d_X1_endWhole_5 : decode cX1_endWhole 5 = .ok (.getfield 16, 3) := by decide +kernel
theorem d_X1_endWhole_8 : decode cX1_endWhole 8 = .ok (.invokevirtual 23, 3) := by decide +kernel
theorem sh_21 : SH.getD 21 (9, 0, []) = (0, 2, [25, 26, 27, 28, 0, 0]) := rfl
theorem sh_22 : SH.getD 22 (9, 0, []) = (1, 1024, []) := rfl
theorem sh_23 : SH.getD 23 (9, 0, []) = (1, 1024, []) := rfl
theorem sh_24 : SH.getD 24 (9, 0, []) = (1, 80, []) := rfl
theorem sh_25 : SH.getD 25 (9, 0, []) = (1, 256, []) := rfl
theorem d_X1_endWhole_11 : decode cX1_endWhole 11 = .ok (.aload_n 0, 1) := by decide +kernel
theorem d_X1_endWhole_12 : decode cX1_endWhole 12 = .ok (.dup, 1) := by decide +kernel
theorem d_X1_endWhole_13 : decode cX1_endWhole 13 = .ok (.getfield 48, 3) := by decide +kernel
theorem d_X1_endWhole_16 : decode cX1_endWhole 16 = .ok (.iconst 1, 1) := by decide +kernel
theorem d_X1_endWhole_17 : decode cX1_endWhole 17 = .ok (.iadd, 1) := by decide +kernel
theorem d_X1_endWhole_18 : decode cX1_endWhole 18 = .ok (.putfield 48, 3) := by decide +kernel
theorem pk_RX1_48 : PK RX1 48 1 5 .int := ⟨RX1, TX1, 7, tyX1, rfl, by decide, ws_X1, KW.at (i := 239) (by decide +kernel) rfl, tyX1_ok, nmX1, rfl, rfl⟩
theorem d_X1_endWhole_21 : decode cX1_endWhole 21 = .ok (.aload_n 0, 1) := by decide +kernel
theorem d_X1_endWhole_22 : decode cX1_endWhole 22 = .ok (.iconst 0, 1) := by decide +kernel
theorem d_X1_endWhole_23 : decode cX1_endWhole 23 = .ok (.putfield 34, 3) := by decide +kernel
theorem d_X1_endWhole_26 : decode cX1_endWhole 26 = .ok (.return_, 1) := by decide +kernel
theorem d_X1_advance_42 : decode cX1_advance 42 = .ok (.iconst 0, 1) := by decide +kernel
theorem d_X1_advance_38 : decode cX1_advance 38 = .ok (.iload_n 2, 1) := by decide +kernel
theorem d_X1_advance_39 : decode cX1_advance 39 = .ok (.goto 4, 3) := by decide +kernel
theorem d_X7_write_52 : decode cX7_write 52 = .ok (.aload_n 0, 1) := by decide +kernel
theorem d_X7_write_53 : decode cX7_write 53 = .ok (.getfield 62, 3) := by decide +kernel
theorem d_X7_write_56 : decode cX7_write 56 = .ok (.invokevirtual 319, 3) := by decide +kernel
theorem d_X7_write_59 : decode cX7_write 59 = .ok (.ireturn, 1) := by decide +kernel
theorem d_X7_write_33 : decode cX7_write 33 = .ok (.new 204, 3) := by decide +kernel
theorem d_X7_write_36 : decode cX7_write 36 = .ok (.dup, 1) := by decide +kernel
theorem d_X7_write_37 : decode cX7_write 37 = .ok (.ldc_w 324, 3) := by decide +kernel
theorem d_X7_write_40 : decode cX7_write 40 = .ok (.invokespecial 208, 3) := by decide +kernel
theorem d_X7_write_43 : decode cX7_write 43 = .ok (.athrow, 1) := by decide +kernel
abbrev Y_X7_log : YT := (cX7_log, 2, (some .int), yX7_log, [], 6)
theorem d_X7_log_0 : decode cX7_log 0 = .ok (.iload_n 1, 1) := by decide +kernel
theorem d_X7_log_1 : decode cX7_log 1 = .ok (.ifCond .lt 8, 3) := by decide +kernel
theorem d_X7_log_9 : decode cX7_log 9 = .ok (.new 279, 3) := by decide +kernel
theorem d_X7_log_12 : decode cX7_log 12 = .ok (.dup, 1) := by decide +kernel
theorem d_X7_log_13 : decode cX7_log 13 = .ok (.ldc_w 329, 3) := by decide +kernel
theorem d_X7_log_16 : decode cX7_log 16 = .ok (.invokespecial 283, 3) := by decide +kernel
theorem d_X7_log_19 : decode cX7_log 19 = .ok (.athrow, 1) := by decide +kernel
theorem d_X7_log_4 : decode cX7_log 4 = .ok (.iload_n 1, 1) := by decide +kernel
theorem d_X7_log_5 : decode cX7_log 5 = .ok (.iconst 1, 1) := by decide +kernel
theorem d_X7_log_6 : decode cX7_log 6 = .ok (.if_icmp .le 14, 3) := by decide +kernel
theorem d_X7_log_20 : decode cX7_log 20 = .ok (.aload_n 0, 1) := by decide +kernel
theorem d_X7_log_21 : decode cX7_log 21 = .ok (.getfield 62, 3) := by decide +kernel
theorem d_X7_log_24 : decode cX7_log 24 = .ok (.iload_n 1, 1) := by decide +kernel
theorem d_X7_log_25 : decode cX7_log 25 = .ok (.invokevirtual 331, 3) := by decide +kernel
abbrev Y_X1_heldByLog : YT := (cX1_heldByLog, 2, (some .int), yX1_heldByLog, [], 2)
theorem mk_X1_heldByLog : MK Y_X1_heldByLog 1 := ⟨KW.at (i := 82) (by decide +kernel) rfl, KW.at (i := 1067) (by decide +kernel) rfl, ⟨by decide +kernel, by decide +kernel⟩, by decide +kernel, by decide +kernel, rfl, by decide⟩
theorem vm_X1_heldByLog : KW (.instanceMethod (yN Y_X1_heldByLog)) ∧ KW (.selects (yN Y_X1_heldByLog).cls (yN Y_X1_heldByLog) (yN Y_X1_heldByLog)) := ⟨KW.at (i := 1065) (by decide +kernel) rfl, KW.at (i := 1066) (by decide +kernel) rfl⟩
theorem ck_RX7_331 : CKV RX7 331 Y_X1_heldByLog 1 := ⟨KW.at (i := 1064) (by decide +kernel) rfl, vm_X1_heldByLog.1, vm_X1_heldByLog.2, mk_X1_heldByLog⟩
theorem d_X1_heldByLog_0 : decode cX1_heldByLog 0 = .ok (.aload_n 0, 1) := by decide +kernel
theorem d_X1_heldByLog_1 : decode cX1_heldByLog 1 = .ok (.getfield 19, 3) := by decide +kernel
theorem d_X1_heldByLog_4 : decode cX1_heldByLog 4 = .ok (.iload_n 1, 1) := by decide +kernel
theorem d_X1_heldByLog_5 : decode cX1_heldByLog 5 = .ok (.invokestatic 64, 3) := by decide +kernel
theorem ck_RX1_64 : CKN RX1 64 Y_X7_read 2 := ⟨KW.at (i := 1068) (by decide +kernel) rfl, sm_X7_read, mk_X7_read⟩
theorem d_X1_heldByLog_8 : decode cX1_heldByLog 8 = .ok (.ireturn, 1) := by decide +kernel
theorem d_X7_log_28 : decode cX7_log 28 = .ok (.ireturn, 1) := by decide +kernel
abbrev Y_X7_crash : YT := (cX7_crash, 1, (some .int), yX7_crash, [], 5)
theorem d_X7_crash_0 : decode cX7_crash 0 = .ok (.aload_n 0, 1) := by decide +kernel
theorem d_X7_crash_1 : decode cX7_crash 1 = .ok (.getfield 62, 3) := by decide +kernel
theorem d_X7_crash_4 : decode cX7_crash 4 = .ok (.invokevirtual 334, 3) := by decide +kernel
abbrev Y_X1_breakOff : YT := (cX1_breakOff, 1, none, yX1_breakOff, [], 3)
theorem mk_X1_breakOff : MK Y_X1_breakOff 0 := ⟨KW.at (i := 82) (by decide +kernel) rfl, KW.at (i := 509) (by decide +kernel) rfl, ⟨by decide +kernel, by decide +kernel⟩, by decide +kernel, by decide +kernel, rfl, by decide⟩
theorem vm_X1_breakOff : KW (.instanceMethod (yN Y_X1_breakOff)) ∧ KW (.selects (yN Y_X1_breakOff).cls (yN Y_X1_breakOff) (yN Y_X1_breakOff)) := ⟨KW.at (i := 507) (by decide +kernel) rfl, KW.at (i := 508) (by decide +kernel) rfl⟩
theorem ck_RX7_334 : CKV RX7 334 Y_X1_breakOff 0 := ⟨KW.at (i := 506) (by decide +kernel) rfl, vm_X1_breakOff.1, vm_X1_breakOff.2, mk_X1_breakOff⟩
theorem d_X1_breakOff_0 : decode cX1_breakOff 0 = .ok (.aload_n 0, 1) := by decide +kernel
theorem d_X1_breakOff_1 : decode cX1_breakOff 1 = .ok (.getfield 34, 3) := by decide +kernel
theorem fk_RX1_34 : FK RX1 34 1 6 := ⟨RX1, TX1, 7, rfl, by decide, ws_X1, KW.at (i := 241) (by decide +kernel) rfl⟩
theorem d_X1_breakOff_4 : decode cX1_breakOff 4 = .ok (.ifCond .eq 14, 3) := by decide +kernel
theorem d_X1_breakOff_18 : decode cX1_breakOff 18 = .ok (.aload_n 0, 1) := by decide +kernel
theorem d_X1_breakOff_19 : decode cX1_breakOff 19 = .ok (.iconst 0, 1) := by decide +kernel
theorem d_X1_breakOff_20 : decode cX1_breakOff 20 = .ok (.putfield 34, 3) := by decide +kernel
theorem d_X1_breakOff_23 : decode cX1_breakOff 23 = .ok (.return_, 1) := by decide +kernel
theorem d_X1_breakOff_7 : decode cX1_breakOff 7 = .ok (.aload_n 0, 1) := by decide +kernel
theorem d_X1_breakOff_8 : decode cX1_breakOff 8 = .ok (.invokevirtual 51, 3) := by decide +kernel
theorem d_X1_breakOff_11 : decode cX1_breakOff 11 = .ok (.ifCond .eq 7, 3) := by decide +kernel
theorem d_X1_breakOff_14 : decode cX1_breakOff 14 = .ok (.aload_n 0, 1) := by decide +kernel
theorem d_X1_breakOff_15 : decode cX1_breakOff 15 = .ok (.invokevirtual 61, 3) := by decide +kernel
theorem d_X7_crash_7 : decode cX7_crash 7 = .ok (.aload_n 0, 1) := by decide +kernel
theorem d_X7_crash_8 : decode cX7_crash 8 = .ok (.getfield 62, 3) := by decide +kernel
theorem d_X7_crash_11 : decode cX7_crash 11 = .ok (.aload_n 0, 1) := by decide +kernel
theorem d_X7_crash_12 : decode cX7_crash 12 = .ok (.getfield 21, 3) := by decide +kernel
theorem d_X7_crash_15 : decode cX7_crash 15 = .ok (.invokevirtual 337, 3) := by decide +kernel
abbrev Y_X1_restoreWhole : YT := (cX1_restoreWhole, 2, none, yX1_restoreWhole, [], 2)
theorem mk_X1_restoreWhole : MK Y_X1_restoreWhole 1 := ⟨KW.at (i := 82) (by decide +kernel) rfl, KW.at (i := 521) (by decide +kernel) rfl, ⟨by decide +kernel, by decide +kernel⟩, by decide +kernel, by decide +kernel, rfl, by decide⟩
theorem vm_X1_restoreWhole : KW (.instanceMethod (yN Y_X1_restoreWhole)) ∧ KW (.selects (yN Y_X1_restoreWhole).cls (yN Y_X1_restoreWhole) (yN Y_X1_restoreWhole)) := ⟨KW.at (i := 519) (by decide +kernel) rfl, KW.at (i := 520) (by decide +kernel) rfl⟩
theorem ck_RX7_337 : CKV RX7 337 Y_X1_restoreWhole 1 := ⟨KW.at (i := 518) (by decide +kernel) rfl, vm_X1_restoreWhole.1, vm_X1_restoreWhole.2, mk_X1_restoreWhole⟩
theorem d_X1_restoreWhole_0 : decode cX1_restoreWhole 0 = .ok (.aload_n 1, 1) := by decide +kernel
theorem d_X1_restoreWhole_1 : decode cX1_restoreWhole 1 = .ok (.aload_n 0, 1) := by decide +kernel
theorem d_X1_restoreWhole_2 : decode cX1_restoreWhole 2 = .ok (.getfield 10, 3) := by decide +kernel
theorem d_X1_restoreWhole_5 : decode cX1_restoreWhole 5 = .ok (.invokevirtual 23, 3) := by decide +kernel
theorem d_X1_restoreWhole_8 : decode cX1_restoreWhole 8 = .ok (.return_, 1) := by decide +kernel
theorem d_X7_crash_18 : decode cX7_crash 18 = .ok (.aload_n 0, 1) := by decide +kernel
theorem d_X7_crash_19 : decode cX7_crash 19 = .ok (.getfield 25, 3) := by decide +kernel
theorem d_X7_crash_22 : decode cX7_crash 22 = .ok (.invokevirtual 89, 3) := by decide +kernel
theorem d_X7_crash_25 : decode cX7_crash 25 = .ok (.aload_n 0, 1) := by decide +kernel
theorem d_X7_crash_26 : decode cX7_crash 26 = .ok (.getfield 55, 3) := by decide +kernel
theorem d_X7_crash_29 : decode cX7_crash 29 = .ok (.invokevirtual 340, 3) := by decide +kernel
abbrev Y_X6_endAll : YT := (cX6_endAll, 2, none, yX6_endAll, [], 4)
theorem mk_X6_endAll : MK Y_X6_endAll 0 := ⟨KW.at (i := 81) (by decide +kernel) rfl, KW.at (i := 525) (by decide +kernel) rfl, ⟨by decide +kernel, by decide +kernel⟩, by decide +kernel, by decide +kernel, rfl, by decide⟩
theorem vm_X6_endAll : KW (.instanceMethod (yN Y_X6_endAll)) ∧ KW (.selects (yN Y_X6_endAll).cls (yN Y_X6_endAll) (yN Y_X6_endAll)) := ⟨KW.at (i := 523) (by decide +kernel) rfl, KW.at (i := 524) (by decide +kernel) rfl⟩
theorem ck_RX7_340 : CKV RX7 340 Y_X6_endAll 0 := ⟨KW.at (i := 522) (by decide +kernel) rfl, vm_X6_endAll.1, vm_X6_endAll.2, mk_X6_endAll⟩
theorem d_X6_endAll_0 : decode cX6_endAll 0 = .ok (.iconst 0, 1) := by decide +kernel
theorem d_X6_endAll_1 : decode cX6_endAll 1 = .ok (.istore_n 1, 1) := by decide +kernel
theorem d_X6_endAll_2 : decode cX6_endAll 2 = .ok (.iload_n 1, 1) := by decide +kernel
theorem d_X6_endAll_3 : decode cX6_endAll 3 = .ok (.bipush 80, 2) := by decide +kernel
theorem d_X6_endAll_5 : decode cX6_endAll 5 = .ok (.if_icmp .ge 14, 3) := by decide +kernel
theorem d_X6_endAll_19 : decode cX6_endAll 19 = .ok (.return_, 1) := by decide +kernel
theorem d_X6_endAll_8 : decode cX6_endAll 8 = .ok (.aload_n 0, 1) := by decide +kernel
theorem d_X6_endAll_9 : decode cX6_endAll 9 = .ok (.iload_n 1, 1) := by decide +kernel
theorem d_X6_endAll_10 : decode cX6_endAll 10 = .ok (.invokevirtual 36, 3) := by decide +kernel
theorem ck_RX6_36 : CKV RX6 36 Y_X6_end 1 := ⟨KW.at (i := 526) (by decide +kernel) rfl, vm_X6_end.1, vm_X6_end.2, mk_X6_end⟩
theorem d_X6_endAll_13 : decode cX6_endAll 13 = .ok (.iinc 1 1, 3) := by decide +kernel
theorem d_X6_endAll_16 : decode cX6_endAll 16 = .ok (.goto (-14), 3) := by decide +kernel
theorem d_X7_crash_32 : decode cX7_crash 32 = .ok (.aload_n 0, 1) := by decide +kernel
theorem d_X7_crash_33 : decode cX7_crash 33 = .ok (.getfield 62, 3) := by decide +kernel
theorem d_X7_crash_36 : decode cX7_crash 36 = .ok (.getfield 343, 3) := by decide +kernel
theorem fk_RX7_343 : FK RX7 343 1 5 := ⟨RX1, TX1, 7, rfl, by decide, ws_X1, KW.at (i := 240) (by decide +kernel) rfl⟩
theorem d_X7_crash_39 : decode cX7_crash 39 = .ok (.ireturn, 1) := by decide +kernel
