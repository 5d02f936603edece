/-! the class: its methods, decoded; words of the tables -/
abbrev Y_X7_list : YT := (cX7_list, 3, (some .int), yX7_list, [], 7)
theorem d_X7_list_0 : decode cX7_list 0 = .ok (.aload_n 0, 1) := by decide +kernel
theorem d_X7_list_1 : decode cX7_list 1 = .ok (.iload_n 1, 1) := by decide +kernel
theorem d_X7_list_2 : decode cX7_list 2 = .ok (.invokevirtual 95, 3) := by decide +kernel
abbrev Y_X7_requireKey : YT := (cX7_requireKey, 2, none, yX7_requireKey, [], 6)
theorem mk_X7_requireKey : MK Y_X7_requireKey 1 := ⟨KW.at (i := 36) (by decide +kernel) rfl, KW.at (i := 355) (by decide +kernel) rfl, ⟨by decide +kernel, by decide +kernel⟩, by decide +kernel, by decide +kernel, rfl, by decide⟩
theorem vm_X7_requireKey : KW (.instanceMethod (yN Y_X7_requireKey)) ∧ KW (.selects (yN Y_X7_requireKey).cls (yN Y_X7_requireKey) (yN Y_X7_requireKey)) := ⟨KW.at (i := 354) (by decide +kernel) rfl, KW.at (i := 5) (by decide +kernel) rfl⟩
theorem ck_RX7_95 : CKV RX7 95 Y_X7_requireKey 1 := ⟨KW.at (i := 352) (by decide +kernel) rfl, vm_X7_requireKey.1, vm_X7_requireKey.2, mk_X7_requireKey⟩
theorem sh_0 : SH.getD 0 (9, 0, []) = (0, 7, [5, 10, 14, 15, 16, 18, 23, 4]) := rfl
theorem d_X7_requireKey_0 : decode cX7_requireKey 0 = .ok (.aload_n 0, 1) := by decide +kernel
theorem d_X7_requireKey_1 : decode cX7_requireKey 1 = .ok (.iload_n 1, 1) := by decide +kernel
theorem d_X7_requireKey_2 : decode cX7_requireKey 2 = .ok (.invokevirtual 189, 3) := by decide +kernel
abbrev Y_X7_hasKey : YT := (cX7_hasKey, 2, (some .boolean), yX7_hasKey, [], 3)
theorem mk_X7_hasKey : MK Y_X7_hasKey 1 := ⟨KW.at (i := 36) (by decide +kernel) rfl, KW.at (i := 359) (by decide +kernel) rfl, ⟨by decide +kernel, by decide +kernel⟩, by decide +kernel, by decide +kernel, rfl, by decide⟩
theorem vm_X7_hasKey : KW (.instanceMethod (yN Y_X7_hasKey)) ∧ KW (.selects (yN Y_X7_hasKey).cls (yN Y_X7_hasKey) (yN Y_X7_hasKey)) := ⟨KW.at (i := 358) (by decide +kernel) rfl, KW.at (i := 6) (by decide +kernel) rfl⟩
theorem ck_RX7_189 : CKV RX7 189 Y_X7_hasKey 1 := ⟨KW.at (i := 356) (by decide +kernel) rfl, vm_X7_hasKey.1, vm_X7_hasKey.2, mk_X7_hasKey⟩
theorem d_X7_hasKey_0 : decode cX7_hasKey 0 = .ok (.aload_n 0, 1) := by decide +kernel
theorem d_X7_hasKey_1 : decode cX7_hasKey 1 = .ok (.getfield 21, 3) := by decide +kernel
theorem ws_X7 : ∀ w ∈ u_ws RX7 TX7 8, KW w := KW.all (by decide +kernel)
theorem fk_RX7_21 : FK RX7 21 7 0 := ⟨RX7, TX7, 8, rfl, by decide, ws_X7, KW.at (i := 323) (by decide +kernel) rfl⟩
theorem d_X7_hasKey_4 : decode cX7_hasKey 4 = .ok (.iload_n 1, 1) := by decide +kernel
theorem d_X7_hasKey_5 : decode cX7_hasKey 5 = .ok (.invokevirtual 108, 3) := by decide +kernel
abbrev Y_X2_placeOfKey : YT := (cX2_placeOfKey, 2, (some .int), yX2_placeOfKey, [], 2)
theorem mk_X2_placeOfKey : MK Y_X2_placeOfKey 1 := ⟨KW.at (i := 37) (by decide +kernel) rfl, KW.at (i := 363) (by decide +kernel) rfl, ⟨by decide +kernel, by decide +kernel⟩, by decide +kernel, by decide +kernel, rfl, by decide⟩
theorem vm_X2_placeOfKey : KW (.instanceMethod (yN Y_X2_placeOfKey)) ∧ KW (.selects (yN Y_X2_placeOfKey).cls (yN Y_X2_placeOfKey) (yN Y_X2_placeOfKey)) := ⟨KW.at (i := 361) (by decide +kernel) rfl, KW.at (i := 362) (by decide +kernel) rfl⟩
theorem ck_RX7_108 : CKV RX7 108 Y_X2_placeOfKey 1 := ⟨KW.at (i := 360) (by decide +kernel) rfl, vm_X2_placeOfKey.1, vm_X2_placeOfKey.2, mk_X2_placeOfKey⟩
theorem sh_2 : SH.getD 2 (9, 0, []) = (0, 2, [6, 7, 8, 9, 0, 0]) := rfl
theorem d_X2_placeOfKey_0 : decode cX2_placeOfKey 0 = .ok (.aload_n 0, 1) := by decide +kernel
theorem d_X2_placeOfKey_1 : decode cX2_placeOfKey 1 = .ok (.getfield 18, 3) := by decide +kernel
theorem ws_X2 : ∀ w ∈ u_ws RX2 TX2 6, KW w := KW.all (by decide +kernel)
theorem fk_RX2_18 : FK RX2 18 2 2 := ⟨RX2, TX2, 6, rfl, by decide, ws_X2, KW.at (i := 75) (by decide +kernel) rfl⟩
theorem d_X2_placeOfKey_4 : decode cX2_placeOfKey 4 = .ok (.iload_n 1, 1) := by decide +kernel
theorem d_X2_placeOfKey_5 : decode cX2_placeOfKey 5 = .ok (.invokestatic 41, 3) := by decide +kernel
theorem sm_X7_read : KW (.static (yN Y_X7_read)) := KW.at (i := 235) (by decide +kernel) rfl
theorem ck_RX2_41 : CKN RX2 41 Y_X7_read 2 := ⟨KW.at (i := 291) (by decide +kernel) rfl, sm_X7_read, mk_X7_read⟩
theorem sh_5 : SH.getD 5 (9, 0, []) = (1, 80, []) := rfl
theorem d_X2_placeOfKey_8 : decode cX2_placeOfKey 8 = .ok (.ireturn, 1) := by decide +kernel
theorem d_X7_hasKey_8 : decode cX7_hasKey 8 = .ok (.ifCond .eq 7, 3) := by decide +kernel
theorem d_X7_hasKey_15 : decode cX7_hasKey 15 = .ok (.iconst 0, 1) := by decide +kernel
theorem d_X7_hasKey_16 : decode cX7_hasKey 16 = .ok (.ireturn, 1) := by decide +kernel
theorem d_X7_hasKey_11 : decode cX7_hasKey 11 = .ok (.iconst 1, 1) := by decide +kernel
theorem d_X7_hasKey_12 : decode cX7_hasKey 12 = .ok (.goto 4, 3) := by decide +kernel
theorem d_X7_requireKey_5 : decode cX7_requireKey 5 = .ok (.ifCond .ne 14, 3) := by decide +kernel
theorem d_X7_requireKey_19 : decode cX7_requireKey 19 = .ok (.return_, 1) := by decide +kernel
theorem d_X7_requireKey_8 : decode cX7_requireKey 8 = .ok (.new 173, 3) := by decide +kernel
theorem tk_RX7_173_177 : TK RX7 0 173 177 := ⟨KW.at (i := 364) (by decide +kernel) rfl, KW.at (i := 49) (by decide +kernel) rfl, KW.all (by decide +kernel), by decide +kernel, by decide⟩
theorem d_X7_requireKey_11 : decode cX7_requireKey 11 = .ok (.dup, 1) := by decide +kernel
theorem d_X7_requireKey_12 : decode cX7_requireKey 12 = .ok (.ldc_w 346, 3) := by decide +kernel
theorem d_X7_requireKey_15 : decode cX7_requireKey 15 = .ok (.invokespecial 177, 3) := by decide +kernel
theorem d_X7_requireKey_18 : decode cX7_requireKey 18 = .ok (.athrow, 1) := by decide +kernel
theorem d_X7_list_5 : decode cX7_list 5 = .ok (.aload_n 0, 1) := by decide +kernel
theorem d_X7_list_6 : decode cX7_list 6 = .ok (.getfield 21, 3) := by decide +kernel
theorem d_X7_list_9 : decode cX7_list 9 = .ok (.iload_n 1, 1) := by decide +kernel
theorem d_X7_list_10 : decode cX7_list 10 = .ok (.invokevirtual 108, 3) := by decide +kernel
theorem d_X7_list_13 : decode cX7_list 13 = .ok (.istore_n 2, 1) := by decide +kernel
theorem d_X7_list_14 : decode cX7_list 14 = .ok (.bipush 10, 2) := by decide +kernel
theorem d_X7_list_16 : decode cX7_list 16 = .ok (.aload_n 0, 1) := by decide +kernel
theorem d_X7_list_17 : decode cX7_list 17 = .ok (.getfield 34, 3) := by decide +kernel
theorem fk_RX7_34 : FK RX7 34 7 2 := ⟨RX7, TX7, 8, rfl, by decide, ws_X7, KW.at (i := 325) (by decide +kernel) rfl⟩
theorem d_X7_list_20 : decode cX7_list 20 = .ok (.iload_n 2, 1) := by decide +kernel
theorem d_X7_list_21 : decode cX7_list 21 = .ok (.invokevirtual 170, 3) := by decide +kernel
abbrev Y_X3_entryCount : YT := (cX3_entryCount, 5, (some .int), yX3_entryCount, [], 4)
theorem mk_X3_entryCount : MK Y_X3_entryCount 1 := ⟨KW.at (i := 39) (by decide +kernel) rfl, KW.at (i := 899) (by decide +kernel) rfl, ⟨by decide +kernel, by decide +kernel⟩, by decide +kernel, by decide +kernel, rfl, by decide⟩
theorem vm_X3_entryCount : KW (.instanceMethod (yN Y_X3_entryCount)) ∧ KW (.selects (yN Y_X3_entryCount).cls (yN Y_X3_entryCount) (yN Y_X3_entryCount)) := ⟨KW.at (i := 897) (by decide +kernel) rfl, KW.at (i := 898) (by decide +kernel) rfl⟩
theorem ck_RX7_170 : CKV RX7 170 Y_X3_entryCount 1 := ⟨KW.at (i := 896) (by decide +kernel) rfl, vm_X3_entryCount.1, vm_X3_entryCount.2, mk_X3_entryCount⟩
theorem sh_11 : SH.getD 11 (9, 0, []) = (0, 3, [5, 10]) := rfl
theorem d_X3_entryCount_0 : decode cX3_entryCount 0 = .ok (.aload_n 0, 1) := by decide +kernel
theorem d_X3_entryCount_1 : decode cX3_entryCount 1 = .ok (.iload_n 1, 1) := by decide +kernel
theorem d_X3_entryCount_2 : decode cX3_entryCount 2 = .ok (.invokevirtual 35, 3) := by decide +kernel
abbrev Y_X3_leafCount : YT := (cX3_leafCount, 3, (some .int), yX3_leafCount, [], 3)
theorem mk_X3_leafCount : MK Y_X3_leafCount 1 := ⟨KW.at (i := 39) (by decide +kernel) rfl, KW.at (i := 571) (by decide +kernel) rfl, ⟨by decide +kernel, by decide +kernel⟩, by decide +kernel, by decide +kernel, rfl, by decide⟩
theorem vm_X3_leafCount : KW (.instanceMethod (yN Y_X3_leafCount)) ∧ KW (.selects (yN Y_X3_leafCount).cls (yN Y_X3_leafCount) (yN Y_X3_leafCount)) := ⟨KW.at (i := 569) (by decide +kernel) rfl, KW.at (i := 570) (by decide +kernel) rfl⟩
theorem ck_RX3_35 : CKV RX3 35 Y_X3_leafCount 1 := ⟨KW.at (i := 568) (by decide +kernel) rfl, vm_X3_leafCount.1, vm_X3_leafCount.2, mk_X3_leafCount⟩
theorem d_X3_leafCount_0 : decode cX3_leafCount 0 = .ok (.aload_n 0, 1) := by decide +kernel
theorem d_X3_leafCount_1 : decode cX3_leafCount 1 = .ok (.getfield 9, 3) := by decide +kernel
theorem ws_X3 : ∀ w ∈ u_ws RX3 TX3 2, KW w := KW.all (by decide +kernel)
theorem fk_RX3_9 : FK RX3 9 3 0 := ⟨RX3, TX3, 2, rfl, by decide, ws_X3, KW.at (i := 128) (by decide +kernel) rfl⟩
theorem d_X3_leafCount_4 : decode cX3_leafCount 4 = .ok (.iload_n 1, 1) := by decide +kernel
theorem d_X3_leafCount_5 : decode cX3_leafCount 5 = .ok (.iconst 2, 1) := by decide +kernel
theorem d_X3_leafCount_6 : decode cX3_leafCount 6 = .ok (.iadd, 1) := by decide +kernel
theorem d_X3_leafCount_7 : decode cX3_leafCount 7 = .ok (.invokevirtual 23, 3) := by decide +kernel
abbrev Y_X2_unitAt : YT := (cX2_unitAt, 2, (some .int), yX2_unitAt, [], 2)
theorem mk_X2_unitAt : MK Y_X2_unitAt 1 := ⟨KW.at (i := 37) (by decide +kernel) rfl, KW.at (i := 308) (by decide +kernel) rfl, ⟨by decide +kernel, by decide +kernel⟩, by decide +kernel, by decide +kernel, rfl, by decide⟩
theorem vm_X2_unitAt : KW (.instanceMethod (yN Y_X2_unitAt)) ∧ KW (.selects (yN Y_X2_unitAt).cls (yN Y_X2_unitAt) (yN Y_X2_unitAt)) := ⟨KW.at (i := 306) (by decide +kernel) rfl, KW.at (i := 307) (by decide +kernel) rfl⟩
theorem ck_RX3_23 : CKV RX3 23 Y_X2_unitAt 1 := ⟨KW.at (i := 572) (by decide +kernel) rfl, vm_X2_unitAt.1, vm_X2_unitAt.2, mk_X2_unitAt⟩
theorem d_X2_unitAt_0 : decode cX2_unitAt 0 = .ok (.aload_n 0, 1) := by decide +kernel
theorem d_X2_unitAt_1 : decode cX2_unitAt 1 = .ok (.getfield 15, 3) := by decide +kernel
theorem fk_RX2_15 : FK RX2 15 2 1 := ⟨RX2, TX2, 6, rfl, by decide, ws_X2, KW.at (i := 74) (by decide +kernel) rfl⟩
theorem d_X2_unitAt_4 : decode cX2_unitAt 4 = .ok (.iload_n 1, 1) := by decide +kernel
theorem d_X2_unitAt_5 : decode cX2_unitAt 5 = .ok (.invokestatic 41, 3) := by decide +kernel
theorem sh_4 : SH.getD 4 (9, 0, []) = (1, 1024, []) := rfl
theorem d_X2_unitAt_8 : decode cX2_unitAt 8 = .ok (.ireturn, 1) := by decide +kernel
theorem d_X3_leafCount_10 : decode cX3_leafCount 10 = .ok (.istore_n 2, 1) := by decide +kernel
theorem d_X3_leafCount_11 : decode cX3_leafCount 11 = .ok (.iload_n 2, 1) := by decide +kernel
theorem d_X3_leafCount_12 : decode cX3_leafCount 12 = .ok (.ifCond .ne 5, 3) := by decide +kernel
theorem d_X3_leafCount_17 : decode cX3_leafCount 17 = .ok (.aload_n 0, 1) := by decide +kernel
theorem d_X3_leafCount_18 : decode cX3_leafCount 18 = .ok (.iload_n 2, 1) := by decide +kernel
theorem d_X3_leafCount_19 : decode cX3_leafCount 19 = .ok (.invokevirtual 28, 3) := by decide +kernel
abbrev Y_X3_isIndex : YT := (cX3_isIndex, 2, (some .boolean), yX3_isIndex, [], 2)
theorem mk_X3_isIndex : MK Y_X3_isIndex 1 := ⟨KW.at (i := 39) (by decide +kernel) rfl, KW.at (i := 576) (by decide +kernel) rfl, ⟨by decide +kernel, by decide +kernel⟩, by decide +kernel, by decide +kernel, rfl, by decide⟩
theorem vm_X3_isIndex : KW (.instanceMethod (yN Y_X3_isIndex)) ∧ KW (.selects (yN Y_X3_isIndex).cls (yN Y_X3_isIndex) (yN Y_X3_isIndex)) := ⟨KW.at (i := 575) (by decide +kernel) rfl, KW.at (i := 14) (by decide +kernel) rfl⟩
theorem ck_RX3_28 : CKV RX3 28 Y_X3_isIndex 1 := ⟨KW.at (i := 573) (by decide +kernel) rfl, vm_X3_isIndex.1, vm_X3_isIndex.2, mk_X3_isIndex⟩
theorem d_X3_isIndex_0 : decode cX3_isIndex 0 = .ok (.aload_n 0, 1) := by decide +kernel
theorem d_X3_isIndex_1 : decode cX3_isIndex 1 = .ok (.getfield 9, 3) := by decide +kernel
theorem d_X3_isIndex_4 : decode cX3_isIndex 4 = .ok (.getfield 93, 3) := by decide +kernel
theorem fk_RX3_93 : FK RX3 93 2 0 := ⟨RX2, TX2, 6, rfl, by decide, ws_X2, KW.at (i := 73) (by decide +kernel) rfl⟩
theorem d_X3_isIndex_7 : decode cX3_isIndex 7 = .ok (.iload_n 1, 1) := by decide +kernel
theorem d_X3_isIndex_8 : decode cX3_isIndex 8 = .ok (.invokestatic 97, 3) := by decide +kernel
theorem ck_RX3_97 : CKN RX3 97 Y_X7_read 2 := ⟨KW.at (i := 577) (by decide +kernel) rfl, sm_X7_read, mk_X7_read⟩
theorem sh_3 : SH.getD 3 (9, 0, []) = (1, 1024, []) := rfl
theorem d_X3_isIndex_11 : decode cX3_isIndex 11 = .ok (.bipush 9, 2) := by decide +kernel
theorem d_X3_isIndex_13 : decode cX3_isIndex 13 = .ok (.if_icmp .ne 7, 3) := by decide +kernel
theorem d_X3_isIndex_20 : decode cX3_isIndex 20 = .ok (.iconst 0, 1) := by decide +kernel
theorem d_X3_isIndex_21 : decode cX3_isIndex 21 = .ok (.ireturn, 1) := by decide +kernel
theorem d_X3_isIndex_16 : decode cX3_isIndex 16 = .ok (.iconst 1, 1) := by decide +kernel
theorem d_X3_isIndex_17 : decode cX3_isIndex 17 = .ok (.goto 4, 3) := by decide +kernel
theorem d_X3_leafCount_22 : decode cX3_leafCount 22 = .ok (.ifCond .eq 14, 3) := by decide +kernel
theorem d_X3_leafCount_36 : decode cX3_leafCount 36 = .ok (.iconst 1, 1) := by decide +kernel
theorem d_X3_leafCount_37 : decode cX3_leafCount 37 = .ok (.ireturn, 1) := by decide +kernel
theorem d_X3_leafCount_25 : decode cX3_leafCount 25 = .ok (.aload_n 0, 1) := by decide +kernel
theorem d_X3_leafCount_26 : decode cX3_leafCount 26 = .ok (.getfield 9, 3) := by decide +kernel
theorem d_X3_leafCount_29 : decode cX3_leafCount 29 = .ok (.iload_n 2, 1) := by decide +kernel
theorem d_X3_leafCount_30 : decode cX3_leafCount 30 = .ok (.invokevirtual 32, 3) := by decide +kernel
abbrev Y_X2_itemCount : YT := (cX2_itemCount, 2, (some .int), yX2_itemCount, [], 2)
theorem mk_X2_itemCount : MK Y_X2_itemCount 1 := ⟨KW.at (i := 37) (by decide +kernel) rfl, KW.at (i := 581) (by decide +kernel) rfl, ⟨by decide +kernel, by decide +kernel⟩, by decide +kernel, by decide +kernel, rfl, by decide⟩
theorem vm_X2_itemCount : KW (.instanceMethod (yN Y_X2_itemCount)) ∧ KW (.selects (yN Y_X2_itemCount).cls (yN Y_X2_itemCount) (yN Y_X2_itemCount)) := ⟨KW.at (i := 579) (by decide +kernel) rfl, KW.at (i := 580) (by decide +kernel) rfl⟩
theorem ck_RX3_32 : CKV RX3 32 Y_X2_itemCount 1 := ⟨KW.at (i := 578) (by decide +kernel) rfl, vm_X2_itemCount.1, vm_X2_itemCount.2, mk_X2_itemCount⟩
theorem d_X2_itemCount_0 : decode cX2_itemCount 0 = .ok (.aload_n 0, 1) := by decide +kernel
theorem d_X2_itemCount_1 : decode cX2_itemCount 1 = .ok (.getfield 15, 3) := by decide +kernel
theorem d_X2_itemCount_4 : decode cX2_itemCount 4 = .ok (.iload_n 1, 1) := by decide +kernel
theorem d_X2_itemCount_5 : decode cX2_itemCount 5 = .ok (.invokestatic 41, 3) := by decide +kernel
theorem d_X2_itemCount_8 : decode cX2_itemCount 8 = .ok (.ireturn, 1) := by decide +kernel
theorem d_X3_leafCount_33 : decode cX3_leafCount 33 = .ok (.goto 4, 3) := by decide +kernel
theorem d_X3_leafCount_15 : decode cX3_leafCount 15 = .ok (.iconst 0, 1) := by decide +kernel
theorem d_X3_leafCount_16 : decode cX3_leafCount 16 = .ok (.ireturn, 1) := by decide +kernel
theorem d_X3_entryCount_5 : decode cX3_entryCount 5 = .ok (.istore_n 2, 1) := by decide +kernel
theorem d_X3_entryCount_6 : decode cX3_entryCount 6 = .ok (.iconst 0, 1) := by decide +kernel
theorem d_X3_entryCount_7 : decode cX3_entryCount 7 = .ok (.istore_n 3, 1) := by decide +kernel
theorem d_X3_entryCount_8 : decode cX3_entryCount 8 = .ok (.iconst 0, 1) := by decide +kernel
theorem d_X3_entryCount_9 : decode cX3_entryCount 9 = .ok (.istore 4, 2) := by decide +kernel
theorem d_X3_entryCount_11 : decode cX3_entryCount 11 = .ok (.iload 4, 2) := by decide +kernel
theorem d_X3_entryCount_13 : decode cX3_entryCount 13 = .ok (.iload_n 2, 1) := by decide +kernel
theorem d_X3_entryCount_14 : decode cX3_entryCount 14 = .ok (.if_icmp .ge 26, 3) := by decide +kernel
theorem d_X3_entryCount_40 : decode cX3_entryCount 40 = .ok (.iload_n 3, 1) := by decide +kernel
theorem d_X3_entryCount_41 : decode cX3_entryCount 41 = .ok (.ireturn, 1) := by decide +kernel
theorem d_X3_entryCount_17 : decode cX3_entryCount 17 = .ok (.iload_n 3, 1) := by decide +kernel
theorem d_X3_entryCount_18 : decode cX3_entryCount 18 = .ok (.aload_n 0, 1) := by decide +kernel
theorem d_X3_entryCount_19 : decode cX3_entryCount 19 = .ok (.getfield 9, 3) := by decide +kernel
theorem d_X3_entryCount_22 : decode cX3_entryCount 22 = .ok (.aload_n 0, 1) := by decide +kernel
theorem d_X3_entryCount_23 : decode cX3_entryCount 23 = .ok (.iload_n 1, 1) := by decide +kernel
theorem d_X3_entryCount_24 : decode cX3_entryCount 24 = .ok (.iload 4, 2) := by decide +kernel
theorem d_X3_entryCount_26 : decode cX3_entryCount 26 = .ok (.invokevirtual 38, 3) := by decide +kernel
abbrev Y_X3_leafNumbered : YT := (cX3_leafNumbered, 4, (some .int), yX3_leafNumbered, [], 3)
theorem mk_X3_leafNumbered : MK Y_X3_leafNumbered 2 := ⟨KW.at (i := 39) (by decide +kernel) rfl, KW.at (i := 585) (by decide +kernel) rfl, ⟨by decide +kernel, by decide +kernel⟩, by decide +kernel, by decide +kernel, rfl, by decide⟩
theorem vm_X3_leafNumbered : KW (.instanceMethod (yN Y_X3_leafNumbered)) ∧ KW (.selects (yN Y_X3_leafNumbered).cls (yN Y_X3_leafNumbered) (yN Y_X3_leafNumbered)) := ⟨KW.at (i := 584) (by decide +kernel) rfl, KW.at (i := 15) (by decide +kernel) rfl⟩
theorem ck_RX3_38 : CKV RX3 38 Y_X3_leafNumbered 2 := ⟨KW.at (i := 582) (by decide +kernel) rfl, vm_X3_leafNumbered.1, vm_X3_leafNumbered.2, mk_X3_leafNumbered⟩
theorem d_X3_leafNumbered_0 : decode cX3_leafNumbered 0 = .ok (.aload_n 0, 1) := by decide +kernel
theorem d_X3_leafNumbered_1 : decode cX3_leafNumbered 1 = .ok (.getfield 9, 3) := by decide +kernel
theorem d_X3_leafNumbered_4 : decode cX3_leafNumbered 4 = .ok (.iload_n 1, 1) := by decide +kernel
theorem d_X3_leafNumbered_5 : decode cX3_leafNumbered 5 = .ok (.iconst 2, 1) := by decide +kernel
theorem d_X3_leafNumbered_6 : decode cX3_leafNumbered 6 = .ok (.iadd, 1) := by decide +kernel
theorem d_X3_leafNumbered_7 : decode cX3_leafNumbered 7 = .ok (.invokevirtual 23, 3) := by decide +kernel
theorem d_X3_leafNumbered_10 : decode cX3_leafNumbered 10 = .ok (.istore_n 3, 1) := by decide +kernel
theorem d_X3_leafNumbered_11 : decode cX3_leafNumbered 11 = .ok (.aload_n 0, 1) := by decide +kernel
theorem d_X3_leafNumbered_12 : decode cX3_leafNumbered 12 = .ok (.iload_n 3, 1) := by decide +kernel
theorem d_X3_leafNumbered_13 : decode cX3_leafNumbered 13 = .ok (.invokevirtual 28, 3) := by decide +kernel
theorem d_X3_leafNumbered_16 : decode cX3_leafNumbered 16 = .ok (.ifCond .eq 15, 3) := by decide +kernel
theorem d_X3_leafNumbered_31 : decode cX3_leafNumbered 31 = .ok (.iload_n 3, 1) := by decide +kernel
theorem d_X3_leafNumbered_32 : decode cX3_leafNumbered 32 = .ok (.ireturn, 1) := by decide +kernel
theorem d_X3_leafNumbered_19 : decode cX3_leafNumbered 19 = .ok (.aload_n 0, 1) := by decide +kernel
theorem d_X3_leafNumbered_20 : decode cX3_leafNumbered 20 = .ok (.getfield 9, 3) := by decide +kernel
theorem d_X3_leafNumbered_23 : decode cX3_leafNumbered 23 = .ok (.iload_n 3, 1) := by decide +kernel
theorem d_X3_leafNumbered_24 : decode cX3_leafNumbered 24 = .ok (.iload_n 2, 1) := by decide +kernel
theorem d_X3_leafNumbered_25 : decode cX3_leafNumbered 25 = .ok (.invokevirtual 45, 3) := by decide +kernel
abbrev Y_X2_item : YT := (cX2_item, 3, (some .int), yX2_item, [], 2)
theorem mk_X2_item : MK Y_X2_item 2 := ⟨KW.at (i := 37) (by decide +kernel) rfl, KW.at (i := 589) (by decide +kernel) rfl, ⟨by decide +kernel, by decide +kernel⟩, by decide +kernel, by decide +kernel, rfl, by decide⟩
theorem vm_X2_item : KW (.instanceMethod (yN Y_X2_item)) ∧ KW (.selects (yN Y_X2_item).cls (yN Y_X2_item) (yN Y_X2_item)) := ⟨KW.at (i := 587) (by decide +kernel) rfl, KW.at (i := 588) (by decide +kernel) rfl⟩
theorem ck_RX3_45 : CKV RX3 45 Y_X2_item 2 := ⟨KW.at (i := 586) (by decide +kernel) rfl, vm_X2_item.1, vm_X2_item.2, mk_X2_item⟩
theorem d_X2_item_0 : decode cX2_item 0 = .ok (.aload_n 0, 1) := by decide +kernel
theorem d_X2_item_1 : decode cX2_item 1 = .ok (.getfield 15, 3) := by decide +kernel
theorem d_X2_item_4 : decode cX2_item 4 = .ok (.iload_n 1, 1) := by decide +kernel
theorem d_X2_item_5 : decode cX2_item 5 = .ok (.iconst 1, 1) := by decide +kernel
theorem d_X2_item_6 : decode cX2_item 6 = .ok (.iadd, 1) := by decide +kernel
theorem d_X2_item_7 : decode cX2_item 7 = .ok (.iload_n 2, 1) := by decide +kernel
theorem d_X2_item_8 : decode cX2_item 8 = .ok (.iadd, 1) := by decide +kernel
theorem d_X2_item_9 : decode cX2_item 9 = .ok (.invokestatic 41, 3) := by decide +kernel
theorem d_X2_item_12 : decode cX2_item 12 = .ok (.ireturn, 1) := by decide +kernel
theorem d_X3_leafNumbered_28 : decode cX3_leafNumbered 28 = .ok (.goto 4, 3) := by decide +kernel
theorem d_X3_entryCount_29 : decode cX3_entryCount 29 = .ok (.invokevirtual 32, 3) := by decide +kernel
theorem d_X3_entryCount_32 : decode cX3_entryCount 32 = .ok (.iadd, 1) := by decide +kernel
theorem d_X3_entryCount_33 : decode cX3_entryCount 33 = .ok (.istore_n 3, 1) := by decide +kernel
theorem d_X3_entryCount_34 : decode cX3_entryCount 34 = .ok (.iinc 4 1, 3) := by decide +kernel
theorem d_X3_entryCount_37 : decode cX3_entryCount 37 = .ok (.goto (-26), 3) := by decide +kernel
theorem d_X7_list_24 : decode cX7_list 24 = .ok (.imul, 1) := by decide +kernel
theorem d_X7_list_25 : decode cX7_list 25 = .ok (.aload_n 0, 1) := by decide +kernel
theorem d_X7_list_26 : decode cX7_list 26 = .ok (.getfield 34, 3) := by decide +kernel
theorem d_X7_list_29 : decode cX7_list 29 = .ok (.iload_n 2, 1) := by decide +kernel
theorem d_X7_list_30 : decode cX7_list 30 = .ok (.invokevirtual 183, 3) := by decide +kernel
theorem ck_RX7_183 : CKV RX7 183 Y_X3_leafCount 1 := ⟨KW.at (i := 688) (by decide +kernel) rfl, vm_X3_leafCount.1, vm_X3_leafCount.2, mk_X3_leafCount⟩
theorem d_X7_list_33 : decode cX7_list 33 = .ok (.iadd, 1) := by decide +kernel
theorem d_X7_list_34 : decode cX7_list 34 = .ok (.ireturn, 1) := by decide +kernel
abbrev Y_X7_find : YT := (cX7_find, 3, (some .int), yX7_find, [], 7)
theorem d_X7_find_0 : decode cX7_find 0 = .ok (.aload_n 0, 1) := by decide +kernel
theorem d_X7_find_1 : decode cX7_find 1 = .ok (.iload_n 1, 1) := by decide +kernel
theorem d_X7_find_2 : decode cX7_find 2 = .ok (.invokevirtual 95, 3) := by decide +kernel
theorem d_X7_find_5 : decode cX7_find 5 = .ok (.iload_n 2, 1) := by decide +kernel
theorem d_X7_find_6 : decode cX7_find 6 = .ok (.invokestatic 98, 3) := by decide +kernel
abbrev Y_X7_requireName : YT := (cX7_requireName, 1, none, yX7_requireName, [], 6)
theorem mk_X7_requireName : MK Y_X7_requireName 1 := ⟨KW.at (i := 36) (by decide +kernel) rfl, KW.at (i := 528) (by decide +kernel) rfl, ⟨by decide +kernel, by decide +kernel⟩, by decide +kernel, by decide +kernel, rfl, by decide⟩
theorem sm_X7_requireName : KW (.static (yN Y_X7_requireName)) := KW.at (i := 527) (by decide +kernel) rfl
theorem ck_RX7_98 : CKS RX7 98 Y_X7_requireName 1 := ⟨KW.at (i := 526) (by decide +kernel) rfl, sm_X7_requireName, mk_X7_requireName⟩
theorem d_X7_requireName_0 : decode cX7_requireName 0 = .ok (.iload_n 0, 1) := by decide +kernel
theorem d_X7_requireName_1 : decode cX7_requireName 1 = .ok (.ifCond .lt 10, 3) := by decide +kernel
theorem d_X7_requireName_11 : decode cX7_requireName 11 = .ok (.new 279, 3) := by decide +kernel
theorem tk_RX7_279_283 : TK RX7 1 279 283 := ⟨KW.at (i := 459) (by decide +kernel) rfl, KW.at (i := 50) (by decide +kernel) rfl, KW.all (by decide +kernel), by decide +kernel, by decide⟩
theorem d_X7_requireName_14 : decode cX7_requireName 14 = .ok (.dup, 1) := by decide +kernel
theorem d_X7_requireName_15 : decode cX7_requireName 15 = .ok (.ldc_w 350, 3) := by decide +kernel
theorem d_X7_requireName_18 : decode cX7_requireName 18 = .ok (.invokespecial 283, 3) := by decide +kernel
theorem d_X7_requireName_21 : decode cX7_requireName 21 = .ok (.athrow, 1) := by decide +kernel
theorem d_X7_requireName_4 : decode cX7_requireName 4 = .ok (.iload_n 0, 1) := by decide +kernel
theorem d_X7_requireName_5 : decode cX7_requireName 5 = .ok (.sipush 9999, 3) := by decide +kernel
theorem d_X7_requireName_8 : decode cX7_requireName 8 = .ok (.if_icmp .le 14, 3) := by decide +kernel
theorem d_X7_requireName_22 : decode cX7_requireName 22 = .ok (.return_, 1) := by decide +kernel
theorem d_X7_find_9 : decode cX7_find 9 = .ok (.aload_n 0, 1) := by decide +kernel
theorem d_X7_find_10 : decode cX7_find 10 = .ok (.getfield 34, 3) := by decide +kernel
theorem d_X7_find_13 : decode cX7_find 13 = .ok (.aload_n 0, 1) := by decide +kernel
theorem d_X7_find_14 : decode cX7_find 14 = .ok (.getfield 21, 3) := by decide +kernel
theorem d_X7_find_17 : decode cX7_find 17 = .ok (.iload_n 1, 1) := by decide +kernel
theorem d_X7_find_18 : decode cX7_find 18 = .ok (.invokevirtual 108, 3) := by decide +kernel
theorem d_X7_find_21 : decode cX7_find 21 = .ok (.iload_n 2, 1) := by decide +kernel
theorem d_X7_find_22 : decode cX7_find 22 = .ok (.invokevirtual 167, 3) := by decide +kernel
abbrev Y_X3_subkeyNamed : YT := (cX3_subkeyNamed, 6, (some .int), yX3_subkeyNamed, [], 4)
theorem mk_X3_subkeyNamed : MK Y_X3_subkeyNamed 2 := ⟨KW.at (i := 39) (by decide +kernel) rfl, KW.at (i := 567) (by decide +kernel) rfl, ⟨by decide +kernel, by decide +kernel⟩, by decide +kernel, by decide +kernel, rfl, by decide⟩
theorem vm_X3_subkeyNamed : KW (.instanceMethod (yN Y_X3_subkeyNamed)) ∧ KW (.selects (yN Y_X3_subkeyNamed).cls (yN Y_X3_subkeyNamed) (yN Y_X3_subkeyNamed)) := ⟨KW.at (i := 565) (by decide +kernel) rfl, KW.at (i := 566) (by decide +kernel) rfl⟩
theorem ck_RX7_167 : CKV RX7 167 Y_X3_subkeyNamed 2 := ⟨KW.at (i := 564) (by decide +kernel) rfl, vm_X3_subkeyNamed.1, vm_X3_subkeyNamed.2, mk_X3_subkeyNamed⟩
theorem d_X3_subkeyNamed_0 : decode cX3_subkeyNamed 0 = .ok (.aload_n 0, 1) := by decide +kernel
theorem d_X3_subkeyNamed_1 : decode cX3_subkeyNamed 1 = .ok (.iload_n 1, 1) := by decide +kernel
theorem d_X3_subkeyNamed_2 : decode cX3_subkeyNamed 2 = .ok (.invokevirtual 35, 3) := by decide +kernel
theorem d_X3_subkeyNamed_5 : decode cX3_subkeyNamed 5 = .ok (.istore_n 3, 1) := by decide +kernel
theorem d_X3_subkeyNamed_6 : decode cX3_subkeyNamed 6 = .ok (.iconst 0, 1) := by decide +kernel
theorem d_X3_subkeyNamed_7 : decode cX3_subkeyNamed 7 = .ok (.istore 4, 2) := by decide +kernel
theorem d_X3_subkeyNamed_9 : decode cX3_subkeyNamed 9 = .ok (.iload 4, 2) := by decide +kernel
theorem d_X3_subkeyNamed_11 : decode cX3_subkeyNamed 11 = .ok (.iload_n 3, 1) := by decide +kernel
theorem d_X3_subkeyNamed_12 : decode cX3_subkeyNamed 12 = .ok (.if_icmp .ge 32, 3) := by decide +kernel
theorem d_X3_subkeyNamed_44 : decode cX3_subkeyNamed 44 = .ok (.iconst (-1), 1) := by decide +kernel
theorem d_X3_subkeyNamed_45 : decode cX3_subkeyNamed 45 = .ok (.ireturn, 1) := by decide +kernel
theorem d_X3_subkeyNamed_15 : decode cX3_subkeyNamed 15 = .ok (.aload_n 0, 1) := by decide +kernel
theorem d_X3_subkeyNamed_16 : decode cX3_subkeyNamed 16 = .ok (.aload_n 0, 1) := by decide +kernel
theorem d_X3_subkeyNamed_17 : decode cX3_subkeyNamed 17 = .ok (.iload_n 1, 1) := by decide +kernel
theorem d_X3_subkeyNamed_18 : decode cX3_subkeyNamed 18 = .ok (.iload 4, 2) := by decide +kernel
theorem d_X3_subkeyNamed_20 : decode cX3_subkeyNamed 20 = .ok (.invokevirtual 38, 3) := by decide +kernel
theorem d_X3_subkeyNamed_23 : decode cX3_subkeyNamed 23 = .ok (.iload_n 2, 1) := by decide +kernel
theorem d_X3_subkeyNamed_24 : decode cX3_subkeyNamed 24 = .ok (.invokevirtual 42, 3) := by decide +kernel
abbrev Y_X3_keyInLeaf : YT := (cX3_keyInLeaf, 6, (some .int), yX3_keyInLeaf, [], 3)
theorem mk_X3_keyInLeaf : MK Y_X3_keyInLeaf 2 := ⟨KW.at (i := 39) (by decide +kernel) rfl, KW.at (i := 593) (by decide +kernel) rfl, ⟨by decide +kernel, by decide +kernel⟩, by decide +kernel, by decide +kernel, rfl, by decide⟩
theorem vm_X3_keyInLeaf : KW (.instanceMethod (yN Y_X3_keyInLeaf)) ∧ KW (.selects (yN Y_X3_keyInLeaf).cls (yN Y_X3_keyInLeaf) (yN Y_X3_keyInLeaf)) := ⟨KW.at (i := 592) (by decide +kernel) rfl, KW.at (i := 16) (by decide +kernel) rfl⟩
theorem ck_RX3_42 : CKV RX3 42 Y_X3_keyInLeaf 2 := ⟨KW.at (i := 590) (by decide +kernel) rfl, vm_X3_keyInLeaf.1, vm_X3_keyInLeaf.2, mk_X3_keyInLeaf⟩
theorem d_X3_keyInLeaf_0 : decode cX3_keyInLeaf 0 = .ok (.aload_n 0, 1) := by decide +kernel
theorem d_X3_keyInLeaf_1 : decode cX3_keyInLeaf 1 = .ok (.getfield 9, 3) := by decide +kernel
theorem d_X3_keyInLeaf_4 : decode cX3_keyInLeaf 4 = .ok (.iload_n 1, 1) := by decide +kernel
theorem d_X3_keyInLeaf_5 : decode cX3_keyInLeaf 5 = .ok (.invokevirtual 32, 3) := by decide +kernel
theorem d_X3_keyInLeaf_8 : decode cX3_keyInLeaf 8 = .ok (.istore_n 3, 1) := by decide +kernel
theorem d_X3_keyInLeaf_9 : decode cX3_keyInLeaf 9 = .ok (.iconst 0, 1) := by decide +kernel
theorem d_X3_keyInLeaf_10 : decode cX3_keyInLeaf 10 = .ok (.istore 4, 2) := by decide +kernel
theorem d_X3_keyInLeaf_12 : decode cX3_keyInLeaf 12 = .ok (.iload 4, 2) := by decide +kernel
theorem d_X3_keyInLeaf_14 : decode cX3_keyInLeaf 14 = .ok (.iload_n 3, 1) := by decide +kernel
theorem d_X3_keyInLeaf_15 : decode cX3_keyInLeaf 15 = .ok (.if_icmp .ge 39, 3) := by decide +kernel
theorem d_X3_keyInLeaf_54 : decode cX3_keyInLeaf 54 = .ok (.iconst (-1), 1) := by decide +kernel
theorem d_X3_keyInLeaf_55 : decode cX3_keyInLeaf 55 = .ok (.ireturn, 1) := by decide +kernel
theorem d_X3_keyInLeaf_18 : decode cX3_keyInLeaf 18 = .ok (.aload_n 0, 1) := by decide +kernel
theorem d_X3_keyInLeaf_19 : decode cX3_keyInLeaf 19 = .ok (.getfield 9, 3) := by decide +kernel
theorem d_X3_keyInLeaf_22 : decode cX3_keyInLeaf 22 = .ok (.iload_n 1, 1) := by decide +kernel
theorem d_X3_keyInLeaf_23 : decode cX3_keyInLeaf 23 = .ok (.iload 4, 2) := by decide +kernel
theorem d_X3_keyInLeaf_25 : decode cX3_keyInLeaf 25 = .ok (.invokevirtual 45, 3) := by decide +kernel
theorem d_X3_keyInLeaf_28 : decode cX3_keyInLeaf 28 = .ok (.istore 5, 2) := by decide +kernel
theorem d_X3_keyInLeaf_30 : decode cX3_keyInLeaf 30 = .ok (.iload 5, 2) := by decide +kernel
theorem d_X3_keyInLeaf_32 : decode cX3_keyInLeaf 32 = .ok (.bipush 80, 2) := by decide +kernel
theorem d_X3_keyInLeaf_34 : decode cX3_keyInLeaf 34 = .ok (.idiv, 1) := by decide +kernel
theorem d_X3_keyInLeaf_35 : decode cX3_keyInLeaf 35 = .ok (.iload_n 2, 1) := by decide +kernel
theorem d_X3_keyInLeaf_36 : decode cX3_keyInLeaf 36 = .ok (.invokestatic 19, 3) := by decide +kernel
abbrev Y_X3_rankOf : YT := (cX3_rankOf, 1, (some .int), yX3_rankOf, [], 1)
theorem mk_X3_rankOf : MK Y_X3_rankOf 1 := ⟨KW.at (i := 39) (by decide +kernel) rfl, KW.at (i := 539) (by decide +kernel) rfl, ⟨by decide +kernel, by decide +kernel⟩, by decide +kernel, by decide +kernel, rfl, by decide⟩
theorem sm_X3_rankOf : KW (.static (yN Y_X3_rankOf)) := KW.at (i := 538) (by decide +kernel) rfl
theorem ck_RX3_19 : CKS RX3 19 Y_X3_rankOf 1 := ⟨KW.at (i := 537) (by decide +kernel) rfl, sm_X3_rankOf, mk_X3_rankOf⟩
theorem d_X3_rankOf_0 : decode cX3_rankOf 0 = .ok (.bipush 7, 2) := by decide +kernel
theorem d_X3_rankOf_2 : decode cX3_rankOf 2 = .ok (.iload_n 0, 1) := by decide +kernel
theorem d_X3_rankOf_3 : decode cX3_rankOf 3 = .ok (.imul, 1) := by decide +kernel
theorem d_X3_rankOf_4 : decode cX3_rankOf 4 = .ok (.bipush 64, 2) := by decide +kernel
theorem d_X3_rankOf_6 : decode cX3_rankOf 6 = .ok (.irem, 1) := by decide +kernel
theorem d_X3_rankOf_7 : decode cX3_rankOf 7 = .ok (.sipush 10000, 3) := by decide +kernel
theorem d_X3_rankOf_10 : decode cX3_rankOf 10 = .ok (.imul, 1) := by decide +kernel
theorem d_X3_rankOf_11 : decode cX3_rankOf 11 = .ok (.iload_n 0, 1) := by decide +kernel
theorem d_X3_rankOf_12 : decode cX3_rankOf 12 = .ok (.iadd, 1) := by decide +kernel
theorem d_X3_rankOf_13 : decode cX3_rankOf 13 = .ok (.ireturn, 1) := by decide +kernel
theorem d_X3_keyInLeaf_39 : decode cX3_keyInLeaf 39 = .ok (.if_icmp .ne 9, 3) := by decide +kernel
theorem d_X3_keyInLeaf_48 : decode cX3_keyInLeaf 48 = .ok (.iinc 4 1, 3) := by decide +kernel
theorem d_X3_keyInLeaf_51 : decode cX3_keyInLeaf 51 = .ok (.goto (-39), 3) := by decide +kernel
theorem d_X3_keyInLeaf_42 : decode cX3_keyInLeaf 42 = .ok (.iload 5, 2) := by decide +kernel
theorem d_X3_keyInLeaf_44 : decode cX3_keyInLeaf 44 = .ok (.bipush 80, 2) := by decide +kernel
theorem d_X3_keyInLeaf_46 : decode cX3_keyInLeaf 46 = .ok (.irem, 1) := by decide +kernel
theorem d_X3_keyInLeaf_47 : decode cX3_keyInLeaf 47 = .ok (.ireturn, 1) := by decide +kernel
theorem d_X3_subkeyNamed_27 : decode cX3_subkeyNamed 27 = .ok (.istore 5, 2) := by decide +kernel
theorem d_X3_subkeyNamed_29 : decode cX3_subkeyNamed 29 = .ok (.iload 5, 2) := by decide +kernel
theorem d_X3_subkeyNamed_31 : decode cX3_subkeyNamed 31 = .ok (.iconst (-1), 1) := by decide +kernel
theorem d_X3_subkeyNamed_32 : decode cX3_subkeyNamed 32 = .ok (.if_icmp .eq 6, 3) := by decide +kernel
theorem d_X3_subkeyNamed_38 : decode cX3_subkeyNamed 38 = .ok (.iinc 4 1, 3) := by decide +kernel
theorem d_X3_subkeyNamed_41 : decode cX3_subkeyNamed 41 = .ok (.goto (-32), 3) := by decide +kernel
theorem d_X3_subkeyNamed_35 : decode cX3_subkeyNamed 35 = .ok (.iload 5, 2) := by decide +kernel
theorem d_X3_subkeyNamed_37 : decode cX3_subkeyNamed 37 = .ok (.ireturn, 1) := by decide +kernel
theorem d_X7_find_25 : decode cX7_find 25 = .ok (.ireturn, 1) := by decide +kernel
abbrev Y_X7_follow : YT := (cX7_follow, 4, (some .int), yX7_follow, [], 7)
theorem d_X7_follow_0 : decode cX7_follow 0 = .ok (.aload_n 0, 1) := by decide +kernel
theorem d_X7_follow_1 : decode cX7_follow 1 = .ok (.iload_n 1, 1) := by decide +kernel
theorem d_X7_follow_2 : decode cX7_follow 2 = .ok (.invokevirtual 95, 3) := by decide +kernel
theorem d_X7_follow_5 : decode cX7_follow 5 = .ok (.iload_n 1, 1) := by decide +kernel
theorem d_X7_follow_6 : decode cX7_follow 6 = .ok (.istore_n 2, 1) := by decide +kernel
theorem d_X7_follow_7 : decode cX7_follow 7 = .ok (.iconst 0, 1) := by decide +kernel
theorem d_X7_follow_8 : decode cX7_follow 8 = .ok (.istore_n 3, 1) := by decide +kernel
theorem d_X7_follow_9 : decode cX7_follow 9 = .ok (.iload_n 3, 1) := by decide +kernel
theorem d_X7_follow_10 : decode cX7_follow 10 = .ok (.iconst 4, 1) := by decide +kernel
theorem d_X7_follow_11 : decode cX7_follow 11 = .ok (.if_icmp .ge 35, 3) := by decide +kernel
theorem d_X7_follow_14 : decode cX7_follow 14 = .ok (.aload_n 0, 1) := by decide +kernel
theorem d_X7_follow_15 : decode cX7_follow 15 = .ok (.iload_n 2, 1) := by decide +kernel
theorem d_X7_follow_16 : decode cX7_follow 16 = .ok (.invokevirtual 186, 3) := by decide +kernel
abbrev Y_X7_isLink : YT := (cX7_isLink, 2, (some .boolean), yX7_isLink, [], 4)
theorem mk_X7_isLink : MK Y_X7_isLink 1 := ⟨KW.at (i := 36) (by decide +kernel) rfl, KW.at (i := 435) (by decide +kernel) rfl, ⟨by decide +kernel, by decide +kernel⟩, by decide +kernel, by decide +kernel, rfl, by decide⟩
theorem vm_X7_isLink : KW (.instanceMethod (yN Y_X7_isLink)) ∧ KW (.selects (yN Y_X7_isLink).cls (yN Y_X7_isLink) (yN Y_X7_isLink)) := ⟨KW.at (i := 434) (by decide +kernel) rfl, KW.at (i := 8) (by decide +kernel) rfl⟩
theorem ck_RX7_186 : CKV RX7 186 Y_X7_isLink 1 := ⟨KW.at (i := 432) (by decide +kernel) rfl, vm_X7_isLink.1, vm_X7_isLink.2, mk_X7_isLink⟩
theorem d_X7_isLink_0 : decode cX7_isLink 0 = .ok (.aload_n 0, 1) := by decide +kernel
theorem d_X7_isLink_1 : decode cX7_isLink 1 = .ok (.iload_n 1, 1) := by decide +kernel
theorem d_X7_isLink_2 : decode cX7_isLink 2 = .ok (.invokevirtual 189, 3) := by decide +kernel
theorem d_X7_isLink_5 : decode cX7_isLink 5 = .ok (.ifCond .eq 28, 3) := by decide +kernel
theorem d_X7_isLink_33 : decode cX7_isLink 33 = .ok (.iconst 0, 1) := by decide +kernel
theorem d_X7_isLink_34 : decode cX7_isLink 34 = .ok (.ireturn, 1) := by decide +kernel
theorem d_X7_isLink_8 : decode cX7_isLink 8 = .ok (.aload_n 0, 1) := by decide +kernel
theorem d_X7_isLink_9 : decode cX7_isLink 9 = .ok (.getfield 21, 3) := by decide +kernel
theorem d_X7_isLink_12 : decode cX7_isLink 12 = .ok (.aload_n 0, 1) := by decide +kernel
theorem d_X7_isLink_13 : decode cX7_isLink 13 = .ok (.getfield 21, 3) := by decide +kernel
theorem d_X7_isLink_16 : decode cX7_isLink 16 = .ok (.iload_n 1, 1) := by decide +kernel
theorem d_X7_isLink_17 : decode cX7_isLink 17 = .ok (.invokevirtual 108, 3) := by decide +kernel
theorem d_X7_isLink_20 : decode cX7_isLink 20 = .ok (.iconst 5, 1) := by decide +kernel
theorem d_X7_isLink_21 : decode cX7_isLink 21 = .ok (.iadd, 1) := by decide +kernel
theorem d_X7_isLink_22 : decode cX7_isLink 22 = .ok (.invokevirtual 111, 3) := by decide +kernel
theorem ck_RX7_111 : CKV RX7 111 Y_X2_unitAt 1 := ⟨KW.at (i := 436) (by decide +kernel) rfl, vm_X2_unitAt.1, vm_X2_unitAt.2, mk_X2_unitAt⟩
theorem d_X7_isLink_25 : decode cX7_isLink 25 = .ok (.iconst (-1), 1) := by decide +kernel
theorem d_X7_isLink_26 : decode cX7_isLink 26 = .ok (.if_icmp .eq 7, 3) := by decide +kernel
theorem d_X7_isLink_29 : decode cX7_isLink 29 = .ok (.iconst 1, 1) := by decide +kernel
theorem d_X7_isLink_30 : decode cX7_isLink 30 = .ok (.goto 4, 3) := by decide +kernel
theorem d_X7_follow_19 : decode cX7_follow 19 = .ok (.ifCond .eq 27, 3) := by decide +kernel
theorem d_X7_follow_22 : decode cX7_follow 22 = .ok (.aload_n 0, 1) := by decide +kernel
theorem d_X7_follow_23 : decode cX7_follow 23 = .ok (.getfield 21, 3) := by decide +kernel
theorem d_X7_follow_26 : decode cX7_follow 26 = .ok (.aload_n 0, 1) := by decide +kernel
theorem d_X7_follow_27 : decode cX7_follow 27 = .ok (.getfield 21, 3) := by decide +kernel
theorem d_X7_follow_30 : decode cX7_follow 30 = .ok (.iload_n 2, 1) := by decide +kernel
theorem d_X7_follow_31 : decode cX7_follow 31 = .ok (.invokevirtual 108, 3) := by decide +kernel
theorem d_X7_follow_34 : decode cX7_follow 34 = .ok (.iconst 5, 1) := by decide +kernel
theorem d_X7_follow_35 : decode cX7_follow 35 = .ok (.iadd, 1) := by decide +kernel
theorem d_X7_follow_36 : decode cX7_follow 36 = .ok (.invokevirtual 111, 3) := by decide +kernel
theorem d_X7_follow_39 : decode cX7_follow 39 = .ok (.istore_n 2, 1) := by decide +kernel
theorem d_X7_follow_40 : decode cX7_follow 40 = .ok (.iinc 3 1, 3) := by decide +kernel
theorem d_X7_follow_43 : decode cX7_follow 43 = .ok (.goto (-34), 3) := by decide +kernel
theorem d_X7_follow_46 : decode cX7_follow 46 = .ok (.aload_n 0, 1) := by decide +kernel
theorem d_X7_follow_47 : decode cX7_follow 47 = .ok (.iload_n 2, 1) := by decide +kernel
theorem d_X7_follow_48 : decode cX7_follow 48 = .ok (.invokevirtual 189, 3) := by decide +kernel
theorem d_X7_follow_51 : decode cX7_follow 51 = .ok (.ifCond .eq 15, 3) := by decide +kernel
theorem d_X7_follow_66 : decode cX7_follow 66 = .ok (.iconst (-1), 1) := by decide +kernel
theorem d_X7_follow_67 : decode cX7_follow 67 = .ok (.ireturn, 1) := by decide +kernel
theorem d_X7_follow_54 : decode cX7_follow 54 = .ok (.aload_n 0, 1) := by decide +kernel
theorem d_X7_follow_55 : decode cX7_follow 55 = .ok (.iload_n 2, 1) := by decide +kernel
theorem d_X7_follow_56 : decode cX7_follow 56 = .ok (.invokevirtual 186, 3) := by decide +kernel
theorem d_X7_follow_59 : decode cX7_follow 59 = .ok (.ifCond .ne 7, 3) := by decide +kernel
theorem d_X7_follow_62 : decode cX7_follow 62 = .ok (.iload_n 2, 1) := by decide +kernel
theorem d_X7_follow_63 : decode cX7_follow 63 = .ok (.goto 4, 3) := by decide +kernel
abbrev Y_X7_place : YT := (cX7_place, 2, (some .int), yX7_place, [], 7)
theorem d_X7_place_0 : decode cX7_place 0 = .ok (.aload_n 0, 1) := by decide +kernel
theorem d_X7_place_1 : decode cX7_place 1 = .ok (.iload_n 1, 1) := by decide +kernel
theorem d_X7_place_2 : decode cX7_place 2 = .ok (.invokevirtual 95, 3) := by decide +kernel
theorem d_X7_place_5 : decode cX7_place 5 = .ok (.aload_n 0, 1) := by decide +kernel
theorem d_X7_place_6 : decode cX7_place 6 = .ok (.getfield 21, 3) := by decide +kernel
theorem d_X7_place_9 : decode cX7_place 9 = .ok (.iload_n 1, 1) := by decide +kernel
theorem d_X7_place_10 : decode cX7_place 10 = .ok (.invokevirtual 108, 3) := by decide +kernel
theorem d_X7_place_13 : decode cX7_place 13 = .ok (.ireturn, 1) := by decide +kernel
abbrev Y_X7_subkeyAt : YT := (cX7_subkeyAt, 4, (some .int), yX7_subkeyAt, [], 7)
theorem d_X7_subkeyAt_0 : decode cX7_subkeyAt 0 = .ok (.aload_n 0, 1) := by decide +kernel
theorem d_X7_subkeyAt_1 : decode cX7_subkeyAt 1 = .ok (.iload_n 1, 1) := by decide +kernel
theorem d_X7_subkeyAt_2 : decode cX7_subkeyAt 2 = .ok (.invokevirtual 95, 3) := by decide +kernel
theorem d_X7_subkeyAt_5 : decode cX7_subkeyAt 5 = .ok (.aload_n 0, 1) := by decide +kernel
theorem d_X7_subkeyAt_6 : decode cX7_subkeyAt 6 = .ok (.getfield 21, 3) := by decide +kernel
theorem d_X7_subkeyAt_9 : decode cX7_subkeyAt 9 = .ok (.iload_n 1, 1) := by decide +kernel
theorem d_X7_subkeyAt_10 : decode cX7_subkeyAt 10 = .ok (.invokevirtual 108, 3) := by decide +kernel
theorem d_X7_subkeyAt_13 : decode cX7_subkeyAt 13 = .ok (.istore_n 3, 1) := by decide +kernel
theorem d_X7_subkeyAt_14 : decode cX7_subkeyAt 14 = .ok (.iload_n 2, 1) := by decide +kernel
theorem d_X7_subkeyAt_15 : decode cX7_subkeyAt 15 = .ok (.ifCond .lt 15, 3) := by decide +kernel
theorem d_X7_subkeyAt_30 : decode cX7_subkeyAt 30 = .ok (.new 173, 3) := by decide +kernel
theorem d_X7_subkeyAt_33 : decode cX7_subkeyAt 33 = .ok (.dup, 1) := by decide +kernel
theorem d_X7_subkeyAt_34 : decode cX7_subkeyAt 34 = .ok (.ldc 175, 2) := by decide +kernel
theorem d_X7_subkeyAt_36 : decode cX7_subkeyAt 36 = .ok (.invokespecial 177, 3) := by decide +kernel
theorem d_X7_subkeyAt_39 : decode cX7_subkeyAt 39 = .ok (.athrow, 1) := by decide +kernel
theorem d_X7_subkeyAt_18 : decode cX7_subkeyAt 18 = .ok (.iload_n 2, 1) := by decide +kernel
theorem d_X7_subkeyAt_19 : decode cX7_subkeyAt 19 = .ok (.aload_n 0, 1) := by decide +kernel
theorem d_X7_subkeyAt_20 : decode cX7_subkeyAt 20 = .ok (.getfield 34, 3) := by decide +kernel
theorem d_X7_subkeyAt_23 : decode cX7_subkeyAt 23 = .ok (.iload_n 3, 1) := by decide +kernel
theorem d_X7_subkeyAt_24 : decode cX7_subkeyAt 24 = .ok (.invokevirtual 170, 3) := by decide +kernel
theorem d_X7_subkeyAt_27 : decode cX7_subkeyAt 27 = .ok (.if_icmp .lt 13, 3) := by decide +kernel
theorem d_X7_subkeyAt_40 : decode cX7_subkeyAt 40 = .ok (.aload_n 0, 1) := by decide +kernel
theorem d_X7_subkeyAt_41 : decode cX7_subkeyAt 41 = .ok (.getfield 34, 3) := by decide +kernel
theorem d_X7_subkeyAt_44 : decode cX7_subkeyAt 44 = .ok (.iload_n 3, 1) := by decide +kernel
theorem d_X7_subkeyAt_45 : decode cX7_subkeyAt 45 = .ok (.iload_n 2, 1) := by decide +kernel
theorem d_X7_subkeyAt_46 : decode cX7_subkeyAt 46 = .ok (.invokevirtual 180, 3) := by decide +kernel
abbrev Y_X3_subkeyNumbered : YT := (cX3_subkeyNumbered, 7, (some .int), yX3_subkeyNumbered, [], 4)
theorem mk_X3_subkeyNumbered : MK Y_X3_subkeyNumbered 2 := ⟨KW.at (i := 39) (by decide +kernel) rfl, KW.at (i := 904) (by decide +kernel) rfl, ⟨by decide +kernel, by decide +kernel⟩, by decide +kernel, by decide +kernel, rfl, by decide⟩
theorem vm_X3_subkeyNumbered : KW (.instanceMethod (yN Y_X3_subkeyNumbered)) ∧ KW (.selects (yN Y_X3_subkeyNumbered).cls (yN Y_X3_subkeyNumbered) (yN Y_X3_subkeyNumbered)) := ⟨KW.at (i := 902) (by decide +kernel) rfl, KW.at (i := 903) (by decide +kernel) rfl⟩
theorem ck_RX7_180 : CKV RX7 180 Y_X3_subkeyNumbered 2 := ⟨KW.at (i := 901) (by decide +kernel) rfl, vm_X3_subkeyNumbered.1, vm_X3_subkeyNumbered.2, mk_X3_subkeyNumbered⟩
theorem d_X3_subkeyNumbered_0 : decode cX3_subkeyNumbered 0 = .ok (.aload_n 0, 1) := by decide +kernel
theorem d_X3_subkeyNumbered_1 : decode cX3_subkeyNumbered 1 = .ok (.iload_n 1, 1) := by decide +kernel
theorem d_X3_subkeyNumbered_2 : decode cX3_subkeyNumbered 2 = .ok (.invokevirtual 35, 3) := by decide +kernel
theorem d_X3_subkeyNumbered_5 : decode cX3_subkeyNumbered 5 = .ok (.istore_n 3, 1) := by decide +kernel
theorem d_X3_subkeyNumbered_6 : decode cX3_subkeyNumbered 6 = .ok (.iload_n 2, 1) := by decide +kernel
theorem d_X3_subkeyNumbered_7 : decode cX3_subkeyNumbered 7 = .ok (.istore 4, 2) := by decide +kernel
theorem d_X3_subkeyNumbered_9 : decode cX3_subkeyNumbered 9 = .ok (.iconst 0, 1) := by decide +kernel
theorem d_X3_subkeyNumbered_10 : decode cX3_subkeyNumbered 10 = .ok (.istore 5, 2) := by decide +kernel
theorem d_X3_subkeyNumbered_12 : decode cX3_subkeyNumbered 12 = .ok (.iload 5, 2) := by decide +kernel
theorem d_X3_subkeyNumbered_14 : decode cX3_subkeyNumbered 14 = .ok (.iload_n 3, 1) := by decide +kernel
theorem d_X3_subkeyNumbered_15 : decode cX3_subkeyNumbered 15 = .ok (.if_icmp .ge 61, 3) := by decide +kernel
theorem d_X3_subkeyNumbered_76 : decode cX3_subkeyNumbered 76 = .ok (.iconst (-1), 1) := by decide +kernel
theorem d_X3_subkeyNumbered_77 : decode cX3_subkeyNumbered 77 = .ok (.ireturn, 1) := by decide +kernel
theorem d_X3_subkeyNumbered_18 : decode cX3_subkeyNumbered 18 = .ok (.aload_n 0, 1) := by decide +kernel
theorem d_X3_subkeyNumbered_19 : decode cX3_subkeyNumbered 19 = .ok (.iload_n 1, 1) := by decide +kernel
theorem d_X3_subkeyNumbered_20 : decode cX3_subkeyNumbered 20 = .ok (.iload 5, 2) := by decide +kernel
theorem d_X3_subkeyNumbered_22 : decode cX3_subkeyNumbered 22 = .ok (.invokevirtual 38, 3) := by decide +kernel
theorem d_X3_subkeyNumbered_25 : decode cX3_subkeyNumbered 25 = .ok (.istore 6, 2) := by decide +kernel
theorem d_X3_subkeyNumbered_27 : decode cX3_subkeyNumbered 27 = .ok (.iload 4, 2) := by decide +kernel
theorem d_X3_subkeyNumbered_29 : decode cX3_subkeyNumbered 29 = .ok (.aload_n 0, 1) := by decide +kernel
theorem d_X3_subkeyNumbered_30 : decode cX3_subkeyNumbered 30 = .ok (.getfield 9, 3) := by decide +kernel
theorem d_X3_subkeyNumbered_33 : decode cX3_subkeyNumbered 33 = .ok (.iload 6, 2) := by decide +kernel
theorem d_X3_subkeyNumbered_35 : decode cX3_subkeyNumbered 35 = .ok (.invokevirtual 32, 3) := by decide +kernel
theorem d_X3_subkeyNumbered_38 : decode cX3_subkeyNumbered 38 = .ok (.if_icmp .ge 18, 3) := by decide +kernel
theorem d_X3_subkeyNumbered_56 : decode cX3_subkeyNumbered 56 = .ok (.iload 4, 2) := by decide +kernel
theorem d_X3_subkeyNumbered_58 : decode cX3_subkeyNumbered 58 = .ok (.aload_n 0, 1) := by decide +kernel
theorem d_X3_subkeyNumbered_59 : decode cX3_subkeyNumbered 59 = .ok (.getfield 9, 3) := by decide +kernel
theorem d_X3_subkeyNumbered_62 : decode cX3_subkeyNumbered 62 = .ok (.iload 6, 2) := by decide +kernel
theorem d_X3_subkeyNumbered_64 : decode cX3_subkeyNumbered 64 = .ok (.invokevirtual 32, 3) := by decide +kernel
theorem d_X3_subkeyNumbered_67 : decode cX3_subkeyNumbered 67 = .ok (.isub, 1) := by decide +kernel
theorem d_X3_subkeyNumbered_68 : decode cX3_subkeyNumbered 68 = .ok (.istore 4, 2) := by decide +kernel
theorem d_X3_subkeyNumbered_70 : decode cX3_subkeyNumbered 70 = .ok (.iinc 5 1, 3) := by decide +kernel
theorem d_X3_subkeyNumbered_73 : decode cX3_subkeyNumbered 73 = .ok (.goto (-61), 3) := by decide +kernel
theorem d_X3_subkeyNumbered_41 : decode cX3_subkeyNumbered 41 = .ok (.aload_n 0, 1) := by decide +kernel
theorem d_X3_subkeyNumbered_42 : decode cX3_subkeyNumbered 42 = .ok (.getfield 9, 3) := by decide +kernel
theorem d_X3_subkeyNumbered_45 : decode cX3_subkeyNumbered 45 = .ok (.iload 6, 2) := by decide +kernel
theorem d_X3_subkeyNumbered_47 : decode cX3_subkeyNumbered 47 = .ok (.iload 4, 2) := by decide +kernel
theorem d_X3_subkeyNumbered_49 : decode cX3_subkeyNumbered 49 = .ok (.invokevirtual 45, 3) := by decide +kernel
theorem d_X3_subkeyNumbered_52 : decode cX3_subkeyNumbered 52 = .ok (.bipush 80, 2) := by decide +kernel
theorem d_X3_subkeyNumbered_54 : decode cX3_subkeyNumbered 54 = .ok (.irem, 1) := by decide +kernel
theorem d_X3_subkeyNumbered_55 : decode cX3_subkeyNumbered 55 = .ok (.ireturn, 1) := by decide +kernel
theorem d_X7_subkeyAt_49 : decode cX7_subkeyAt 49 = .ok (.ireturn, 1) := by decide +kernel
abbrev Y_X7_cell : YT := (cX7_cell, 2, (some .int), yX7_cell, [], 6)
theorem d_X7_cell_0 : decode cX7_cell 0 = .ok (.iload_n 1, 1) := by decide +kernel
theorem d_X7_cell_1 : decode cX7_cell 1 = .ok (.ifCond .lt 14, 3) := by decide +kernel
theorem d_X7_cell_15 : decode cX7_cell 15 = .ok (.new 173, 3) := by decide +kernel
theorem d_X7_cell_18 : decode cX7_cell 18 = .ok (.dup, 1) := by decide +kernel
theorem d_X7_cell_19 : decode cX7_cell 19 = .ok (.ldc 250, 2) := by decide +kernel
theorem d_X7_cell_21 : decode cX7_cell 21 = .ok (.invokespecial 177, 3) := by decide +kernel
theorem d_X7_cell_24 : decode cX7_cell 24 = .ok (.athrow, 1) := by decide +kernel
theorem d_X7_cell_4 : decode cX7_cell 4 = .ok (.iload_n 1, 1) := by decide +kernel
theorem d_X7_cell_5 : decode cX7_cell 5 = .ok (.aload_n 0, 1) := by decide +kernel
theorem d_X7_cell_6 : decode cX7_cell 6 = .ok (.getfield 21, 3) := by decide +kernel
theorem d_X7_cell_9 : decode cX7_cell 9 = .ok (.invokevirtual 247, 3) := by decide +kernel
abbrev Y_X2_end : YT := (cX2_end, 1, (some .int), yX2_end, [], 1)
theorem mk_X2_end : MK Y_X2_end 0 := ⟨KW.at (i := 37) (by decide +kernel) rfl, KW.at (i := 248) (by decide +kernel) rfl, ⟨by decide +kernel, by decide +kernel⟩, by decide +kernel, by decide +kernel, rfl, by decide⟩
theorem vm_X2_end : KW (.instanceMethod (yN Y_X2_end)) ∧ KW (.selects (yN Y_X2_end).cls (yN Y_X2_end) (yN Y_X2_end)) := ⟨KW.at (i := 246) (by decide +kernel) rfl, KW.at (i := 247) (by decide +kernel) rfl⟩
theorem ck_RX7_247 : CKV RX7 247 Y_X2_end 0 := ⟨KW.at (i := 927) (by decide +kernel) rfl, vm_X2_end.1, vm_X2_end.2, mk_X2_end⟩
theorem d_X2_end_0 : decode cX2_end 0 = .ok (.aload_n 0, 1) := by decide +kernel
theorem d_X2_end_1 : decode cX2_end 1 = .ok (.getfield 24, 3) := by decide +kernel
theorem fk_RX2_24 : FK RX2 24 2 4 := ⟨RX2, TX2, 6, rfl, by decide, ws_X2, KW.at (i := 77) (by decide +kernel) rfl⟩
theorem d_X2_end_4 : decode cX2_end 4 = .ok (.bipush 16, 2) := by decide +kernel
theorem d_X2_end_6 : decode cX2_end 6 = .ok (.imul, 1) := by decide +kernel
theorem d_X2_end_7 : decode cX2_end 7 = .ok (.ireturn, 1) := by decide +kernel
theorem d_X7_cell_12 : decode cX7_cell 12 = .ok (.if_icmp .lt 13, 3) := by decide +kernel
theorem d_X7_cell_25 : decode cX7_cell 25 = .ok (.aload_n 0, 1) := by decide +kernel
theorem d_X7_cell_26 : decode cX7_cell 26 = .ok (.getfield 21, 3) := by decide +kernel
theorem d_X7_cell_29 : decode cX7_cell 29 = .ok (.iload_n 1, 1) := by decide +kernel
theorem d_X7_cell_30 : decode cX7_cell 30 = .ok (.invokevirtual 252, 3) := by decide +kernel
abbrev Y_X2_sizeAt : YT := (cX2_sizeAt, 2, (some .int), yX2_sizeAt, [], 2)
theorem mk_X2_sizeAt : MK Y_X2_sizeAt 1 := ⟨KW.at (i := 37) (by decide +kernel) rfl, KW.at (i := 781) (by decide +kernel) rfl, ⟨by decide +kernel, by decide +kernel⟩, by decide +kernel, by decide +kernel, rfl, by decide⟩
theorem vm_X2_sizeAt : KW (.instanceMethod (yN Y_X2_sizeAt)) ∧ KW (.selects (yN Y_X2_sizeAt).cls (yN Y_X2_sizeAt) (yN Y_X2_sizeAt)) := ⟨KW.at (i := 779) (by decide +kernel) rfl, KW.at (i := 780) (by decide +kernel) rfl⟩
theorem ck_RX7_252 : CKV RX7 252 Y_X2_sizeAt 1 := ⟨KW.at (i := 929) (by decide +kernel) rfl, vm_X2_sizeAt.1, vm_X2_sizeAt.2, mk_X2_sizeAt⟩
theorem d_X2_sizeAt_0 : decode cX2_sizeAt 0 = .ok (.aload_n 0, 1) := by decide +kernel
theorem d_X2_sizeAt_1 : decode cX2_sizeAt 1 = .ok (.getfield 11, 3) := by decide +kernel
theorem fk_RX2_11 : FK RX2 11 2 0 := ⟨RX2, TX2, 6, rfl, by decide, ws_X2, KW.at (i := 71) (by decide +kernel) rfl⟩
theorem d_X2_sizeAt_4 : decode cX2_sizeAt 4 = .ok (.iload_n 1, 1) := by decide +kernel
theorem d_X2_sizeAt_5 : decode cX2_sizeAt 5 = .ok (.invokestatic 41, 3) := by decide +kernel
theorem d_X2_sizeAt_8 : decode cX2_sizeAt 8 = .ok (.ireturn, 1) := by decide +kernel
theorem d_X7_cell_33 : decode cX7_cell 33 = .ok (.ireturn, 1) := by decide +kernel
abbrev Y_X7_sectors : YT := (cX7_sectors, 1, (some .int), yX7_sectors, [], 1)
theorem d_X7_sectors_0 : decode cX7_sectors 0 = .ok (.aload_n 0, 1) := by decide +kernel
theorem d_X7_sectors_1 : decode cX7_sectors 1 = .ok (.getfield 21, 3) := by decide +kernel
theorem d_X7_sectors_4 : decode cX7_sectors 4 = .ok (.getfield 243, 3) := by decide +kernel
theorem fk_RX7_243 : FK RX7 243 2 4 := ⟨RX2, TX2, 6, rfl, by decide, ws_X2, KW.at (i := 79) (by decide +kernel) rfl⟩
theorem d_X7_sectors_7 : decode cX7_sectors 7 = .ok (.ireturn, 1) := by decide +kernel
abbrev Y_X7_used : YT := (cX7_used, 1, (some .int), yX7_used, [], 3)
theorem d_X7_used_0 : decode cX7_used 0 = .ok (.aload_n 0, 1) := by decide +kernel
theorem d_X7_used_1 : decode cX7_used 1 = .ok (.getfield 25, 3) := by decide +kernel
theorem fk_RX7_25 : FK RX7 25 7 1 := ⟨RX7, TX7, 8, rfl, by decide, ws_X7, KW.at (i := 324) (by decide +kernel) rfl⟩
theorem d_X7_used_4 : decode cX7_used 4 = .ok (.invokevirtual 255, 3) := by decide +kernel
abbrev Y_X0_unitsInUse : YT := (cX0_unitsInUse, 5, (some .int), yX0_unitsInUse, [], 2)
theorem mk_X0_unitsInUse : MK Y_X0_unitsInUse 0 := ⟨KW.at (i := 38) (by decide +kernel) rfl, KW.at (i := 959) (by decide +kernel) rfl, ⟨by decide +kernel, by decide +kernel⟩, by decide +kernel, by decide +kernel, rfl, by decide⟩
theorem vm_X0_unitsInUse : KW (.instanceMethod (yN Y_X0_unitsInUse)) ∧ KW (.selects (yN Y_X0_unitsInUse).cls (yN Y_X0_unitsInUse) (yN Y_X0_unitsInUse)) := ⟨KW.at (i := 957) (by decide +kernel) rfl, KW.at (i := 958) (by decide +kernel) rfl⟩
theorem ck_RX7_255 : CKV RX7 255 Y_X0_unitsInUse 0 := ⟨KW.at (i := 956) (by decide +kernel) rfl, vm_X0_unitsInUse.1, vm_X0_unitsInUse.2, mk_X0_unitsInUse⟩
theorem sh_7 : SH.getD 7 (9, 0, []) = (0, 0, [5, 11, 12, 13, 0, 2]) := rfl
theorem d_X0_unitsInUse_0 : decode cX0_unitsInUse 0 = .ok (.iconst 0, 1) := by decide +kernel
theorem d_X0_unitsInUse_1 : decode cX0_unitsInUse 1 = .ok (.istore_n 1, 1) := by decide +kernel
theorem d_X0_unitsInUse_2 : decode cX0_unitsInUse 2 = .ok (.aload_n 0, 1) := by decide +kernel
theorem d_X0_unitsInUse_3 : decode cX0_unitsInUse 3 = .ok (.getfield 23, 3) := by decide +kernel
theorem ws_X0 : ∀ w ∈ u_ws RX0 TX0 6, KW w := KW.all (by decide +kernel)
theorem fk_RX0_23 : FK RX0 23 0 0 := ⟨RX0, TX0, 6, rfl, by decide, ws_X0, KW.at (i := 102) (by decide +kernel) rfl⟩
theorem d_X0_unitsInUse_6 : decode cX0_unitsInUse 6 = .ok (.invokevirtual 66, 3) := by decide +kernel
theorem ck_RX0_66 : CKV RX0 66 Y_X2_end 0 := ⟨KW.at (i := 245) (by decide +kernel) rfl, vm_X2_end.1, vm_X2_end.2, mk_X2_end⟩
theorem d_X0_unitsInUse_9 : decode cX0_unitsInUse 9 = .ok (.istore_n 2, 1) := by decide +kernel
theorem d_X0_unitsInUse_10 : decode cX0_unitsInUse 10 = .ok (.iconst 4, 1) := by decide +kernel
theorem d_X0_unitsInUse_11 : decode cX0_unitsInUse 11 = .ok (.istore_n 3, 1) := by decide +kernel
theorem d_X0_unitsInUse_12 : decode cX0_unitsInUse 12 = .ok (.iload_n 3, 1) := by decide +kernel
theorem d_X0_unitsInUse_13 : decode cX0_unitsInUse 13 = .ok (.iload_n 2, 1) := by decide +kernel
theorem d_X0_unitsInUse_14 : decode cX0_unitsInUse 14 = .ok (.if_icmp .ge 40, 3) := by decide +kernel
theorem d_X0_unitsInUse_54 : decode cX0_unitsInUse 54 = .ok (.iload_n 1, 1) := by decide +kernel
theorem d_X0_unitsInUse_55 : decode cX0_unitsInUse 55 = .ok (.ireturn, 1) := by decide +kernel
theorem d_X0_unitsInUse_17 : decode cX0_unitsInUse 17 = .ok (.aload_n 0, 1) := by decide +kernel
theorem d_X0_unitsInUse_18 : decode cX0_unitsInUse 18 = .ok (.getfield 23, 3) := by decide +kernel
theorem d_X0_unitsInUse_21 : decode cX0_unitsInUse 21 = .ok (.getfield 38, 3) := by decide +kernel
theorem fk_RX0_38 : FK RX0 38 2 0 := ⟨RX2, TX2, 6, rfl, by decide, ws_X2, KW.at (i := 72) (by decide +kernel) rfl⟩
theorem d_X0_unitsInUse_24 : decode cX0_unitsInUse 24 = .ok (.iload_n 3, 1) := by decide +kernel
theorem d_X0_unitsInUse_25 : decode cX0_unitsInUse 25 = .ok (.invokestatic 47, 3) := by decide +kernel
theorem ck_RX0_47 : CKN RX0 47 Y_X7_read 2 := ⟨KW.at (i := 234) (by decide +kernel) rfl, sm_X7_read, mk_X7_read⟩
theorem d_X0_unitsInUse_28 : decode cX0_unitsInUse 28 = .ok (.istore 4, 2) := by decide +kernel
theorem d_X0_unitsInUse_30 : decode cX0_unitsInUse 30 = .ok (.iload_n 1, 1) := by decide +kernel
theorem d_X0_unitsInUse_31 : decode cX0_unitsInUse 31 = .ok (.iconst 0, 1) := by decide +kernel
theorem d_X0_unitsInUse_32 : decode cX0_unitsInUse 32 = .ok (.iload 4, 2) := by decide +kernel
theorem d_X0_unitsInUse_34 : decode cX0_unitsInUse 34 = .ok (.invokestatic 70, 3) := by decide +kernel
theorem mx_RX0_70 : MX RX0 70 Lib.Math.max.name Lib.Math.max.code 2 := ⟨KW.at (i := 252) (by decide +kernel) rfl, KW.at (i := 253) (by decide +kernel) rfl, KW.at (i := 45) (by decide +kernel) rfl, KW.at (i := 254) (by decide +kernel) rfl⟩
theorem d_X0_unitsInUse_37 : decode cX0_unitsInUse 37 = .ok (.iadd, 1) := by decide +kernel
theorem d_X0_unitsInUse_38 : decode cX0_unitsInUse 38 = .ok (.istore_n 1, 1) := by decide +kernel
theorem d_X0_unitsInUse_39 : decode cX0_unitsInUse 39 = .ok (.iload_n 3, 1) := by decide +kernel
theorem d_X0_unitsInUse_40 : decode cX0_unitsInUse 40 = .ok (.iconst 1, 1) := by decide +kernel
theorem d_X0_unitsInUse_41 : decode cX0_unitsInUse 41 = .ok (.iload 4, 2) := by decide +kernel
theorem d_X0_unitsInUse_43 : decode cX0_unitsInUse 43 = .ok (.invokestatic 76, 3) := by decide +kernel
theorem mx_RX0_76 : MX RX0 76 Lib.Math.abs.name Lib.Math.abs.code 1 := ⟨KW.at (i := 249) (by decide +kernel) rfl, KW.at (i := 250) (by decide +kernel) rfl, KW.at (i := 45) (by decide +kernel) rfl, KW.at (i := 251) (by decide +kernel) rfl⟩
theorem d_X0_unitsInUse_46 : decode cX0_unitsInUse 46 = .ok (.invokestatic 70, 3) := by decide +kernel
theorem d_X0_unitsInUse_49 : decode cX0_unitsInUse 49 = .ok (.iadd, 1) := by decide +kernel
theorem d_X0_unitsInUse_50 : decode cX0_unitsInUse 50 = .ok (.istore_n 3, 1) := by decide +kernel
theorem d_X0_unitsInUse_51 : decode cX0_unitsInUse 51 = .ok (.goto (-39), 3) := by decide +kernel
theorem d_X7_used_7 : decode cX7_used 7 = .ok (.ireturn, 1) := by decide +kernel
abbrev Y_X7_usedByTree : YT := (cX7_usedByTree, 5, (some .int), yX7_usedByTree, [], 6)
theorem d_X7_usedByTree_0 : decode cX7_usedByTree 0 = .ok (.aload_n 0, 1) := by decide +kernel
theorem d_X7_usedByTree_1 : decode cX7_usedByTree 1 = .ok (.getfield 48, 3) := by decide +kernel
theorem fk_RX7_48 : FK RX7 48 7 4 := ⟨RX7, TX7, 8, rfl, by decide, ws_X7, KW.at (i := 327) (by decide +kernel) rfl⟩
theorem d_X7_usedByTree_4 : decode cX7_usedByTree 4 = .ok (.invokevirtual 258, 3) := by decide +kernel
abbrev Y_X4_startCounting : YT := (cX4_startCounting, 1, none, yX4_startCounting, [], 2)
theorem mk_X4_startCounting : MK Y_X4_startCounting 0 := ⟨KW.at (i := 41) (by decide +kernel) rfl, KW.at (i := 967) (by decide +kernel) rfl, ⟨by decide +kernel, by decide +kernel⟩, by decide +kernel, by decide +kernel, rfl, by decide⟩
theorem vm_X4_startCounting : KW (.instanceMethod (yN Y_X4_startCounting)) ∧ KW (.selects (yN Y_X4_startCounting).cls (yN Y_X4_startCounting) (yN Y_X4_startCounting)) := ⟨KW.at (i := 965) (by decide +kernel) rfl, KW.at (i := 966) (by decide +kernel) rfl⟩
theorem ck_RX7_258 : CKV RX7 258 Y_X4_startCounting 0 := ⟨KW.at (i := 964) (by decide +kernel) rfl, vm_X4_startCounting.1, vm_X4_startCounting.2, mk_X4_startCounting⟩
theorem sh_13 : SH.getD 13 (9, 0, []) = (0, 4, [5, 10, 17]) := rfl
theorem d_X4_startCounting_0 : decode cX4_startCounting 0 = .ok (.aload_n 0, 1) := by decide +kernel
theorem d_X4_startCounting_1 : decode cX4_startCounting 1 = .ok (.getfield 9, 3) := by decide +kernel
theorem ws_X4 : ∀ w ∈ u_ws RX4 TX4 3, KW w := KW.all (by decide +kernel)
theorem fk_RX4_9 : FK RX4 9 4 2 := ⟨RX4, TX4, 3, rfl, by decide, ws_X4, KW.at (i := 156) (by decide +kernel) rfl⟩
theorem d_X4_startCounting_4 : decode cX4_startCounting 4 = .ok (.iconst 0, 1) := by decide +kernel
theorem d_X4_startCounting_5 : decode cX4_startCounting 5 = .ok (.invokestatic 67, 3) := by decide +kernel
theorem mk_J7_fill_53178 : MK Y_J7_fill_53178 2 := ⟨KW.at (i := 51) (by decide +kernel) rfl, KW.at (i := 970) (by decide +kernel) rfl, ⟨by decide +kernel, by decide +kernel⟩, by decide +kernel, by decide +kernel, rfl, by decide⟩
theorem sm_J7_fill_53178 : KW (.static (yN Y_J7_fill_53178)) := KW.at (i := 969) (by decide +kernel) rfl
theorem ck_RX4_67 : CKS RX4 67 Y_J7_fill_53178 2 := ⟨KW.at (i := 968) (by decide +kernel) rfl, sm_J7_fill_53178, mk_J7_fill_53178⟩
theorem d_X4_startCounting_8 : decode cX4_startCounting 8 = .ok (.return_, 1) := by decide +kernel
theorem d_X7_usedByTree_7 : decode cX7_usedByTree 7 = .ok (.aload_n 0, 1) := by decide +kernel
theorem d_X7_usedByTree_8 : decode cX7_usedByTree 8 = .ok (.getfield 9, 3) := by decide +kernel
theorem fk_RX7_9 : FK RX7 9 7 7 := ⟨RX7, TX7, 8, rfl, by decide, ws_X7, KW.at (i := 330) (by decide +kernel) rfl⟩
theorem d_X7_usedByTree_11 : decode cX7_usedByTree 11 = .ok (.iconst 0, 1) := by decide +kernel
theorem d_X7_usedByTree_12 : decode cX7_usedByTree 12 = .ok (.iconst 0, 1) := by decide +kernel
theorem d_X7_usedByTree_13 : decode cX7_usedByTree 13 = .ok (.invokestatic 261, 3) := by decide +kernel
theorem sm_X7_store : KW (.static (yN Y_X7_store)) := KW.at (i := 69) (by decide +kernel) rfl
theorem ck_RX7_261 : CKS RX7 261 Y_X7_store 3 := ⟨KW.at (i := 971) (by decide +kernel) rfl, sm_X7_store, mk_X7_store⟩
theorem sh_1 : SH.getD 1 (9, 0, []) = (1, 80, []) := rfl
theorem d_X7_usedByTree_16 : decode cX7_usedByTree 16 = .ok (.iconst 1, 1) := by decide +kernel
theorem d_X7_usedByTree_17 : decode cX7_usedByTree 17 = .ok (.istore_n 1, 1) := by decide +kernel
theorem d_X7_usedByTree_18 : decode cX7_usedByTree 18 = .ok (.iconst 0, 1) := by decide +kernel
theorem d_X7_usedByTree_19 : decode cX7_usedByTree 19 = .ok (.istore_n 2, 1) := by decide +kernel
theorem d_X7_usedByTree_20 : decode cX7_usedByTree 20 = .ok (.iconst 0, 1) := by decide +kernel
theorem d_X7_usedByTree_21 : decode cX7_usedByTree 21 = .ok (.istore_n 3, 1) := by decide +kernel
theorem d_X7_usedByTree_22 : decode cX7_usedByTree 22 = .ok (.iload_n 3, 1) := by decide +kernel
theorem d_X7_usedByTree_23 : decode cX7_usedByTree 23 = .ok (.iload_n 1, 1) := by decide +kernel
theorem d_X7_usedByTree_24 : decode cX7_usedByTree 24 = .ok (.if_icmp .ge 97, 3) := by decide +kernel
theorem d_X7_usedByTree_121 : decode cX7_usedByTree 121 = .ok (.iload_n 2, 1) := by decide +kernel
theorem d_X7_usedByTree_122 : decode cX7_usedByTree 122 = .ok (.ireturn, 1) := by decide +kernel
theorem d_X7_usedByTree_27 : decode cX7_usedByTree 27 = .ok (.iload_n 3, 1) := by decide +kernel
theorem d_X7_usedByTree_28 : decode cX7_usedByTree 28 = .ok (.bipush 80, 2) := by decide +kernel
theorem d_X7_usedByTree_30 : decode cX7_usedByTree 30 = .ok (.if_icmp .ge 91, 3) := by decide +kernel
theorem d_X7_usedByTree_33 : decode cX7_usedByTree 33 = .ok (.aload_n 0, 1) := by decide +kernel
theorem d_X7_usedByTree_34 : decode cX7_usedByTree 34 = .ok (.getfield 21, 3) := by decide +kernel
theorem d_X7_usedByTree_37 : decode cX7_usedByTree 37 = .ok (.aload_n 0, 1) := by decide +kernel
theorem d_X7_usedByTree_38 : decode cX7_usedByTree 38 = .ok (.getfield 9, 3) := by decide +kernel
theorem d_X7_usedByTree_41 : decode cX7_usedByTree 41 = .ok (.iload_n 3, 1) := by decide +kernel
theorem d_X7_usedByTree_42 : decode cX7_usedByTree 42 = .ok (.invokestatic 265, 3) := by decide +kernel
theorem ck_RX7_265 : CKS RX7 265 Y_X7_read 2 := ⟨KW.at (i := 972) (by decide +kernel) rfl, sm_X7_read, mk_X7_read⟩
theorem d_X7_usedByTree_45 : decode cX7_usedByTree 45 = .ok (.invokevirtual 108, 3) := by decide +kernel
theorem d_X7_usedByTree_48 : decode cX7_usedByTree 48 = .ok (.istore 4, 2) := by decide +kernel
theorem d_X7_usedByTree_50 : decode cX7_usedByTree 50 = .ok (.iload_n 2, 1) := by decide +kernel
theorem d_X7_usedByTree_51 : decode cX7_usedByTree 51 = .ok (.aload_n 0, 1) := by decide +kernel
theorem d_X7_usedByTree_52 : decode cX7_usedByTree 52 = .ok (.getfield 21, 3) := by decide +kernel
theorem d_X7_usedByTree_55 : decode cX7_usedByTree 55 = .ok (.iload 4, 2) := by decide +kernel
theorem d_X7_usedByTree_57 : decode cX7_usedByTree 57 = .ok (.invokevirtual 252, 3) := by decide +kernel
theorem d_X7_usedByTree_60 : decode cX7_usedByTree 60 = .ok (.iadd, 1) := by decide +kernel
theorem d_X7_usedByTree_61 : decode cX7_usedByTree 61 = .ok (.istore_n 2, 1) := by decide +kernel
theorem d_X7_usedByTree_62 : decode cX7_usedByTree 62 = .ok (.iload_n 2, 1) := by decide +kernel
theorem d_X7_usedByTree_63 : decode cX7_usedByTree 63 = .ok (.aload_n 0, 1) := by decide +kernel
theorem d_X7_usedByTree_64 : decode cX7_usedByTree 64 = .ok (.getfield 34, 3) := by decide +kernel
theorem d_X7_usedByTree_67 : decode cX7_usedByTree 67 = .ok (.iload 4, 2) := by decide +kernel
theorem d_X7_usedByTree_69 : decode cX7_usedByTree 69 = .ok (.invokevirtual 269, 3) := by decide +kernel
abbrev Y_X3_unitsOf : YT := (cX3_unitsOf, 6, (some .int), yX3_unitsOf, [], 4)
theorem mk_X3_unitsOf : MK Y_X3_unitsOf 1 := ⟨KW.at (i := 39) (by decide +kernel) rfl, KW.at (i := 976) (by decide +kernel) rfl, ⟨by decide +kernel, by decide +kernel⟩, by decide +kernel, by decide +kernel, rfl, by decide⟩
theorem vm_X3_unitsOf : KW (.instanceMethod (yN Y_X3_unitsOf)) ∧ KW (.selects (yN Y_X3_unitsOf).cls (yN Y_X3_unitsOf) (yN Y_X3_unitsOf)) := ⟨KW.at (i := 974) (by decide +kernel) rfl, KW.at (i := 975) (by decide +kernel) rfl⟩
theorem ck_RX7_269 : CKV RX7 269 Y_X3_unitsOf 1 := ⟨KW.at (i := 973) (by decide +kernel) rfl, vm_X3_unitsOf.1, vm_X3_unitsOf.2, mk_X3_unitsOf⟩
theorem d_X3_unitsOf_0 : decode cX3_unitsOf 0 = .ok (.aload_n 0, 1) := by decide +kernel
theorem d_X3_unitsOf_1 : decode cX3_unitsOf 1 = .ok (.getfield 9, 3) := by decide +kernel
theorem d_X3_unitsOf_4 : decode cX3_unitsOf 4 = .ok (.iload_n 1, 1) := by decide +kernel
theorem d_X3_unitsOf_5 : decode cX3_unitsOf 5 = .ok (.iconst 2, 1) := by decide +kernel
theorem d_X3_unitsOf_6 : decode cX3_unitsOf 6 = .ok (.iadd, 1) := by decide +kernel
theorem d_X3_unitsOf_7 : decode cX3_unitsOf 7 = .ok (.invokevirtual 23, 3) := by decide +kernel
theorem d_X3_unitsOf_10 : decode cX3_unitsOf 10 = .ok (.istore_n 2, 1) := by decide +kernel
theorem d_X3_unitsOf_11 : decode cX3_unitsOf 11 = .ok (.aload_n 0, 1) := by decide +kernel
theorem d_X3_unitsOf_12 : decode cX3_unitsOf 12 = .ok (.iload_n 1, 1) := by decide +kernel
theorem d_X3_unitsOf_13 : decode cX3_unitsOf 13 = .ok (.invokevirtual 35, 3) := by decide +kernel
theorem d_X3_unitsOf_16 : decode cX3_unitsOf 16 = .ok (.istore_n 3, 1) := by decide +kernel
theorem d_X3_unitsOf_17 : decode cX3_unitsOf 17 = .ok (.iload_n 3, 1) := by decide +kernel
theorem d_X3_unitsOf_18 : decode cX3_unitsOf 18 = .ok (.iconst 1, 1) := by decide +kernel
theorem d_X3_unitsOf_19 : decode cX3_unitsOf 19 = .ok (.if_icmp .le 14, 3) := by decide +kernel
theorem d_X3_unitsOf_34 : decode cX3_unitsOf 34 = .ok (.istore 4, 2) := by decide +kernel
theorem d_X3_unitsOf_36 : decode cX3_unitsOf 36 = .ok (.iconst 0, 1) := by decide +kernel
theorem d_X3_unitsOf_37 : decode cX3_unitsOf 37 = .ok (.istore 5, 2) := by decide +kernel
theorem d_X3_unitsOf_39 : decode cX3_unitsOf 39 = .ok (.iload 5, 2) := by decide +kernel
theorem d_X3_unitsOf_41 : decode cX3_unitsOf 41 = .ok (.iload_n 3, 1) := by decide +kernel
theorem d_X3_unitsOf_42 : decode cX3_unitsOf 42 = .ok (.if_icmp .ge 28, 3) := by decide +kernel
theorem d_X3_unitsOf_70 : decode cX3_unitsOf 70 = .ok (.iload 4, 2) := by decide +kernel
theorem d_X3_unitsOf_72 : decode cX3_unitsOf 72 = .ok (.ireturn, 1) := by decide +kernel
theorem d_X3_unitsOf_45 : decode cX3_unitsOf 45 = .ok (.iload 4, 2) := by decide +kernel
theorem d_X3_unitsOf_47 : decode cX3_unitsOf 47 = .ok (.aload_n 0, 1) := by decide +kernel
theorem d_X3_unitsOf_48 : decode cX3_unitsOf 48 = .ok (.getfield 9, 3) := by decide +kernel
theorem d_X3_unitsOf_51 : decode cX3_unitsOf 51 = .ok (.aload_n 0, 1) := by decide +kernel
theorem d_X3_unitsOf_52 : decode cX3_unitsOf 52 = .ok (.iload_n 1, 1) := by decide +kernel
theorem d_X3_unitsOf_53 : decode cX3_unitsOf 53 = .ok (.iload 5, 2) := by decide +kernel
theorem d_X3_unitsOf_55 : decode cX3_unitsOf 55 = .ok (.invokevirtual 38, 3) := by decide +kernel
theorem d_X3_unitsOf_58 : decode cX3_unitsOf 58 = .ok (.invokevirtual 48, 3) := by decide +kernel
theorem ck_RX3_48 : CKV RX3 48 Y_X2_sizeAt 1 := ⟨KW.at (i := 977) (by decide +kernel) rfl, vm_X2_sizeAt.1, vm_X2_sizeAt.2, mk_X2_sizeAt⟩
theorem d_X3_unitsOf_61 : decode cX3_unitsOf 61 = .ok (.iadd, 1) := by decide +kernel
theorem d_X3_unitsOf_62 : decode cX3_unitsOf 62 = .ok (.istore 4, 2) := by decide +kernel
theorem d_X3_unitsOf_64 : decode cX3_unitsOf 64 = .ok (.iinc 5 1, 3) := by decide +kernel
theorem d_X3_unitsOf_67 : decode cX3_unitsOf 67 = .ok (.goto (-28), 3) := by decide +kernel
theorem d_X3_unitsOf_33 : decode cX3_unitsOf 33 = .ok (.iconst 0, 1) := by decide +kernel
theorem d_X3_unitsOf_22 : decode cX3_unitsOf 22 = .ok (.aload_n 0, 1) := by decide +kernel
theorem d_X3_unitsOf_23 : decode cX3_unitsOf 23 = .ok (.getfield 9, 3) := by decide +kernel
theorem d_X3_unitsOf_26 : decode cX3_unitsOf 26 = .ok (.iload_n 2, 1) := by decide +kernel
theorem d_X3_unitsOf_27 : decode cX3_unitsOf 27 = .ok (.invokevirtual 48, 3) := by decide +kernel
theorem d_X3_unitsOf_30 : decode cX3_unitsOf 30 = .ok (.goto 4, 3) := by decide +kernel
theorem d_X7_usedByTree_72 : decode cX7_usedByTree 72 = .ok (.iadd, 1) := by decide +kernel
theorem d_X7_usedByTree_73 : decode cX7_usedByTree 73 = .ok (.istore_n 2, 1) := by decide +kernel
theorem d_X7_usedByTree_74 : decode cX7_usedByTree 74 = .ok (.iload_n 2, 1) := by decide +kernel
theorem d_X7_usedByTree_75 : decode cX7_usedByTree 75 = .ok (.aload_n 0, 1) := by decide +kernel
theorem d_X7_usedByTree_76 : decode cX7_usedByTree 76 = .ok (.getfield 41, 3) := by decide +kernel
theorem fk_RX7_41 : FK RX7 41 7 3 := ⟨RX7, TX7, 8, rfl, by decide, ws_X7, KW.at (i := 326) (by decide +kernel) rfl⟩
theorem d_X7_usedByTree_79 : decode cX7_usedByTree 79 = .ok (.iload 4, 2) := by decide +kernel
theorem d_X7_usedByTree_81 : decode cX7_usedByTree 81 = .ok (.invokevirtual 272, 3) := by decide +kernel
abbrev Y_X5_unitsOf : YT := (cX5_unitsOf, 8, (some .int), yX5_unitsOf, [], 4)
theorem mk_X5_unitsOf : MK Y_X5_unitsOf 1 := ⟨KW.at (i := 40) (by decide +kernel) rfl, KW.at (i := 981) (by decide +kernel) rfl, ⟨by decide +kernel, by decide +kernel⟩, by decide +kernel, by decide +kernel, rfl, by decide⟩
theorem vm_X5_unitsOf : KW (.instanceMethod (yN Y_X5_unitsOf)) ∧ KW (.selects (yN Y_X5_unitsOf).cls (yN Y_X5_unitsOf) (yN Y_X5_unitsOf)) := ⟨KW.at (i := 979) (by decide +kernel) rfl, KW.at (i := 980) (by decide +kernel) rfl⟩
theorem ck_RX7_272 : CKV RX7 272 Y_X5_unitsOf 1 := ⟨KW.at (i := 978) (by decide +kernel) rfl, vm_X5_unitsOf.1, vm_X5_unitsOf.2, mk_X5_unitsOf⟩
theorem sh_12 : SH.getD 12 (9, 0, []) = (0, 5, [5, 10]) := rfl
theorem d_X5_unitsOf_0 : decode cX5_unitsOf 0 = .ok (.aload_n 0, 1) := by decide +kernel
theorem d_X5_unitsOf_1 : decode cX5_unitsOf 1 = .ok (.iload_n 1, 1) := by decide +kernel
theorem d_X5_unitsOf_2 : decode cX5_unitsOf 2 = .ok (.invokevirtual 28, 3) := by decide +kernel
abbrev Y_X5_valueCount : YT := (cX5_valueCount, 3, (some .int), yX5_valueCount, [], 3)
theorem mk_X5_valueCount : MK Y_X5_valueCount 1 := ⟨KW.at (i := 40) (by decide +kernel) rfl, KW.at (i := 697) (by decide +kernel) rfl, ⟨by decide +kernel, by decide +kernel⟩, by decide +kernel, by decide +kernel, rfl, by decide⟩
theorem vm_X5_valueCount : KW (.instanceMethod (yN Y_X5_valueCount)) ∧ KW (.selects (yN Y_X5_valueCount).cls (yN Y_X5_valueCount) (yN Y_X5_valueCount)) := ⟨KW.at (i := 695) (by decide +kernel) rfl, KW.at (i := 696) (by decide +kernel) rfl⟩
theorem ck_RX5_28 : CKV RX5 28 Y_X5_valueCount 1 := ⟨KW.at (i := 694) (by decide +kernel) rfl, vm_X5_valueCount.1, vm_X5_valueCount.2, mk_X5_valueCount⟩
theorem d_X5_valueCount_0 : decode cX5_valueCount 0 = .ok (.aload_n 0, 1) := by decide +kernel
theorem d_X5_valueCount_1 : decode cX5_valueCount 1 = .ok (.getfield 9, 3) := by decide +kernel
theorem ws_X5 : ∀ w ∈ u_ws RX5 TX5 2, KW w := KW.all (by decide +kernel)
theorem fk_RX5_9 : FK RX5 9 5 0 := ⟨RX5, TX5, 2, rfl, by decide, ws_X5, KW.at (i := 141) (by decide +kernel) rfl⟩
theorem d_X5_valueCount_4 : decode cX5_valueCount 4 = .ok (.iload_n 1, 1) := by decide +kernel
theorem d_X5_valueCount_5 : decode cX5_valueCount 5 = .ok (.iconst 3, 1) := by decide +kernel
theorem d_X5_valueCount_6 : decode cX5_valueCount 6 = .ok (.iadd, 1) := by decide +kernel
theorem d_X5_valueCount_7 : decode cX5_valueCount 7 = .ok (.invokevirtual 19, 3) := by decide +kernel
theorem ck_RX5_19 : CKV RX5 19 Y_X2_unitAt 1 := ⟨KW.at (i := 698) (by decide +kernel) rfl, vm_X2_unitAt.1, vm_X2_unitAt.2, mk_X2_unitAt⟩
theorem d_X5_valueCount_10 : decode cX5_valueCount 10 = .ok (.istore_n 2, 1) := by decide +kernel
theorem d_X5_valueCount_11 : decode cX5_valueCount 11 = .ok (.iload_n 2, 1) := by decide +kernel
theorem d_X5_valueCount_12 : decode cX5_valueCount 12 = .ok (.ifCond .ne 7, 3) := by decide +kernel
theorem d_X5_valueCount_19 : decode cX5_valueCount 19 = .ok (.aload_n 0, 1) := by decide +kernel
theorem d_X5_valueCount_20 : decode cX5_valueCount 20 = .ok (.getfield 9, 3) := by decide +kernel
theorem d_X5_valueCount_23 : decode cX5_valueCount 23 = .ok (.iload_n 2, 1) := by decide +kernel
theorem d_X5_valueCount_24 : decode cX5_valueCount 24 = .ok (.invokevirtual 25, 3) := by decide +kernel
theorem ck_RX5_25 : CKV RX5 25 Y_X2_itemCount 1 := ⟨KW.at (i := 699) (by decide +kernel) rfl, vm_X2_itemCount.1, vm_X2_itemCount.2, mk_X2_itemCount⟩
theorem d_X5_valueCount_27 : decode cX5_valueCount 27 = .ok (.ireturn, 1) := by decide +kernel
theorem d_X5_valueCount_15 : decode cX5_valueCount 15 = .ok (.iconst 0, 1) := by decide +kernel
theorem d_X5_valueCount_16 : decode cX5_valueCount 16 = .ok (.goto 11, 3) := by decide +kernel
theorem d_X5_unitsOf_5 : decode cX5_unitsOf 5 = .ok (.istore_n 2, 1) := by decide +kernel
theorem d_X5_unitsOf_6 : decode cX5_unitsOf 6 = .ok (.iload_n 2, 1) := by decide +kernel
theorem d_X5_unitsOf_7 : decode cX5_unitsOf 7 = .ok (.ifCond .ne 7, 3) := by decide +kernel
theorem d_X5_unitsOf_31 : decode cX5_unitsOf 31 = .ok (.istore_n 3, 1) := by decide +kernel
theorem d_X5_unitsOf_32 : decode cX5_unitsOf 32 = .ok (.iconst 0, 1) := by decide +kernel
theorem d_X5_unitsOf_33 : decode cX5_unitsOf 33 = .ok (.istore 4, 2) := by decide +kernel
theorem d_X5_unitsOf_35 : decode cX5_unitsOf 35 = .ok (.iload 4, 2) := by decide +kernel
theorem d_X5_unitsOf_37 : decode cX5_unitsOf 37 = .ok (.iload_n 2, 1) := by decide +kernel
theorem d_X5_unitsOf_38 : decode cX5_unitsOf 38 = .ok (.if_icmp .ge 86, 3) := by decide +kernel
theorem d_X5_unitsOf_124 : decode cX5_unitsOf 124 = .ok (.iload_n 3, 1) := by decide +kernel
theorem d_X5_unitsOf_125 : decode cX5_unitsOf 125 = .ok (.ireturn, 1) := by decide +kernel
theorem d_X5_unitsOf_41 : decode cX5_unitsOf 41 = .ok (.aload_n 0, 1) := by decide +kernel
theorem d_X5_unitsOf_42 : decode cX5_unitsOf 42 = .ok (.iload_n 1, 1) := by decide +kernel
theorem d_X5_unitsOf_43 : decode cX5_unitsOf 43 = .ok (.iload 4, 2) := by decide +kernel
theorem d_X5_unitsOf_45 : decode cX5_unitsOf 45 = .ok (.invokevirtual 31, 3) := by decide +kernel
abbrev Y_X5_cellNumbered : YT := (cX5_cellNumbered, 3, (some .int), yX5_cellNumbered, [], 3)
theorem mk_X5_cellNumbered : MK Y_X5_cellNumbered 2 := ⟨KW.at (i := 40) (by decide +kernel) rfl, KW.at (i := 703) (by decide +kernel) rfl, ⟨by decide +kernel, by decide +kernel⟩, by decide +kernel, by decide +kernel, rfl, by decide⟩
theorem vm_X5_cellNumbered : KW (.instanceMethod (yN Y_X5_cellNumbered)) ∧ KW (.selects (yN Y_X5_cellNumbered).cls (yN Y_X5_cellNumbered) (yN Y_X5_cellNumbered)) := ⟨KW.at (i := 702) (by decide +kernel) rfl, KW.at (i := 24) (by decide +kernel) rfl⟩
theorem ck_RX5_31 : CKV RX5 31 Y_X5_cellNumbered 2 := ⟨KW.at (i := 700) (by decide +kernel) rfl, vm_X5_cellNumbered.1, vm_X5_cellNumbered.2, mk_X5_cellNumbered⟩
theorem d_X5_cellNumbered_0 : decode cX5_cellNumbered 0 = .ok (.aload_n 0, 1) := by decide +kernel
theorem d_X5_cellNumbered_1 : decode cX5_cellNumbered 1 = .ok (.getfield 9, 3) := by decide +kernel
theorem d_X5_cellNumbered_4 : decode cX5_cellNumbered 4 = .ok (.aload_n 0, 1) := by decide +kernel
theorem d_X5_cellNumbered_5 : decode cX5_cellNumbered 5 = .ok (.getfield 9, 3) := by decide +kernel
theorem d_X5_cellNumbered_8 : decode cX5_cellNumbered 8 = .ok (.iload_n 1, 1) := by decide +kernel
theorem d_X5_cellNumbered_9 : decode cX5_cellNumbered 9 = .ok (.iconst 3, 1) := by decide +kernel
theorem d_X5_cellNumbered_10 : decode cX5_cellNumbered 10 = .ok (.iadd, 1) := by decide +kernel
theorem d_X5_cellNumbered_11 : decode cX5_cellNumbered 11 = .ok (.invokevirtual 19, 3) := by decide +kernel
theorem d_X5_cellNumbered_14 : decode cX5_cellNumbered 14 = .ok (.iload_n 2, 1) := by decide +kernel
theorem d_X5_cellNumbered_15 : decode cX5_cellNumbered 15 = .ok (.invokevirtual 104, 3) := by decide +kernel
theorem ck_RX5_104 : CKV RX5 104 Y_X2_item 2 := ⟨KW.at (i := 704) (by decide +kernel) rfl, vm_X2_item.1, vm_X2_item.2, mk_X2_item⟩
theorem d_X5_cellNumbered_18 : decode cX5_cellNumbered 18 = .ok (.ireturn, 1) := by decide +kernel
theorem d_X5_unitsOf_48 : decode cX5_unitsOf 48 = .ok (.istore 5, 2) := by decide +kernel
theorem d_X5_unitsOf_50 : decode cX5_unitsOf 50 = .ok (.iload_n 3, 1) := by decide +kernel
theorem d_X5_unitsOf_51 : decode cX5_unitsOf 51 = .ok (.aload_n 0, 1) := by decide +kernel
theorem d_X5_unitsOf_52 : decode cX5_unitsOf 52 = .ok (.getfield 9, 3) := by decide +kernel
theorem d_X5_unitsOf_55 : decode cX5_unitsOf 55 = .ok (.iload 5, 2) := by decide +kernel
theorem d_X5_unitsOf_57 : decode cX5_unitsOf 57 = .ok (.invokevirtual 35, 3) := by decide +kernel
theorem ck_RX5_35 : CKV RX5 35 Y_X2_sizeAt 1 := ⟨KW.at (i := 778) (by decide +kernel) rfl, vm_X2_sizeAt.1, vm_X2_sizeAt.2, mk_X2_sizeAt⟩
theorem d_X5_unitsOf_60 : decode cX5_unitsOf 60 = .ok (.iadd, 1) := by decide +kernel
theorem d_X5_unitsOf_61 : decode cX5_unitsOf 61 = .ok (.istore_n 3, 1) := by decide +kernel
theorem d_X5_unitsOf_62 : decode cX5_unitsOf 62 = .ok (.aload_n 0, 1) := by decide +kernel
theorem d_X5_unitsOf_63 : decode cX5_unitsOf 63 = .ok (.getfield 9, 3) := by decide +kernel
theorem d_X5_unitsOf_66 : decode cX5_unitsOf 66 = .ok (.iload 5, 2) := by decide +kernel
theorem d_X5_unitsOf_68 : decode cX5_unitsOf 68 = .ok (.iconst 2, 1) := by decide +kernel
theorem d_X5_unitsOf_69 : decode cX5_unitsOf 69 = .ok (.iadd, 1) := by decide +kernel
theorem d_X5_unitsOf_70 : decode cX5_unitsOf 70 = .ok (.invokevirtual 19, 3) := by decide +kernel
theorem d_X5_unitsOf_73 : decode cX5_unitsOf 73 = .ok (.istore 6, 2) := by decide +kernel
theorem d_X5_unitsOf_75 : decode cX5_unitsOf 75 = .ok (.iconst 0, 1) := by decide +kernel
theorem d_X5_unitsOf_76 : decode cX5_unitsOf 76 = .ok (.istore 7, 2) := by decide +kernel
theorem d_X5_unitsOf_78 : decode cX5_unitsOf 78 = .ok (.iload 7, 2) := by decide +kernel
theorem d_X5_unitsOf_80 : decode cX5_unitsOf 80 = .ok (.iconst 4, 1) := by decide +kernel
theorem d_X5_unitsOf_81 : decode cX5_unitsOf 81 = .ok (.if_icmp .ge 37, 3) := by decide +kernel
theorem d_X5_unitsOf_84 : decode cX5_unitsOf 84 = .ok (.iload 6, 2) := by decide +kernel
theorem d_X5_unitsOf_86 : decode cX5_unitsOf 86 = .ok (.ifCond .eq 32, 3) := by decide +kernel
theorem d_X5_unitsOf_89 : decode cX5_unitsOf 89 = .ok (.iload_n 3, 1) := by decide +kernel
theorem d_X5_unitsOf_90 : decode cX5_unitsOf 90 = .ok (.aload_n 0, 1) := by decide +kernel
theorem d_X5_unitsOf_91 : decode cX5_unitsOf 91 = .ok (.getfield 9, 3) := by decide +kernel
theorem d_X5_unitsOf_94 : decode cX5_unitsOf 94 = .ok (.iload 6, 2) := by decide +kernel
theorem d_X5_unitsOf_96 : decode cX5_unitsOf 96 = .ok (.invokevirtual 35, 3) := by decide +kernel
theorem d_X5_unitsOf_99 : decode cX5_unitsOf 99 = .ok (.iadd, 1) := by decide +kernel
theorem d_X5_unitsOf_100 : decode cX5_unitsOf 100 = .ok (.istore_n 3, 1) := by decide +kernel
theorem d_X5_unitsOf_101 : decode cX5_unitsOf 101 = .ok (.aload_n 0, 1) := by decide +kernel
theorem d_X5_unitsOf_102 : decode cX5_unitsOf 102 = .ok (.getfield 9, 3) := by decide +kernel
theorem d_X5_unitsOf_105 : decode cX5_unitsOf 105 = .ok (.iload 6, 2) := by decide +kernel
theorem d_X5_unitsOf_107 : decode cX5_unitsOf 107 = .ok (.invokevirtual 19, 3) := by decide +kernel
theorem d_X5_unitsOf_110 : decode cX5_unitsOf 110 = .ok (.istore 6, 2) := by decide +kernel
theorem d_X5_unitsOf_112 : decode cX5_unitsOf 112 = .ok (.iinc 7 1, 3) := by decide +kernel
theorem d_X5_unitsOf_115 : decode cX5_unitsOf 115 = .ok (.goto (-37), 3) := by decide +kernel
theorem d_X5_unitsOf_118 : decode cX5_unitsOf 118 = .ok (.iinc 4 1, 3) := by decide +kernel
theorem d_X5_unitsOf_121 : decode cX5_unitsOf 121 = .ok (.goto (-86), 3) := by decide +kernel
theorem d_X5_unitsOf_14 : decode cX5_unitsOf 14 = .ok (.aload_n 0, 1) := by decide +kernel
theorem d_X5_unitsOf_15 : decode cX5_unitsOf 15 = .ok (.getfield 9, 3) := by decide +kernel
theorem d_X5_unitsOf_18 : decode cX5_unitsOf 18 = .ok (.aload_n 0, 1) := by decide +kernel
theorem d_X5_unitsOf_19 : decode cX5_unitsOf 19 = .ok (.getfield 9, 3) := by decide +kernel
theorem d_X5_unitsOf_22 : decode cX5_unitsOf 22 = .ok (.iload_n 1, 1) := by decide +kernel
theorem d_X5_unitsOf_23 : decode cX5_unitsOf 23 = .ok (.iconst 3, 1) := by decide +kernel
theorem d_X5_unitsOf_24 : decode cX5_unitsOf 24 = .ok (.iadd, 1) := by decide +kernel
theorem d_X5_unitsOf_25 : decode cX5_unitsOf 25 = .ok (.invokevirtual 19, 3) := by decide +kernel
theorem d_X5_unitsOf_28 : decode cX5_unitsOf 28 = .ok (.invokevirtual 35, 3) := by decide +kernel
theorem d_X5_unitsOf_10 : decode cX5_unitsOf 10 = .ok (.iconst 0, 1) := by decide +kernel
theorem d_X5_unitsOf_11 : decode cX5_unitsOf 11 = .ok (.goto 20, 3) := by decide +kernel
theorem d_X7_usedByTree_84 : decode cX7_usedByTree 84 = .ok (.iadd, 1) := by decide +kernel
theorem d_X7_usedByTree_85 : decode cX7_usedByTree 85 = .ok (.istore_n 2, 1) := by decide +kernel
theorem d_X7_usedByTree_86 : decode cX7_usedByTree 86 = .ok (.iload_n 2, 1) := by decide +kernel
theorem d_X7_usedByTree_87 : decode cX7_usedByTree 87 = .ok (.aload_n 0, 1) := by decide +kernel
theorem d_X7_usedByTree_88 : decode cX7_usedByTree 88 = .ok (.getfield 48, 3) := by decide +kernel
theorem d_X7_usedByTree_91 : decode cX7_usedByTree 91 = .ok (.aload_n 0, 1) := by decide +kernel
theorem d_X7_usedByTree_92 : decode cX7_usedByTree 92 = .ok (.getfield 21, 3) := by decide +kernel
theorem d_X7_usedByTree_95 : decode cX7_usedByTree 95 = .ok (.iload 4, 2) := by decide +kernel
theorem d_X7_usedByTree_97 : decode cX7_usedByTree 97 = .ok (.iconst 4, 1) := by decide +kernel
theorem d_X7_usedByTree_98 : decode cX7_usedByTree 98 = .ok (.iadd, 1) := by decide +kernel
theorem d_X7_usedByTree_99 : decode cX7_usedByTree 99 = .ok (.invokevirtual 111, 3) := by decide +kernel
theorem d_X7_usedByTree_102 : decode cX7_usedByTree 102 = .ok (.invokevirtual 273, 3) := by decide +kernel
abbrev Y_X4_unitsNotYetCounted : YT := (cX4_unitsNotYetCounted, 3, (some .int), yX4_unitsNotYetCounted, [], 3)
theorem mk_X4_unitsNotYetCounted : MK Y_X4_unitsNotYetCounted 1 := ⟨KW.at (i := 41) (by decide +kernel) rfl, KW.at (i := 985) (by decide +kernel) rfl, ⟨by decide +kernel, by decide +kernel⟩, by decide +kernel, by decide +kernel, rfl, by decide⟩
theorem vm_X4_unitsNotYetCounted : KW (.instanceMethod (yN Y_X4_unitsNotYetCounted)) ∧ KW (.selects (yN Y_X4_unitsNotYetCounted).cls (yN Y_X4_unitsNotYetCounted) (yN Y_X4_unitsNotYetCounted)) := ⟨KW.at (i := 983) (by decide +kernel) rfl, KW.at (i := 984) (by decide +kernel) rfl⟩
theorem ck_RX7_273 : CKV RX7 273 Y_X4_unitsNotYetCounted 1 := ⟨KW.at (i := 982) (by decide +kernel) rfl, vm_X4_unitsNotYetCounted.1, vm_X4_unitsNotYetCounted.2, mk_X4_unitsNotYetCounted⟩
theorem d_X4_unitsNotYetCounted_0 : decode cX4_unitsNotYetCounted 0 = .ok (.aload_n 0, 1) := by decide +kernel
theorem d_X4_unitsNotYetCounted_1 : decode cX4_unitsNotYetCounted 1 = .ok (.getfield 9, 3) := by decide +kernel
theorem d_X4_unitsNotYetCounted_4 : decode cX4_unitsNotYetCounted 4 = .ok (.iload_n 1, 1) := by decide +kernel
theorem d_X4_unitsNotYetCounted_5 : decode cX4_unitsNotYetCounted 5 = .ok (.invokestatic 73, 3) := by decide +kernel
theorem ck_RX4_73 : CKN RX4 73 Y_X7_read 2 := ⟨KW.at (i := 986) (by decide +kernel) rfl, sm_X7_read, mk_X7_read⟩
theorem d_X4_unitsNotYetCounted_8 : decode cX4_unitsNotYetCounted 8 = .ok (.ifCond .ne 21, 3) := by decide +kernel
theorem d_X4_unitsNotYetCounted_30 : decode cX4_unitsNotYetCounted 30 = .ok (.istore_n 2, 1) := by decide +kernel
theorem d_X4_unitsNotYetCounted_31 : decode cX4_unitsNotYetCounted 31 = .ok (.aload_n 0, 1) := by decide +kernel
theorem d_X4_unitsNotYetCounted_32 : decode cX4_unitsNotYetCounted 32 = .ok (.getfield 9, 3) := by decide +kernel
theorem d_X4_unitsNotYetCounted_35 : decode cX4_unitsNotYetCounted 35 = .ok (.iload_n 1, 1) := by decide +kernel
theorem d_X4_unitsNotYetCounted_36 : decode cX4_unitsNotYetCounted 36 = .ok (.iconst 1, 1) := by decide +kernel
theorem d_X4_unitsNotYetCounted_37 : decode cX4_unitsNotYetCounted 37 = .ok (.invokestatic 80, 3) := by decide +kernel
theorem ck_RX4_80 : CKN RX4 80 Y_X7_store 3 := ⟨KW.at (i := 988) (by decide +kernel) rfl, sm_X7_store, mk_X7_store⟩
theorem d_X4_unitsNotYetCounted_40 : decode cX4_unitsNotYetCounted 40 = .ok (.iload_n 2, 1) := by decide +kernel
theorem d_X4_unitsNotYetCounted_41 : decode cX4_unitsNotYetCounted 41 = .ok (.ireturn, 1) := by decide +kernel
theorem d_X4_unitsNotYetCounted_29 : decode cX4_unitsNotYetCounted 29 = .ok (.iconst 0, 1) := by decide +kernel
theorem d_X4_unitsNotYetCounted_11 : decode cX4_unitsNotYetCounted 11 = .ok (.aload_n 0, 1) := by decide +kernel
theorem d_X4_unitsNotYetCounted_12 : decode cX4_unitsNotYetCounted 12 = .ok (.getfield 15, 3) := by decide +kernel
theorem fk_RX4_15 : FK RX4 15 4 0 := ⟨RX4, TX4, 3, rfl, by decide, ws_X4, KW.at (i := 154) (by decide +kernel) rfl⟩
theorem d_X4_unitsNotYetCounted_15 : decode cX4_unitsNotYetCounted 15 = .ok (.aload_n 0, 1) := by decide +kernel
theorem d_X4_unitsNotYetCounted_16 : decode cX4_unitsNotYetCounted 16 = .ok (.getfield 15, 3) := by decide +kernel
theorem d_X4_unitsNotYetCounted_19 : decode cX4_unitsNotYetCounted 19 = .ok (.iload_n 1, 1) := by decide +kernel
theorem d_X4_unitsNotYetCounted_20 : decode cX4_unitsNotYetCounted 20 = .ok (.invokevirtual 23, 3) := by decide +kernel
abbrev Y_X2_placeOfRights : YT := (cX2_placeOfRights, 2, (some .int), yX2_placeOfRights, [], 2)
theorem mk_X2_placeOfRights : MK Y_X2_placeOfRights 1 := ⟨KW.at (i := 37) (by decide +kernel) rfl, KW.at (i := 290) (by decide +kernel) rfl, ⟨by decide +kernel, by decide +kernel⟩, by decide +kernel, by decide +kernel, rfl, by decide⟩
theorem vm_X2_placeOfRights : KW (.instanceMethod (yN Y_X2_placeOfRights)) ∧ KW (.selects (yN Y_X2_placeOfRights).cls (yN Y_X2_placeOfRights) (yN Y_X2_placeOfRights)) := ⟨KW.at (i := 288) (by decide +kernel) rfl, KW.at (i := 289) (by decide +kernel) rfl⟩
theorem ck_RX4_23 : CKV RX4 23 Y_X2_placeOfRights 1 := ⟨KW.at (i := 287) (by decide +kernel) rfl, vm_X2_placeOfRights.1, vm_X2_placeOfRights.2, mk_X2_placeOfRights⟩
theorem d_X2_placeOfRights_0 : decode cX2_placeOfRights 0 = .ok (.aload_n 0, 1) := by decide +kernel
theorem d_X2_placeOfRights_1 : decode cX2_placeOfRights 1 = .ok (.getfield 21, 3) := by decide +kernel
theorem fk_RX2_21 : FK RX2 21 2 3 := ⟨RX2, TX2, 6, rfl, by decide, ws_X2, KW.at (i := 76) (by decide +kernel) rfl⟩
theorem d_X2_placeOfRights_4 : decode cX2_placeOfRights 4 = .ok (.iload_n 1, 1) := by decide +kernel
theorem d_X2_placeOfRights_5 : decode cX2_placeOfRights 5 = .ok (.invokestatic 41, 3) := by decide +kernel
theorem sh_6 : SH.getD 6 (9, 0, []) = (1, 256, []) := rfl
theorem d_X2_placeOfRights_8 : decode cX2_placeOfRights 8 = .ok (.ireturn, 1) := by decide +kernel
theorem d_X4_unitsNotYetCounted_23 : decode cX4_unitsNotYetCounted 23 = .ok (.invokevirtual 77, 3) := by decide +kernel
theorem ck_RX4_77 : CKV RX4 77 Y_X2_sizeAt 1 := ⟨KW.at (i := 987) (by decide +kernel) rfl, vm_X2_sizeAt.1, vm_X2_sizeAt.2, mk_X2_sizeAt⟩
theorem d_X4_unitsNotYetCounted_26 : decode cX4_unitsNotYetCounted 26 = .ok (.goto 4, 3) := by decide +kernel
theorem d_X7_usedByTree_105 : decode cX7_usedByTree 105 = .ok (.iadd, 1) := by decide +kernel
theorem d_X7_usedByTree_106 : decode cX7_usedByTree 106 = .ok (.istore_n 2, 1) := by decide +kernel
theorem d_X7_usedByTree_107 : decode cX7_usedByTree 107 = .ok (.aload_n 0, 1) := by decide +kernel
theorem d_X7_usedByTree_108 : decode cX7_usedByTree 108 = .ok (.iload 4, 2) := by decide +kernel
theorem d_X7_usedByTree_110 : decode cX7_usedByTree 110 = .ok (.iload_n 1, 1) := by decide +kernel
theorem d_X7_usedByTree_111 : decode cX7_usedByTree 111 = .ok (.invokevirtual 276, 3) := by decide +kernel
abbrev Y_X7_addSubkeysToWalk : YT := (cX7_addSubkeysToWalk, 5, (some .int), yX7_addSubkeysToWalk, [], 5)
theorem mk_X7_addSubkeysToWalk : MK Y_X7_addSubkeysToWalk 2 := ⟨KW.at (i := 36) (by decide +kernel) rfl, KW.at (i := 992) (by decide +kernel) rfl, ⟨by decide +kernel, by decide +kernel⟩, by decide +kernel, by decide +kernel, rfl, by decide⟩
theorem vm_X7_addSubkeysToWalk : KW (.instanceMethod (yN Y_X7_addSubkeysToWalk)) ∧ KW (.selects (yN Y_X7_addSubkeysToWalk).cls (yN Y_X7_addSubkeysToWalk) (yN Y_X7_addSubkeysToWalk)) := ⟨KW.at (i := 991) (by decide +kernel) rfl, KW.at (i := 34) (by decide +kernel) rfl⟩
theorem ck_RX7_276 : CKV RX7 276 Y_X7_addSubkeysToWalk 2 := ⟨KW.at (i := 989) (by decide +kernel) rfl, vm_X7_addSubkeysToWalk.1, vm_X7_addSubkeysToWalk.2, mk_X7_addSubkeysToWalk⟩
theorem d_X7_addSubkeysToWalk_0 : decode cX7_addSubkeysToWalk 0 = .ok (.aload_n 0, 1) := by decide +kernel
theorem d_X7_addSubkeysToWalk_1 : decode cX7_addSubkeysToWalk 1 = .ok (.getfield 34, 3) := by decide +kernel
theorem d_X7_addSubkeysToWalk_4 : decode cX7_addSubkeysToWalk 4 = .ok (.iload_n 1, 1) := by decide +kernel
theorem d_X7_addSubkeysToWalk_5 : decode cX7_addSubkeysToWalk 5 = .ok (.invokevirtual 170, 3) := by decide +kernel
theorem d_X7_addSubkeysToWalk_8 : decode cX7_addSubkeysToWalk 8 = .ok (.istore_n 3, 1) := by decide +kernel
theorem d_X7_addSubkeysToWalk_9 : decode cX7_addSubkeysToWalk 9 = .ok (.iconst 0, 1) := by decide +kernel
theorem d_X7_addSubkeysToWalk_10 : decode cX7_addSubkeysToWalk 10 = .ok (.istore 4, 2) := by decide +kernel
theorem d_X7_addSubkeysToWalk_12 : decode cX7_addSubkeysToWalk 12 = .ok (.iload 4, 2) := by decide +kernel
theorem d_X7_addSubkeysToWalk_14 : decode cX7_addSubkeysToWalk 14 = .ok (.iload_n 3, 1) := by decide +kernel
theorem d_X7_addSubkeysToWalk_15 : decode cX7_addSubkeysToWalk 15 = .ok (.if_icmp .ge 30, 3) := by decide +kernel
theorem d_X7_addSubkeysToWalk_18 : decode cX7_addSubkeysToWalk 18 = .ok (.aload_n 0, 1) := by decide +kernel
theorem d_X7_addSubkeysToWalk_19 : decode cX7_addSubkeysToWalk 19 = .ok (.getfield 9, 3) := by decide +kernel
theorem d_X7_addSubkeysToWalk_22 : decode cX7_addSubkeysToWalk 22 = .ok (.iload_n 2, 1) := by decide +kernel
theorem d_X7_addSubkeysToWalk_23 : decode cX7_addSubkeysToWalk 23 = .ok (.iload 4, 2) := by decide +kernel
theorem d_X7_addSubkeysToWalk_25 : decode cX7_addSubkeysToWalk 25 = .ok (.iadd, 1) := by decide +kernel
theorem d_X7_addSubkeysToWalk_26 : decode cX7_addSubkeysToWalk 26 = .ok (.aload_n 0, 1) := by decide +kernel
theorem d_X7_addSubkeysToWalk_27 : decode cX7_addSubkeysToWalk 27 = .ok (.getfield 34, 3) := by decide +kernel
theorem d_X7_addSubkeysToWalk_30 : decode cX7_addSubkeysToWalk 30 = .ok (.iload_n 1, 1) := by decide +kernel
theorem d_X7_addSubkeysToWalk_31 : decode cX7_addSubkeysToWalk 31 = .ok (.iload 4, 2) := by decide +kernel
theorem d_X7_addSubkeysToWalk_33 : decode cX7_addSubkeysToWalk 33 = .ok (.invokevirtual 180, 3) := by decide +kernel
theorem d_X7_addSubkeysToWalk_36 : decode cX7_addSubkeysToWalk 36 = .ok (.invokestatic 261, 3) := by decide +kernel
theorem d_X7_addSubkeysToWalk_39 : decode cX7_addSubkeysToWalk 39 = .ok (.iinc 4 1, 3) := by decide +kernel
theorem d_X7_addSubkeysToWalk_42 : decode cX7_addSubkeysToWalk 42 = .ok (.goto (-30), 3) := by decide +kernel
theorem d_X7_addSubkeysToWalk_45 : decode cX7_addSubkeysToWalk 45 = .ok (.iload_n 2, 1) := by decide +kernel
theorem d_X7_addSubkeysToWalk_46 : decode cX7_addSubkeysToWalk 46 = .ok (.iload_n 3, 1) := by decide +kernel
theorem d_X7_addSubkeysToWalk_47 : decode cX7_addSubkeysToWalk 47 = .ok (.iadd, 1) := by decide +kernel
theorem d_X7_addSubkeysToWalk_48 : decode cX7_addSubkeysToWalk 48 = .ok (.ireturn, 1) := by decide +kernel
theorem d_X7_usedByTree_114 : decode cX7_usedByTree 114 = .ok (.istore_n 1, 1) := by decide +kernel
theorem d_X7_usedByTree_115 : decode cX7_usedByTree 115 = .ok (.iinc 3 1, 3) := by decide +kernel
theorem d_X7_usedByTree_118 : decode cX7_usedByTree 118 = .ok (.goto (-96), 3) := by decide +kernel
abbrev Y_X7_unit : YT := (cX7_unit, 5, (some .int), yX7_unit, [], 7)
theorem d_X7_unit_0 : decode cX7_unit 0 = .ok (.aload_n 0, 1) := by decide +kernel
theorem d_X7_unit_1 : decode cX7_unit 1 = .ok (.iload_n 1, 1) := by decide +kernel
theorem d_X7_unit_2 : decode cX7_unit 2 = .ok (.invokevirtual 95, 3) := by decide +kernel
theorem d_X7_unit_5 : decode cX7_unit 5 = .ok (.aload_n 0, 1) := by decide +kernel
theorem d_X7_unit_6 : decode cX7_unit 6 = .ok (.getfield 41, 3) := by decide +kernel
theorem d_X7_unit_9 : decode cX7_unit 9 = .ok (.aload_n 0, 1) := by decide +kernel
theorem d_X7_unit_10 : decode cX7_unit 10 = .ok (.getfield 21, 3) := by decide +kernel
theorem d_X7_unit_13 : decode cX7_unit 13 = .ok (.iload_n 1, 1) := by decide +kernel
theorem d_X7_unit_14 : decode cX7_unit 14 = .ok (.invokevirtual 108, 3) := by decide +kernel
theorem d_X7_unit_17 : decode cX7_unit 17 = .ok (.iload_n 2, 1) := by decide +kernel
theorem d_X7_unit_18 : decode cX7_unit 18 = .ok (.invokevirtual 216, 3) := by decide +kernel
abbrev Y_X5_cellNamed : YT := (cX5_cellNamed, 6, (some .int), yX5_cellNamed, [], 4)
theorem mk_X5_cellNamed : MK Y_X5_cellNamed 2 := ⟨KW.at (i := 40) (by decide +kernel) rfl, KW.at (i := 749) (by decide +kernel) rfl, ⟨by decide +kernel, by decide +kernel⟩, by decide +kernel, by decide +kernel, rfl, by decide⟩
theorem vm_X5_cellNamed : KW (.instanceMethod (yN Y_X5_cellNamed)) ∧ KW (.selects (yN Y_X5_cellNamed).cls (yN Y_X5_cellNamed) (yN Y_X5_cellNamed)) := ⟨KW.at (i := 747) (by decide +kernel) rfl, KW.at (i := 748) (by decide +kernel) rfl⟩
theorem ck_RX7_216 : CKV RX7 216 Y_X5_cellNamed 2 := ⟨KW.at (i := 804) (by decide +kernel) rfl, vm_X5_cellNamed.1, vm_X5_cellNamed.2, mk_X5_cellNamed⟩
theorem d_X5_cellNamed_0 : decode cX5_cellNamed 0 = .ok (.aload_n 0, 1) := by decide +kernel
theorem d_X5_cellNamed_1 : decode cX5_cellNamed 1 = .ok (.iload_n 1, 1) := by decide +kernel
theorem d_X5_cellNamed_2 : decode cX5_cellNamed 2 = .ok (.invokevirtual 28, 3) := by decide +kernel
theorem d_X5_cellNamed_5 : decode cX5_cellNamed 5 = .ok (.istore_n 3, 1) := by decide +kernel
theorem d_X5_cellNamed_6 : decode cX5_cellNamed 6 = .ok (.iconst 0, 1) := by decide +kernel
theorem d_X5_cellNamed_7 : decode cX5_cellNamed 7 = .ok (.istore 4, 2) := by decide +kernel
theorem d_X5_cellNamed_9 : decode cX5_cellNamed 9 = .ok (.iload 4, 2) := by decide +kernel
theorem d_X5_cellNamed_11 : decode cX5_cellNamed 11 = .ok (.iload_n 3, 1) := by decide +kernel
theorem d_X5_cellNamed_12 : decode cX5_cellNamed 12 = .ok (.if_icmp .ge 39, 3) := by decide +kernel
theorem d_X5_cellNamed_51 : decode cX5_cellNamed 51 = .ok (.iconst 0, 1) := by decide +kernel
theorem d_X5_cellNamed_52 : decode cX5_cellNamed 52 = .ok (.ireturn, 1) := by decide +kernel
theorem d_X5_cellNamed_15 : decode cX5_cellNamed 15 = .ok (.aload_n 0, 1) := by decide +kernel
theorem d_X5_cellNamed_16 : decode cX5_cellNamed 16 = .ok (.iload_n 1, 1) := by decide +kernel
theorem d_X5_cellNamed_17 : decode cX5_cellNamed 17 = .ok (.iload 4, 2) := by decide +kernel
theorem d_X5_cellNamed_19 : decode cX5_cellNamed 19 = .ok (.invokevirtual 31, 3) := by decide +kernel
theorem d_X5_cellNamed_22 : decode cX5_cellNamed 22 = .ok (.istore 5, 2) := by decide +kernel
theorem d_X5_cellNamed_24 : decode cX5_cellNamed 24 = .ok (.aload_n 0, 1) := by decide +kernel
theorem d_X5_cellNamed_25 : decode cX5_cellNamed 25 = .ok (.getfield 9, 3) := by decide +kernel
theorem d_X5_cellNamed_28 : decode cX5_cellNamed 28 = .ok (.iload 5, 2) := by decide +kernel
theorem d_X5_cellNamed_30 : decode cX5_cellNamed 30 = .ok (.iconst 0, 1) := by decide +kernel
theorem d_X5_cellNamed_31 : decode cX5_cellNamed 31 = .ok (.iadd, 1) := by decide +kernel
theorem d_X5_cellNamed_32 : decode cX5_cellNamed 32 = .ok (.invokevirtual 19, 3) := by decide +kernel
theorem d_X5_cellNamed_35 : decode cX5_cellNamed 35 = .ok (.bipush 31, 2) := by decide +kernel
theorem d_X5_cellNamed_37 : decode cX5_cellNamed 37 = .ok (.idiv, 1) := by decide +kernel
theorem d_X5_cellNamed_38 : decode cX5_cellNamed 38 = .ok (.iload_n 2, 1) := by decide +kernel
theorem d_X5_cellNamed_39 : decode cX5_cellNamed 39 = .ok (.if_icmp .ne 6, 3) := by decide +kernel
theorem d_X5_cellNamed_45 : decode cX5_cellNamed 45 = .ok (.iinc 4 1, 3) := by decide +kernel
theorem d_X5_cellNamed_48 : decode cX5_cellNamed 48 = .ok (.goto (-39), 3) := by decide +kernel
theorem d_X5_cellNamed_42 : decode cX5_cellNamed 42 = .ok (.iload 5, 2) := by decide +kernel
theorem d_X5_cellNamed_44 : decode cX5_cellNamed 44 = .ok (.ireturn, 1) := by decide +kernel
theorem d_X7_unit_21 : decode cX7_unit 21 = .ok (.istore 4, 2) := by decide +kernel
theorem d_X7_unit_23 : decode cX7_unit 23 = .ok (.iload 4, 2) := by decide +kernel
theorem d_X7_unit_25 : decode cX7_unit 25 = .ok (.invokestatic 219, 3) := by decide +kernel
abbrev Y_X7_requireValue : YT := (cX7_requireValue, 1, none, yX7_requireValue, [], 6)
theorem mk_X7_requireValue : MK Y_X7_requireValue 1 := ⟨KW.at (i := 36) (by decide +kernel) rfl, KW.at (i := 807) (by decide +kernel) rfl, ⟨by decide +kernel, by decide +kernel⟩, by decide +kernel, by decide +kernel, rfl, by decide⟩
theorem sm_X7_requireValue : KW (.static (yN Y_X7_requireValue)) := KW.at (i := 806) (by decide +kernel) rfl
theorem ck_RX7_219 : CKS RX7 219 Y_X7_requireValue 1 := ⟨KW.at (i := 805) (by decide +kernel) rfl, sm_X7_requireValue, mk_X7_requireValue⟩
theorem d_X7_requireValue_0 : decode cX7_requireValue 0 = .ok (.iload_n 0, 1) := by decide +kernel
theorem d_X7_requireValue_1 : decode cX7_requireValue 1 = .ok (.ifCond .ne 14, 3) := by decide +kernel
theorem d_X7_requireValue_15 : decode cX7_requireValue 15 = .ok (.return_, 1) := by decide +kernel
theorem d_X7_requireValue_4 : decode cX7_requireValue 4 = .ok (.new 173, 3) := by decide +kernel
theorem d_X7_requireValue_7 : decode cX7_requireValue 7 = .ok (.dup, 1) := by decide +kernel
theorem d_X7_requireValue_8 : decode cX7_requireValue 8 = .ok (.ldc_w 348, 3) := by decide +kernel
theorem d_X7_requireValue_11 : decode cX7_requireValue 11 = .ok (.invokespecial 177, 3) := by decide +kernel
theorem d_X7_requireValue_14 : decode cX7_requireValue 14 = .ok (.athrow, 1) := by decide +kernel
theorem d_X7_unit_28 : decode cX7_unit 28 = .ok (.iload_n 3, 1) := by decide +kernel
theorem d_X7_unit_29 : decode cX7_unit 29 = .ok (.ifCond .lt 16, 3) := by decide +kernel
theorem d_X7_unit_45 : decode cX7_unit 45 = .ok (.new 173, 3) := by decide +kernel
theorem d_X7_unit_48 : decode cX7_unit 48 = .ok (.dup, 1) := by decide +kernel
theorem d_X7_unit_49 : decode cX7_unit 49 = .ok (.ldc 232, 2) := by decide +kernel
theorem d_X7_unit_51 : decode cX7_unit 51 = .ok (.invokespecial 177, 3) := by decide +kernel
theorem d_X7_unit_54 : decode cX7_unit 54 = .ok (.athrow, 1) := by decide +kernel
theorem d_X7_unit_32 : decode cX7_unit 32 = .ok (.iload_n 3, 1) := by decide +kernel
theorem d_X7_unit_33 : decode cX7_unit 33 = .ok (.aload_n 0, 1) := by decide +kernel
theorem d_X7_unit_34 : decode cX7_unit 34 = .ok (.getfield 41, 3) := by decide +kernel
theorem d_X7_unit_37 : decode cX7_unit 37 = .ok (.iload 4, 2) := by decide +kernel
theorem d_X7_unit_39 : decode cX7_unit 39 = .ok (.invokevirtual 222, 3) := by decide +kernel
abbrev Y_X5_lengthOf : YT := (cX5_lengthOf, 2, (some .int), yX5_lengthOf, [], 3)
theorem mk_X5_lengthOf : MK Y_X5_lengthOf 1 := ⟨KW.at (i := 40) (by decide +kernel) rfl, KW.at (i := 812) (by decide +kernel) rfl, ⟨by decide +kernel, by decide +kernel⟩, by decide +kernel, by decide +kernel, rfl, by decide⟩
theorem vm_X5_lengthOf : KW (.instanceMethod (yN Y_X5_lengthOf)) ∧ KW (.selects (yN Y_X5_lengthOf).cls (yN Y_X5_lengthOf) (yN Y_X5_lengthOf)) := ⟨KW.at (i := 810) (by decide +kernel) rfl, KW.at (i := 811) (by decide +kernel) rfl⟩
theorem ck_RX7_222 : CKV RX7 222 Y_X5_lengthOf 1 := ⟨KW.at (i := 809) (by decide +kernel) rfl, vm_X5_lengthOf.1, vm_X5_lengthOf.2, mk_X5_lengthOf⟩
theorem d_X5_lengthOf_0 : decode cX5_lengthOf 0 = .ok (.aload_n 0, 1) := by decide +kernel
theorem d_X5_lengthOf_1 : decode cX5_lengthOf 1 = .ok (.getfield 9, 3) := by decide +kernel
theorem d_X5_lengthOf_4 : decode cX5_lengthOf 4 = .ok (.iload_n 1, 1) := by decide +kernel
theorem d_X5_lengthOf_5 : decode cX5_lengthOf 5 = .ok (.iconst 0, 1) := by decide +kernel
theorem d_X5_lengthOf_6 : decode cX5_lengthOf 6 = .ok (.iadd, 1) := by decide +kernel
theorem d_X5_lengthOf_7 : decode cX5_lengthOf 7 = .ok (.invokevirtual 19, 3) := by decide +kernel
theorem d_X5_lengthOf_10 : decode cX5_lengthOf 10 = .ok (.bipush 31, 2) := by decide +kernel
theorem d_X5_lengthOf_12 : decode cX5_lengthOf 12 = .ok (.irem, 1) := by decide +kernel
theorem d_X5_lengthOf_13 : decode cX5_lengthOf 13 = .ok (.ireturn, 1) := by decide +kernel
theorem d_X7_unit_42 : decode cX7_unit 42 = .ok (.if_icmp .lt 13, 3) := by decide +kernel
theorem d_X7_unit_55 : decode cX7_unit 55 = .ok (.bipush 31, 2) := by decide +kernel
theorem d_X7_unit_57 : decode cX7_unit 57 = .ok (.aload_n 0, 1) := by decide +kernel
theorem d_X7_unit_58 : decode cX7_unit 58 = .ok (.getfield 41, 3) := by decide +kernel
theorem d_X7_unit_61 : decode cX7_unit 61 = .ok (.iload 4, 2) := by decide +kernel
theorem d_X7_unit_63 : decode cX7_unit 63 = .ok (.invokevirtual 234, 3) := by decide +kernel
abbrev Y_X5_seedOf : YT := (cX5_seedOf, 2, (some .int), yX5_seedOf, [], 3)
theorem mk_X5_seedOf : MK Y_X5_seedOf 1 := ⟨KW.at (i := 40) (by decide +kernel) rfl, KW.at (i := 917) (by decide +kernel) rfl, ⟨by decide +kernel, by decide +kernel⟩, by decide +kernel, by decide +kernel, rfl, by decide⟩
theorem vm_X5_seedOf : KW (.instanceMethod (yN Y_X5_seedOf)) ∧ KW (.selects (yN Y_X5_seedOf).cls (yN Y_X5_seedOf) (yN Y_X5_seedOf)) := ⟨KW.at (i := 915) (by decide +kernel) rfl, KW.at (i := 916) (by decide +kernel) rfl⟩
theorem ck_RX7_234 : CKV RX7 234 Y_X5_seedOf 1 := ⟨KW.at (i := 914) (by decide +kernel) rfl, vm_X5_seedOf.1, vm_X5_seedOf.2, mk_X5_seedOf⟩
theorem d_X5_seedOf_0 : decode cX5_seedOf 0 = .ok (.aload_n 0, 1) := by decide +kernel
theorem d_X5_seedOf_1 : decode cX5_seedOf 1 = .ok (.getfield 9, 3) := by decide +kernel
theorem d_X5_seedOf_4 : decode cX5_seedOf 4 = .ok (.iload_n 1, 1) := by decide +kernel
theorem d_X5_seedOf_5 : decode cX5_seedOf 5 = .ok (.iconst 1, 1) := by decide +kernel
theorem d_X5_seedOf_6 : decode cX5_seedOf 6 = .ok (.iadd, 1) := by decide +kernel
theorem d_X5_seedOf_7 : decode cX5_seedOf 7 = .ok (.invokevirtual 19, 3) := by decide +kernel
theorem d_X5_seedOf_10 : decode cX5_seedOf 10 = .ok (.ireturn, 1) := by decide +kernel
theorem d_X7_unit_66 : decode cX7_unit 66 = .ok (.imul, 1) := by decide +kernel
theorem d_X7_unit_67 : decode cX7_unit 67 = .ok (.bipush 17, 2) := by decide +kernel
theorem d_X7_unit_69 : decode cX7_unit 69 = .ok (.iload_n 3, 1) := by decide +kernel
theorem d_X7_unit_70 : decode cX7_unit 70 = .ok (.imul, 1) := by decide +kernel
theorem d_X7_unit_71 : decode cX7_unit 71 = .ok (.iadd, 1) := by decide +kernel
theorem d_X7_unit_72 : decode cX7_unit 72 = .ok (.ireturn, 1) := by decide +kernel
abbrev Y_X7_sharers : YT := (cX7_sharers, 2, (some .int), yX7_sharers, [], 7)
theorem d_X7_sharers_0 : decode cX7_sharers 0 = .ok (.iload_n 1, 1) := by decide +kernel
theorem d_X7_sharers_1 : decode cX7_sharers 1 = .ok (.invokestatic 237, 3) := by decide +kernel
abbrev Y_X7_requireRights : YT := (cX7_requireRights, 1, none, yX7_requireRights, [], 6)
theorem mk_X7_requireRights : MK Y_X7_requireRights 1 := ⟨KW.at (i := 36) (by decide +kernel) rfl, KW.at (i := 840) (by decide +kernel) rfl, ⟨by decide +kernel, by decide +kernel⟩, by decide +kernel, by decide +kernel, rfl, by decide⟩
theorem sm_X7_requireRights : KW (.static (yN Y_X7_requireRights)) := KW.at (i := 839) (by decide +kernel) rfl
theorem ck_RX7_237 : CKS RX7 237 Y_X7_requireRights 1 := ⟨KW.at (i := 838) (by decide +kernel) rfl, sm_X7_requireRights, mk_X7_requireRights⟩
theorem d_X7_requireRights_0 : decode cX7_requireRights 0 = .ok (.iload_n 0, 1) := by decide +kernel
theorem d_X7_requireRights_1 : decode cX7_requireRights 1 = .ok (.ifCond .lt 10, 3) := by decide +kernel
theorem d_X7_requireRights_11 : decode cX7_requireRights 11 = .ok (.new 279, 3) := by decide +kernel
theorem d_X7_requireRights_14 : decode cX7_requireRights 14 = .ok (.dup, 1) := by decide +kernel
theorem d_X7_requireRights_15 : decode cX7_requireRights 15 = .ok (.ldc_w 356, 3) := by decide +kernel
theorem d_X7_requireRights_18 : decode cX7_requireRights 18 = .ok (.invokespecial 283, 3) := by decide +kernel
theorem d_X7_requireRights_21 : decode cX7_requireRights 21 = .ok (.athrow, 1) := by decide +kernel
theorem d_X7_requireRights_4 : decode cX7_requireRights 4 = .ok (.iload_n 0, 1) := by decide +kernel
theorem d_X7_requireRights_5 : decode cX7_requireRights 5 = .ok (.sipush 255, 3) := by decide +kernel
theorem d_X7_requireRights_8 : decode cX7_requireRights 8 = .ok (.if_icmp .le 14, 3) := by decide +kernel
theorem d_X7_requireRights_22 : decode cX7_requireRights 22 = .ok (.return_, 1) := by decide +kernel
theorem d_X7_sharers_4 : decode cX7_sharers 4 = .ok (.aload_n 0, 1) := by decide +kernel
theorem d_X7_sharers_5 : decode cX7_sharers 5 = .ok (.getfield 48, 3) := by decide +kernel
theorem d_X7_sharers_8 : decode cX7_sharers 8 = .ok (.iload_n 1, 1) := by decide +kernel
theorem d_X7_sharers_9 : decode cX7_sharers 9 = .ok (.invokevirtual 240, 3) := by decide +kernel
abbrev Y_X4_keysWith : YT := (cX4_keysWith, 3, (some .int), yX4_keysWith, [], 3)
theorem mk_X4_keysWith : MK Y_X4_keysWith 1 := ⟨KW.at (i := 41) (by decide +kernel) rfl, KW.at (i := 727) (by decide +kernel) rfl, ⟨by decide +kernel, by decide +kernel⟩, by decide +kernel, by decide +kernel, rfl, by decide⟩
theorem vm_X4_keysWith : KW (.instanceMethod (yN Y_X4_keysWith)) ∧ KW (.selects (yN Y_X4_keysWith).cls (yN Y_X4_keysWith) (yN Y_X4_keysWith)) := ⟨KW.at (i := 725) (by decide +kernel) rfl, KW.at (i := 726) (by decide +kernel) rfl⟩
theorem ck_RX7_240 : CKV RX7 240 Y_X4_keysWith 1 := ⟨KW.at (i := 922) (by decide +kernel) rfl, vm_X4_keysWith.1, vm_X4_keysWith.2, mk_X4_keysWith⟩
theorem d_X4_keysWith_0 : decode cX4_keysWith 0 = .ok (.aload_n 0, 1) := by decide +kernel
theorem d_X4_keysWith_1 : decode cX4_keysWith 1 = .ok (.getfield 15, 3) := by decide +kernel
theorem d_X4_keysWith_4 : decode cX4_keysWith 4 = .ok (.iload_n 1, 1) := by decide +kernel
theorem d_X4_keysWith_5 : decode cX4_keysWith 5 = .ok (.invokevirtual 23, 3) := by decide +kernel
theorem d_X4_keysWith_8 : decode cX4_keysWith 8 = .ok (.istore_n 2, 1) := by decide +kernel
theorem d_X4_keysWith_9 : decode cX4_keysWith 9 = .ok (.iload_n 2, 1) := by decide +kernel
theorem d_X4_keysWith_10 : decode cX4_keysWith 10 = .ok (.ifCond .ne 7, 3) := by decide +kernel
theorem d_X4_keysWith_17 : decode cX4_keysWith 17 = .ok (.aload_n 0, 1) := by decide +kernel
theorem d_X4_keysWith_18 : decode cX4_keysWith 18 = .ok (.getfield 15, 3) := by decide +kernel
theorem d_X4_keysWith_21 : decode cX4_keysWith 21 = .ok (.iload_n 2, 1) := by decide +kernel
theorem d_X4_keysWith_22 : decode cX4_keysWith 22 = .ok (.invokevirtual 29, 3) := by decide +kernel
theorem ck_RX4_29 : CKV RX4 29 Y_X2_unitAt 1 := ⟨KW.at (i := 305) (by decide +kernel) rfl, vm_X2_unitAt.1, vm_X2_unitAt.2, mk_X2_unitAt⟩
theorem d_X4_keysWith_25 : decode cX4_keysWith 25 = .ok (.ireturn, 1) := by decide +kernel
theorem d_X4_keysWith_13 : decode cX4_keysWith 13 = .ok (.iconst 0, 1) := by decide +kernel
theorem d_X4_keysWith_14 : decode cX4_keysWith 14 = .ok (.goto 11, 3) := by decide +kernel
theorem d_X7_sharers_12 : decode cX7_sharers 12 = .ok (.ireturn, 1) := by decide +kernel
abbrev Y_X7_log : YT := (cX7_log, 2, (some .int), yX7_log, [], 6)
theorem d_X7_log_0 : decode cX7_log 0 = .ok (.iload_n 1, 1) := by decide +kernel
theorem d_X7_log_1 : decode cX7_log 1 = .ok (.ifCond .lt 8, 3) := by decide +kernel
theorem d_X7_log_9 : decode cX7_log 9 = .ok (.new 279, 3) := by decide +kernel
theorem d_X7_log_12 : decode cX7_log 12 = .ok (.dup, 1) := by decide +kernel
theorem d_X7_log_13 : decode cX7_log 13 = .ok (.ldc_w 329, 3) := by decide +kernel
theorem d_X7_log_16 : decode cX7_log 16 = .ok (.invokespecial 283, 3) := by decide +kernel
theorem d_X7_log_19 : decode cX7_log 19 = .ok (.athrow, 1) := by decide +kernel
theorem d_X7_log_4 : decode cX7_log 4 = .ok (.iload_n 1, 1) := by decide +kernel
theorem d_X7_log_5 : decode cX7_log 5 = .ok (.iconst 1, 1) := by decide +kernel
theorem d_X7_log_6 : decode cX7_log 6 = .ok (.if_icmp .le 14, 3) := by decide +kernel
theorem d_X7_log_20 : decode cX7_log 20 = .ok (.aload_n 0, 1) := by decide +kernel
theorem d_X7_log_21 : decode cX7_log 21 = .ok (.getfield 62, 3) := by decide +kernel
theorem fk_RX7_62 : FK RX7 62 7 6 := ⟨RX7, TX7, 8, rfl, by decide, ws_X7, KW.at (i := 329) (by decide +kernel) rfl⟩
theorem d_X7_log_24 : decode cX7_log 24 = .ok (.iload_n 1, 1) := by decide +kernel
theorem d_X7_log_25 : decode cX7_log 25 = .ok (.invokevirtual 331, 3) := by decide +kernel
abbrev Y_X1_heldByLog : YT := (cX1_heldByLog, 2, (some .int), yX1_heldByLog, [], 2)
theorem mk_X1_heldByLog : MK Y_X1_heldByLog 1 := ⟨KW.at (i := 43) (by decide +kernel) rfl, KW.at (i := 478) (by decide +kernel) rfl, ⟨by decide +kernel, by decide +kernel⟩, by decide +kernel, by decide +kernel, rfl, by decide⟩
theorem vm_X1_heldByLog : KW (.instanceMethod (yN Y_X1_heldByLog)) ∧ KW (.selects (yN Y_X1_heldByLog).cls (yN Y_X1_heldByLog) (yN Y_X1_heldByLog)) := ⟨KW.at (i := 476) (by decide +kernel) rfl, KW.at (i := 477) (by decide +kernel) rfl⟩
theorem ck_RX7_331 : CKV RX7 331 Y_X1_heldByLog 1 := ⟨KW.at (i := 475) (by decide +kernel) rfl, vm_X1_heldByLog.1, vm_X1_heldByLog.2, mk_X1_heldByLog⟩
theorem sh_20 : SH.getD 20 (9, 0, []) = (0, 1, [24, 29, 34, 0, 0, 0, 1]) := rfl
theorem d_X1_heldByLog_0 : decode cX1_heldByLog 0 = .ok (.aload_n 0, 1) := by decide +kernel
theorem d_X1_heldByLog_1 : decode cX1_heldByLog 1 = .ok (.getfield 19, 3) := by decide +kernel
theorem ws_X1 : ∀ w ∈ u_ws RX1 TX1 7, KW w := KW.all (by decide +kernel)
theorem fk_RX1_19 : FK RX1 19 1 2 := ⟨RX1, TX1, 7, rfl, by decide, ws_X1, KW.at (i := 196) (by decide +kernel) rfl⟩
theorem d_X1_heldByLog_4 : decode cX1_heldByLog 4 = .ok (.iload_n 1, 1) := by decide +kernel
theorem d_X1_heldByLog_5 : decode cX1_heldByLog 5 = .ok (.invokestatic 64, 3) := by decide +kernel
theorem ck_RX1_64 : CKN RX1 64 Y_X7_read 2 := ⟨KW.at (i := 479) (by decide +kernel) rfl, sm_X7_read, mk_X7_read⟩
theorem sh_31 : SH.getD 31 (9, 0, []) = (1, 2, []) := rfl
theorem d_X1_heldByLog_8 : decode cX1_heldByLog 8 = .ok (.ireturn, 1) := by decide +kernel
theorem d_X7_log_28 : decode cX7_log 28 = .ok (.ireturn, 1) := by decide +kernel
abbrev Y_X7_dirty : YT := (cX7_dirty, 1, (some .long), yX7_dirty, [], 1)
theorem d_X7_dirty_0 : decode cX7_dirty 0 = .ok (.aload_n 0, 1) := by decide +kernel
theorem d_X7_dirty_1 : decode cX7_dirty 1 = .ok (.getfield 25, 3) := by decide +kernel
theorem d_X7_dirty_4 : decode cX7_dirty 4 = .ok (.getfield 297, 3) := by decide +kernel
theorem fk_RX7_297 : FK RX7 297 0 5 := ⟨RX0, TX0, 6, rfl, by decide, ws_X0, KW.at (i := 108) (by decide +kernel) rfl⟩
theorem d_X7_dirty_7 : decode cX7_dirty 7 = .ok (.lreturn, 1) := by decide +kernel
abbrev Y_X7_takeNotice : YT := (cX7_takeNotice, 2, (some .int), yX7_takeNotice, [], 3)
theorem d_X7_takeNotice_0 : decode cX7_takeNotice 0 = .ok (.aload_n 0, 1) := by decide +kernel
theorem d_X7_takeNotice_1 : decode cX7_takeNotice 1 = .ok (.getfield 55, 3) := by decide +kernel
theorem fk_RX7_55 : FK RX7 55 7 5 := ⟨RX7, TX7, 8, rfl, by decide, ws_X7, KW.at (i := 328) (by decide +kernel) rfl⟩
theorem d_X7_takeNotice_4 : decode cX7_takeNotice 4 = .ok (.invokevirtual 291, 3) := by decide +kernel
abbrev Y_X6_keyToldFirst : YT := (cX6_keyToldFirst, 4, (some .int), yX6_keyToldFirst, [], 2)
theorem mk_X6_keyToldFirst : MK Y_X6_keyToldFirst 0 := ⟨KW.at (i := 42) (by decide +kernel) rfl, KW.at (i := 444) (by decide +kernel) rfl, ⟨by decide +kernel, by decide +kernel⟩, by decide +kernel, by decide +kernel, rfl, by decide⟩
theorem vm_X6_keyToldFirst : KW (.instanceMethod (yN Y_X6_keyToldFirst)) ∧ KW (.selects (yN Y_X6_keyToldFirst).cls (yN Y_X6_keyToldFirst) (yN Y_X6_keyToldFirst)) := ⟨KW.at (i := 442) (by decide +kernel) rfl, KW.at (i := 443) (by decide +kernel) rfl⟩
theorem ck_RX7_291 : CKV RX7 291 Y_X6_keyToldFirst 0 := ⟨KW.at (i := 441) (by decide +kernel) rfl, vm_X6_keyToldFirst.1, vm_X6_keyToldFirst.2, mk_X6_keyToldFirst⟩
theorem sh_15 : SH.getD 15 (9, 0, []) = (0, 6, [19, 20, 21, 22, 0]) := rfl
theorem d_X6_keyToldFirst_0 : decode cX6_keyToldFirst 0 = .ok (.iconst (-1), 1) := by decide +kernel
theorem d_X6_keyToldFirst_1 : decode cX6_keyToldFirst 1 = .ok (.istore_n 1, 1) := by decide +kernel
theorem d_X6_keyToldFirst_2 : decode cX6_keyToldFirst 2 = .ok (.iconst 0, 1) := by decide +kernel
theorem d_X6_keyToldFirst_3 : decode cX6_keyToldFirst 3 = .ok (.istore_n 2, 1) := by decide +kernel
theorem d_X6_keyToldFirst_4 : decode cX6_keyToldFirst 4 = .ok (.iload_n 2, 1) := by decide +kernel
theorem d_X6_keyToldFirst_5 : decode cX6_keyToldFirst 5 = .ok (.bipush 80, 2) := by decide +kernel
theorem d_X6_keyToldFirst_7 : decode cX6_keyToldFirst 7 = .ok (.if_icmp .ge 41, 3) := by decide +kernel
theorem d_X6_keyToldFirst_48 : decode cX6_keyToldFirst 48 = .ok (.iload_n 1, 1) := by decide +kernel
theorem d_X6_keyToldFirst_49 : decode cX6_keyToldFirst 49 = .ok (.ireturn, 1) := by decide +kernel
theorem d_X6_keyToldFirst_10 : decode cX6_keyToldFirst 10 = .ok (.aload_n 0, 1) := by decide +kernel
theorem d_X6_keyToldFirst_11 : decode cX6_keyToldFirst 11 = .ok (.getfield 21, 3) := by decide +kernel
theorem ws_X6 : ∀ w ∈ u_ws RX6 TX6 5, KW w := KW.all (by decide +kernel)
theorem fk_RX6_21 : FK RX6 21 6 3 := ⟨RX6, TX6, 5, rfl, by decide, ws_X6, KW.at (i := 173) (by decide +kernel) rfl⟩
theorem d_X6_keyToldFirst_14 : decode cX6_keyToldFirst 14 = .ok (.iload_n 2, 1) := by decide +kernel
theorem d_X6_keyToldFirst_15 : decode cX6_keyToldFirst 15 = .ok (.invokestatic 24, 3) := by decide +kernel
theorem ck_RX6_24 : CKN RX6 24 Y_X7_read 2 := ⟨KW.at (i := 445) (by decide +kernel) rfl, sm_X7_read, mk_X7_read⟩
theorem sh_19 : SH.getD 19 (9, 0, []) = (1, 80, []) := rfl
theorem d_X6_keyToldFirst_18 : decode cX6_keyToldFirst 18 = .ok (.istore_n 3, 1) := by decide +kernel
theorem d_X6_keyToldFirst_19 : decode cX6_keyToldFirst 19 = .ok (.iload_n 3, 1) := by decide +kernel
theorem d_X6_keyToldFirst_20 : decode cX6_keyToldFirst 20 = .ok (.ifCond .eq 22, 3) := by decide +kernel
theorem d_X6_keyToldFirst_42 : decode cX6_keyToldFirst 42 = .ok (.iinc 2 1, 3) := by decide +kernel
theorem d_X6_keyToldFirst_45 : decode cX6_keyToldFirst 45 = .ok (.goto (-41), 3) := by decide +kernel
theorem d_X6_keyToldFirst_23 : decode cX6_keyToldFirst 23 = .ok (.iload_n 1, 1) := by decide +kernel
theorem d_X6_keyToldFirst_24 : decode cX6_keyToldFirst 24 = .ok (.iconst (-1), 1) := by decide +kernel
theorem d_X6_keyToldFirst_25 : decode cX6_keyToldFirst 25 = .ok (.if_icmp .eq 15, 3) := by decide +kernel
theorem d_X6_keyToldFirst_40 : decode cX6_keyToldFirst 40 = .ok (.iload_n 2, 1) := by decide +kernel
theorem d_X6_keyToldFirst_41 : decode cX6_keyToldFirst 41 = .ok (.istore_n 1, 1) := by decide +kernel
theorem d_X6_keyToldFirst_28 : decode cX6_keyToldFirst 28 = .ok (.iload_n 3, 1) := by decide +kernel
theorem d_X6_keyToldFirst_29 : decode cX6_keyToldFirst 29 = .ok (.aload_n 0, 1) := by decide +kernel
theorem d_X6_keyToldFirst_30 : decode cX6_keyToldFirst 30 = .ok (.getfield 21, 3) := by decide +kernel
theorem d_X6_keyToldFirst_33 : decode cX6_keyToldFirst 33 = .ok (.iload_n 1, 1) := by decide +kernel
theorem d_X6_keyToldFirst_34 : decode cX6_keyToldFirst 34 = .ok (.invokestatic 24, 3) := by decide +kernel
theorem d_X6_keyToldFirst_37 : decode cX6_keyToldFirst 37 = .ok (.if_icmp .ge 5, 3) := by decide +kernel
theorem d_X7_takeNotice_7 : decode cX7_takeNotice 7 = .ok (.istore_n 1, 1) := by decide +kernel
theorem d_X7_takeNotice_8 : decode cX7_takeNotice 8 = .ok (.iload_n 1, 1) := by decide +kernel
theorem d_X7_takeNotice_9 : decode cX7_takeNotice 9 = .ok (.iconst (-1), 1) := by decide +kernel
theorem d_X7_takeNotice_10 : decode cX7_takeNotice 10 = .ok (.if_icmp .ne 7, 3) := by decide +kernel
theorem d_X7_takeNotice_17 : decode cX7_takeNotice 17 = .ok (.bipush 10, 2) := by decide +kernel
theorem d_X7_takeNotice_19 : decode cX7_takeNotice 19 = .ok (.iload_n 1, 1) := by decide +kernel
theorem d_X7_takeNotice_20 : decode cX7_takeNotice 20 = .ok (.imul, 1) := by decide +kernel
theorem d_X7_takeNotice_21 : decode cX7_takeNotice 21 = .ok (.aload_n 0, 1) := by decide +kernel
theorem d_X7_takeNotice_22 : decode cX7_takeNotice 22 = .ok (.getfield 55, 3) := by decide +kernel
theorem d_X7_takeNotice_25 : decode cX7_takeNotice 25 = .ok (.iload_n 1, 1) := by decide +kernel
theorem d_X7_takeNotice_26 : decode cX7_takeNotice 26 = .ok (.invokevirtual 294, 3) := by decide +kernel
abbrev Y_X6_takeKindTold : YT := (cX6_takeKindTold, 2, (some .int), yX6_takeKindTold, [], 2)
theorem mk_X6_takeKindTold : MK Y_X6_takeKindTold 1 := ⟨KW.at (i := 42) (by decide +kernel) rfl, KW.at (i := 449) (by decide +kernel) rfl, ⟨by decide +kernel, by decide +kernel⟩, by decide +kernel, by decide +kernel, rfl, by decide⟩
theorem vm_X6_takeKindTold : KW (.instanceMethod (yN Y_X6_takeKindTold)) ∧ KW (.selects (yN Y_X6_takeKindTold).cls (yN Y_X6_takeKindTold) (yN Y_X6_takeKindTold)) := ⟨KW.at (i := 447) (by decide +kernel) rfl, KW.at (i := 448) (by decide +kernel) rfl⟩
theorem ck_RX7_294 : CKV RX7 294 Y_X6_takeKindTold 1 := ⟨KW.at (i := 446) (by decide +kernel) rfl, vm_X6_takeKindTold.1, vm_X6_takeKindTold.2, mk_X6_takeKindTold⟩
theorem d_X6_takeKindTold_0 : decode cX6_takeKindTold 0 = .ok (.aload_n 0, 1) := by decide +kernel
theorem d_X6_takeKindTold_1 : decode cX6_takeKindTold 1 = .ok (.getfield 21, 3) := by decide +kernel
theorem d_X6_takeKindTold_4 : decode cX6_takeKindTold 4 = .ok (.iload_n 1, 1) := by decide +kernel
theorem d_X6_takeKindTold_5 : decode cX6_takeKindTold 5 = .ok (.iconst 0, 1) := by decide +kernel
theorem d_X6_takeKindTold_6 : decode cX6_takeKindTold 6 = .ok (.invokestatic 28, 3) := by decide +kernel
theorem ck_RX6_28 : CKN RX6 28 Y_X7_store 3 := ⟨KW.at (i := 450) (by decide +kernel) rfl, sm_X7_store, mk_X7_store⟩
theorem d_X6_takeKindTold_9 : decode cX6_takeKindTold 9 = .ok (.aload_n 0, 1) := by decide +kernel
theorem d_X6_takeKindTold_10 : decode cX6_takeKindTold 10 = .ok (.getfield 18, 3) := by decide +kernel
theorem fk_RX6_18 : FK RX6 18 6 2 := ⟨RX6, TX6, 5, rfl, by decide, ws_X6, KW.at (i := 172) (by decide +kernel) rfl⟩
theorem d_X6_takeKindTold_13 : decode cX6_takeKindTold 13 = .ok (.iload_n 1, 1) := by decide +kernel
theorem d_X6_takeKindTold_14 : decode cX6_takeKindTold 14 = .ok (.invokestatic 24, 3) := by decide +kernel
theorem sh_18 : SH.getD 18 (9, 0, []) = (1, 80, []) := rfl
theorem d_X6_takeKindTold_17 : decode cX6_takeKindTold 17 = .ok (.ireturn, 1) := by decide +kernel
theorem d_X7_takeNotice_29 : decode cX7_takeNotice 29 = .ok (.iadd, 1) := by decide +kernel
theorem d_X7_takeNotice_30 : decode cX7_takeNotice 30 = .ok (.ireturn, 1) := by decide +kernel
theorem d_X7_takeNotice_13 : decode cX7_takeNotice 13 = .ok (.iconst (-1), 1) := by decide +kernel
theorem d_X7_takeNotice_14 : decode cX7_takeNotice 14 = .ok (.goto 16, 3) := by decide +kernel
abbrev Y_X7_crash : YT := (cX7_crash, 1, (some .int), yX7_crash, [], 5)
theorem d_X7_crash_0 : decode cX7_crash 0 = .ok (.aload_n 0, 1) := by decide +kernel
theorem d_X7_crash_1 : decode cX7_crash 1 = .ok (.getfield 62, 3) := by decide +kernel
theorem d_X7_crash_4 : decode cX7_crash 4 = .ok (.invokevirtual 334, 3) := by decide +kernel
abbrev Y_X1_breakOff : YT := (cX1_breakOff, 1, none, yX1_breakOff, [], 3)
theorem mk_X1_breakOff : MK Y_X1_breakOff 0 := ⟨KW.at (i := 43) (by decide +kernel) rfl, KW.at (i := 487) (by decide +kernel) rfl, ⟨by decide +kernel, by decide +kernel⟩, by decide +kernel, by decide +kernel, rfl, by decide⟩
theorem vm_X1_breakOff : KW (.instanceMethod (yN Y_X1_breakOff)) ∧ KW (.selects (yN Y_X1_breakOff).cls (yN Y_X1_breakOff) (yN Y_X1_breakOff)) := ⟨KW.at (i := 485) (by decide +kernel) rfl, KW.at (i := 486) (by decide +kernel) rfl⟩
theorem ck_RX7_334 : CKV RX7 334 Y_X1_breakOff 0 := ⟨KW.at (i := 484) (by decide +kernel) rfl, vm_X1_breakOff.1, vm_X1_breakOff.2, mk_X1_breakOff⟩
theorem d_X1_breakOff_0 : decode cX1_breakOff 0 = .ok (.aload_n 0, 1) := by decide +kernel
theorem d_X1_breakOff_1 : decode cX1_breakOff 1 = .ok (.getfield 34, 3) := by decide +kernel
theorem fk_RX1_34 : FK RX1 34 1 6 := ⟨RX1, TX1, 7, rfl, by decide, ws_X1, KW.at (i := 201) (by decide +kernel) rfl⟩
theorem d_X1_breakOff_4 : decode cX1_breakOff 4 = .ok (.ifCond .eq 14, 3) := by decide +kernel
theorem d_X1_breakOff_18 : decode cX1_breakOff 18 = .ok (.aload_n 0, 1) := by decide +kernel
theorem d_X1_breakOff_19 : decode cX1_breakOff 19 = .ok (.iconst 0, 1) := by decide +kernel
theorem d_X1_breakOff_20 : decode cX1_breakOff 20 = .ok (.putfield 34, 3) := by decide +kernel
theorem pk_RX1_34 : PK RX1 34 1 6 .boolean := ⟨RX1, TX1, 7, tyX1, rfl, by decide, ws_X1, KW.at (i := 201) (by decide +kernel) rfl, tyX1_ok, nmX1, rfl, rfl⟩
theorem d_X1_breakOff_23 : decode cX1_breakOff 23 = .ok (.return_, 1) := by decide +kernel
theorem d_X1_breakOff_7 : decode cX1_breakOff 7 = .ok (.aload_n 0, 1) := by decide +kernel
theorem d_X1_breakOff_8 : decode cX1_breakOff 8 = .ok (.invokevirtual 51, 3) := by decide +kernel
abbrev Y_X1_isSealed : YT := (cX1_isSealed, 1, (some .boolean), yX1_isSealed, [], 1)
theorem mk_X1_isSealed : MK Y_X1_isSealed 0 := ⟨KW.at (i := 43) (by decide +kernel) rfl, KW.at (i := 491) (by decide +kernel) rfl, ⟨by decide +kernel, by decide +kernel⟩, by decide +kernel, by decide +kernel, rfl, by decide⟩
theorem vm_X1_isSealed : KW (.instanceMethod (yN Y_X1_isSealed)) ∧ KW (.selects (yN Y_X1_isSealed).cls (yN Y_X1_isSealed) (yN Y_X1_isSealed)) := ⟨KW.at (i := 490) (by decide +kernel) rfl, KW.at (i := 9) (by decide +kernel) rfl⟩
theorem ck_RX1_51 : CKV RX1 51 Y_X1_isSealed 0 := ⟨KW.at (i := 488) (by decide +kernel) rfl, vm_X1_isSealed.1, vm_X1_isSealed.2, mk_X1_isSealed⟩
theorem d_X1_isSealed_0 : decode cX1_isSealed 0 = .ok (.aload_n 0, 1) := by decide +kernel
theorem d_X1_isSealed_1 : decode cX1_isSealed 1 = .ok (.getfield 31, 3) := by decide +kernel
theorem fk_RX1_31 : FK RX1 31 1 4 := ⟨RX1, TX1, 7, rfl, by decide, ws_X1, KW.at (i := 198) (by decide +kernel) rfl⟩
theorem d_X1_isSealed_4 : decode cX1_isSealed 4 = .ok (.aload_n 0, 1) := by decide +kernel
theorem d_X1_isSealed_5 : decode cX1_isSealed 5 = .ok (.getfield 27, 3) := by decide +kernel
theorem fk_RX1_27 : FK RX1 27 1 3 := ⟨RX1, TX1, 7, rfl, by decide, ws_X1, KW.at (i := 197) (by decide +kernel) rfl⟩
theorem d_X1_isSealed_8 : decode cX1_isSealed 8 = .ok (.iconst 2, 1) := by decide +kernel
theorem d_X1_isSealed_9 : decode cX1_isSealed 9 = .ok (.iadd, 1) := by decide +kernel
theorem d_X1_isSealed_10 : decode cX1_isSealed 10 = .ok (.if_icmp .lt 7, 3) := by decide +kernel
theorem d_X1_isSealed_17 : decode cX1_isSealed 17 = .ok (.iconst 0, 1) := by decide +kernel
theorem d_X1_isSealed_18 : decode cX1_isSealed 18 = .ok (.ireturn, 1) := by decide +kernel
theorem d_X1_isSealed_13 : decode cX1_isSealed 13 = .ok (.iconst 1, 1) := by decide +kernel
theorem d_X1_isSealed_14 : decode cX1_isSealed 14 = .ok (.goto 4, 3) := by decide +kernel
theorem d_X1_breakOff_11 : decode cX1_breakOff 11 = .ok (.ifCond .eq 7, 3) := by decide +kernel
theorem d_X1_breakOff_14 : decode cX1_breakOff 14 = .ok (.aload_n 0, 1) := by decide +kernel
theorem d_X1_breakOff_15 : decode cX1_breakOff 15 = .ok (.invokevirtual 61, 3) := by decide +kernel
abbrev Y_X1_endWhole : YT := (cX1_endWhole, 1, none, yX1_endWhole, [], 2)
theorem mk_X1_endWhole : MK Y_X1_endWhole 0 := ⟨KW.at (i := 43) (by decide +kernel) rfl, KW.at (i := 495) (by decide +kernel) rfl, ⟨by decide +kernel, by decide +kernel⟩, by decide +kernel, by decide +kernel, rfl, by decide⟩
theorem vm_X1_endWhole : KW (.instanceMethod (yN Y_X1_endWhole)) ∧ KW (.selects (yN Y_X1_endWhole).cls (yN Y_X1_endWhole) (yN Y_X1_endWhole)) := ⟨KW.at (i := 494) (by decide +kernel) rfl, KW.at (i := 10) (by decide +kernel) rfl⟩
theorem ck_RX1_61 : CKV RX1 61 Y_X1_endWhole 0 := ⟨KW.at (i := 492) (by decide +kernel) rfl, vm_X1_endWhole.1, vm_X1_endWhole.2, mk_X1_endWhole⟩
theorem d_X1_endWhole_0 : decode cX1_endWhole 0 = .ok (.aload_n 0, 1) := by decide +kernel
theorem d_X1_endWhole_1 : decode cX1_endWhole 1 = .ok (.getfield 10, 3) := by decide +kernel
theorem fk_RX1_10 : FK RX1 10 1 0 := ⟨RX1, TX1, 7, rfl, by decide, ws_X1, KW.at (i := 194) (by decide +kernel) rfl⟩
theorem d_X1_endWhole_4 : decode cX1_endWhole 4 = .ok (.aload_n 0, 1) := by decide +kernel
theorem d_X1_endWhole_5 : decode cX1_endWhole 5 = .ok (.getfield 16, 3) := by decide +kernel
theorem fk_RX1_16 : FK RX1 16 1 1 := ⟨RX1, TX1, 7, rfl, by decide, ws_X1, KW.at (i := 195) (by decide +kernel) rfl⟩
theorem d_X1_endWhole_8 : decode cX1_endWhole 8 = .ok (.invokevirtual 23, 3) := by decide +kernel
abbrev Y_X2_copyFrom : YT := (cX2_copyFrom, 2, none, yX2_copyFrom, [], 1)
theorem mk_X2_copyFrom : MK Y_X2_copyFrom 1 := ⟨KW.at (i := 37) (by decide +kernel) rfl, KW.at (i := 321) (by decide +kernel) rfl, ⟨by decide +kernel, by decide +kernel⟩, by decide +kernel, by decide +kernel, rfl, by decide⟩
theorem vm_X2_copyFrom : KW (.instanceMethod (yN Y_X2_copyFrom)) ∧ KW (.selects (yN Y_X2_copyFrom).cls (yN Y_X2_copyFrom) (yN Y_X2_copyFrom)) := ⟨KW.at (i := 319) (by decide +kernel) rfl, KW.at (i := 320) (by decide +kernel) rfl⟩
theorem ck_RX1_23 : CKV RX1 23 Y_X2_copyFrom 1 := ⟨KW.at (i := 318) (by decide +kernel) rfl, vm_X2_copyFrom.1, vm_X2_copyFrom.2, mk_X2_copyFrom⟩
theorem sh_21 : SH.getD 21 (9, 0, []) = (0, 2, [25, 26, 27, 28, 0, 0]) := rfl
theorem d_X2_copyFrom_0 : decode cX2_copyFrom 0 = .ok (.aload_n 1, 1) := by decide +kernel
theorem d_X2_copyFrom_1 : decode cX2_copyFrom 1 = .ok (.getfield 11, 3) := by decide +kernel
theorem sh_26 : SH.getD 26 (9, 0, []) = (0, 2, [30, 31, 32, 33, 0, 0]) := rfl
theorem d_X2_copyFrom_4 : decode cX2_copyFrom 4 = .ok (.iconst 0, 1) := by decide +kernel
theorem d_X2_copyFrom_5 : decode cX2_copyFrom 5 = .ok (.aload_n 0, 1) := by decide +kernel
theorem d_X2_copyFrom_6 : decode cX2_copyFrom 6 = .ok (.getfield 11, 3) := by decide +kernel
theorem d_X2_copyFrom_9 : decode cX2_copyFrom 9 = .ok (.iconst 0, 1) := by decide +kernel
theorem d_X2_copyFrom_10 : decode cX2_copyFrom 10 = .ok (.sipush 1024, 3) := by decide +kernel
theorem d_X2_copyFrom_13 : decode cX2_copyFrom 13 = .ok (.invokestatic 35, 3) := by decide +kernel
theorem ak_RX2_35 : AK RX2 35 := ⟨KW.at (i := 322) (by decide +kernel) rfl, KW.at (i := 233) (by decide +kernel) rfl, KW.at (i := 232) (by decide +kernel) rfl, KW.at (i := 44) (by decide +kernel) rfl⟩
theorem sh_27 : SH.getD 27 (9, 0, []) = (1, 1024, []) := rfl
theorem sh_22 : SH.getD 22 (9, 0, []) = (1, 1024, []) := rfl
theorem d_X2_copyFrom_16 : decode cX2_copyFrom 16 = .ok (.aload_n 1, 1) := by decide +kernel
theorem d_X2_copyFrom_17 : decode cX2_copyFrom 17 = .ok (.getfield 15, 3) := by decide +kernel
theorem d_X2_copyFrom_20 : decode cX2_copyFrom 20 = .ok (.iconst 0, 1) := by decide +kernel
theorem d_X2_copyFrom_21 : decode cX2_copyFrom 21 = .ok (.aload_n 0, 1) := by decide +kernel
theorem d_X2_copyFrom_22 : decode cX2_copyFrom 22 = .ok (.getfield 15, 3) := by decide +kernel
theorem d_X2_copyFrom_25 : decode cX2_copyFrom 25 = .ok (.iconst 0, 1) := by decide +kernel
theorem d_X2_copyFrom_26 : decode cX2_copyFrom 26 = .ok (.sipush 1024, 3) := by decide +kernel
theorem d_X2_copyFrom_29 : decode cX2_copyFrom 29 = .ok (.invokestatic 35, 3) := by decide +kernel
theorem sh_28 : SH.getD 28 (9, 0, []) = (1, 1024, []) := rfl
theorem sh_23 : SH.getD 23 (9, 0, []) = (1, 1024, []) := rfl
theorem d_X2_copyFrom_32 : decode cX2_copyFrom 32 = .ok (.aload_n 1, 1) := by decide +kernel
theorem d_X2_copyFrom_33 : decode cX2_copyFrom 33 = .ok (.getfield 18, 3) := by decide +kernel
theorem d_X2_copyFrom_36 : decode cX2_copyFrom 36 = .ok (.iconst 0, 1) := by decide +kernel
theorem d_X2_copyFrom_37 : decode cX2_copyFrom 37 = .ok (.aload_n 0, 1) := by decide +kernel
theorem d_X2_copyFrom_38 : decode cX2_copyFrom 38 = .ok (.getfield 18, 3) := by decide +kernel
theorem d_X2_copyFrom_41 : decode cX2_copyFrom 41 = .ok (.iconst 0, 1) := by decide +kernel
theorem d_X2_copyFrom_42 : decode cX2_copyFrom 42 = .ok (.bipush 80, 2) := by decide +kernel
theorem d_X2_copyFrom_44 : decode cX2_copyFrom 44 = .ok (.invokestatic 35, 3) := by decide +kernel
theorem sh_29 : SH.getD 29 (9, 0, []) = (1, 80, []) := rfl
theorem sh_24 : SH.getD 24 (9, 0, []) = (1, 80, []) := rfl
theorem d_X2_copyFrom_47 : decode cX2_copyFrom 47 = .ok (.aload_n 1, 1) := by decide +kernel
theorem d_X2_copyFrom_48 : decode cX2_copyFrom 48 = .ok (.getfield 21, 3) := by decide +kernel
theorem d_X2_copyFrom_51 : decode cX2_copyFrom 51 = .ok (.iconst 0, 1) := by decide +kernel
theorem d_X2_copyFrom_52 : decode cX2_copyFrom 52 = .ok (.aload_n 0, 1) := by decide +kernel
theorem d_X2_copyFrom_53 : decode cX2_copyFrom 53 = .ok (.getfield 21, 3) := by decide +kernel
theorem d_X2_copyFrom_56 : decode cX2_copyFrom 56 = .ok (.iconst 0, 1) := by decide +kernel
theorem d_X2_copyFrom_57 : decode cX2_copyFrom 57 = .ok (.sipush 256, 3) := by decide +kernel
theorem d_X2_copyFrom_60 : decode cX2_copyFrom 60 = .ok (.invokestatic 35, 3) := by decide +kernel
theorem sh_30 : SH.getD 30 (9, 0, []) = (1, 256, []) := rfl
theorem sh_25 : SH.getD 25 (9, 0, []) = (1, 256, []) := rfl
theorem d_X2_copyFrom_63 : decode cX2_copyFrom 63 = .ok (.aload_n 0, 1) := by decide +kernel
theorem d_X2_copyFrom_64 : decode cX2_copyFrom 64 = .ok (.aload_n 1, 1) := by decide +kernel
theorem d_X2_copyFrom_65 : decode cX2_copyFrom 65 = .ok (.getfield 24, 3) := by decide +kernel
theorem d_X2_copyFrom_68 : decode cX2_copyFrom 68 = .ok (.putfield 24, 3) := by decide +kernel
theorem pk_RX2_24 : PK RX2 24 2 4 .int := ⟨RX2, TX2, 6, tyX2, rfl, by decide, ws_X2, KW.at (i := 77) (by decide +kernel) rfl, tyX2_ok, nmX2, rfl, rfl⟩
theorem d_X2_copyFrom_71 : decode cX2_copyFrom 71 = .ok (.aload_n 0, 1) := by decide +kernel
theorem d_X2_copyFrom_72 : decode cX2_copyFrom 72 = .ok (.aload_n 1, 1) := by decide +kernel
theorem d_X2_copyFrom_73 : decode cX2_copyFrom 73 = .ok (.getfield 28, 3) := by decide +kernel
theorem fk_RX2_28 : FK RX2 28 2 5 := ⟨RX2, TX2, 6, rfl, by decide, ws_X2, KW.at (i := 80) (by decide +kernel) rfl⟩
theorem d_X2_copyFrom_76 : decode cX2_copyFrom 76 = .ok (.putfield 28, 3) := by decide +kernel
theorem pk_RX2_28 : PK RX2 28 2 5 .int := ⟨RX2, TX2, 6, tyX2, rfl, by decide, ws_X2, KW.at (i := 80) (by decide +kernel) rfl, tyX2_ok, nmX2, rfl, rfl⟩
theorem d_X2_copyFrom_79 : decode cX2_copyFrom 79 = .ok (.return_, 1) := by decide +kernel
theorem d_X1_endWhole_11 : decode cX1_endWhole 11 = .ok (.aload_n 0, 1) := by decide +kernel
theorem d_X1_endWhole_12 : decode cX1_endWhole 12 = .ok (.dup, 1) := by decide +kernel
theorem d_X1_endWhole_13 : decode cX1_endWhole 13 = .ok (.getfield 48, 3) := by decide +kernel
theorem fk_RX1_48 : FK RX1 48 1 5 := ⟨RX1, TX1, 7, rfl, by decide, ws_X1, KW.at (i := 199) (by decide +kernel) rfl⟩
theorem d_X1_endWhole_16 : decode cX1_endWhole 16 = .ok (.iconst 1, 1) := by decide +kernel
theorem d_X1_endWhole_17 : decode cX1_endWhole 17 = .ok (.iadd, 1) := by decide +kernel
theorem d_X1_endWhole_18 : decode cX1_endWhole 18 = .ok (.putfield 48, 3) := by decide +kernel
theorem pk_RX1_48 : PK RX1 48 1 5 .int := ⟨RX1, TX1, 7, tyX1, rfl, by decide, ws_X1, KW.at (i := 199) (by decide +kernel) rfl, tyX1_ok, nmX1, rfl, rfl⟩
theorem d_X1_endWhole_21 : decode cX1_endWhole 21 = .ok (.aload_n 0, 1) := by decide +kernel
theorem d_X1_endWhole_22 : decode cX1_endWhole 22 = .ok (.iconst 0, 1) := by decide +kernel
theorem d_X1_endWhole_23 : decode cX1_endWhole 23 = .ok (.putfield 34, 3) := by decide +kernel
theorem d_X1_endWhole_26 : decode cX1_endWhole 26 = .ok (.return_, 1) := by decide +kernel
theorem d_X7_crash_7 : decode cX7_crash 7 = .ok (.aload_n 0, 1) := by decide +kernel
theorem d_X7_crash_8 : decode cX7_crash 8 = .ok (.getfield 62, 3) := by decide +kernel
theorem d_X7_crash_11 : decode cX7_crash 11 = .ok (.aload_n 0, 1) := by decide +kernel
theorem d_X7_crash_12 : decode cX7_crash 12 = .ok (.getfield 21, 3) := by decide +kernel
theorem d_X7_crash_15 : decode cX7_crash 15 = .ok (.invokevirtual 337, 3) := by decide +kernel
abbrev Y_X1_restoreWhole : YT := (cX1_restoreWhole, 2, none, yX1_restoreWhole, [], 2)
theorem mk_X1_restoreWhole : MK Y_X1_restoreWhole 1 := ⟨KW.at (i := 43) (by decide +kernel) rfl, KW.at (i := 499) (by decide +kernel) rfl, ⟨by decide +kernel, by decide +kernel⟩, by decide +kernel, by decide +kernel, rfl, by decide⟩
theorem vm_X1_restoreWhole : KW (.instanceMethod (yN Y_X1_restoreWhole)) ∧ KW (.selects (yN Y_X1_restoreWhole).cls (yN Y_X1_restoreWhole) (yN Y_X1_restoreWhole)) := ⟨KW.at (i := 497) (by decide +kernel) rfl, KW.at (i := 498) (by decide +kernel) rfl⟩
theorem ck_RX7_337 : CKV RX7 337 Y_X1_restoreWhole 1 := ⟨KW.at (i := 496) (by decide +kernel) rfl, vm_X1_restoreWhole.1, vm_X1_restoreWhole.2, mk_X1_restoreWhole⟩
theorem d_X1_restoreWhole_0 : decode cX1_restoreWhole 0 = .ok (.aload_n 1, 1) := by decide +kernel
theorem d_X1_restoreWhole_1 : decode cX1_restoreWhole 1 = .ok (.aload_n 0, 1) := by decide +kernel
theorem d_X1_restoreWhole_2 : decode cX1_restoreWhole 2 = .ok (.getfield 10, 3) := by decide +kernel
theorem d_X1_restoreWhole_5 : decode cX1_restoreWhole 5 = .ok (.invokevirtual 23, 3) := by decide +kernel
theorem d_X1_restoreWhole_8 : decode cX1_restoreWhole 8 = .ok (.return_, 1) := by decide +kernel
theorem d_X7_crash_18 : decode cX7_crash 18 = .ok (.aload_n 0, 1) := by decide +kernel
theorem d_X7_crash_19 : decode cX7_crash 19 = .ok (.getfield 25, 3) := by decide +kernel
theorem d_X7_crash_22 : decode cX7_crash 22 = .ok (.invokevirtual 89, 3) := by decide +kernel
abbrev Y_X0_forgetDirty : YT := (cX0_forgetDirty, 1, none, yX0_forgetDirty, [], 1)
theorem mk_X0_forgetDirty : MK Y_X0_forgetDirty 0 := ⟨KW.at (i := 38) (by decide +kernel) rfl, KW.at (i := 313) (by decide +kernel) rfl, ⟨by decide +kernel, by decide +kernel⟩, by decide +kernel, by decide +kernel, rfl, by decide⟩
theorem vm_X0_forgetDirty : KW (.instanceMethod (yN Y_X0_forgetDirty)) ∧ KW (.selects (yN Y_X0_forgetDirty).cls (yN Y_X0_forgetDirty) (yN Y_X0_forgetDirty)) := ⟨KW.at (i := 311) (by decide +kernel) rfl, KW.at (i := 312) (by decide +kernel) rfl⟩
theorem ck_RX7_89 : CKV RX7 89 Y_X0_forgetDirty 0 := ⟨KW.at (i := 310) (by decide +kernel) rfl, vm_X0_forgetDirty.1, vm_X0_forgetDirty.2, mk_X0_forgetDirty⟩
theorem d_X0_forgetDirty_0 : decode cX0_forgetDirty 0 = .ok (.aload_n 0, 1) := by decide +kernel
theorem d_X0_forgetDirty_1 : decode cX0_forgetDirty 1 = .ok (.lconst 0, 1) := by decide +kernel
theorem d_X0_forgetDirty_2 : decode cX0_forgetDirty 2 = .ok (.putfield 62, 3) := by decide +kernel
theorem pk_RX0_62 : PK RX0 62 0 5 .long := ⟨RX0, TX0, 6, tyX0, rfl, by decide, ws_X0, KW.at (i := 107) (by decide +kernel) rfl, tyX0_ok, nmX0, rfl, rfl⟩
theorem d_X0_forgetDirty_5 : decode cX0_forgetDirty 5 = .ok (.return_, 1) := by decide +kernel
theorem d_X7_crash_25 : decode cX7_crash 25 = .ok (.aload_n 0, 1) := by decide +kernel
theorem d_X7_crash_26 : decode cX7_crash 26 = .ok (.getfield 55, 3) := by decide +kernel
theorem d_X7_crash_29 : decode cX7_crash 29 = .ok (.invokevirtual 340, 3) := by decide +kernel
abbrev Y_X6_endAll : YT := (cX6_endAll, 2, none, yX6_endAll, [], 4)
theorem mk_X6_endAll : MK Y_X6_endAll 0 := ⟨KW.at (i := 42) (by decide +kernel) rfl, KW.at (i := 503) (by decide +kernel) rfl, ⟨by decide +kernel, by decide +kernel⟩, by decide +kernel, by decide +kernel, rfl, by decide⟩
theorem vm_X6_endAll : KW (.instanceMethod (yN Y_X6_endAll)) ∧ KW (.selects (yN Y_X6_endAll).cls (yN Y_X6_endAll) (yN Y_X6_endAll)) := ⟨KW.at (i := 501) (by decide +kernel) rfl, KW.at (i := 502) (by decide +kernel) rfl⟩
theorem ck_RX7_340 : CKV RX7 340 Y_X6_endAll 0 := ⟨KW.at (i := 500) (by decide +kernel) rfl, vm_X6_endAll.1, vm_X6_endAll.2, mk_X6_endAll⟩
theorem d_X6_endAll_0 : decode cX6_endAll 0 = .ok (.iconst 0, 1) := by decide +kernel
theorem d_X6_endAll_1 : decode cX6_endAll 1 = .ok (.istore_n 1, 1) := by decide +kernel
theorem d_X6_endAll_2 : decode cX6_endAll 2 = .ok (.iload_n 1, 1) := by decide +kernel
theorem d_X6_endAll_3 : decode cX6_endAll 3 = .ok (.bipush 80, 2) := by decide +kernel
theorem d_X6_endAll_5 : decode cX6_endAll 5 = .ok (.if_icmp .ge 14, 3) := by decide +kernel
theorem d_X6_endAll_19 : decode cX6_endAll 19 = .ok (.return_, 1) := by decide +kernel
theorem d_X6_endAll_8 : decode cX6_endAll 8 = .ok (.aload_n 0, 1) := by decide +kernel
theorem d_X6_endAll_9 : decode cX6_endAll 9 = .ok (.iload_n 1, 1) := by decide +kernel
theorem d_X6_endAll_10 : decode cX6_endAll 10 = .ok (.invokevirtual 36, 3) := by decide +kernel
abbrev Y_X6_end : YT := (cX6_end, 2, none, yX6_end, [], 3)
theorem mk_X6_end : MK Y_X6_end 1 := ⟨KW.at (i := 42) (by decide +kernel) rfl, KW.at (i := 507) (by decide +kernel) rfl, ⟨by decide +kernel, by decide +kernel⟩, by decide +kernel, by decide +kernel, rfl, by decide⟩
theorem vm_X6_end : KW (.instanceMethod (yN Y_X6_end)) ∧ KW (.selects (yN Y_X6_end).cls (yN Y_X6_end) (yN Y_X6_end)) := ⟨KW.at (i := 505) (by decide +kernel) rfl, KW.at (i := 506) (by decide +kernel) rfl⟩
theorem ck_RX6_36 : CKV RX6 36 Y_X6_end 1 := ⟨KW.at (i := 504) (by decide +kernel) rfl, vm_X6_end.1, vm_X6_end.2, mk_X6_end⟩
theorem d_X6_end_0 : decode cX6_end 0 = .ok (.aload_n 0, 1) := by decide +kernel
theorem d_X6_end_1 : decode cX6_end 1 = .ok (.iload_n 1, 1) := by decide +kernel
theorem d_X6_end_2 : decode cX6_end 2 = .ok (.iconst 0, 1) := by decide +kernel
theorem d_X6_end_3 : decode cX6_end 3 = .ok (.iconst 0, 1) := by decide +kernel
theorem d_X6_end_4 : decode cX6_end 4 = .ok (.invokevirtual 32, 3) := by decide +kernel
abbrev Y_X6_start : YT := (cX6_start, 4, none, yX6_start, [], 2)
theorem mk_X6_start : MK Y_X6_start 3 := ⟨KW.at (i := 42) (by decide +kernel) rfl, KW.at (i := 511) (by decide +kernel) rfl, ⟨by decide +kernel, by decide +kernel⟩, by decide +kernel, by decide +kernel, rfl, by decide⟩
theorem vm_X6_start : KW (.instanceMethod (yN Y_X6_start)) ∧ KW (.selects (yN Y_X6_start).cls (yN Y_X6_start) (yN Y_X6_start)) := ⟨KW.at (i := 509) (by decide +kernel) rfl, KW.at (i := 510) (by decide +kernel) rfl⟩
theorem ck_RX6_32 : CKV RX6 32 Y_X6_start 3 := ⟨KW.at (i := 508) (by decide +kernel) rfl, vm_X6_start.1, vm_X6_start.2, mk_X6_start⟩
theorem d_X6_start_0 : decode cX6_start 0 = .ok (.aload_n 0, 1) := by decide +kernel
theorem d_X6_start_1 : decode cX6_start 1 = .ok (.getfield 9, 3) := by decide +kernel
theorem fk_RX6_9 : FK RX6 9 6 0 := ⟨RX6, TX6, 5, rfl, by decide, ws_X6, KW.at (i := 170) (by decide +kernel) rfl⟩
theorem d_X6_start_4 : decode cX6_start 4 = .ok (.iload_n 1, 1) := by decide +kernel
theorem d_X6_start_5 : decode cX6_start 5 = .ok (.iload_n 2, 1) := by decide +kernel
theorem d_X6_start_6 : decode cX6_start 6 = .ok (.invokestatic 28, 3) := by decide +kernel
theorem sh_16 : SH.getD 16 (9, 0, []) = (1, 80, []) := rfl
theorem d_X6_start_9 : decode cX6_start 9 = .ok (.aload_n 0, 1) := by decide +kernel
theorem d_X6_start_10 : decode cX6_start 10 = .ok (.getfield 15, 3) := by decide +kernel
theorem fk_RX6_15 : FK RX6 15 6 1 := ⟨RX6, TX6, 5, rfl, by decide, ws_X6, KW.at (i := 171) (by decide +kernel) rfl⟩
theorem d_X6_start_13 : decode cX6_start 13 = .ok (.iload_n 1, 1) := by decide +kernel
theorem d_X6_start_14 : decode cX6_start 14 = .ok (.iload_n 3, 1) := by decide +kernel
theorem d_X6_start_15 : decode cX6_start 15 = .ok (.ifCond .eq 7, 3) := by decide +kernel
theorem d_X6_start_23 : decode cX6_start 23 = .ok (.invokestatic 28, 3) := by decide +kernel
theorem sh_17 : SH.getD 17 (9, 0, []) = (1, 80, []) := rfl
theorem d_X6_start_26 : decode cX6_start 26 = .ok (.aload_n 0, 1) := by decide +kernel
theorem d_X6_start_27 : decode cX6_start 27 = .ok (.getfield 18, 3) := by decide +kernel
theorem d_X6_start_30 : decode cX6_start 30 = .ok (.iload_n 1, 1) := by decide +kernel
theorem d_X6_start_31 : decode cX6_start 31 = .ok (.iconst 0, 1) := by decide +kernel
theorem d_X6_start_32 : decode cX6_start 32 = .ok (.invokestatic 28, 3) := by decide +kernel
theorem d_X6_start_35 : decode cX6_start 35 = .ok (.aload_n 0, 1) := by decide +kernel
theorem d_X6_start_36 : decode cX6_start 36 = .ok (.getfield 21, 3) := by decide +kernel
theorem d_X6_start_39 : decode cX6_start 39 = .ok (.iload_n 1, 1) := by decide +kernel
theorem d_X6_start_40 : decode cX6_start 40 = .ok (.iconst 0, 1) := by decide +kernel
theorem d_X6_start_41 : decode cX6_start 41 = .ok (.invokestatic 28, 3) := by decide +kernel
theorem d_X6_start_44 : decode cX6_start 44 = .ok (.return_, 1) := by decide +kernel
theorem d_X6_start_22 : decode cX6_start 22 = .ok (.iconst 0, 1) := by decide +kernel
theorem d_X6_start_18 : decode cX6_start 18 = .ok (.iconst 1, 1) := by decide +kernel
theorem d_X6_start_19 : decode cX6_start 19 = .ok (.goto 4, 3) := by decide +kernel
theorem d_X6_end_7 : decode cX6_end 7 = .ok (.return_, 1) := by decide +kernel
theorem d_X6_endAll_13 : decode cX6_endAll 13 = .ok (.iinc 1 1, 3) := by decide +kernel
theorem d_X6_endAll_16 : decode cX6_endAll 16 = .ok (.goto (-14), 3) := by decide +kernel
theorem d_X7_crash_32 : decode cX7_crash 32 = .ok (.aload_n 0, 1) := by decide +kernel
theorem d_X7_crash_33 : decode cX7_crash 33 = .ok (.getfield 62, 3) := by decide +kernel
theorem d_X7_crash_36 : decode cX7_crash 36 = .ok (.getfield 343, 3) := by decide +kernel
theorem fk_RX7_343 : FK RX7 343 1 5 := ⟨RX1, TX1, 7, rfl, by decide, ws_X1, KW.at (i := 200) (by decide +kernel) rfl⟩
theorem d_X7_crash_39 : decode cX7_crash 39 = .ok (.ireturn, 1) := by decide +kernel
