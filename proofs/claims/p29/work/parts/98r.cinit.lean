/-! the constructors, one after another (by program out of the bytecode) -/
def img (D : DD) (a : Nat) : DD := up2 (up2 (up2 D a 4 1) a 5 0) (a + 1) 4 (-12)
theorem img_ne {D : DD} {a x : Nat} (h : a + 1 < x) : img D a x = D x := by
  unfold img
  rw [up2_ne _ _ _ _ (by omega), up2_ne _ _ _ _ (by omega), up2_ne _ _ _ _ (by omega)]
abbrev Y_X7_init : YT := (cX7_init, 3, none, yX7_init, [], 7)
theorem d_X7_init_100 : decode cX7_init 100 = .ok (.aload_n 0, 1) := by decide +kernel
theorem d_X7_init_101 : decode cX7_init 101 = .ok (.getfield 25, 3) := by decide +kernel
theorem d_X7_init_104 : decode cX7_init 104 = .ok (.invokevirtual 66, 3) := by decide +kernel
abbrev Y_X0_wantNothing : YT := (cX0_wantNothing, 1, none, yX0_wantNothing, [], 1)
theorem mk_X0_wantNothing : MK Y_X0_wantNothing 0 := ⟨KW.at (i := 38) (by decide +kernel) rfl, KW.at (i := 221) (by decide +kernel) rfl, ⟨by decide +kernel, by decide +kernel⟩, by decide +kernel, by decide +kernel, rfl, by decide⟩
theorem vm_X0_wantNothing : KW (.instanceMethod (yN Y_X0_wantNothing)) ∧ KW (.selects (yN Y_X0_wantNothing).cls (yN Y_X0_wantNothing) (yN Y_X0_wantNothing)) := ⟨KW.at (i := 219) (by decide +kernel) rfl, KW.at (i := 220) (by decide +kernel) rfl⟩
theorem ck_RX7_66 : CKV RX7 66 Y_X0_wantNothing 0 := ⟨KW.at (i := 218) (by decide +kernel) rfl, vm_X0_wantNothing.1, vm_X0_wantNothing.2, mk_X0_wantNothing⟩
theorem d_X0_wantNothing_0 : decode cX0_wantNothing 0 = .ok (.aload_n 0, 1) := by decide +kernel
theorem d_X0_wantNothing_1 : decode cX0_wantNothing 1 = .ok (.iconst 0, 1) := by decide +kernel
theorem d_X0_wantNothing_2 : decode cX0_wantNothing 2 = .ok (.putfield 27, 3) := by decide +kernel
theorem pk_RX0_27 : PK RX0 27 0 4 .int := ⟨RX0, TX0, 6, tyX0, rfl, by decide, ws_X0, KW.at (i := 106) (by decide +kernel) rfl, tyX0_ok, nmX0, rfl, rfl⟩
theorem d_X0_wantNothing_5 : decode cX0_wantNothing 5 = .ok (.return_, 1) := by decide +kernel
theorem d_X7_init_107 : decode cX7_init 107 = .ok (.aload_n 0, 1) := by decide +kernel
theorem d_X7_init_108 : decode cX7_init 108 = .ok (.getfield 25, 3) := by decide +kernel
theorem d_X7_init_111 : decode cX7_init 111 = .ok (.bipush 6, 2) := by decide +kernel
theorem d_X7_init_113 : decode cX7_init 113 = .ok (.invokevirtual 69, 3) := by decide +kernel
abbrev Y_X0_want : YT := (cX0_want, 2, none, yX0_want, [], 2)
theorem mk_X0_want : MK Y_X0_want 1 := ⟨KW.at (i := 38) (by decide +kernel) rfl, KW.at (i := 225) (by decide +kernel) rfl, ⟨by decide +kernel, by decide +kernel⟩, by decide +kernel, by decide +kernel, rfl, by decide⟩
theorem vm_X0_want : KW (.instanceMethod (yN Y_X0_want)) ∧ KW (.selects (yN Y_X0_want).cls (yN Y_X0_want) (yN Y_X0_want)) := ⟨KW.at (i := 223) (by decide +kernel) rfl, KW.at (i := 224) (by decide +kernel) rfl⟩
theorem ck_RX7_69 : CKV RX7 69 Y_X0_want 1 := ⟨KW.at (i := 222) (by decide +kernel) rfl, vm_X0_want.1, vm_X0_want.2, mk_X0_want⟩
theorem d_X0_want_0 : decode cX0_want 0 = .ok (.aload_n 0, 1) := by decide +kernel
theorem d_X0_want_1 : decode cX0_want 1 = .ok (.getfield 11, 3) := by decide +kernel
theorem fk_RX0_11 : FK RX0 11 0 1 := ⟨RX0, TX0, 6, rfl, by decide, ws_X0, KW.at (i := 103) (by decide +kernel) rfl⟩
theorem d_X0_want_4 : decode cX0_want 4 = .ok (.aload_n 0, 1) := by decide +kernel
theorem d_X0_want_5 : decode cX0_want 5 = .ok (.getfield 27, 3) := by decide +kernel
theorem fk_RX0_27 : FK RX0 27 0 4 := ⟨RX0, TX0, 6, rfl, by decide, ws_X0, KW.at (i := 106) (by decide +kernel) rfl⟩
theorem d_X0_want_8 : decode cX0_want 8 = .ok (.iload_n 1, 1) := by decide +kernel
theorem d_X0_want_9 : decode cX0_want 9 = .ok (.invokestatic 31, 3) := by decide +kernel
theorem ck_RX0_31 : CKN RX0 31 Y_X7_store 3 := ⟨KW.at (i := 226) (by decide +kernel) rfl, sm_X7_store, mk_X7_store⟩
theorem sh_8 : SH.getD 8 (9, 0, []) = (1, 6, []) := rfl
theorem d_X0_want_12 : decode cX0_want 12 = .ok (.aload_n 0, 1) := by decide +kernel
theorem d_X0_want_13 : decode cX0_want 13 = .ok (.dup, 1) := by decide +kernel
theorem d_X0_want_14 : decode cX0_want 14 = .ok (.getfield 27, 3) := by decide +kernel
theorem d_X0_want_17 : decode cX0_want 17 = .ok (.iconst 1, 1) := by decide +kernel
theorem d_X0_want_18 : decode cX0_want 18 = .ok (.iadd, 1) := by decide +kernel
theorem d_X0_want_19 : decode cX0_want 19 = .ok (.putfield 27, 3) := by decide +kernel
theorem d_X0_want_22 : decode cX0_want 22 = .ok (.return_, 1) := by decide +kernel
theorem d_X7_init_116 : decode cX7_init 116 = .ok (.aload_n 0, 1) := by decide +kernel
theorem d_X7_init_117 : decode cX7_init 117 = .ok (.getfield 25, 3) := by decide +kernel
theorem d_X7_init_120 : decode cX7_init 120 = .ok (.invokevirtual 73, 3) := by decide +kernel
abbrev Y_X0_getAllWanted : YT := (cX0_getAllWanted, 4, (some .boolean), yX0_getAllWanted, [], 5)
theorem mk_X0_getAllWanted : MK Y_X0_getAllWanted 0 := ⟨KW.at (i := 38) (by decide +kernel) rfl, KW.at (i := 230) (by decide +kernel) rfl, ⟨by decide +kernel, by decide +kernel⟩, by decide +kernel, by decide +kernel, rfl, by decide⟩
theorem vm_X0_getAllWanted : KW (.instanceMethod (yN Y_X0_getAllWanted)) ∧ KW (.selects (yN Y_X0_getAllWanted).cls (yN Y_X0_getAllWanted) (yN Y_X0_getAllWanted)) := ⟨KW.at (i := 228) (by decide +kernel) rfl, KW.at (i := 229) (by decide +kernel) rfl⟩
theorem ck_RX7_73 : CKV RX7 73 Y_X0_getAllWanted 0 := ⟨KW.at (i := 227) (by decide +kernel) rfl, vm_X0_getAllWanted.1, vm_X0_getAllWanted.2, mk_X0_getAllWanted⟩
theorem d_X0_getAllWanted_0 : decode cX0_getAllWanted 0 = .ok (.aload_n 0, 1) := by decide +kernel
theorem d_X0_getAllWanted_1 : decode cX0_getAllWanted 1 = .ok (.getfield 23, 3) := by decide +kernel
theorem d_X0_getAllWanted_4 : decode cX0_getAllWanted 4 = .ok (.getfield 35, 3) := by decide +kernel
theorem fk_RX0_35 : FK RX0 35 2 4 := ⟨RX2, TX2, 6, rfl, by decide, ws_X2, KW.at (i := 78) (by decide +kernel) rfl⟩
theorem d_X0_getAllWanted_7 : decode cX0_getAllWanted 7 = .ok (.istore_n 1, 1) := by decide +kernel
theorem d_X0_getAllWanted_8 : decode cX0_getAllWanted 8 = .ok (.aload_n 0, 1) := by decide +kernel
theorem d_X0_getAllWanted_9 : decode cX0_getAllWanted 9 = .ok (.getfield 23, 3) := by decide +kernel
theorem d_X0_getAllWanted_12 : decode cX0_getAllWanted 12 = .ok (.getfield 38, 3) := by decide +kernel
theorem d_X0_getAllWanted_15 : decode cX0_getAllWanted 15 = .ok (.iconst 0, 1) := by decide +kernel
theorem d_X0_getAllWanted_16 : decode cX0_getAllWanted 16 = .ok (.aload_n 0, 1) := by decide +kernel
theorem d_X0_getAllWanted_17 : decode cX0_getAllWanted 17 = .ok (.getfield 20, 3) := by decide +kernel
theorem fk_RX0_20 : FK RX0 20 0 3 := ⟨RX0, TX0, 6, rfl, by decide, ws_X0, KW.at (i := 105) (by decide +kernel) rfl⟩
theorem d_X0_getAllWanted_20 : decode cX0_getAllWanted 20 = .ok (.iconst 0, 1) := by decide +kernel
theorem d_X0_getAllWanted_21 : decode cX0_getAllWanted 21 = .ok (.aload_n 0, 1) := by decide +kernel
theorem d_X0_getAllWanted_22 : decode cX0_getAllWanted 22 = .ok (.getfield 20, 3) := by decide +kernel
theorem d_X0_getAllWanted_25 : decode cX0_getAllWanted 25 = .ok (.arraylength, 1) := by decide +kernel
theorem sh_10 : SH.getD 10 (9, 0, []) = (1, 1024, []) := rfl
theorem d_X0_getAllWanted_26 : decode cX0_getAllWanted 26 = .ok (.invokestatic 41, 3) := by decide +kernel
theorem ak_RX0_41 : AK RX0 41 := ⟨KW.at (i := 231) (by decide +kernel) rfl, KW.at (i := 233) (by decide +kernel) rfl, KW.at (i := 232) (by decide +kernel) rfl, KW.at (i := 44) (by decide +kernel) rfl⟩
theorem d_X0_getAllWanted_29 : decode cX0_getAllWanted 29 = .ok (.iconst 0, 1) := by decide +kernel
theorem d_X0_getAllWanted_30 : decode cX0_getAllWanted 30 = .ok (.istore_n 2, 1) := by decide +kernel
theorem d_X0_getAllWanted_31 : decode cX0_getAllWanted 31 = .ok (.iload_n 2, 1) := by decide +kernel
theorem d_X0_getAllWanted_32 : decode cX0_getAllWanted 32 = .ok (.aload_n 0, 1) := by decide +kernel
theorem d_X0_getAllWanted_33 : decode cX0_getAllWanted 33 = .ok (.getfield 27, 3) := by decide +kernel
theorem d_X0_getAllWanted_36 : decode cX0_getAllWanted 36 = .ok (.if_icmp .ge 66, 3) := by decide +kernel
theorem d_X0_getAllWanted_39 : decode cX0_getAllWanted 39 = .ok (.aload_n 0, 1) := by decide +kernel
theorem d_X0_getAllWanted_40 : decode cX0_getAllWanted 40 = .ok (.aload_n 0, 1) := by decide +kernel
theorem d_X0_getAllWanted_41 : decode cX0_getAllWanted 41 = .ok (.getfield 11, 3) := by decide +kernel
theorem d_X0_getAllWanted_44 : decode cX0_getAllWanted 44 = .ok (.iload_n 2, 1) := by decide +kernel
theorem d_X0_getAllWanted_45 : decode cX0_getAllWanted 45 = .ok (.invokestatic 47, 3) := by decide +kernel
theorem d_X0_getAllWanted_48 : decode cX0_getAllWanted 48 = .ok (.invokevirtual 51, 3) := by decide +kernel
abbrev Y_X0_getCell : YT := (cX0_getCell, 4, (some .int), yX0_getCell, [], 4)
theorem mk_X0_getCell : MK Y_X0_getCell 1 := ⟨KW.at (i := 38) (by decide +kernel) rfl, KW.at (i := 240) (by decide +kernel) rfl, ⟨by decide +kernel, by decide +kernel⟩, by decide +kernel, by decide +kernel, rfl, by decide⟩
theorem vm_X0_getCell : KW (.instanceMethod (yN Y_X0_getCell)) ∧ KW (.selects (yN Y_X0_getCell).cls (yN Y_X0_getCell) (yN Y_X0_getCell)) := ⟨KW.at (i := 239) (by decide +kernel) rfl, KW.at (i := 0) (by decide +kernel) rfl⟩
theorem ck_RX0_51 : CKV RX0 51 Y_X0_getCell 1 := ⟨KW.at (i := 237) (by decide +kernel) rfl, vm_X0_getCell.1, vm_X0_getCell.2, mk_X0_getCell⟩
theorem d_X0_getCell_0 : decode cX0_getCell 0 = .ok (.aload_n 0, 1) := by decide +kernel
theorem d_X0_getCell_1 : decode cX0_getCell 1 = .ok (.iload_n 1, 1) := by decide +kernel
theorem d_X0_getCell_2 : decode cX0_getCell 2 = .ok (.invokevirtual 79, 3) := by decide +kernel
abbrev Y_X0_firstFreeFor : YT := (cX0_firstFreeFor, 5, (some .int), yX0_firstFreeFor, [], 2)
theorem mk_X0_firstFreeFor : MK Y_X0_firstFreeFor 1 := ⟨KW.at (i := 38) (by decide +kernel) rfl, KW.at (i := 244) (by decide +kernel) rfl, ⟨by decide +kernel, by decide +kernel⟩, by decide +kernel, by decide +kernel, rfl, by decide⟩
theorem vm_X0_firstFreeFor : KW (.instanceMethod (yN Y_X0_firstFreeFor)) ∧ KW (.selects (yN Y_X0_firstFreeFor).cls (yN Y_X0_firstFreeFor) (yN Y_X0_firstFreeFor)) := ⟨KW.at (i := 243) (by decide +kernel) rfl, KW.at (i := 1) (by decide +kernel) rfl⟩
theorem ck_RX0_79 : CKV RX0 79 Y_X0_firstFreeFor 1 := ⟨KW.at (i := 241) (by decide +kernel) rfl, vm_X0_firstFreeFor.1, vm_X0_firstFreeFor.2, mk_X0_firstFreeFor⟩
theorem d_X0_firstFreeFor_0 : decode cX0_firstFreeFor 0 = .ok (.aload_n 0, 1) := by decide +kernel
theorem d_X0_firstFreeFor_1 : decode cX0_firstFreeFor 1 = .ok (.getfield 23, 3) := by decide +kernel
theorem d_X0_firstFreeFor_4 : decode cX0_firstFreeFor 4 = .ok (.invokevirtual 66, 3) := by decide +kernel
theorem d_X0_firstFreeFor_7 : decode cX0_firstFreeFor 7 = .ok (.istore_n 2, 1) := by decide +kernel
theorem d_X0_firstFreeFor_8 : decode cX0_firstFreeFor 8 = .ok (.iconst 4, 1) := by decide +kernel
theorem d_X0_firstFreeFor_9 : decode cX0_firstFreeFor 9 = .ok (.istore_n 3, 1) := by decide +kernel
theorem d_X0_firstFreeFor_10 : decode cX0_firstFreeFor 10 = .ok (.iload_n 3, 1) := by decide +kernel
theorem d_X0_firstFreeFor_11 : decode cX0_firstFreeFor 11 = .ok (.iload_n 2, 1) := by decide +kernel
theorem d_X0_firstFreeFor_12 : decode cX0_firstFreeFor 12 = .ok (.if_icmp .ge 40, 3) := by decide +kernel
theorem d_X0_firstFreeFor_52 : decode cX0_firstFreeFor 52 = .ok (.iconst 0, 1) := by decide +kernel
theorem d_X0_firstFreeFor_53 : decode cX0_firstFreeFor 53 = .ok (.ireturn, 1) := by decide +kernel
theorem d_X0_firstFreeFor_15 : decode cX0_firstFreeFor 15 = .ok (.aload_n 0, 1) := by decide +kernel
theorem d_X0_firstFreeFor_16 : decode cX0_firstFreeFor 16 = .ok (.getfield 23, 3) := by decide +kernel
theorem d_X0_firstFreeFor_19 : decode cX0_firstFreeFor 19 = .ok (.getfield 38, 3) := by decide +kernel
theorem d_X0_firstFreeFor_22 : decode cX0_firstFreeFor 22 = .ok (.iload_n 3, 1) := by decide +kernel
theorem d_X0_firstFreeFor_23 : decode cX0_firstFreeFor 23 = .ok (.invokestatic 47, 3) := by decide +kernel
theorem d_X0_firstFreeFor_26 : decode cX0_firstFreeFor 26 = .ok (.istore 4, 2) := by decide +kernel
theorem d_X0_firstFreeFor_28 : decode cX0_firstFreeFor 28 = .ok (.iload 4, 2) := by decide +kernel
theorem d_X0_firstFreeFor_30 : decode cX0_firstFreeFor 30 = .ok (.ineg, 1) := by decide +kernel
theorem d_X0_firstFreeFor_31 : decode cX0_firstFreeFor 31 = .ok (.iload_n 1, 1) := by decide +kernel
theorem d_X0_firstFreeFor_32 : decode cX0_firstFreeFor 32 = .ok (.if_icmp .lt 5, 3) := by decide +kernel
theorem d_X0_firstFreeFor_37 : decode cX0_firstFreeFor 37 = .ok (.iload_n 3, 1) := by decide +kernel
theorem d_X0_firstFreeFor_38 : decode cX0_firstFreeFor 38 = .ok (.iconst 1, 1) := by decide +kernel
theorem d_X0_firstFreeFor_39 : decode cX0_firstFreeFor 39 = .ok (.iload 4, 2) := by decide +kernel
theorem d_X0_firstFreeFor_41 : decode cX0_firstFreeFor 41 = .ok (.invokestatic 76, 3) := by decide +kernel
theorem d_X0_firstFreeFor_44 : decode cX0_firstFreeFor 44 = .ok (.invokestatic 70, 3) := by decide +kernel
theorem d_X0_firstFreeFor_47 : decode cX0_firstFreeFor 47 = .ok (.iadd, 1) := by decide +kernel
theorem d_X0_firstFreeFor_48 : decode cX0_firstFreeFor 48 = .ok (.istore_n 3, 1) := by decide +kernel
theorem d_X0_firstFreeFor_49 : decode cX0_firstFreeFor 49 = .ok (.goto (-39), 3) := by decide +kernel
theorem d_X0_firstFreeFor_35 : decode cX0_firstFreeFor 35 = .ok (.iload_n 3, 1) := by decide +kernel
theorem d_X0_firstFreeFor_36 : decode cX0_firstFreeFor 36 = .ok (.ireturn, 1) := by decide +kernel
theorem d_X0_getCell_5 : decode cX0_getCell 5 = .ok (.istore_n 2, 1) := by decide +kernel
theorem d_X0_getCell_6 : decode cX0_getCell 6 = .ok (.aload_n 0, 1) := by decide +kernel
theorem d_X0_getCell_7 : decode cX0_getCell 7 = .ok (.getfield 23, 3) := by decide +kernel
theorem d_X0_getCell_10 : decode cX0_getCell 10 = .ok (.getfield 35, 3) := by decide +kernel
theorem d_X0_getCell_13 : decode cX0_getCell 13 = .ok (.istore_n 3, 1) := by decide +kernel
theorem d_X0_getCell_14 : decode cX0_getCell 14 = .ok (.iload_n 3, 1) := by decide +kernel
theorem d_X0_getCell_15 : decode cX0_getCell 15 = .ok (.bipush 64, 2) := by decide +kernel
theorem d_X0_getCell_17 : decode cX0_getCell 17 = .ok (.if_icmp .ge 23, 3) := by decide +kernel
theorem d_X0_getCell_20 : decode cX0_getCell 20 = .ok (.iload_n 2, 1) := by decide +kernel
theorem d_X0_getCell_21 : decode cX0_getCell 21 = .ok (.ifCond .ne 19, 3) := by decide +kernel
theorem d_X0_getCell_24 : decode cX0_getCell 24 = .ok (.aload_n 0, 1) := by decide +kernel
theorem d_X0_getCell_25 : decode cX0_getCell 25 = .ok (.invokevirtual 82, 3) := by decide +kernel
abbrev Y_X0_addSector : YT := (cX0_addSector, 4, none, yX0_addSector, [], 3)
theorem mk_X0_addSector : MK Y_X0_addSector 0 := ⟨KW.at (i := 38) (by decide +kernel) rfl, KW.at (i := 258) (by decide +kernel) rfl, ⟨by decide +kernel, by decide +kernel⟩, by decide +kernel, by decide +kernel, rfl, by decide⟩
theorem vm_X0_addSector : KW (.instanceMethod (yN Y_X0_addSector)) ∧ KW (.selects (yN Y_X0_addSector).cls (yN Y_X0_addSector) (yN Y_X0_addSector)) := ⟨KW.at (i := 257) (by decide +kernel) rfl, KW.at (i := 2) (by decide +kernel) rfl⟩
theorem ck_RX0_82 : CKV RX0 82 Y_X0_addSector 0 := ⟨KW.at (i := 255) (by decide +kernel) rfl, vm_X0_addSector.1, vm_X0_addSector.2, mk_X0_addSector⟩
theorem d_X0_addSector_0 : decode cX0_addSector 0 = .ok (.aload_n 0, 1) := by decide +kernel
theorem d_X0_addSector_1 : decode cX0_addSector 1 = .ok (.getfield 23, 3) := by decide +kernel
theorem d_X0_addSector_4 : decode cX0_addSector 4 = .ok (.invokevirtual 66, 3) := by decide +kernel
theorem d_X0_addSector_7 : decode cX0_addSector 7 = .ok (.istore_n 1, 1) := by decide +kernel
theorem d_X0_addSector_8 : decode cX0_addSector 8 = .ok (.aload_n 0, 1) := by decide +kernel
theorem d_X0_addSector_9 : decode cX0_addSector 9 = .ok (.iload_n 1, 1) := by decide +kernel
theorem d_X0_addSector_10 : decode cX0_addSector 10 = .ok (.invokevirtual 59, 3) := by decide +kernel
abbrev Y_X0_cellAhead : YT := (cX0_cellAhead, 3, (some .int), yX0_cellAhead, [], 2)
theorem mk_X0_cellAhead : MK Y_X0_cellAhead 1 := ⟨KW.at (i := 38) (by decide +kernel) rfl, KW.at (i := 262) (by decide +kernel) rfl, ⟨by decide +kernel, by decide +kernel⟩, by decide +kernel, by decide +kernel, rfl, by decide⟩
theorem vm_X0_cellAhead : KW (.instanceMethod (yN Y_X0_cellAhead)) ∧ KW (.selects (yN Y_X0_cellAhead).cls (yN Y_X0_cellAhead) (yN Y_X0_cellAhead)) := ⟨KW.at (i := 261) (by decide +kernel) rfl, KW.at (i := 3) (by decide +kernel) rfl⟩
theorem ck_RX0_59 : CKV RX0 59 Y_X0_cellAhead 1 := ⟨KW.at (i := 259) (by decide +kernel) rfl, vm_X0_cellAhead.1, vm_X0_cellAhead.2, mk_X0_cellAhead⟩
theorem d_X0_cellAhead_0 : decode cX0_cellAhead 0 = .ok (.iload_n 1, 1) := by decide +kernel
theorem d_X0_cellAhead_1 : decode cX0_cellAhead 1 = .ok (.iconst 1, 1) := by decide +kernel
theorem d_X0_cellAhead_2 : decode cX0_cellAhead 2 = .ok (.isub, 1) := by decide +kernel
theorem d_X0_cellAhead_3 : decode cX0_cellAhead 3 = .ok (.istore_n 2, 1) := by decide +kernel
theorem d_X0_cellAhead_4 : decode cX0_cellAhead 4 = .ok (.iload_n 2, 1) := by decide +kernel
theorem d_X0_cellAhead_5 : decode cX0_cellAhead 5 = .ok (.iconst 4, 1) := by decide +kernel
theorem d_X0_cellAhead_6 : decode cX0_cellAhead 6 = .ok (.if_icmp .lt 25, 3) := by decide +kernel
theorem d_X0_cellAhead_31 : decode cX0_cellAhead 31 = .ok (.iconst 0, 1) := by decide +kernel
theorem d_X0_cellAhead_32 : decode cX0_cellAhead 32 = .ok (.ireturn, 1) := by decide +kernel
theorem d_X0_cellAhead_9 : decode cX0_cellAhead 9 = .ok (.aload_n 0, 1) := by decide +kernel
theorem d_X0_cellAhead_10 : decode cX0_cellAhead 10 = .ok (.getfield 23, 3) := by decide +kernel
theorem d_X0_cellAhead_13 : decode cX0_cellAhead 13 = .ok (.getfield 38, 3) := by decide +kernel
theorem d_X0_cellAhead_16 : decode cX0_cellAhead 16 = .ok (.iload_n 2, 1) := by decide +kernel
theorem d_X0_cellAhead_17 : decode cX0_cellAhead 17 = .ok (.invokestatic 47, 3) := by decide +kernel
theorem d_X0_cellAhead_20 : decode cX0_cellAhead 20 = .ok (.ifCond .eq 5, 3) := by decide +kernel
theorem d_X0_cellAhead_25 : decode cX0_cellAhead 25 = .ok (.iinc 2 (-1), 3) := by decide +kernel
theorem d_X0_cellAhead_28 : decode cX0_cellAhead 28 = .ok (.goto (-24), 3) := by decide +kernel
theorem d_X0_cellAhead_23 : decode cX0_cellAhead 23 = .ok (.iload_n 2, 1) := by decide +kernel
theorem d_X0_cellAhead_24 : decode cX0_cellAhead 24 = .ok (.ireturn, 1) := by decide +kernel
theorem d_X0_addSector_13 : decode cX0_addSector 13 = .ok (.istore_n 2, 1) := by decide +kernel
theorem d_X0_addSector_14 : decode cX0_addSector 14 = .ok (.aload_n 0, 1) := by decide +kernel
theorem d_X0_addSector_15 : decode cX0_addSector 15 = .ok (.getfield 23, 3) := by decide +kernel
theorem d_X0_addSector_18 : decode cX0_addSector 18 = .ok (.getfield 38, 3) := by decide +kernel
theorem d_X0_addSector_21 : decode cX0_addSector 21 = .ok (.iload_n 2, 1) := by decide +kernel
theorem d_X0_addSector_22 : decode cX0_addSector 22 = .ok (.invokestatic 47, 3) := by decide +kernel
theorem d_X0_addSector_25 : decode cX0_addSector 25 = .ok (.ifCond .ge 7, 3) := by decide +kernel
theorem d_X0_addSector_33 : decode cX0_addSector 33 = .ok (.istore_n 3, 1) := by decide +kernel
theorem d_X0_addSector_34 : decode cX0_addSector 34 = .ok (.aload_n 0, 1) := by decide +kernel
theorem d_X0_addSector_35 : decode cX0_addSector 35 = .ok (.getfield 23, 3) := by decide +kernel
theorem d_X0_addSector_38 : decode cX0_addSector 38 = .ok (.getfield 38, 3) := by decide +kernel
theorem d_X0_addSector_41 : decode cX0_addSector 41 = .ok (.iload_n 3, 1) := by decide +kernel
theorem d_X0_addSector_42 : decode cX0_addSector 42 = .ok (.iload_n 3, 1) := by decide +kernel
theorem d_X0_addSector_43 : decode cX0_addSector 43 = .ok (.iload_n 1, 1) := by decide +kernel
theorem d_X0_addSector_44 : decode cX0_addSector 44 = .ok (.isub, 1) := by decide +kernel
theorem d_X0_addSector_45 : decode cX0_addSector 45 = .ok (.bipush 16, 2) := by decide +kernel
theorem d_X0_addSector_47 : decode cX0_addSector 47 = .ok (.isub, 1) := by decide +kernel
theorem d_X0_addSector_48 : decode cX0_addSector 48 = .ok (.invokestatic 31, 3) := by decide +kernel
theorem d_X0_addSector_51 : decode cX0_addSector 51 = .ok (.aload_n 0, 1) := by decide +kernel
theorem d_X0_addSector_52 : decode cX0_addSector 52 = .ok (.getfield 23, 3) := by decide +kernel
theorem d_X0_addSector_55 : decode cX0_addSector 55 = .ok (.dup, 1) := by decide +kernel
theorem d_X0_addSector_56 : decode cX0_addSector 56 = .ok (.getfield 35, 3) := by decide +kernel
theorem d_X0_addSector_59 : decode cX0_addSector 59 = .ok (.iconst 1, 1) := by decide +kernel
theorem d_X0_addSector_60 : decode cX0_addSector 60 = .ok (.iadd, 1) := by decide +kernel
theorem d_X0_addSector_61 : decode cX0_addSector 61 = .ok (.putfield 35, 3) := by decide +kernel
theorem pk_RX0_35 : PK RX0 35 2 4 .int := ⟨RX2, TX2, 6, tyX2, rfl, by decide, ws_X2, KW.at (i := 78) (by decide +kernel) rfl, tyX2_ok, nmX2, rfl, rfl⟩
theorem d_X0_addSector_64 : decode cX0_addSector 64 = .ok (.return_, 1) := by decide +kernel
theorem d_X0_addSector_32 : decode cX0_addSector 32 = .ok (.iload_n 1, 1) := by decide +kernel
theorem d_X0_addSector_28 : decode cX0_addSector 28 = .ok (.iload_n 2, 1) := by decide +kernel
theorem d_X0_addSector_29 : decode cX0_addSector 29 = .ok (.goto 4, 3) := by decide +kernel
theorem d_X0_getCell_28 : decode cX0_getCell 28 = .ok (.aload_n 0, 1) := by decide +kernel
theorem d_X0_getCell_29 : decode cX0_getCell 29 = .ok (.iload_n 1, 1) := by decide +kernel
theorem d_X0_getCell_30 : decode cX0_getCell 30 = .ok (.invokevirtual 79, 3) := by decide +kernel
theorem d_X0_getCell_33 : decode cX0_getCell 33 = .ok (.istore_n 2, 1) := by decide +kernel
theorem d_X0_getCell_34 : decode cX0_getCell 34 = .ok (.iinc 3 1, 3) := by decide +kernel
theorem d_X0_getCell_37 : decode cX0_getCell 37 = .ok (.goto (-23), 3) := by decide +kernel
theorem d_X0_getCell_40 : decode cX0_getCell 40 = .ok (.iload_n 2, 1) := by decide +kernel
theorem d_X0_getCell_41 : decode cX0_getCell 41 = .ok (.ifCond .eq 47, 3) := by decide +kernel
theorem d_X0_getCell_88 : decode cX0_getCell 88 = .ok (.iload_n 2, 1) := by decide +kernel
theorem d_X0_getCell_89 : decode cX0_getCell 89 = .ok (.ireturn, 1) := by decide +kernel
theorem d_X0_getCell_44 : decode cX0_getCell 44 = .ok (.aload_n 0, 1) := by decide +kernel
theorem d_X0_getCell_45 : decode cX0_getCell 45 = .ok (.getfield 23, 3) := by decide +kernel
theorem d_X0_getCell_48 : decode cX0_getCell 48 = .ok (.getfield 38, 3) := by decide +kernel
theorem d_X0_getCell_51 : decode cX0_getCell 51 = .ok (.iload_n 2, 1) := by decide +kernel
theorem d_X0_getCell_52 : decode cX0_getCell 52 = .ok (.invokestatic 47, 3) := by decide +kernel
theorem d_X0_getCell_55 : decode cX0_getCell 55 = .ok (.iload_n 1, 1) := by decide +kernel
theorem d_X0_getCell_56 : decode cX0_getCell 56 = .ok (.iadd, 1) := by decide +kernel
theorem d_X0_getCell_57 : decode cX0_getCell 57 = .ok (.istore_n 3, 1) := by decide +kernel
theorem d_X0_getCell_58 : decode cX0_getCell 58 = .ok (.iload_n 3, 1) := by decide +kernel
theorem d_X0_getCell_59 : decode cX0_getCell 59 = .ok (.ifCond .ge 17, 3) := by decide +kernel
theorem d_X0_getCell_76 : decode cX0_getCell 76 = .ok (.aload_n 0, 1) := by decide +kernel
theorem d_X0_getCell_77 : decode cX0_getCell 77 = .ok (.getfield 23, 3) := by decide +kernel
theorem d_X0_getCell_80 : decode cX0_getCell 80 = .ok (.getfield 38, 3) := by decide +kernel
theorem d_X0_getCell_83 : decode cX0_getCell 83 = .ok (.iload_n 2, 1) := by decide +kernel
theorem d_X0_getCell_84 : decode cX0_getCell 84 = .ok (.iload_n 1, 1) := by decide +kernel
theorem d_X0_getCell_85 : decode cX0_getCell 85 = .ok (.invokestatic 31, 3) := by decide +kernel
theorem d_X0_getCell_62 : decode cX0_getCell 62 = .ok (.aload_n 0, 1) := by decide +kernel
theorem d_X0_getCell_63 : decode cX0_getCell 63 = .ok (.getfield 23, 3) := by decide +kernel
theorem d_X0_getCell_66 : decode cX0_getCell 66 = .ok (.getfield 38, 3) := by decide +kernel
theorem d_X0_getCell_69 : decode cX0_getCell 69 = .ok (.iload_n 2, 1) := by decide +kernel
theorem d_X0_getCell_70 : decode cX0_getCell 70 = .ok (.iload_n 1, 1) := by decide +kernel
theorem d_X0_getCell_71 : decode cX0_getCell 71 = .ok (.iadd, 1) := by decide +kernel
theorem d_X0_getCell_72 : decode cX0_getCell 72 = .ok (.iload_n 3, 1) := by decide +kernel
theorem d_X0_getCell_73 : decode cX0_getCell 73 = .ok (.invokestatic 31, 3) := by decide +kernel
theorem d_X0_getAllWanted_51 : decode cX0_getAllWanted 51 = .ok (.istore_n 3, 1) := by decide +kernel
theorem d_X0_getAllWanted_52 : decode cX0_getAllWanted 52 = .ok (.iload_n 3, 1) := by decide +kernel
theorem d_X0_getAllWanted_53 : decode cX0_getAllWanted 53 = .ok (.ifCond .ne 34, 3) := by decide +kernel
theorem d_X0_getAllWanted_87 : decode cX0_getAllWanted 87 = .ok (.aload_n 0, 1) := by decide +kernel
theorem d_X0_getAllWanted_88 : decode cX0_getAllWanted 88 = .ok (.getfield 15, 3) := by decide +kernel
theorem fk_RX0_15 : FK RX0 15 0 2 := ⟨RX0, TX0, 6, rfl, by decide, ws_X0, KW.at (i := 104) (by decide +kernel) rfl⟩
theorem d_X0_getAllWanted_91 : decode cX0_getAllWanted 91 = .ok (.iload_n 2, 1) := by decide +kernel
theorem d_X0_getAllWanted_92 : decode cX0_getAllWanted 92 = .ok (.iload_n 3, 1) := by decide +kernel
theorem d_X0_getAllWanted_93 : decode cX0_getAllWanted 93 = .ok (.invokestatic 31, 3) := by decide +kernel
theorem sh_9 : SH.getD 9 (9, 0, []) = (1, 6, []) := rfl
theorem d_X0_getAllWanted_96 : decode cX0_getAllWanted 96 = .ok (.iinc 2 1, 3) := by decide +kernel
theorem d_X0_getAllWanted_99 : decode cX0_getAllWanted 99 = .ok (.goto (-68), 3) := by decide +kernel
theorem d_X0_getAllWanted_102 : decode cX0_getAllWanted 102 = .ok (.iconst 0, 1) := by decide +kernel
theorem d_X0_getAllWanted_103 : decode cX0_getAllWanted 103 = .ok (.istore_n 2, 1) := by decide +kernel
theorem d_X0_getAllWanted_104 : decode cX0_getAllWanted 104 = .ok (.iload_n 2, 1) := by decide +kernel
theorem d_X0_getAllWanted_105 : decode cX0_getAllWanted 105 = .ok (.aload_n 0, 1) := by decide +kernel
theorem d_X0_getAllWanted_106 : decode cX0_getAllWanted 106 = .ok (.getfield 27, 3) := by decide +kernel
theorem d_X0_getAllWanted_109 : decode cX0_getAllWanted 109 = .ok (.if_icmp .ge 21, 3) := by decide +kernel
theorem d_X0_getAllWanted_130 : decode cX0_getAllWanted 130 = .ok (.iconst 1, 1) := by decide +kernel
theorem d_X0_getAllWanted_131 : decode cX0_getAllWanted 131 = .ok (.ireturn, 1) := by decide +kernel
theorem d_X0_getAllWanted_112 : decode cX0_getAllWanted 112 = .ok (.aload_n 0, 1) := by decide +kernel
theorem d_X0_getAllWanted_113 : decode cX0_getAllWanted 113 = .ok (.aload_n 0, 1) := by decide +kernel
theorem d_X0_getAllWanted_114 : decode cX0_getAllWanted 114 = .ok (.getfield 15, 3) := by decide +kernel
theorem d_X0_getAllWanted_117 : decode cX0_getAllWanted 117 = .ok (.iload_n 2, 1) := by decide +kernel
theorem d_X0_getAllWanted_118 : decode cX0_getAllWanted 118 = .ok (.invokestatic 47, 3) := by decide +kernel
theorem d_X0_getAllWanted_121 : decode cX0_getAllWanted 121 = .ok (.invokevirtual 55, 3) := by decide +kernel
abbrev Y_X0_markWritten : YT := (cX0_markWritten, 4, none, yX0_markWritten, [], 2)
theorem mk_X0_markWritten : MK Y_X0_markWritten 1 := ⟨KW.at (i := 38) (by decide +kernel) rfl, KW.at (i := 266) (by decide +kernel) rfl, ⟨by decide +kernel, by decide +kernel⟩, by decide +kernel, by decide +kernel, rfl, by decide⟩
theorem vm_X0_markWritten : KW (.instanceMethod (yN Y_X0_markWritten)) ∧ KW (.selects (yN Y_X0_markWritten).cls (yN Y_X0_markWritten) (yN Y_X0_markWritten)) := ⟨KW.at (i := 264) (by decide +kernel) rfl, KW.at (i := 265) (by decide +kernel) rfl⟩
theorem ck_RX0_55 : CKV RX0 55 Y_X0_markWritten 1 := ⟨KW.at (i := 263) (by decide +kernel) rfl, vm_X0_markWritten.1, vm_X0_markWritten.2, mk_X0_markWritten⟩
theorem d_X0_markWritten_0 : decode cX0_markWritten 0 = .ok (.iload_n 1, 1) := by decide +kernel
theorem d_X0_markWritten_1 : decode cX0_markWritten 1 = .ok (.aload_n 0, 1) := by decide +kernel
theorem d_X0_markWritten_2 : decode cX0_markWritten 2 = .ok (.getfield 23, 3) := by decide +kernel
theorem d_X0_markWritten_5 : decode cX0_markWritten 5 = .ok (.getfield 38, 3) := by decide +kernel
theorem d_X0_markWritten_8 : decode cX0_markWritten 8 = .ok (.iload_n 1, 1) := by decide +kernel
theorem d_X0_markWritten_9 : decode cX0_markWritten 9 = .ok (.invokestatic 47, 3) := by decide +kernel
theorem d_X0_markWritten_12 : decode cX0_markWritten 12 = .ok (.iadd, 1) := by decide +kernel
theorem d_X0_markWritten_13 : decode cX0_markWritten 13 = .ok (.iconst 1, 1) := by decide +kernel
theorem d_X0_markWritten_14 : decode cX0_markWritten 14 = .ok (.isub, 1) := by decide +kernel
theorem d_X0_markWritten_15 : decode cX0_markWritten 15 = .ok (.bipush 16, 2) := by decide +kernel
theorem d_X0_markWritten_17 : decode cX0_markWritten 17 = .ok (.idiv, 1) := by decide +kernel
theorem d_X0_markWritten_18 : decode cX0_markWritten 18 = .ok (.istore_n 2, 1) := by decide +kernel
theorem d_X0_markWritten_19 : decode cX0_markWritten 19 = .ok (.iload_n 1, 1) := by decide +kernel
theorem d_X0_markWritten_20 : decode cX0_markWritten 20 = .ok (.bipush 16, 2) := by decide +kernel
theorem d_X0_markWritten_22 : decode cX0_markWritten 22 = .ok (.idiv, 1) := by decide +kernel
theorem d_X0_markWritten_23 : decode cX0_markWritten 23 = .ok (.istore_n 3, 1) := by decide +kernel
theorem d_X0_markWritten_24 : decode cX0_markWritten 24 = .ok (.iload_n 3, 1) := by decide +kernel
theorem d_X0_markWritten_25 : decode cX0_markWritten 25 = .ok (.iload_n 2, 1) := by decide +kernel
theorem d_X0_markWritten_26 : decode cX0_markWritten 26 = .ok (.if_icmp .gt 21, 3) := by decide +kernel
theorem d_X0_markWritten_47 : decode cX0_markWritten 47 = .ok (.return_, 1) := by decide +kernel
theorem d_X0_markWritten_29 : decode cX0_markWritten 29 = .ok (.aload_n 0, 1) := by decide +kernel
theorem d_X0_markWritten_30 : decode cX0_markWritten 30 = .ok (.dup, 1) := by decide +kernel
theorem d_X0_markWritten_31 : decode cX0_markWritten 31 = .ok (.getfield 62, 3) := by decide +kernel
theorem fk_RX0_62 : FK RX0 62 0 5 := ⟨RX0, TX0, 6, rfl, by decide, ws_X0, KW.at (i := 107) (by decide +kernel) rfl⟩
theorem d_X0_markWritten_34 : decode cX0_markWritten 34 = .ok (.lconst 1, 1) := by decide +kernel
theorem d_X0_markWritten_35 : decode cX0_markWritten 35 = .ok (.iload_n 3, 1) := by decide +kernel
theorem d_X0_markWritten_36 : decode cX0_markWritten 36 = .ok (.lshl, 1) := by decide +kernel
theorem d_X0_markWritten_37 : decode cX0_markWritten 37 = .ok (.lor, 1) := by decide +kernel
theorem d_X0_markWritten_38 : decode cX0_markWritten 38 = .ok (.putfield 62, 3) := by decide +kernel
theorem d_X0_markWritten_41 : decode cX0_markWritten 41 = .ok (.iinc 3 1, 3) := by decide +kernel
theorem d_X0_markWritten_44 : decode cX0_markWritten 44 = .ok (.goto (-20), 3) := by decide +kernel
theorem d_X0_getAllWanted_124 : decode cX0_getAllWanted 124 = .ok (.iinc 2 1, 3) := by decide +kernel
theorem d_X0_getAllWanted_127 : decode cX0_getAllWanted 127 = .ok (.goto (-23), 3) := by decide +kernel
theorem d_X0_getAllWanted_56 : decode cX0_getAllWanted 56 = .ok (.aload_n 0, 1) := by decide +kernel
theorem d_X0_getAllWanted_57 : decode cX0_getAllWanted 57 = .ok (.getfield 23, 3) := by decide +kernel
theorem d_X0_getAllWanted_60 : decode cX0_getAllWanted 60 = .ok (.iload_n 1, 1) := by decide +kernel
theorem d_X0_getAllWanted_61 : decode cX0_getAllWanted 61 = .ok (.putfield 35, 3) := by decide +kernel
theorem d_X0_getAllWanted_64 : decode cX0_getAllWanted 64 = .ok (.aload_n 0, 1) := by decide +kernel
theorem d_X0_getAllWanted_65 : decode cX0_getAllWanted 65 = .ok (.getfield 20, 3) := by decide +kernel
theorem d_X0_getAllWanted_68 : decode cX0_getAllWanted 68 = .ok (.iconst 0, 1) := by decide +kernel
theorem d_X0_getAllWanted_69 : decode cX0_getAllWanted 69 = .ok (.aload_n 0, 1) := by decide +kernel
theorem d_X0_getAllWanted_70 : decode cX0_getAllWanted 70 = .ok (.getfield 23, 3) := by decide +kernel
theorem d_X0_getAllWanted_73 : decode cX0_getAllWanted 73 = .ok (.getfield 38, 3) := by decide +kernel
theorem d_X0_getAllWanted_76 : decode cX0_getAllWanted 76 = .ok (.iconst 0, 1) := by decide +kernel
theorem d_X0_getAllWanted_77 : decode cX0_getAllWanted 77 = .ok (.aload_n 0, 1) := by decide +kernel
theorem d_X0_getAllWanted_78 : decode cX0_getAllWanted 78 = .ok (.getfield 20, 3) := by decide +kernel
theorem d_X0_getAllWanted_81 : decode cX0_getAllWanted 81 = .ok (.arraylength, 1) := by decide +kernel
theorem d_X0_getAllWanted_82 : decode cX0_getAllWanted 82 = .ok (.invokestatic 41, 3) := by decide +kernel
theorem d_X0_getAllWanted_85 : decode cX0_getAllWanted 85 = .ok (.iconst 0, 1) := by decide +kernel
theorem d_X0_getAllWanted_86 : decode cX0_getAllWanted 86 = .ok (.ireturn, 1) := by decide +kernel
theorem d_X7_init_123 : decode cX7_init 123 = .ok (.pop, 1) := by decide +kernel
theorem d_X7_init_124 : decode cX7_init 124 = .ok (.aload_n 0, 1) := by decide +kernel
theorem d_X7_init_125 : decode cX7_init 125 = .ok (.aload_n 0, 1) := by decide +kernel
theorem d_X7_init_126 : decode cX7_init 126 = .ok (.getfield 25, 3) := by decide +kernel
theorem d_X7_init_129 : decode cX7_init 129 = .ok (.iconst 0, 1) := by decide +kernel
theorem d_X7_init_130 : decode cX7_init 130 = .ok (.invokevirtual 77, 3) := by decide +kernel
abbrev Y_X0_got : YT := (cX0_got, 2, (some .int), yX0_got, [], 2)
theorem mk_X0_got : MK Y_X0_got 1 := ⟨KW.at (i := 38) (by decide +kernel) rfl, KW.at (i := 270) (by decide +kernel) rfl, ⟨by decide +kernel, by decide +kernel⟩, by decide +kernel, by decide +kernel, rfl, by decide⟩
theorem vm_X0_got : KW (.instanceMethod (yN Y_X0_got)) ∧ KW (.selects (yN Y_X0_got).cls (yN Y_X0_got) (yN Y_X0_got)) := ⟨KW.at (i := 268) (by decide +kernel) rfl, KW.at (i := 269) (by decide +kernel) rfl⟩
theorem ck_RX7_77 : CKV RX7 77 Y_X0_got 1 := ⟨KW.at (i := 267) (by decide +kernel) rfl, vm_X0_got.1, vm_X0_got.2, mk_X0_got⟩
theorem d_X0_got_0 : decode cX0_got 0 = .ok (.aload_n 0, 1) := by decide +kernel
theorem d_X0_got_1 : decode cX0_got 1 = .ok (.getfield 15, 3) := by decide +kernel
theorem d_X0_got_4 : decode cX0_got 4 = .ok (.iload_n 1, 1) := by decide +kernel
theorem d_X0_got_5 : decode cX0_got 5 = .ok (.invokestatic 47, 3) := by decide +kernel
theorem d_X0_got_8 : decode cX0_got 8 = .ok (.ireturn, 1) := by decide +kernel
theorem d_X7_init_133 : decode cX7_init 133 = .ok (.iconst 0, 1) := by decide +kernel
theorem d_X7_init_134 : decode cX7_init 134 = .ok (.iconst (-1), 1) := by decide +kernel
theorem d_X7_init_135 : decode cX7_init 135 = .ok (.iconst (-1), 1) := by decide +kernel
theorem d_X7_init_136 : decode cX7_init 136 = .ok (.invokevirtual 81, 3) := by decide +kernel
abbrev Y_X7_enterKey : YT := (cX7_enterKey, 5, none, yX7_enterKey, [], 3)
theorem mk_X7_enterKey : MK Y_X7_enterKey 4 := ⟨KW.at (i := 36) (by decide +kernel) rfl, KW.at (i := 274) (by decide +kernel) rfl, ⟨by decide +kernel, by decide +kernel⟩, by decide +kernel, by decide +kernel, rfl, by decide⟩
theorem vm_X7_enterKey : KW (.instanceMethod (yN Y_X7_enterKey)) ∧ KW (.selects (yN Y_X7_enterKey).cls (yN Y_X7_enterKey) (yN Y_X7_enterKey)) := ⟨KW.at (i := 273) (by decide +kernel) rfl, KW.at (i := 4) (by decide +kernel) rfl⟩
theorem ck_RX7_81 : CKV RX7 81 Y_X7_enterKey 4 := ⟨KW.at (i := 271) (by decide +kernel) rfl, vm_X7_enterKey.1, vm_X7_enterKey.2, mk_X7_enterKey⟩
theorem d_X7_enterKey_0 : decode cX7_enterKey 0 = .ok (.aload_n 0, 1) := by decide +kernel
theorem d_X7_enterKey_1 : decode cX7_enterKey 1 = .ok (.getfield 21, 3) := by decide +kernel
theorem d_X7_enterKey_4 : decode cX7_enterKey 4 = .ok (.iload_n 1, 1) := by decide +kernel
theorem d_X7_enterKey_5 : decode cX7_enterKey 5 = .ok (.iconst 0, 1) := by decide +kernel
theorem d_X7_enterKey_6 : decode cX7_enterKey 6 = .ok (.iadd, 1) := by decide +kernel
theorem d_X7_enterKey_7 : decode cX7_enterKey 7 = .ok (.iload_n 2, 1) := by decide +kernel
theorem d_X7_enterKey_8 : decode cX7_enterKey 8 = .ok (.invokevirtual 140, 3) := by decide +kernel
abbrev Y_X2_putUnit : YT := (cX2_putUnit, 3, none, yX2_putUnit, [], 2)
theorem mk_X2_putUnit : MK Y_X2_putUnit 2 := ⟨KW.at (i := 37) (by decide +kernel) rfl, KW.at (i := 278) (by decide +kernel) rfl, ⟨by decide +kernel, by decide +kernel⟩, by decide +kernel, by decide +kernel, rfl, by decide⟩
theorem vm_X2_putUnit : KW (.instanceMethod (yN Y_X2_putUnit)) ∧ KW (.selects (yN Y_X2_putUnit).cls (yN Y_X2_putUnit) (yN Y_X2_putUnit)) := ⟨KW.at (i := 276) (by decide +kernel) rfl, KW.at (i := 277) (by decide +kernel) rfl⟩
theorem ck_RX7_140 : CKV RX7 140 Y_X2_putUnit 2 := ⟨KW.at (i := 275) (by decide +kernel) rfl, vm_X2_putUnit.1, vm_X2_putUnit.2, mk_X2_putUnit⟩
theorem d_X2_putUnit_0 : decode cX2_putUnit 0 = .ok (.aload_n 0, 1) := by decide +kernel
theorem d_X2_putUnit_1 : decode cX2_putUnit 1 = .ok (.getfield 15, 3) := by decide +kernel
theorem d_X2_putUnit_4 : decode cX2_putUnit 4 = .ok (.iload_n 1, 1) := by decide +kernel
theorem d_X2_putUnit_5 : decode cX2_putUnit 5 = .ok (.iload_n 2, 1) := by decide +kernel
theorem d_X2_putUnit_6 : decode cX2_putUnit 6 = .ok (.invokestatic 31, 3) := by decide +kernel
theorem ck_RX2_31 : CKN RX2 31 Y_X7_store 3 := ⟨KW.at (i := 68) (by decide +kernel) rfl, sm_X7_store, mk_X7_store⟩
theorem d_X2_putUnit_9 : decode cX2_putUnit 9 = .ok (.return_, 1) := by decide +kernel
theorem d_X7_enterKey_11 : decode cX7_enterKey 11 = .ok (.aload_n 0, 1) := by decide +kernel
theorem d_X7_enterKey_12 : decode cX7_enterKey 12 = .ok (.getfield 21, 3) := by decide +kernel
theorem d_X7_enterKey_15 : decode cX7_enterKey 15 = .ok (.iload_n 1, 1) := by decide +kernel
theorem d_X7_enterKey_16 : decode cX7_enterKey 16 = .ok (.iconst 1, 1) := by decide +kernel
theorem d_X7_enterKey_17 : decode cX7_enterKey 17 = .ok (.iadd, 1) := by decide +kernel
theorem d_X7_enterKey_18 : decode cX7_enterKey 18 = .ok (.iload_n 3, 1) := by decide +kernel
theorem d_X7_enterKey_19 : decode cX7_enterKey 19 = .ok (.invokevirtual 140, 3) := by decide +kernel
theorem d_X7_enterKey_22 : decode cX7_enterKey 22 = .ok (.aload_n 0, 1) := by decide +kernel
theorem d_X7_enterKey_23 : decode cX7_enterKey 23 = .ok (.getfield 21, 3) := by decide +kernel
theorem d_X7_enterKey_26 : decode cX7_enterKey 26 = .ok (.iload_n 1, 1) := by decide +kernel
theorem d_X7_enterKey_27 : decode cX7_enterKey 27 = .ok (.iconst 2, 1) := by decide +kernel
theorem d_X7_enterKey_28 : decode cX7_enterKey 28 = .ok (.iadd, 1) := by decide +kernel
theorem d_X7_enterKey_29 : decode cX7_enterKey 29 = .ok (.iconst 0, 1) := by decide +kernel
theorem d_X7_enterKey_30 : decode cX7_enterKey 30 = .ok (.invokevirtual 140, 3) := by decide +kernel
theorem d_X7_enterKey_33 : decode cX7_enterKey 33 = .ok (.aload_n 0, 1) := by decide +kernel
theorem d_X7_enterKey_34 : decode cX7_enterKey 34 = .ok (.getfield 21, 3) := by decide +kernel
theorem d_X7_enterKey_37 : decode cX7_enterKey 37 = .ok (.iload_n 1, 1) := by decide +kernel
theorem d_X7_enterKey_38 : decode cX7_enterKey 38 = .ok (.iconst 3, 1) := by decide +kernel
theorem d_X7_enterKey_39 : decode cX7_enterKey 39 = .ok (.iadd, 1) := by decide +kernel
theorem d_X7_enterKey_40 : decode cX7_enterKey 40 = .ok (.iconst 0, 1) := by decide +kernel
theorem d_X7_enterKey_41 : decode cX7_enterKey 41 = .ok (.invokevirtual 140, 3) := by decide +kernel
theorem d_X7_enterKey_44 : decode cX7_enterKey 44 = .ok (.aload_n 0, 1) := by decide +kernel
theorem d_X7_enterKey_45 : decode cX7_enterKey 45 = .ok (.getfield 21, 3) := by decide +kernel
theorem d_X7_enterKey_48 : decode cX7_enterKey 48 = .ok (.iload_n 1, 1) := by decide +kernel
theorem d_X7_enterKey_49 : decode cX7_enterKey 49 = .ok (.iconst 4, 1) := by decide +kernel
theorem d_X7_enterKey_50 : decode cX7_enterKey 50 = .ok (.iadd, 1) := by decide +kernel
theorem d_X7_enterKey_51 : decode cX7_enterKey 51 = .ok (.iconst 0, 1) := by decide +kernel
theorem d_X7_enterKey_52 : decode cX7_enterKey 52 = .ok (.invokevirtual 140, 3) := by decide +kernel
theorem d_X7_enterKey_55 : decode cX7_enterKey 55 = .ok (.aload_n 0, 1) := by decide +kernel
theorem d_X7_enterKey_56 : decode cX7_enterKey 56 = .ok (.getfield 21, 3) := by decide +kernel
theorem d_X7_enterKey_59 : decode cX7_enterKey 59 = .ok (.iload_n 1, 1) := by decide +kernel
theorem d_X7_enterKey_60 : decode cX7_enterKey 60 = .ok (.iconst 5, 1) := by decide +kernel
theorem d_X7_enterKey_61 : decode cX7_enterKey 61 = .ok (.iadd, 1) := by decide +kernel
theorem d_X7_enterKey_62 : decode cX7_enterKey 62 = .ok (.iload 4, 2) := by decide +kernel
theorem d_X7_enterKey_64 : decode cX7_enterKey 64 = .ok (.invokevirtual 140, 3) := by decide +kernel
theorem d_X7_enterKey_67 : decode cX7_enterKey 67 = .ok (.aload_n 0, 1) := by decide +kernel
theorem d_X7_enterKey_68 : decode cX7_enterKey 68 = .ok (.getfield 21, 3) := by decide +kernel
theorem d_X7_enterKey_71 : decode cX7_enterKey 71 = .ok (.aload_n 0, 1) := by decide +kernel
theorem d_X7_enterKey_72 : decode cX7_enterKey 72 = .ok (.getfield 21, 3) := by decide +kernel
theorem d_X7_enterKey_75 : decode cX7_enterKey 75 = .ok (.getfield 370, 3) := by decide +kernel
theorem fk_RX7_370 : FK RX7 370 2 5 := ⟨RX2, TX2, 6, rfl, by decide, ws_X2, KW.at (i := 81) (by decide +kernel) rfl⟩
theorem d_X7_enterKey_78 : decode cX7_enterKey 78 = .ok (.iload_n 1, 1) := by decide +kernel
theorem d_X7_enterKey_79 : decode cX7_enterKey 79 = .ok (.invokevirtual 158, 3) := by decide +kernel
abbrev Y_X2_setPlaceOfKey : YT := (cX2_setPlaceOfKey, 3, none, yX2_setPlaceOfKey, [], 2)
theorem mk_X2_setPlaceOfKey : MK Y_X2_setPlaceOfKey 2 := ⟨KW.at (i := 37) (by decide +kernel) rfl, KW.at (i := 282) (by decide +kernel) rfl, ⟨by decide +kernel, by decide +kernel⟩, by decide +kernel, by decide +kernel, rfl, by decide⟩
theorem vm_X2_setPlaceOfKey : KW (.instanceMethod (yN Y_X2_setPlaceOfKey)) ∧ KW (.selects (yN Y_X2_setPlaceOfKey).cls (yN Y_X2_setPlaceOfKey) (yN Y_X2_setPlaceOfKey)) := ⟨KW.at (i := 280) (by decide +kernel) rfl, KW.at (i := 281) (by decide +kernel) rfl⟩
theorem ck_RX7_158 : CKV RX7 158 Y_X2_setPlaceOfKey 2 := ⟨KW.at (i := 279) (by decide +kernel) rfl, vm_X2_setPlaceOfKey.1, vm_X2_setPlaceOfKey.2, mk_X2_setPlaceOfKey⟩
theorem d_X2_setPlaceOfKey_0 : decode cX2_setPlaceOfKey 0 = .ok (.aload_n 0, 1) := by decide +kernel
theorem d_X2_setPlaceOfKey_1 : decode cX2_setPlaceOfKey 1 = .ok (.getfield 18, 3) := by decide +kernel
theorem d_X2_setPlaceOfKey_4 : decode cX2_setPlaceOfKey 4 = .ok (.iload_n 1, 1) := by decide +kernel
theorem d_X2_setPlaceOfKey_5 : decode cX2_setPlaceOfKey 5 = .ok (.iload_n 2, 1) := by decide +kernel
theorem d_X2_setPlaceOfKey_6 : decode cX2_setPlaceOfKey 6 = .ok (.invokestatic 31, 3) := by decide +kernel
theorem d_X2_setPlaceOfKey_9 : decode cX2_setPlaceOfKey 9 = .ok (.return_, 1) := by decide +kernel
theorem d_X7_enterKey_82 : decode cX7_enterKey 82 = .ok (.aload_n 0, 1) := by decide +kernel
theorem d_X7_enterKey_83 : decode cX7_enterKey 83 = .ok (.getfield 21, 3) := by decide +kernel
theorem d_X7_enterKey_86 : decode cX7_enterKey 86 = .ok (.dup, 1) := by decide +kernel
theorem d_X7_enterKey_87 : decode cX7_enterKey 87 = .ok (.getfield 370, 3) := by decide +kernel
theorem d_X7_enterKey_90 : decode cX7_enterKey 90 = .ok (.iconst 1, 1) := by decide +kernel
theorem d_X7_enterKey_91 : decode cX7_enterKey 91 = .ok (.iadd, 1) := by decide +kernel
theorem d_X7_enterKey_92 : decode cX7_enterKey 92 = .ok (.putfield 370, 3) := by decide +kernel
theorem pk_RX7_370 : PK RX7 370 2 5 .int := ⟨RX2, TX2, 6, tyX2, rfl, by decide, ws_X2, KW.at (i := 81) (by decide +kernel) rfl, tyX2_ok, nmX2, rfl, rfl⟩
theorem d_X7_enterKey_95 : decode cX7_enterKey 95 = .ok (.return_, 1) := by decide +kernel
theorem d_X7_init_139 : decode cX7_init 139 = .ok (.aload_n 0, 1) := by decide +kernel
theorem d_X7_init_140 : decode cX7_init 140 = .ok (.getfield 48, 3) := by decide +kernel
theorem d_X7_init_143 : decode cX7_init 143 = .ok (.iconst 0, 1) := by decide +kernel
theorem d_X7_init_144 : decode cX7_init 144 = .ok (.invokevirtual 85, 3) := by decide +kernel
abbrev Y_X4_join : YT := (cX4_join, 2, (some .boolean), yX4_join, [], 6)
theorem mk_X4_join : MK Y_X4_join 1 := ⟨KW.at (i := 41) (by decide +kernel) rfl, KW.at (i := 286) (by decide +kernel) rfl, ⟨by decide +kernel, by decide +kernel⟩, by decide +kernel, by decide +kernel, rfl, by decide⟩
theorem vm_X4_join : KW (.instanceMethod (yN Y_X4_join)) ∧ KW (.selects (yN Y_X4_join).cls (yN Y_X4_join) (yN Y_X4_join)) := ⟨KW.at (i := 284) (by decide +kernel) rfl, KW.at (i := 285) (by decide +kernel) rfl⟩
theorem ck_RX7_85 : CKV RX7 85 Y_X4_join 1 := ⟨KW.at (i := 283) (by decide +kernel) rfl, vm_X4_join.1, vm_X4_join.2, mk_X4_join⟩
theorem d_X4_join_0 : decode cX4_join 0 = .ok (.aload_n 0, 1) := by decide +kernel
theorem d_X4_join_1 : decode cX4_join 1 = .ok (.getfield 15, 3) := by decide +kernel
theorem d_X4_join_4 : decode cX4_join 4 = .ok (.iload_n 1, 1) := by decide +kernel
theorem d_X4_join_5 : decode cX4_join 5 = .ok (.invokevirtual 23, 3) := by decide +kernel
theorem d_X4_join_8 : decode cX4_join 8 = .ok (.ifCond .ne 62, 3) := by decide +kernel
theorem d_X4_join_70 : decode cX4_join 70 = .ok (.aload_n 0, 1) := by decide +kernel
theorem d_X4_join_71 : decode cX4_join 71 = .ok (.iload_n 1, 1) := by decide +kernel
theorem d_X4_join_72 : decode cX4_join 72 = .ok (.iconst 1, 1) := by decide +kernel
theorem d_X4_join_73 : decode cX4_join 73 = .ok (.invokevirtual 58, 3) := by decide +kernel
abbrev Y_X4_changeCount : YT := (cX4_changeCount, 4, none, yX4_changeCount, [], 3)
theorem mk_X4_changeCount : MK Y_X4_changeCount 2 := ⟨KW.at (i := 41) (by decide +kernel) rfl, KW.at (i := 304) (by decide +kernel) rfl, ⟨by decide +kernel, by decide +kernel⟩, by decide +kernel, by decide +kernel, rfl, by decide⟩
theorem vm_X4_changeCount : KW (.instanceMethod (yN Y_X4_changeCount)) ∧ KW (.selects (yN Y_X4_changeCount).cls (yN Y_X4_changeCount) (yN Y_X4_changeCount)) := ⟨KW.at (i := 302) (by decide +kernel) rfl, KW.at (i := 303) (by decide +kernel) rfl⟩
theorem ck_RX4_58 : CKV RX4 58 Y_X4_changeCount 2 := ⟨KW.at (i := 301) (by decide +kernel) rfl, vm_X4_changeCount.1, vm_X4_changeCount.2, mk_X4_changeCount⟩
theorem d_X4_changeCount_0 : decode cX4_changeCount 0 = .ok (.aload_n 0, 1) := by decide +kernel
theorem d_X4_changeCount_1 : decode cX4_changeCount 1 = .ok (.getfield 15, 3) := by decide +kernel
theorem d_X4_changeCount_4 : decode cX4_changeCount 4 = .ok (.iload_n 1, 1) := by decide +kernel
theorem d_X4_changeCount_5 : decode cX4_changeCount 5 = .ok (.invokevirtual 23, 3) := by decide +kernel
theorem d_X4_changeCount_8 : decode cX4_changeCount 8 = .ok (.istore_n 3, 1) := by decide +kernel
theorem d_X4_changeCount_9 : decode cX4_changeCount 9 = .ok (.aload_n 0, 1) := by decide +kernel
theorem d_X4_changeCount_10 : decode cX4_changeCount 10 = .ok (.getfield 15, 3) := by decide +kernel
theorem d_X4_changeCount_13 : decode cX4_changeCount 13 = .ok (.iload_n 3, 1) := by decide +kernel
theorem d_X4_changeCount_14 : decode cX4_changeCount 14 = .ok (.aload_n 0, 1) := by decide +kernel
theorem d_X4_changeCount_15 : decode cX4_changeCount 15 = .ok (.getfield 15, 3) := by decide +kernel
theorem d_X4_changeCount_18 : decode cX4_changeCount 18 = .ok (.iload_n 3, 1) := by decide +kernel
theorem d_X4_changeCount_19 : decode cX4_changeCount 19 = .ok (.invokevirtual 29, 3) := by decide +kernel
theorem d_X4_changeCount_22 : decode cX4_changeCount 22 = .ok (.iload_n 2, 1) := by decide +kernel
theorem d_X4_changeCount_23 : decode cX4_changeCount 23 = .ok (.iadd, 1) := by decide +kernel
theorem d_X4_changeCount_24 : decode cX4_changeCount 24 = .ok (.invokevirtual 32, 3) := by decide +kernel
theorem ck_RX4_32 : CKV RX4 32 Y_X2_putUnit 2 := ⟨KW.at (i := 300) (by decide +kernel) rfl, vm_X2_putUnit.1, vm_X2_putUnit.2, mk_X2_putUnit⟩
theorem d_X4_changeCount_27 : decode cX4_changeCount 27 = .ok (.aload_n 0, 1) := by decide +kernel
theorem d_X4_changeCount_28 : decode cX4_changeCount 28 = .ok (.getfield 19, 3) := by decide +kernel
theorem fk_RX4_19 : FK RX4 19 4 1 := ⟨RX4, TX4, 3, rfl, by decide, ws_X4, KW.at (i := 155) (by decide +kernel) rfl⟩
theorem d_X4_changeCount_31 : decode cX4_changeCount 31 = .ok (.iload_n 3, 1) := by decide +kernel
theorem d_X4_changeCount_32 : decode cX4_changeCount 32 = .ok (.invokevirtual 36, 3) := by decide +kernel
theorem ck_RX4_36 : CKV RX4 36 Y_X0_markWritten 1 := ⟨KW.at (i := 309) (by decide +kernel) rfl, vm_X0_markWritten.1, vm_X0_markWritten.2, mk_X0_markWritten⟩
theorem d_X4_changeCount_35 : decode cX4_changeCount 35 = .ok (.return_, 1) := by decide +kernel
theorem d_X4_join_76 : decode cX4_join 76 = .ok (.iconst 1, 1) := by decide +kernel
theorem d_X4_join_77 : decode cX4_join 77 = .ok (.ireturn, 1) := by decide +kernel
theorem d_X4_join_11 : decode cX4_join 11 = .ok (.aload_n 0, 1) := by decide +kernel
theorem d_X4_join_12 : decode cX4_join 12 = .ok (.getfield 19, 3) := by decide +kernel
theorem d_X4_join_15 : decode cX4_join 15 = .ok (.invokevirtual 42, 3) := by decide +kernel
theorem ck_RX4_42 : CKV RX4 42 Y_X0_wantNothing 0 := ⟨KW.at (i := 292) (by decide +kernel) rfl, vm_X0_wantNothing.1, vm_X0_wantNothing.2, mk_X0_wantNothing⟩
theorem d_X4_join_18 : decode cX4_join 18 = .ok (.aload_n 0, 1) := by decide +kernel
theorem d_X4_join_19 : decode cX4_join 19 = .ok (.getfield 19, 3) := by decide +kernel
theorem d_X4_join_22 : decode cX4_join 22 = .ok (.iconst 2, 1) := by decide +kernel
theorem d_X4_join_23 : decode cX4_join 23 = .ok (.invokevirtual 45, 3) := by decide +kernel
theorem ck_RX4_45 : CKV RX4 45 Y_X0_want 1 := ⟨KW.at (i := 293) (by decide +kernel) rfl, vm_X0_want.1, vm_X0_want.2, mk_X0_want⟩
theorem d_X4_join_26 : decode cX4_join 26 = .ok (.aload_n 0, 1) := by decide +kernel
theorem d_X4_join_27 : decode cX4_join 27 = .ok (.getfield 19, 3) := by decide +kernel
theorem d_X4_join_30 : decode cX4_join 30 = .ok (.invokevirtual 48, 3) := by decide +kernel
theorem ck_RX4_48 : CKV RX4 48 Y_X0_getAllWanted 0 := ⟨KW.at (i := 294) (by decide +kernel) rfl, vm_X0_getAllWanted.1, vm_X0_getAllWanted.2, mk_X0_getAllWanted⟩
theorem d_X4_join_33 : decode cX4_join 33 = .ok (.ifCond .ne 5, 3) := by decide +kernel
theorem d_X4_join_38 : decode cX4_join 38 = .ok (.aload_n 0, 1) := by decide +kernel
theorem d_X4_join_39 : decode cX4_join 39 = .ok (.getfield 15, 3) := by decide +kernel
theorem d_X4_join_42 : decode cX4_join 42 = .ok (.iload_n 1, 1) := by decide +kernel
theorem d_X4_join_43 : decode cX4_join 43 = .ok (.aload_n 0, 1) := by decide +kernel
theorem d_X4_join_44 : decode cX4_join 44 = .ok (.getfield 19, 3) := by decide +kernel
theorem d_X4_join_47 : decode cX4_join 47 = .ok (.iconst 0, 1) := by decide +kernel
theorem d_X4_join_48 : decode cX4_join 48 = .ok (.invokevirtual 52, 3) := by decide +kernel
theorem ck_RX4_52 : CKV RX4 52 Y_X0_got 1 := ⟨KW.at (i := 295) (by decide +kernel) rfl, vm_X0_got.1, vm_X0_got.2, mk_X0_got⟩
theorem d_X4_join_51 : decode cX4_join 51 = .ok (.invokevirtual 55, 3) := by decide +kernel
abbrev Y_X2_setPlaceOfRights : YT := (cX2_setPlaceOfRights, 3, none, yX2_setPlaceOfRights, [], 2)
theorem mk_X2_setPlaceOfRights : MK Y_X2_setPlaceOfRights 2 := ⟨KW.at (i := 37) (by decide +kernel) rfl, KW.at (i := 299) (by decide +kernel) rfl, ⟨by decide +kernel, by decide +kernel⟩, by decide +kernel, by decide +kernel, rfl, by decide⟩
theorem vm_X2_setPlaceOfRights : KW (.instanceMethod (yN Y_X2_setPlaceOfRights)) ∧ KW (.selects (yN Y_X2_setPlaceOfRights).cls (yN Y_X2_setPlaceOfRights) (yN Y_X2_setPlaceOfRights)) := ⟨KW.at (i := 297) (by decide +kernel) rfl, KW.at (i := 298) (by decide +kernel) rfl⟩
theorem ck_RX4_55 : CKV RX4 55 Y_X2_setPlaceOfRights 2 := ⟨KW.at (i := 296) (by decide +kernel) rfl, vm_X2_setPlaceOfRights.1, vm_X2_setPlaceOfRights.2, mk_X2_setPlaceOfRights⟩
theorem d_X2_setPlaceOfRights_0 : decode cX2_setPlaceOfRights 0 = .ok (.aload_n 0, 1) := by decide +kernel
theorem d_X2_setPlaceOfRights_1 : decode cX2_setPlaceOfRights 1 = .ok (.getfield 21, 3) := by decide +kernel
theorem d_X2_setPlaceOfRights_4 : decode cX2_setPlaceOfRights 4 = .ok (.iload_n 1, 1) := by decide +kernel
theorem d_X2_setPlaceOfRights_5 : decode cX2_setPlaceOfRights 5 = .ok (.iload_n 2, 1) := by decide +kernel
theorem d_X2_setPlaceOfRights_6 : decode cX2_setPlaceOfRights 6 = .ok (.invokestatic 31, 3) := by decide +kernel
theorem d_X2_setPlaceOfRights_9 : decode cX2_setPlaceOfRights 9 = .ok (.return_, 1) := by decide +kernel
theorem d_X4_join_54 : decode cX4_join 54 = .ok (.aload_n 0, 1) := by decide +kernel
theorem d_X4_join_55 : decode cX4_join 55 = .ok (.getfield 15, 3) := by decide +kernel
theorem d_X4_join_58 : decode cX4_join 58 = .ok (.aload_n 0, 1) := by decide +kernel
theorem d_X4_join_59 : decode cX4_join 59 = .ok (.getfield 19, 3) := by decide +kernel
theorem d_X4_join_62 : decode cX4_join 62 = .ok (.iconst 0, 1) := by decide +kernel
theorem d_X4_join_63 : decode cX4_join 63 = .ok (.invokevirtual 52, 3) := by decide +kernel
theorem d_X4_join_66 : decode cX4_join 66 = .ok (.iconst 0, 1) := by decide +kernel
theorem d_X4_join_67 : decode cX4_join 67 = .ok (.invokevirtual 32, 3) := by decide +kernel
theorem d_X4_join_36 : decode cX4_join 36 = .ok (.iconst 0, 1) := by decide +kernel
theorem d_X4_join_37 : decode cX4_join 37 = .ok (.ireturn, 1) := by decide +kernel
theorem d_X7_init_147 : decode cX7_init 147 = .ok (.pop, 1) := by decide +kernel
theorem d_X7_init_148 : decode cX7_init 148 = .ok (.aload_n 0, 1) := by decide +kernel
theorem d_X7_init_149 : decode cX7_init 149 = .ok (.getfield 25, 3) := by decide +kernel
theorem d_X7_init_152 : decode cX7_init 152 = .ok (.invokevirtual 89, 3) := by decide +kernel
theorem d_X7_init_155 : decode cX7_init 155 = .ok (.aload_n 0, 1) := by decide +kernel
theorem d_X7_init_156 : decode cX7_init 156 = .ok (.getfield 62, 3) := by decide +kernel
theorem d_X7_init_159 : decode cX7_init 159 = .ok (.aload_n 1, 1) := by decide +kernel
theorem d_X7_init_160 : decode cX7_init 160 = .ok (.invokevirtual 92, 3) := by decide +kernel
abbrev Y_X1_keepAsWhole : YT := (cX1_keepAsWhole, 2, none, yX1_keepAsWhole, [], 2)
theorem mk_X1_keepAsWhole : MK Y_X1_keepAsWhole 1 := ⟨KW.at (i := 43) (by decide +kernel) rfl, KW.at (i := 317) (by decide +kernel) rfl, ⟨by decide +kernel, by decide +kernel⟩, by decide +kernel, by decide +kernel, rfl, by decide⟩
theorem vm_X1_keepAsWhole : KW (.instanceMethod (yN Y_X1_keepAsWhole)) ∧ KW (.selects (yN Y_X1_keepAsWhole).cls (yN Y_X1_keepAsWhole) (yN Y_X1_keepAsWhole)) := ⟨KW.at (i := 315) (by decide +kernel) rfl, KW.at (i := 316) (by decide +kernel) rfl⟩
theorem ck_RX7_92 : CKV RX7 92 Y_X1_keepAsWhole 1 := ⟨KW.at (i := 314) (by decide +kernel) rfl, vm_X1_keepAsWhole.1, vm_X1_keepAsWhole.2, mk_X1_keepAsWhole⟩
theorem d_X1_keepAsWhole_0 : decode cX1_keepAsWhole 0 = .ok (.aload_n 0, 1) := by decide +kernel
theorem d_X1_keepAsWhole_1 : decode cX1_keepAsWhole 1 = .ok (.getfield 10, 3) := by decide +kernel
theorem d_X1_keepAsWhole_4 : decode cX1_keepAsWhole 4 = .ok (.aload_n 1, 1) := by decide +kernel
theorem d_X1_keepAsWhole_5 : decode cX1_keepAsWhole 5 = .ok (.invokevirtual 23, 3) := by decide +kernel
theorem d_X1_keepAsWhole_8 : decode cX1_keepAsWhole 8 = .ok (.return_, 1) := by decide +kernel
theorem d_X7_init_163 : decode cX7_init 163 = .ok (.return_, 1) := by decide +kernel
theorem d_X7_init_0 : decode cX7_init 0 = .ok (.aload_n 0, 1) := by decide +kernel
theorem d_X7_init_1 : decode cX7_init 1 = .ok (.invokespecial 3, 3) := by decide +kernel
theorem oj_RX7_3 : OJ RX7 3 := ⟨KW.at (i := 59) (by decide +kernel) rfl, KW.at (i := 60) (by decide +kernel) rfl, KW.at (i := 61) (by decide +kernel) rfl⟩
theorem d_X7_init_4 : decode cX7_init 4 = .ok (.aload_n 0, 1) := by decide +kernel
theorem d_X7_init_5 : decode cX7_init 5 = .ok (.bipush 80, 2) := by decide +kernel
theorem d_X7_init_7 : decode cX7_init 7 = .ok (.newarray .int, 2) := by decide +kernel
theorem d_X7_init_9 : decode cX7_init 9 = .ok (.putfield 9, 3) := by decide +kernel
theorem pkr_RX7_9 : PKR RX7 9 7 7 := ⟨RX7, TX7, 8, tyX7, rfl, by decide, ws_X7, KW.at (i := 330) (by decide +kernel) rfl, tyX7_ok, nmX7, rfl, fun x => ⟨rfl, rfl⟩⟩
theorem d_X7_init_12 : decode cX7_init 12 = .ok (.new 13, 3) := by decide +kernel
theorem nk_RX7_13_2 : NK RX7 13 2 6 [6, 7, 8, 9, 0, 0] := ⟨RX2, TX2, tyX2, rfl, ws_X2, tyX2_ok, KW.at (i := 62) (by decide +kernel) rfl, KW.at (i := 63) (by decide +kernel) rfl, KW.at (i := 37) (by decide +kernel) rfl, rfl, rfl⟩
theorem d_X7_init_15 : decode cX7_init 15 = .ok (.dup, 1) := by decide +kernel
theorem d_X7_init_16 : decode cX7_init 16 = .ok (.invokespecial 15, 3) := by decide +kernel
theorem d_X2_init_0 : decode cX2_init 0 = .ok (.aload_n 0, 1) := by decide +kernel
theorem d_X2_init_1 : decode cX2_init 1 = .ok (.invokespecial 3, 3) := by decide +kernel
theorem oj_RX2_3 : OJ RX2 3 := ⟨KW.at (i := 67) (by decide +kernel) rfl, KW.at (i := 60) (by decide +kernel) rfl, KW.at (i := 61) (by decide +kernel) rfl⟩
theorem d_X2_init_4 : decode cX2_init 4 = .ok (.aload_n 0, 1) := by decide +kernel
theorem d_X2_init_5 : decode cX2_init 5 = .ok (.sipush 1024, 3) := by decide +kernel
theorem d_X2_init_8 : decode cX2_init 8 = .ok (.newarray .int, 2) := by decide +kernel
theorem d_X2_init_10 : decode cX2_init 10 = .ok (.putfield 11, 3) := by decide +kernel
theorem pkr_RX2_11 : PKR RX2 11 2 0 := ⟨RX2, TX2, 6, tyX2, rfl, by decide, ws_X2, KW.at (i := 71) (by decide +kernel) rfl, tyX2_ok, nmX2, rfl, fun x => ⟨rfl, rfl⟩⟩
theorem d_X2_init_13 : decode cX2_init 13 = .ok (.aload_n 0, 1) := by decide +kernel
theorem d_X2_init_14 : decode cX2_init 14 = .ok (.sipush 1024, 3) := by decide +kernel
theorem d_X2_init_17 : decode cX2_init 17 = .ok (.newarray .int, 2) := by decide +kernel
theorem d_X2_init_19 : decode cX2_init 19 = .ok (.putfield 15, 3) := by decide +kernel
theorem pkr_RX2_15 : PKR RX2 15 2 1 := ⟨RX2, TX2, 6, tyX2, rfl, by decide, ws_X2, KW.at (i := 74) (by decide +kernel) rfl, tyX2_ok, nmX2, rfl, fun x => ⟨rfl, rfl⟩⟩
theorem d_X2_init_22 : decode cX2_init 22 = .ok (.aload_n 0, 1) := by decide +kernel
theorem d_X2_init_23 : decode cX2_init 23 = .ok (.bipush 80, 2) := by decide +kernel
theorem d_X2_init_25 : decode cX2_init 25 = .ok (.newarray .int, 2) := by decide +kernel
theorem d_X2_init_27 : decode cX2_init 27 = .ok (.putfield 18, 3) := by decide +kernel
theorem pkr_RX2_18 : PKR RX2 18 2 2 := ⟨RX2, TX2, 6, tyX2, rfl, by decide, ws_X2, KW.at (i := 75) (by decide +kernel) rfl, tyX2_ok, nmX2, rfl, fun x => ⟨rfl, rfl⟩⟩
theorem d_X2_init_30 : decode cX2_init 30 = .ok (.aload_n 0, 1) := by decide +kernel
theorem d_X2_init_31 : decode cX2_init 31 = .ok (.sipush 256, 3) := by decide +kernel
theorem d_X2_init_34 : decode cX2_init 34 = .ok (.newarray .int, 2) := by decide +kernel
theorem d_X2_init_36 : decode cX2_init 36 = .ok (.putfield 21, 3) := by decide +kernel
theorem pkr_RX2_21 : PKR RX2 21 2 3 := ⟨RX2, TX2, 6, tyX2, rfl, by decide, ws_X2, KW.at (i := 76) (by decide +kernel) rfl, tyX2_ok, nmX2, rfl, fun x => ⟨rfl, rfl⟩⟩
theorem d_X2_init_39 : decode cX2_init 39 = .ok (.aload_n 0, 1) := by decide +kernel
theorem d_X2_init_40 : decode cX2_init 40 = .ok (.iconst 1, 1) := by decide +kernel
theorem d_X2_init_41 : decode cX2_init 41 = .ok (.putfield 24, 3) := by decide +kernel
theorem d_X2_init_44 : decode cX2_init 44 = .ok (.aload_n 0, 1) := by decide +kernel
theorem d_X2_init_45 : decode cX2_init 45 = .ok (.iconst 0, 1) := by decide +kernel
theorem d_X2_init_46 : decode cX2_init 46 = .ok (.putfield 28, 3) := by decide +kernel
theorem d_X2_init_49 : decode cX2_init 49 = .ok (.aload_n 0, 1) := by decide +kernel
theorem d_X2_init_50 : decode cX2_init 50 = .ok (.getfield 11, 3) := by decide +kernel
theorem d_X2_init_53 : decode cX2_init 53 = .ok (.iconst 4, 1) := by decide +kernel
theorem d_X2_init_54 : decode cX2_init 54 = .ok (.bipush (-12), 2) := by decide +kernel
theorem d_X2_init_56 : decode cX2_init 56 = .ok (.invokestatic 31, 3) := by decide +kernel
theorem d_X2_init_59 : decode cX2_init 59 = .ok (.return_, 1) := by decide +kernel
abbrev Y_X2_init : YT := (cX2_init, 1, none, yX2_init, [], 2)
theorem mk_X2_init : MK Y_X2_init 0 := ⟨KW.at (i := 37) (by decide +kernel) rfl, KW.at (i := 66) (by decide +kernel) rfl, ⟨by decide +kernel, by decide +kernel⟩, by decide +kernel, by decide +kernel, rfl, by decide⟩
theorem cki_RX7_15 : CKI RX7 15 Y_X2_init 0 := ⟨rfl, rfl, KW.at (i := 64) (by decide +kernel) rfl, KW.at (i := 65) (by decide +kernel) rfl, mk_X2_init⟩
theorem d_X7_init_19 : decode cX7_init 19 = .ok (.astore_n 1, 1) := by decide +kernel
theorem d_X7_init_20 : decode cX7_init 20 = .ok (.new 16, 3) := by decide +kernel
theorem nk_RX7_16_7 : NK RX7 16 0 6 [5, 11, 12, 13, 0, 2] := ⟨RX0, TX0, tyX0, rfl, ws_X0, tyX0_ok, KW.at (i := 96) (by decide +kernel) rfl, KW.at (i := 97) (by decide +kernel) rfl, KW.at (i := 38) (by decide +kernel) rfl, rfl, rfl⟩
theorem d_X7_init_23 : decode cX7_init 23 = .ok (.dup, 1) := by decide +kernel
theorem d_X7_init_24 : decode cX7_init 24 = .ok (.aload_n 1, 1) := by decide +kernel
theorem d_X7_init_25 : decode cX7_init 25 = .ok (.invokespecial 18, 3) := by decide +kernel
theorem d_X0_init_0 : decode cX0_init 0 = .ok (.aload_n 0, 1) := by decide +kernel
theorem d_X0_init_1 : decode cX0_init 1 = .ok (.invokespecial 3, 3) := by decide +kernel
theorem oj_RX0_3 : OJ RX0 3 := ⟨KW.at (i := 101) (by decide +kernel) rfl, KW.at (i := 60) (by decide +kernel) rfl, KW.at (i := 61) (by decide +kernel) rfl⟩
theorem d_X0_init_4 : decode cX0_init 4 = .ok (.aload_n 0, 1) := by decide +kernel
theorem d_X0_init_5 : decode cX0_init 5 = .ok (.bipush 6, 2) := by decide +kernel
theorem d_X0_init_7 : decode cX0_init 7 = .ok (.newarray .int, 2) := by decide +kernel
theorem d_X0_init_9 : decode cX0_init 9 = .ok (.putfield 11, 3) := by decide +kernel
theorem pkr_RX0_11 : PKR RX0 11 0 1 := ⟨RX0, TX0, 6, tyX0, rfl, by decide, ws_X0, KW.at (i := 103) (by decide +kernel) rfl, tyX0_ok, nmX0, rfl, fun x => ⟨rfl, rfl⟩⟩
theorem d_X0_init_12 : decode cX0_init 12 = .ok (.aload_n 0, 1) := by decide +kernel
theorem d_X0_init_13 : decode cX0_init 13 = .ok (.bipush 6, 2) := by decide +kernel
theorem d_X0_init_15 : decode cX0_init 15 = .ok (.newarray .int, 2) := by decide +kernel
theorem d_X0_init_17 : decode cX0_init 17 = .ok (.putfield 15, 3) := by decide +kernel
theorem pkr_RX0_15 : PKR RX0 15 0 2 := ⟨RX0, TX0, 6, tyX0, rfl, by decide, ws_X0, KW.at (i := 104) (by decide +kernel) rfl, tyX0_ok, nmX0, rfl, fun x => ⟨rfl, rfl⟩⟩
theorem d_X0_init_20 : decode cX0_init 20 = .ok (.aload_n 0, 1) := by decide +kernel
theorem d_X0_init_21 : decode cX0_init 21 = .ok (.sipush 1024, 3) := by decide +kernel
theorem d_X0_init_24 : decode cX0_init 24 = .ok (.newarray .int, 2) := by decide +kernel
theorem d_X0_init_26 : decode cX0_init 26 = .ok (.putfield 20, 3) := by decide +kernel
theorem pkr_RX0_20 : PKR RX0 20 0 3 := ⟨RX0, TX0, 6, tyX0, rfl, by decide, ws_X0, KW.at (i := 105) (by decide +kernel) rfl, tyX0_ok, nmX0, rfl, fun x => ⟨rfl, rfl⟩⟩
theorem d_X0_init_29 : decode cX0_init 29 = .ok (.aload_n 0, 1) := by decide +kernel
theorem d_X0_init_30 : decode cX0_init 30 = .ok (.aload_n 1, 1) := by decide +kernel
theorem d_X0_init_31 : decode cX0_init 31 = .ok (.putfield 23, 3) := by decide +kernel
theorem pkr_RX0_23 : PKR RX0 23 0 0 := ⟨RX0, TX0, 6, tyX0, rfl, by decide, ws_X0, KW.at (i := 102) (by decide +kernel) rfl, tyX0_ok, nmX0, rfl, fun x => ⟨rfl, rfl⟩⟩
theorem d_X0_init_34 : decode cX0_init 34 = .ok (.return_, 1) := by decide +kernel
abbrev Y_X0_init : YT := (cX0_init, 2, none, yX0_init, [], 1)
theorem mk_X0_init : MK Y_X0_init 1 := ⟨KW.at (i := 38) (by decide +kernel) rfl, KW.at (i := 100) (by decide +kernel) rfl, ⟨by decide +kernel, by decide +kernel⟩, by decide +kernel, by decide +kernel, rfl, by decide⟩
theorem cki_RX7_18 : CKI RX7 18 Y_X0_init 1 := ⟨rfl, rfl, KW.at (i := 98) (by decide +kernel) rfl, KW.at (i := 99) (by decide +kernel) rfl, mk_X0_init⟩
theorem d_X7_init_28 : decode cX7_init 28 = .ok (.astore_n 2, 1) := by decide +kernel
theorem d_X7_init_29 : decode cX7_init 29 = .ok (.aload_n 0, 1) := by decide +kernel
theorem d_X7_init_30 : decode cX7_init 30 = .ok (.aload_n 1, 1) := by decide +kernel
theorem d_X7_init_31 : decode cX7_init 31 = .ok (.putfield 21, 3) := by decide +kernel
theorem pkr_RX7_21 : PKR RX7 21 7 0 := ⟨RX7, TX7, 8, tyX7, rfl, by decide, ws_X7, KW.at (i := 323) (by decide +kernel) rfl, tyX7_ok, nmX7, rfl, fun x => ⟨rfl, rfl⟩⟩
theorem d_X7_init_34 : decode cX7_init 34 = .ok (.aload_n 0, 1) := by decide +kernel
theorem d_X7_init_35 : decode cX7_init 35 = .ok (.aload_n 2, 1) := by decide +kernel
theorem d_X7_init_36 : decode cX7_init 36 = .ok (.putfield 25, 3) := by decide +kernel
theorem pkr_RX7_25 : PKR RX7 25 7 1 := ⟨RX7, TX7, 8, tyX7, rfl, by decide, ws_X7, KW.at (i := 324) (by decide +kernel) rfl, tyX7_ok, nmX7, rfl, fun x => ⟨rfl, rfl⟩⟩
theorem d_X7_init_39 : decode cX7_init 39 = .ok (.aload_n 0, 1) := by decide +kernel
theorem d_X7_init_40 : decode cX7_init 40 = .ok (.new 29, 3) := by decide +kernel
theorem nk_RX7_29_11 : NK RX7 29 3 2 [5, 10] := ⟨RX3, TX3, tyX3, rfl, ws_X3, tyX3_ok, KW.at (i := 122) (by decide +kernel) rfl, KW.at (i := 123) (by decide +kernel) rfl, KW.at (i := 39) (by decide +kernel) rfl, rfl, rfl⟩
theorem d_X7_init_43 : decode cX7_init 43 = .ok (.dup, 1) := by decide +kernel
theorem d_X7_init_44 : decode cX7_init 44 = .ok (.aload_n 1, 1) := by decide +kernel
theorem d_X7_init_45 : decode cX7_init 45 = .ok (.aload_n 2, 1) := by decide +kernel
theorem d_X7_init_46 : decode cX7_init 46 = .ok (.invokespecial 31, 3) := by decide +kernel
theorem d_X3_init_0 : decode cX3_init 0 = .ok (.aload_n 0, 1) := by decide +kernel
theorem d_X3_init_1 : decode cX3_init 1 = .ok (.invokespecial 3, 3) := by decide +kernel
theorem oj_RX3_3 : OJ RX3 3 := ⟨KW.at (i := 127) (by decide +kernel) rfl, KW.at (i := 60) (by decide +kernel) rfl, KW.at (i := 61) (by decide +kernel) rfl⟩
theorem d_X3_init_4 : decode cX3_init 4 = .ok (.aload_n 0, 1) := by decide +kernel
theorem d_X3_init_5 : decode cX3_init 5 = .ok (.aload_n 1, 1) := by decide +kernel
theorem d_X3_init_6 : decode cX3_init 6 = .ok (.putfield 9, 3) := by decide +kernel
theorem pkr_RX3_9 : PKR RX3 9 3 0 := ⟨RX3, TX3, 2, tyX3, rfl, by decide, ws_X3, KW.at (i := 128) (by decide +kernel) rfl, tyX3_ok, nmX3, rfl, fun x => ⟨rfl, rfl⟩⟩
theorem d_X3_init_9 : decode cX3_init 9 = .ok (.aload_n 0, 1) := by decide +kernel
theorem d_X3_init_10 : decode cX3_init 10 = .ok (.aload_n 2, 1) := by decide +kernel
theorem d_X3_init_11 : decode cX3_init 11 = .ok (.putfield 15, 3) := by decide +kernel
theorem pkr_RX3_15 : PKR RX3 15 3 1 := ⟨RX3, TX3, 2, tyX3, rfl, by decide, ws_X3, KW.at (i := 129) (by decide +kernel) rfl, tyX3_ok, nmX3, rfl, fun x => ⟨rfl, rfl⟩⟩
theorem d_X3_init_14 : decode cX3_init 14 = .ok (.return_, 1) := by decide +kernel
abbrev Y_X3_init : YT := (cX3_init, 3, none, yX3_init, [], 1)
theorem mk_X3_init : MK Y_X3_init 2 := ⟨KW.at (i := 39) (by decide +kernel) rfl, KW.at (i := 126) (by decide +kernel) rfl, ⟨by decide +kernel, by decide +kernel⟩, by decide +kernel, by decide +kernel, rfl, by decide⟩
theorem cki_RX7_31 : CKI RX7 31 Y_X3_init 2 := ⟨rfl, rfl, KW.at (i := 124) (by decide +kernel) rfl, KW.at (i := 125) (by decide +kernel) rfl, mk_X3_init⟩
theorem d_X7_init_49 : decode cX7_init 49 = .ok (.putfield 34, 3) := by decide +kernel
theorem pkr_RX7_34 : PKR RX7 34 7 2 := ⟨RX7, TX7, 8, tyX7, rfl, by decide, ws_X7, KW.at (i := 325) (by decide +kernel) rfl, tyX7_ok, nmX7, rfl, fun x => ⟨rfl, rfl⟩⟩
theorem d_X7_init_52 : decode cX7_init 52 = .ok (.aload_n 0, 1) := by decide +kernel
theorem d_X7_init_53 : decode cX7_init 53 = .ok (.new 38, 3) := by decide +kernel
theorem nk_RX7_38_12 : NK RX7 38 5 2 [5, 10] := ⟨RX5, TX5, tyX5, rfl, ws_X5, tyX5_ok, KW.at (i := 135) (by decide +kernel) rfl, KW.at (i := 136) (by decide +kernel) rfl, KW.at (i := 40) (by decide +kernel) rfl, rfl, rfl⟩
theorem d_X7_init_56 : decode cX7_init 56 = .ok (.dup, 1) := by decide +kernel
theorem d_X7_init_57 : decode cX7_init 57 = .ok (.aload_n 1, 1) := by decide +kernel
theorem d_X7_init_58 : decode cX7_init 58 = .ok (.aload_n 2, 1) := by decide +kernel
theorem d_X7_init_59 : decode cX7_init 59 = .ok (.invokespecial 40, 3) := by decide +kernel
theorem d_X5_init_0 : decode cX5_init 0 = .ok (.aload_n 0, 1) := by decide +kernel
theorem d_X5_init_1 : decode cX5_init 1 = .ok (.invokespecial 3, 3) := by decide +kernel
theorem oj_RX5_3 : OJ RX5 3 := ⟨KW.at (i := 140) (by decide +kernel) rfl, KW.at (i := 60) (by decide +kernel) rfl, KW.at (i := 61) (by decide +kernel) rfl⟩
theorem d_X5_init_4 : decode cX5_init 4 = .ok (.aload_n 0, 1) := by decide +kernel
theorem d_X5_init_5 : decode cX5_init 5 = .ok (.aload_n 1, 1) := by decide +kernel
theorem d_X5_init_6 : decode cX5_init 6 = .ok (.putfield 9, 3) := by decide +kernel
theorem pkr_RX5_9 : PKR RX5 9 5 0 := ⟨RX5, TX5, 2, tyX5, rfl, by decide, ws_X5, KW.at (i := 141) (by decide +kernel) rfl, tyX5_ok, nmX5, rfl, fun x => ⟨rfl, rfl⟩⟩
theorem d_X5_init_9 : decode cX5_init 9 = .ok (.aload_n 0, 1) := by decide +kernel
theorem d_X5_init_10 : decode cX5_init 10 = .ok (.aload_n 2, 1) := by decide +kernel
theorem d_X5_init_11 : decode cX5_init 11 = .ok (.putfield 15, 3) := by decide +kernel
theorem pkr_RX5_15 : PKR RX5 15 5 1 := ⟨RX5, TX5, 2, tyX5, rfl, by decide, ws_X5, KW.at (i := 142) (by decide +kernel) rfl, tyX5_ok, nmX5, rfl, fun x => ⟨rfl, rfl⟩⟩
theorem d_X5_init_14 : decode cX5_init 14 = .ok (.return_, 1) := by decide +kernel
abbrev Y_X5_init : YT := (cX5_init, 3, none, yX5_init, [], 1)
theorem mk_X5_init : MK Y_X5_init 2 := ⟨KW.at (i := 40) (by decide +kernel) rfl, KW.at (i := 139) (by decide +kernel) rfl, ⟨by decide +kernel, by decide +kernel⟩, by decide +kernel, by decide +kernel, rfl, by decide⟩
theorem cki_RX7_40 : CKI RX7 40 Y_X5_init 2 := ⟨rfl, rfl, KW.at (i := 137) (by decide +kernel) rfl, KW.at (i := 138) (by decide +kernel) rfl, mk_X5_init⟩
theorem d_X7_init_62 : decode cX7_init 62 = .ok (.putfield 41, 3) := by decide +kernel
theorem pkr_RX7_41 : PKR RX7 41 7 3 := ⟨RX7, TX7, 8, tyX7, rfl, by decide, ws_X7, KW.at (i := 326) (by decide +kernel) rfl, tyX7_ok, nmX7, rfl, fun x => ⟨rfl, rfl⟩⟩
theorem d_X7_init_65 : decode cX7_init 65 = .ok (.aload_n 0, 1) := by decide +kernel
theorem d_X7_init_66 : decode cX7_init 66 = .ok (.new 45, 3) := by decide +kernel
theorem nk_RX7_45_13 : NK RX7 45 4 3 [5, 10, 17] := ⟨RX4, TX4, tyX4, rfl, ws_X4, tyX4_ok, KW.at (i := 148) (by decide +kernel) rfl, KW.at (i := 149) (by decide +kernel) rfl, KW.at (i := 41) (by decide +kernel) rfl, rfl, rfl⟩
theorem d_X7_init_69 : decode cX7_init 69 = .ok (.dup, 1) := by decide +kernel
theorem d_X7_init_70 : decode cX7_init 70 = .ok (.aload_n 1, 1) := by decide +kernel
theorem d_X7_init_71 : decode cX7_init 71 = .ok (.aload_n 2, 1) := by decide +kernel
theorem d_X7_init_72 : decode cX7_init 72 = .ok (.invokespecial 47, 3) := by decide +kernel
theorem d_X4_init_0 : decode cX4_init 0 = .ok (.aload_n 0, 1) := by decide +kernel
theorem d_X4_init_1 : decode cX4_init 1 = .ok (.invokespecial 3, 3) := by decide +kernel
theorem oj_RX4_3 : OJ RX4 3 := ⟨KW.at (i := 153) (by decide +kernel) rfl, KW.at (i := 60) (by decide +kernel) rfl, KW.at (i := 61) (by decide +kernel) rfl⟩
theorem d_X4_init_4 : decode cX4_init 4 = .ok (.aload_n 0, 1) := by decide +kernel
theorem d_X4_init_5 : decode cX4_init 5 = .ok (.sipush 256, 3) := by decide +kernel
theorem d_X4_init_8 : decode cX4_init 8 = .ok (.newarray .int, 2) := by decide +kernel
theorem d_X4_init_10 : decode cX4_init 10 = .ok (.putfield 9, 3) := by decide +kernel
theorem pkr_RX4_9 : PKR RX4 9 4 2 := ⟨RX4, TX4, 3, tyX4, rfl, by decide, ws_X4, KW.at (i := 156) (by decide +kernel) rfl, tyX4_ok, nmX4, rfl, fun x => ⟨rfl, rfl⟩⟩
theorem d_X4_init_13 : decode cX4_init 13 = .ok (.aload_n 0, 1) := by decide +kernel
theorem d_X4_init_14 : decode cX4_init 14 = .ok (.aload_n 1, 1) := by decide +kernel
theorem d_X4_init_15 : decode cX4_init 15 = .ok (.putfield 15, 3) := by decide +kernel
theorem pkr_RX4_15 : PKR RX4 15 4 0 := ⟨RX4, TX4, 3, tyX4, rfl, by decide, ws_X4, KW.at (i := 154) (by decide +kernel) rfl, tyX4_ok, nmX4, rfl, fun x => ⟨rfl, rfl⟩⟩
theorem d_X4_init_18 : decode cX4_init 18 = .ok (.aload_n 0, 1) := by decide +kernel
theorem d_X4_init_19 : decode cX4_init 19 = .ok (.aload_n 2, 1) := by decide +kernel
theorem d_X4_init_20 : decode cX4_init 20 = .ok (.putfield 19, 3) := by decide +kernel
theorem pkr_RX4_19 : PKR RX4 19 4 1 := ⟨RX4, TX4, 3, tyX4, rfl, by decide, ws_X4, KW.at (i := 155) (by decide +kernel) rfl, tyX4_ok, nmX4, rfl, fun x => ⟨rfl, rfl⟩⟩
theorem d_X4_init_23 : decode cX4_init 23 = .ok (.return_, 1) := by decide +kernel
abbrev Y_X4_init : YT := (cX4_init, 3, none, yX4_init, [], 1)
theorem mk_X4_init : MK Y_X4_init 2 := ⟨KW.at (i := 41) (by decide +kernel) rfl, KW.at (i := 152) (by decide +kernel) rfl, ⟨by decide +kernel, by decide +kernel⟩, by decide +kernel, by decide +kernel, rfl, by decide⟩
theorem cki_RX7_47 : CKI RX7 47 Y_X4_init 2 := ⟨rfl, rfl, KW.at (i := 150) (by decide +kernel) rfl, KW.at (i := 151) (by decide +kernel) rfl, mk_X4_init⟩
theorem d_X7_init_75 : decode cX7_init 75 = .ok (.putfield 48, 3) := by decide +kernel
theorem pkr_RX7_48 : PKR RX7 48 7 4 := ⟨RX7, TX7, 8, tyX7, rfl, by decide, ws_X7, KW.at (i := 327) (by decide +kernel) rfl, tyX7_ok, nmX7, rfl, fun x => ⟨rfl, rfl⟩⟩
theorem d_X7_init_78 : decode cX7_init 78 = .ok (.aload_n 0, 1) := by decide +kernel
theorem d_X7_init_79 : decode cX7_init 79 = .ok (.new 52, 3) := by decide +kernel
theorem nk_RX7_52_15 : NK RX7 52 6 5 [19, 20, 21, 22, 0] := ⟨RX6, TX6, tyX6, rfl, ws_X6, tyX6_ok, KW.at (i := 164) (by decide +kernel) rfl, KW.at (i := 165) (by decide +kernel) rfl, KW.at (i := 42) (by decide +kernel) rfl, rfl, rfl⟩
theorem d_X7_init_82 : decode cX7_init 82 = .ok (.dup, 1) := by decide +kernel
theorem d_X7_init_83 : decode cX7_init 83 = .ok (.invokespecial 54, 3) := by decide +kernel
theorem d_X6_init_0 : decode cX6_init 0 = .ok (.aload_n 0, 1) := by decide +kernel
theorem d_X6_init_1 : decode cX6_init 1 = .ok (.invokespecial 3, 3) := by decide +kernel
theorem oj_RX6_3 : OJ RX6 3 := ⟨KW.at (i := 169) (by decide +kernel) rfl, KW.at (i := 60) (by decide +kernel) rfl, KW.at (i := 61) (by decide +kernel) rfl⟩
theorem d_X6_init_4 : decode cX6_init 4 = .ok (.aload_n 0, 1) := by decide +kernel
theorem d_X6_init_5 : decode cX6_init 5 = .ok (.bipush 80, 2) := by decide +kernel
theorem d_X6_init_7 : decode cX6_init 7 = .ok (.newarray .int, 2) := by decide +kernel
theorem d_X6_init_9 : decode cX6_init 9 = .ok (.putfield 9, 3) := by decide +kernel
theorem pkr_RX6_9 : PKR RX6 9 6 0 := ⟨RX6, TX6, 5, tyX6, rfl, by decide, ws_X6, KW.at (i := 170) (by decide +kernel) rfl, tyX6_ok, nmX6, rfl, fun x => ⟨rfl, rfl⟩⟩
theorem d_X6_init_12 : decode cX6_init 12 = .ok (.aload_n 0, 1) := by decide +kernel
theorem d_X6_init_13 : decode cX6_init 13 = .ok (.bipush 80, 2) := by decide +kernel
theorem d_X6_init_15 : decode cX6_init 15 = .ok (.newarray .int, 2) := by decide +kernel
theorem d_X6_init_17 : decode cX6_init 17 = .ok (.putfield 15, 3) := by decide +kernel
theorem pkr_RX6_15 : PKR RX6 15 6 1 := ⟨RX6, TX6, 5, tyX6, rfl, by decide, ws_X6, KW.at (i := 171) (by decide +kernel) rfl, tyX6_ok, nmX6, rfl, fun x => ⟨rfl, rfl⟩⟩
theorem d_X6_init_20 : decode cX6_init 20 = .ok (.aload_n 0, 1) := by decide +kernel
theorem d_X6_init_21 : decode cX6_init 21 = .ok (.bipush 80, 2) := by decide +kernel
theorem d_X6_init_23 : decode cX6_init 23 = .ok (.newarray .int, 2) := by decide +kernel
theorem d_X6_init_25 : decode cX6_init 25 = .ok (.putfield 18, 3) := by decide +kernel
theorem pkr_RX6_18 : PKR RX6 18 6 2 := ⟨RX6, TX6, 5, tyX6, rfl, by decide, ws_X6, KW.at (i := 172) (by decide +kernel) rfl, tyX6_ok, nmX6, rfl, fun x => ⟨rfl, rfl⟩⟩
theorem d_X6_init_28 : decode cX6_init 28 = .ok (.aload_n 0, 1) := by decide +kernel
theorem d_X6_init_29 : decode cX6_init 29 = .ok (.bipush 80, 2) := by decide +kernel
theorem d_X6_init_31 : decode cX6_init 31 = .ok (.newarray .int, 2) := by decide +kernel
theorem d_X6_init_33 : decode cX6_init 33 = .ok (.putfield 21, 3) := by decide +kernel
theorem pkr_RX6_21 : PKR RX6 21 6 3 := ⟨RX6, TX6, 5, tyX6, rfl, by decide, ws_X6, KW.at (i := 173) (by decide +kernel) rfl, tyX6_ok, nmX6, rfl, fun x => ⟨rfl, rfl⟩⟩
theorem d_X6_init_36 : decode cX6_init 36 = .ok (.return_, 1) := by decide +kernel
abbrev Y_X6_init : YT := (cX6_init, 1, none, yX6_init, [], 1)
theorem mk_X6_init : MK Y_X6_init 0 := ⟨KW.at (i := 42) (by decide +kernel) rfl, KW.at (i := 168) (by decide +kernel) rfl, ⟨by decide +kernel, by decide +kernel⟩, by decide +kernel, by decide +kernel, rfl, by decide⟩
theorem cki_RX7_54 : CKJ RX7 54 Y_X6_init 0 := ⟨rfl, rfl, KW.at (i := 166) (by decide +kernel) rfl, KW.at (i := 167) (by decide +kernel) rfl, mk_X6_init⟩
theorem d_X7_init_86 : decode cX7_init 86 = .ok (.putfield 55, 3) := by decide +kernel
theorem pkr_RX7_55 : PKR RX7 55 7 5 := ⟨RX7, TX7, 8, tyX7, rfl, by decide, ws_X7, KW.at (i := 328) (by decide +kernel) rfl, tyX7_ok, nmX7, rfl, fun x => ⟨rfl, rfl⟩⟩
theorem d_X7_init_89 : decode cX7_init 89 = .ok (.aload_n 0, 1) := by decide +kernel
theorem d_X7_init_90 : decode cX7_init 90 = .ok (.new 59, 3) := by decide +kernel
theorem nk_RX7_59_20 : NK RX7 59 1 7 [24, 29, 34, 0, 0, 0, 1] := ⟨RX1, TX1, tyX1, rfl, ws_X1, tyX1_ok, KW.at (i := 186) (by decide +kernel) rfl, KW.at (i := 187) (by decide +kernel) rfl, KW.at (i := 43) (by decide +kernel) rfl, rfl, rfl⟩
theorem d_X7_init_93 : decode cX7_init 93 = .ok (.dup, 1) := by decide +kernel
theorem d_X7_init_94 : decode cX7_init 94 = .ok (.invokespecial 61, 3) := by decide +kernel
theorem d_X1_init_0 : decode cX1_init 0 = .ok (.aload_n 0, 1) := by decide +kernel
theorem d_X1_init_1 : decode cX1_init 1 = .ok (.invokespecial 1, 3) := by decide +kernel
theorem oj_RX1_1 : OJ RX1 1 := ⟨KW.at (i := 191) (by decide +kernel) rfl, KW.at (i := 60) (by decide +kernel) rfl, KW.at (i := 61) (by decide +kernel) rfl⟩
theorem d_X1_init_4 : decode cX1_init 4 = .ok (.aload_n 0, 1) := by decide +kernel
theorem d_X1_init_5 : decode cX1_init 5 = .ok (.new 7, 3) := by decide +kernel
theorem nk_RX1_7_21 : NK RX1 7 2 6 [25, 26, 27, 28, 0, 0] := ⟨RX2, TX2, tyX2, rfl, ws_X2, tyX2_ok, KW.at (i := 192) (by decide +kernel) rfl, KW.at (i := 63) (by decide +kernel) rfl, KW.at (i := 37) (by decide +kernel) rfl, rfl, rfl⟩
theorem d_X1_init_8 : decode cX1_init 8 = .ok (.dup, 1) := by decide +kernel
theorem d_X1_init_9 : decode cX1_init 9 = .ok (.invokespecial 9, 3) := by decide +kernel
theorem cki_RX1_9 : CKI RX1 9 Y_X2_init 0 := ⟨rfl, rfl, KW.at (i := 193) (by decide +kernel) rfl, KW.at (i := 65) (by decide +kernel) rfl, mk_X2_init⟩
theorem d_X1_init_12 : decode cX1_init 12 = .ok (.putfield 10, 3) := by decide +kernel
theorem pkr_RX1_10 : PKR RX1 10 1 0 := ⟨RX1, TX1, 7, tyX1, rfl, by decide, ws_X1, KW.at (i := 194) (by decide +kernel) rfl, tyX1_ok, nmX1, rfl, fun x => ⟨rfl, rfl⟩⟩
theorem d_X1_init_15 : decode cX1_init 15 = .ok (.aload_n 0, 1) := by decide +kernel
theorem d_X1_init_16 : decode cX1_init 16 = .ok (.new 7, 3) := by decide +kernel
theorem nk_RX1_7_26 : NK RX1 7 2 6 [30, 31, 32, 33, 0, 0] := ⟨RX2, TX2, tyX2, rfl, ws_X2, tyX2_ok, KW.at (i := 192) (by decide +kernel) rfl, KW.at (i := 63) (by decide +kernel) rfl, KW.at (i := 37) (by decide +kernel) rfl, rfl, rfl⟩
theorem d_X1_init_19 : decode cX1_init 19 = .ok (.dup, 1) := by decide +kernel
theorem d_X1_init_20 : decode cX1_init 20 = .ok (.invokespecial 9, 3) := by decide +kernel
theorem d_X1_init_23 : decode cX1_init 23 = .ok (.putfield 16, 3) := by decide +kernel
theorem pkr_RX1_16 : PKR RX1 16 1 1 := ⟨RX1, TX1, 7, tyX1, rfl, by decide, ws_X1, KW.at (i := 195) (by decide +kernel) rfl, tyX1_ok, nmX1, rfl, fun x => ⟨rfl, rfl⟩⟩
theorem d_X1_init_26 : decode cX1_init 26 = .ok (.aload_n 0, 1) := by decide +kernel
theorem d_X1_init_27 : decode cX1_init 27 = .ok (.iconst 2, 1) := by decide +kernel
theorem d_X1_init_28 : decode cX1_init 28 = .ok (.newarray .int, 2) := by decide +kernel
theorem d_X1_init_30 : decode cX1_init 30 = .ok (.putfield 19, 3) := by decide +kernel
theorem pkr_RX1_19 : PKR RX1 19 1 2 := ⟨RX1, TX1, 7, tyX1, rfl, by decide, ws_X1, KW.at (i := 196) (by decide +kernel) rfl, tyX1_ok, nmX1, rfl, fun x => ⟨rfl, rfl⟩⟩
theorem d_X1_init_33 : decode cX1_init 33 = .ok (.return_, 1) := by decide +kernel
abbrev Y_X1_init : YT := (cX1_init, 1, none, yX1_init, [], 3)
theorem mk_X1_init : MK Y_X1_init 0 := ⟨KW.at (i := 43) (by decide +kernel) rfl, KW.at (i := 190) (by decide +kernel) rfl, ⟨by decide +kernel, by decide +kernel⟩, by decide +kernel, by decide +kernel, rfl, by decide⟩
theorem cki_RX7_61 : CKJ RX7 61 Y_X1_init 0 := ⟨rfl, rfl, KW.at (i := 188) (by decide +kernel) rfl, KW.at (i := 189) (by decide +kernel) rfl, mk_X1_init⟩
theorem d_X7_init_97 : decode cX7_init 97 = .ok (.putfield 62, 3) := by decide +kernel
theorem pkr_RX7_62 : PKR RX7 62 7 6 := ⟨RX7, TX7, 8, tyX7, rfl, by decide, ws_X7, KW.at (i := 329) (by decide +kernel) rfl, tyX7_ok, nmX7, rfl, fun x => ⟨rfl, rfl⟩⟩
section
def pC_wantNothing (D : DD) : DD :=
  gD (up2 D 7 4 0) fun D1 =>
  D1
def pC_want (p1 : Int) (D : DD) : DD :=
  gD (sto 6 8 (D 7 4) p1 D) fun D1 =>
  gD (up2 D1 7 4 ((D1 7 4) + 1)) fun D2 =>
  D2
def pC_firstFreeFor_10 (a1 : Int) (a2 : Int) : Nat → Int → DD → Res
  | 0, _, _ => none
  | n + 1, a3, D =>
    if (w32 a3) < (w32 a2) then (
      ltR (rd 1024 3 a3 D) fun x1 =>
      if (w32 (-x1)) < (w32 a1) then (
        ltR (a3 + (zmax 1 (zabs x1))) fun x2 =>
        pC_firstFreeFor_10 a1 a2 n x2 D
      ) else (
        okR a3 D
      )
    ) else (
      okR 0 D
    )
def pC_firstFreeFor (p1 : Int) (D : DD) : Res :=
  ltR (pI_end D) fun x1 =>
  pC_firstFreeFor_10 p1 x1 fu 4 D
def pC_cellAhead_4 : Nat → Int → DD → Res
  | 0, _, _ => none
  | n + 1, a2, D =>
    if (w32 a2) < 4 then (
      okR 0 D
    ) else (
      if (w32 (rd 1024 3 a2 D)) = 0 then (
        pC_cellAhead_4 n (a2 + (-1)) D
      ) else (
        okR a2 D
      )
    )
def pC_cellAhead (p1 : Int) (D : DD) : Res :=
  ltR (p1 - 1) fun x1 =>
  pC_cellAhead_4 fu x1 D
def pC_addSector (D : DD) : Res :=
  ltR (pI_end D) fun x1 =>
  bnd (pC_cellAhead x1 D) fun v1 D1 =>
  jnR (fun (x2 : Int) (D2 : DD) =>
      gD (sto 1024 3 x2 ((x2 - x1) - 16) D2) fun D3 =>
      gD (up2 D3 2 4 ((D3 2 4) + 1)) fun D4 =>
      okR 0 D4) fun J1 =>
  if (w32 (rd 1024 3 v1 D1)) < 0 then (
    J1 v1 D1
  ) else (
    J1 x1 D1
  )
def pC_getCell_14 (a1 : Int) : Nat → Int → Int → DD → (Int → DD → Res) → Res
  | 0, _, _, _, _ => none
  | n + 1, a2, a3, D, K =>
    if (w32 a3) < 64 then (
      if (w32 a2) = 0 then (
        bnd (pC_addSector D) fun _ D1 =>
        bnd (pC_firstFreeFor a1 D1) fun v1 D2 =>
        pC_getCell_14 a1 n v1 (a3 + 1) D2 K
      ) else (
        K a2 D
      )
    ) else (
      K a2 D
    )
def pC_getCell (p1 : Int) (D : DD) : Res :=
  bnd (pC_firstFreeFor p1 D) fun v1 D1 =>
  ltR (D1 2 4) fun x1 =>
  pC_getCell_14 p1 fu v1 x1 D1 fun x2 D2 =>
    if (w32 x2) = 0 then (
      okR x2 D2
    ) else (
      ltR ((rd 1024 3 x2 D2) + p1) fun x3 =>
      jnR (fun (D3 : DD) =>
          gD (sto 1024 3 x2 p1 D3) fun D4 =>
          okR x2 D4) fun J1 =>
      if (w32 x3) < 0 then (
        gD (sto 1024 3 (x2 + p1) x3 D2) fun D5 =>
        J1 D5
      ) else (
        J1 D2
      )
    )
def pC_getAllWanted_31 : Nat → Int → DD → (DD → Res) → (DD → Res) → Res
  | 0, _, _, _, _ => none
  | n + 1, a2, D, K1, K2 =>
    if (w32 a2) < (w32 (D 7 4)) then (
      bnd (pC_getCell (rd 6 8 a2 D) D) fun v1 D1 =>
      if (w32 v1) = 0 then (
        K2 D1
      ) else (
        gD (sto 6 9 a2 v1 D1) fun D2 =>
        pC_getAllWanted_31 n (a2 + 1) D2 K1 K2
      )
    ) else (
      K1 D
    )
def pC_markWritten_24 (a2 : Int) : Nat → Int → DD → Res
  | 0, _, _ => none
  | n + 1, a3, D =>
    if (w32 a2) < (w32 a3) then (
      okR 0 D
    ) else (
      gD (up2 D 7 5 (lorZ (D 7 5) (lshlZ 1 a3))) fun D1 =>
      pC_markWritten_24 a2 n (a3 + 1) D1
    )
def pC_markWritten (p1 : Int) (D : DD) : Res :=
  ltR (Int.tdiv (w32 ((p1 + (rd 1024 3 p1 D)) - 1)) 16) fun x1 =>
  ltR (Int.tdiv (w32 p1) 16) fun x2 =>
  pC_markWritten_24 x1 fu x2 D
def pC_getAllWanted_104 : Nat → Int → DD → Res
  | 0, _, _ => none
  | n + 1, a2, D =>
    if (w32 a2) < (w32 (D 7 4)) then (
      bnd (pC_markWritten (rd 6 9 a2 D) D) fun _ D1 =>
      pC_getAllWanted_104 n (a2 + 1) D1
    ) else (
      okR 1 D
    )
def pC_getAllWanted (D : DD) : Res :=
  ltR (D 2 4) fun x1 =>
  gD (cpy2 D 3 10 1024) fun D1 =>
  pC_getAllWanted_31 fu 0 D1
    (fun D2 =>
      pC_getAllWanted_104 fu 0 D2)
    (fun D3 =>
      gD (up2 D3 2 4 x1) fun D4 =>
      gD (cpy2 D4 10 3 1024) fun D5 =>
      okR 0 D5)
def pC_got (p1 : Int) (D : DD) : Int :=
  (rd 6 9 p1 D)
def pI_putUnit (p1 : Int) (p2 : Int) (D : DD) : DD :=
  gD (sto 1024 4 p1 p2 D) fun D1 =>
  D1
def pI_setPlaceOfKey (p1 : Int) (p2 : Int) (D : DD) : DD :=
  gD (sto 80 5 p1 p2 D) fun D1 =>
  D1
def pH_enterKey (p1 : Int) (p2 : Int) (p3 : Int) (p4 : Int) (D : DD) : DD :=
  gD (pI_putUnit (p1 + 0) p2 D) fun D1 =>
  gD (pI_putUnit (p1 + 1) p3 D1) fun D2 =>
  gD (pI_putUnit (p1 + 2) 0 D2) fun D3 =>
  gD (pI_putUnit (p1 + 3) 0 D3) fun D4 =>
  gD (pI_putUnit (p1 + 4) 0 D4) fun D5 =>
  gD (pI_putUnit (p1 + 5) p4 D5) fun D6 =>
  gD (pI_setPlaceOfKey (D6 2 5) p1 D6) fun D7 =>
  gD (up2 D7 2 5 ((D7 2 5) + 1)) fun D8 =>
  D8
def pS_changeCount (p1 : Int) (p2 : Int) (D : DD) : Res :=
  ltR (pI_placeOfRights p1 D) fun x1 =>
  gD (pI_putUnit x1 ((pI_unitAt x1 D) + p2) D) fun D1 =>
  bnd (pC_markWritten x1 D1) fun _ D2 =>
  okR 0 D2
def pI_setPlaceOfRights (p1 : Int) (p2 : Int) (D : DD) : DD :=
  gD (sto 256 6 p1 p2 D) fun D1 =>
  D1
def pS_join (p1 : Int) (D : DD) : Res :=
  jnR (fun (D1 : DD) =>
      bnd (pS_changeCount p1 1 D1) fun _ D2 =>
      okR 1 D2) fun J1 =>
  if (w32 (pI_placeOfRights p1 D)) = 0 then (
    gD (pC_wantNothing D) fun D3 =>
    gD (pC_want 2 D3) fun D4 =>
    bnd (pC_getAllWanted D4) fun v1 D5 =>
    if (w32 v1) = 0 then (
      okR 0 D5
    ) else (
      gD (pI_setPlaceOfRights p1 (pC_got 0 D5) D5) fun D6 =>
      gD (pI_putUnit (pC_got 0 D6) 0 D6) fun D7 =>
      J1 D7
    )
  ) else (
    J1 D
  )
def pI_copyFrom_21_2 (D : DD) : DD :=
  gD (cpy2 D 3 22 1024) fun D1 =>
  gD (cpy2 D1 4 23 1024) fun D2 =>
  gD (cpy2 D2 5 24 80) fun D3 =>
  gD (cpy2 D3 6 25 256) fun D4 =>
  gD (up2 D4 21 4 (D4 2 4)) fun D5 =>
  gD (up2 D5 21 5 (D5 2 5)) fun D6 =>
  D6
def pF_keepAsWhole (D : DD) : DD :=
  gD (pI_copyFrom_21_2 D) fun D1 =>
  D1
def pH_ini (D : DD) : Res :=
  gD (pC_wantNothing D) fun D1 =>
  gD (pC_want 6 D1) fun D2 =>
  bnd (pC_getAllWanted D2) fun v1 D3 =>
  gD (pH_enterKey (pC_got 0 D3) 0 (-1) (-1) D3) fun D4 =>
  bnd (pS_join 0 D4) fun v2 D5 =>
  gD (pC_forgetDirty D5) fun D6 =>
  gD (pF_keepAsWhole D6) fun D7 =>
  okR 0 D7
end
set_option maxRecDepth 20000 in
theorem run_pC_wantNothing {Γ : GG} {rg : Nat → Bool} {κ : Nat} {Φ : OT → DD → Prop} (R : cov rg rg0) {D : DD} (h : WPD Φ (pC_wantNothing D)) : Run Γ rg κ Y_X0_wantNothing 0 [(15, 0)] [] D Φ := by
  unfold pC_wantNothing at h
  show Run Γ rg κ Y_X0_wantNothing 0 [(15, 0)] [] D Φ
  refine r_aload_n d_X0_wantNothing_0 rfl (by decide) ?_
  refine r_iconst d_X0_wantNothing_1 ?_
  refine c_putI (k := 4) d_X0_wantNothing_2 pk_RX0_27 sh_7 rfl (by decide) (R 7 rfl) h (fun D1 h => ?_)
  exact d_vret d_X0_wantNothing_5 rfl h
set_option maxRecDepth 20000 in
theorem run_pC_want {Γ : GG} {rg : Nat → Bool} {κ : Nat} {Φ : OT → DD → Prop} (R : cov rg rg0) (p1 : Int) {D : DD} (h : WPD Φ (pC_want p1 D)) : Run Γ rg κ Y_X0_want 0 [(15, 0), (0, p1)] [] D Φ := by
  unfold pC_want at h
  show Run Γ rg κ Y_X0_want 0 [(15, 0), (0, p1)] [] D Φ
  refine r_aload_n d_X0_want_0 rfl (by decide) ?_
  refine r_getR (t := 8) d_X0_want_1 fk_RX0_11 sh_7 rfl (by decide) (R 7 rfl) ?_
  refine r_aload_n d_X0_want_4 rfl (by decide) ?_
  refine r_getI d_X0_want_5 fk_RX0_27 sh_7 rfl (by decide) (by decide) (R 7 rfl) ?_
  refine r_iload_n d_X0_want_8 rfl ?_
  refine c_callND (as := [(16, 0), (0, (D 7 4)), (0, p1)]) (rest := []) (ls' := [(16, 0), (0, (D 7 4)), (0, p1)]) d_X0_want_9 ck_RX0_31 rfl rfl rfl (Nat.le_of_ble_eq_true rfl) (Nat.le_of_ble_eq_true rfl) (by decide) rfl rfl (fun Ψ hΨ => run_pH_store sh_8 (by decide) (R 8 rfl) (by decide) _ _ hΨ) h (fun D1 h => ?_)
  show Run Γ rg κ Y_X0_want 12 [(15, 0), (0, p1)] [] D1 Φ
  refine r_aload_n d_X0_want_12 rfl (by decide) ?_
  refine r_dup d_X0_want_13 (by decide) ?_
  refine r_getI d_X0_want_14 fk_RX0_27 sh_7 rfl (by decide) (by decide) (R 7 rfl) ?_
  refine r_iconst d_X0_want_17 ?_
  refine r_iadd d_X0_want_18 ?_
  show Run Γ rg κ Y_X0_want 19 [(15, 0), (0, p1)] [(0, ((D1 7 4) + 1)), (15, 0)] D1 Φ
  refine c_putI (k := 4) d_X0_want_19 pk_RX0_27 sh_7 rfl (by decide) (R 7 rfl) h (fun D2 h => ?_)
  exact d_vret d_X0_want_22 rfl h
set_option maxRecDepth 20000 in
theorem run_pC_firstFreeFor_10 {Γ : GG} {rg : Nat → Bool} {κ : Nat} {Φ : OT → DD → Prop} (R : cov rg rg0) (a1 : Int) (a2 : Int) : ∀ (n : Nat) (a3 : Int) (D : DD), WP (some .int) κ Φ (pC_firstFreeFor_10 a1 a2 n a3 D) → Run Γ rg κ Y_X0_firstFreeFor 10 [(15, 0), (0, a1), (0, a2), (0, a3), (5, 0)] [] D Φ := by
  intro n
  induction n with
  | zero => intro a3 D h; exact h.no.elim
  | succ n ih =>
    intro a3 D h
    rw [pC_firstFreeFor_10] at h
    show Run Γ rg κ Y_X0_firstFreeFor 10 [(15, 0), (0, a1), (0, a2), (0, a3), (5, 0)] [] D Φ
    refine r_iload_n d_X0_firstFreeFor_10 rfl ?_
    refine r_iload_n d_X0_firstFreeFor_11 rfl ?_
    refine c_icmp_ge (tgt := 52) d_X0_firstFreeFor_12 (by decide) (nz_w _) (nz_w _) h (fun h => ?_) (fun h => ?_)
    · skip
      show Run Γ rg κ Y_X0_firstFreeFor 52 [(15, 0), (0, a1), (0, a2), (0, a3), (5, 0)] [] D Φ
      refine r_iconst d_X0_firstFreeFor_52 ?_
      exact c_iret d_X0_firstFreeFor_53 rfl h
    · skip
      show Run Γ rg κ Y_X0_firstFreeFor 15 [(15, 0), (0, a1), (0, a2), (0, a3), (5, 0)] [] D Φ
      refine r_aload_n d_X0_firstFreeFor_15 rfl (by decide) ?_
      refine r_getR (t := 2) d_X0_firstFreeFor_16 fk_RX0_23 sh_7 rfl (by decide) (R 7 rfl) ?_
      refine r_getR (t := 3) d_X0_firstFreeFor_19 fk_RX0_38 sh_2 rfl (by decide) (R 2 rfl) ?_
      refine r_iload_n d_X0_firstFreeFor_22 rfl ?_
      refine c_callNPi (as := [(11, 0), (0, a3)]) (rest := []) (ls' := [(11, 0), (0, a3)]) d_X0_firstFreeFor_23 ck_RX0_47 rfl rfl rfl (Nat.le_of_ble_eq_true rfl) (Nat.le_of_ble_eq_true rfl) (by decide) rfl rfl (fun Ψ hΨ => run_pH_read sh_3 (by decide) (R 3 rfl) (by decide) _ rfl hΨ) ?_
      show Run Γ rg κ Y_X0_firstFreeFor 26 [(15, 0), (0, a1), (0, a2), (0, a3), (5, 0)] [(0, (rd 1024 3 a3 D))] D Φ
      refine c_lt d_X0_firstFreeFor_26 (by decide) rfl h (fun x1 h => ?_)
      show Run Γ rg κ Y_X0_firstFreeFor 28 [(15, 0), (0, a1), (0, a2), (0, a3), (0, x1)] [] D Φ
      refine r_iload d_X0_firstFreeFor_28 rfl ?_
      refine r_ineg d_X0_firstFreeFor_30 ?_
      refine r_iload_n d_X0_firstFreeFor_31 rfl ?_
      refine c_icmp_lt (tgt := 37) d_X0_firstFreeFor_32 (by decide) (nz_w _) (nz_w _) h (fun h => ?_) (fun h => ?_)
      · skip
        show Run Γ rg κ Y_X0_firstFreeFor 37 [(15, 0), (0, a1), (0, a2), (0, a3), (0, x1)] [] D Φ
        refine r_iload_n d_X0_firstFreeFor_37 rfl ?_
        refine r_iconst d_X0_firstFreeFor_38 ?_
        refine r_iload d_X0_firstFreeFor_39 rfl ?_
        refine c_mabs d_X0_firstFreeFor_41 mx_RX0_76 (Nat.le_of_ble_eq_true rfl) (by decide) ?_
        refine c_mmax d_X0_firstFreeFor_44 mx_RX0_70 (Nat.le_of_ble_eq_true rfl) (by decide) ?_
        refine r_iadd d_X0_firstFreeFor_47 ?_
        refine c_lt_n d_X0_firstFreeFor_48 (by decide) rfl h (fun x2 h => ?_)
        show Run Γ rg κ Y_X0_firstFreeFor 49 [(15, 0), (0, a1), (0, a2), (0, x2), (0, x1)] [] D Φ
        refine r_goto (tgt := 10) d_X0_firstFreeFor_49 (by decide) ?_
        exact Run.forget (ls' := [(15, 0), (0, a1), (0, a2), (0, x2), (5, 0)]) ⟨Or.inr rfl, Or.inr rfl, Or.inr rfl, Or.inr rfl, Or.inl rfl, trivial⟩ (ih x2 D h)
      · skip
        show Run Γ rg κ Y_X0_firstFreeFor 35 [(15, 0), (0, a1), (0, a2), (0, a3), (0, x1)] [] D Φ
        refine r_iload_n d_X0_firstFreeFor_35 rfl ?_
        exact c_iret d_X0_firstFreeFor_36 rfl h
set_option maxRecDepth 20000 in
theorem run_pC_firstFreeFor {Γ : GG} {rg : Nat → Bool} {κ : Nat} {Φ : OT → DD → Prop} (R : cov rg rg0) (p1 : Int) {D : DD} (h : WP (some .int) κ Φ (pC_firstFreeFor p1 D)) : Run Γ rg κ Y_X0_firstFreeFor 0 [(15, 0), (0, p1), (5, 0), (5, 0), (5, 0)] [] D Φ := by
  unfold pC_firstFreeFor at h
  show Run Γ rg κ Y_X0_firstFreeFor 0 [(15, 0), (0, p1), (5, 0), (5, 0), (5, 0)] [] D Φ
  refine r_aload_n d_X0_firstFreeFor_0 rfl (by decide) ?_
  refine r_getR (t := 2) d_X0_firstFreeFor_1 fk_RX0_23 sh_7 rfl (by decide) (R 7 rfl) ?_
  refine c_callVPi (a := 2) (z := 0) (as := []) (rest := []) (ls' := [(10, 0)]) d_X0_firstFreeFor_4 ck_RX0_66 rfl sh_2 rfl (by decide) (R 2 rfl) rfl rfl (Nat.le_of_ble_eq_true rfl) (Nat.le_of_ble_eq_true rfl) (by decide) rfl rfl (fun Ψ hΨ => run_pI_end R rfl hΨ) ?_
  show Run Γ rg κ Y_X0_firstFreeFor 7 [(15, 0), (0, p1), (5, 0), (5, 0), (5, 0)] [(0, (pI_end D))] D Φ
  refine c_lt_n d_X0_firstFreeFor_7 (by decide) rfl h (fun x1 h => ?_)
  show Run Γ rg κ Y_X0_firstFreeFor 8 [(15, 0), (0, p1), (0, x1), (5, 0), (5, 0)] [] D Φ
  refine r_iconst d_X0_firstFreeFor_8 ?_
  refine r_istore_n d_X0_firstFreeFor_9 (by decide) rfl ?_
  show Run Γ rg κ Y_X0_firstFreeFor 10 [(15, 0), (0, p1), (0, x1), (0, 4), (5, 0)] [] D Φ
  exact run_pC_firstFreeFor_10 R p1 x1 fu 4 D h
set_option maxRecDepth 20000 in
theorem run_pC_cellAhead_4 {Γ : GG} {rg : Nat → Bool} {κ : Nat} {Φ : OT → DD → Prop} (R : cov rg rg0) : ∀ (n : Nat) (a2 : Int) (D : DD), WP (some .int) κ Φ (pC_cellAhead_4 n a2 D) → Run Γ rg κ Y_X0_cellAhead 4 [(15, 0), (5, 0), (0, a2)] [] D Φ := by
  intro n
  induction n with
  | zero => intro a2 D h; exact h.no.elim
  | succ n ih =>
    intro a2 D h
    rw [pC_cellAhead_4] at h
    show Run Γ rg κ Y_X0_cellAhead 4 [(15, 0), (5, 0), (0, a2)] [] D Φ
    refine r_iload_n d_X0_cellAhead_4 rfl ?_
    refine r_iconst d_X0_cellAhead_5 ?_
    refine c_icmp_lt (tgt := 31) d_X0_cellAhead_6 (by decide) (nz_w _) (nz_k rfl) h (fun h => ?_) (fun h => ?_)
    · skip
      show Run Γ rg κ Y_X0_cellAhead 31 [(15, 0), (5, 0), (0, a2)] [] D Φ
      refine r_iconst d_X0_cellAhead_31 ?_
      exact c_iret d_X0_cellAhead_32 rfl h
    · skip
      show Run Γ rg κ Y_X0_cellAhead 9 [(15, 0), (5, 0), (0, a2)] [] D Φ
      refine r_aload_n d_X0_cellAhead_9 rfl (by decide) ?_
      refine r_getR (t := 2) d_X0_cellAhead_10 fk_RX0_23 sh_7 rfl (by decide) (R 7 rfl) ?_
      refine r_getR (t := 3) d_X0_cellAhead_13 fk_RX0_38 sh_2 rfl (by decide) (R 2 rfl) ?_
      refine r_iload_n d_X0_cellAhead_16 rfl ?_
      refine c_callNPi (as := [(11, 0), (0, a2)]) (rest := []) (ls' := [(11, 0), (0, a2)]) d_X0_cellAhead_17 ck_RX0_47 rfl rfl rfl (Nat.le_of_ble_eq_true rfl) (Nat.le_of_ble_eq_true rfl) (by decide) rfl rfl (fun Ψ hΨ => run_pH_read sh_3 (by decide) (R 3 rfl) (by decide) _ rfl hΨ) ?_
      show Run Γ rg κ Y_X0_cellAhead 20 [(15, 0), (5, 0), (0, a2)] [(0, (rd 1024 3 a2 D))] D Φ
      refine c_if_eq (tgt := 25) d_X0_cellAhead_20 (by decide) (nz_w _) h (fun h => ?_) (fun h => ?_)
      · skip
        show Run Γ rg κ Y_X0_cellAhead 25 [(15, 0), (5, 0), (0, a2)] [] D Φ
        refine r_iinc d_X0_cellAhead_25 rfl (by decide) rfl ?_
        show Run Γ rg κ Y_X0_cellAhead 28 [(15, 0), (5, 0), (0, (a2 + (-1)))] [] D Φ
        refine r_goto (tgt := 4) d_X0_cellAhead_28 (by decide) ?_
        exact (ih (a2 + (-1)) D h)
      · skip
        show Run Γ rg κ Y_X0_cellAhead 23 [(15, 0), (5, 0), (0, a2)] [] D Φ
        refine r_iload_n d_X0_cellAhead_23 rfl ?_
        exact c_iret d_X0_cellAhead_24 rfl h
set_option maxRecDepth 20000 in
theorem run_pC_cellAhead {Γ : GG} {rg : Nat → Bool} {κ : Nat} {Φ : OT → DD → Prop} (R : cov rg rg0) (p1 : Int) {D : DD} (h : WP (some .int) κ Φ (pC_cellAhead p1 D)) : Run Γ rg κ Y_X0_cellAhead 0 [(15, 0), (0, p1), (5, 0)] [] D Φ := by
  unfold pC_cellAhead at h
  show Run Γ rg κ Y_X0_cellAhead 0 [(15, 0), (0, p1), (5, 0)] [] D Φ
  refine r_iload_n d_X0_cellAhead_0 rfl ?_
  refine r_iconst d_X0_cellAhead_1 ?_
  refine r_isub d_X0_cellAhead_2 ?_
  refine c_lt_n d_X0_cellAhead_3 (by decide) rfl h (fun x1 h => ?_)
  show Run Γ rg κ Y_X0_cellAhead 4 [(15, 0), (0, p1), (0, x1)] [] D Φ
  refine Run.forget (ls' := [(15, 0), (5, 0), (0, x1)]) ⟨Or.inr rfl, Or.inl rfl, Or.inr rfl, trivial⟩ ?_
  exact run_pC_cellAhead_4 R fu x1 D h
set_option maxRecDepth 20000 in
theorem run_pC_addSector {Γ : GG} {rg : Nat → Bool} {κ : Nat} {Φ : OT → DD → Prop} (R : cov rg rg0) {D : DD} (h : WP none κ Φ (pC_addSector D)) : Run Γ rg κ Y_X0_addSector 0 [(15, 0), (5, 0), (5, 0), (5, 0)] [] D Φ := by
  unfold pC_addSector at h
  show Run Γ rg κ Y_X0_addSector 0 [(15, 0), (5, 0), (5, 0), (5, 0)] [] D Φ
  refine r_aload_n d_X0_addSector_0 rfl (by decide) ?_
  refine r_getR (t := 2) d_X0_addSector_1 fk_RX0_23 sh_7 rfl (by decide) (R 7 rfl) ?_
  refine c_callVPi (a := 2) (z := 0) (as := []) (rest := []) (ls' := [(10, 0)]) d_X0_addSector_4 ck_RX0_66 rfl sh_2 rfl (by decide) (R 2 rfl) rfl rfl (Nat.le_of_ble_eq_true rfl) (Nat.le_of_ble_eq_true rfl) (by decide) rfl rfl (fun Ψ hΨ => run_pI_end R rfl hΨ) ?_
  show Run Γ rg κ Y_X0_addSector 7 [(15, 0), (5, 0), (5, 0), (5, 0)] [(0, (pI_end D))] D Φ
  refine c_lt_n d_X0_addSector_7 (by decide) rfl h (fun x1 h => ?_)
  show Run Γ rg κ Y_X0_addSector 8 [(15, 0), (0, x1), (5, 0), (5, 0)] [] D Φ
  refine r_aload_n d_X0_addSector_8 rfl (by decide) ?_
  refine r_iload_n d_X0_addSector_9 rfl ?_
  refine c_callVi (t' := (some .int)) (a := 7) (z := 0) (as := [(0, x1)]) (rest := []) (ls' := [(15, 0), (0, x1), (5, 0)]) d_X0_addSector_10 ck_RX0_59 rfl sh_7 rfl (by decide) (R 7 rfl) rfl rfl (Nat.le_of_ble_eq_true rfl) (Nat.le_of_ble_eq_true rfl) (by decide) rfl rfl (fun _ => rfl) (fun κ' Ψ hΨ => run_pC_cellAhead R _ hΨ) h (fun v1 D1 h => ?_)
  show Run Γ rg κ Y_X0_addSector 13 [(15, 0), (0, x1), (5, 0), (5, 0)] [(0, v1)] D1 Φ
  refine r_istore_n d_X0_addSector_13 (by decide) rfl ?_
  show Run Γ rg κ Y_X0_addSector 14 [(15, 0), (0, x1), (0, v1), (5, 0)] [] D1 Φ
  refine r_aload_n d_X0_addSector_14 rfl (by decide) ?_
  refine r_getR (t := 2) d_X0_addSector_15 fk_RX0_23 sh_7 rfl (by decide) (R 7 rfl) ?_
  refine r_getR (t := 3) d_X0_addSector_18 fk_RX0_38 sh_2 rfl (by decide) (R 2 rfl) ?_
  show Run Γ rg κ Y_X0_addSector 21 [(15, 0), (0, x1), (0, v1), (5, 0)] [(11, 0)] D1 Φ
  refine r_iload_n d_X0_addSector_21 rfl ?_
  refine c_callNPi (as := [(11, 0), (0, v1)]) (rest := []) (ls' := [(11, 0), (0, v1)]) d_X0_addSector_22 ck_RX0_47 rfl rfl rfl (Nat.le_of_ble_eq_true rfl) (Nat.le_of_ble_eq_true rfl) (by decide) rfl rfl (fun Ψ hΨ => run_pH_read sh_3 (by decide) (R 3 rfl) (by decide) _ rfl hΨ) ?_
  show Run Γ rg κ Y_X0_addSector 25 [(15, 0), (0, x1), (0, v1), (5, 0)] [(0, (rd 1024 3 v1 D1))] D1 Φ
  refine c_jn (fun J => ∀ (x2 : Int) (D2 : DD), WP none κ Φ (J x2 D2) → Run Γ rg κ Y_X0_addSector 33 [(15, 0), (0, x1), (5, 0), (5, 0)] [(0, x2)] D2 Φ) h ?_ (fun J1 hJ1 h => ?_)
  · intro x2 D2 h
    show Run Γ rg κ Y_X0_addSector 33 [(15, 0), (0, x1), (5, 0), (5, 0)] [(0, x2)] D2 Φ
    refine r_istore_n d_X0_addSector_33 (by decide) rfl ?_
    show Run Γ rg κ Y_X0_addSector 34 [(15, 0), (0, x1), (5, 0), (0, x2)] [] D2 Φ
    refine r_aload_n d_X0_addSector_34 rfl (by decide) ?_
    refine r_getR (t := 2) d_X0_addSector_35 fk_RX0_23 sh_7 rfl (by decide) (R 7 rfl) ?_
    refine r_getR (t := 3) d_X0_addSector_38 fk_RX0_38 sh_2 rfl (by decide) (R 2 rfl) ?_
    refine r_iload_n d_X0_addSector_41 rfl ?_
    refine r_iload_n d_X0_addSector_42 rfl ?_
    refine r_iload_n d_X0_addSector_43 rfl ?_
    refine r_isub d_X0_addSector_44 ?_
    refine r_bipush d_X0_addSector_45 (by decide) ?_
    refine r_isub d_X0_addSector_47 ?_
    refine c_callND (as := [(11, 0), (0, x2), (0, ((x2 - x1) - 16))]) (rest := []) (ls' := [(11, 0), (0, x2), (0, ((x2 - x1) - 16))]) d_X0_addSector_48 ck_RX0_31 rfl rfl rfl (Nat.le_of_ble_eq_true rfl) (Nat.le_of_ble_eq_true rfl) (by decide) rfl rfl (fun Ψ hΨ => run_pH_store sh_3 (by decide) (R 3 rfl) (by decide) _ _ hΨ) h (fun D3 h => ?_)
    show Run Γ rg κ Y_X0_addSector 51 [(15, 0), (0, x1), (5, 0), (0, x2)] [] D3 Φ
    show Run Γ rg κ Y_X0_addSector 51 [(15, 0), (0, x1), (5, 0), (0, x2)] [] D3 Φ
    refine r_aload_n d_X0_addSector_51 rfl (by decide) ?_
    refine r_getR (t := 2) d_X0_addSector_52 fk_RX0_23 sh_7 rfl (by decide) (R 7 rfl) ?_
    refine r_dup d_X0_addSector_55 (by decide) ?_
    refine r_getI d_X0_addSector_56 fk_RX0_35 sh_2 rfl (by decide) (by decide) (R 2 rfl) ?_
    refine r_iconst d_X0_addSector_59 ?_
    refine r_iadd d_X0_addSector_60 ?_
    refine c_putI (k := 4) d_X0_addSector_61 pk_RX0_35 sh_2 rfl (by decide) (R 2 rfl) h (fun D4 h => ?_)
    exact c_vret d_X0_addSector_64 rfl h
  refine c_if_ge (tgt := 32) d_X0_addSector_25 (by decide) (nz_w _) h (fun h => ?_) (fun h => ?_)
  · skip
    show Run Γ rg κ Y_X0_addSector 32 [(15, 0), (0, x1), (0, v1), (5, 0)] [] D1 Φ
    refine r_iload_n d_X0_addSector_32 rfl ?_
    exact Run.forget (ls' := [(15, 0), (0, x1), (5, 0), (5, 0)]) ⟨Or.inr rfl, Or.inr rfl, Or.inl rfl, Or.inr rfl, trivial⟩ (hJ1 x1 D1 h)
  · skip
    show Run Γ rg κ Y_X0_addSector 28 [(15, 0), (0, x1), (0, v1), (5, 0)] [] D1 Φ
    refine r_iload_n d_X0_addSector_28 rfl ?_
    refine r_goto (tgt := 33) d_X0_addSector_29 (by decide) ?_
    exact Run.forget (ls' := [(15, 0), (0, x1), (5, 0), (5, 0)]) ⟨Or.inr rfl, Or.inr rfl, Or.inl rfl, Or.inr rfl, trivial⟩ (hJ1 v1 D1 h)
set_option maxRecDepth 20000 in
theorem run_pC_getCell_14 {Γ : GG} {rg : Nat → Bool} {κ : Nat} {Φ : OT → DD → Prop} (R : cov rg rg0) (a1 : Int) {K : Int → DD → Res} (hK : ∀ (z2 : Int) (D : DD), WP (some .int) κ Φ (K z2 D) → Run Γ rg κ Y_X0_getCell 40 [(15, 0), (0, a1), (0, z2), (5, 0)] [] D Φ) : ∀ (n : Nat) (a2 : Int) (a3 : Int) (D : DD), WP (some .int) κ Φ (pC_getCell_14 a1 n a2 a3 D K) → Run Γ rg κ Y_X0_getCell 14 [(15, 0), (0, a1), (0, a2), (0, a3)] [] D Φ := by
  intro n
  induction n with
  | zero => intro a2 a3 D h; exact h.no.elim
  | succ n ih =>
    intro a2 a3 D h
    rw [pC_getCell_14] at h
    show Run Γ rg κ Y_X0_getCell 14 [(15, 0), (0, a1), (0, a2), (0, a3)] [] D Φ
    refine r_iload_n d_X0_getCell_14 rfl ?_
    refine r_bipush d_X0_getCell_15 (by decide) ?_
    refine c_icmp_ge (tgt := 40) d_X0_getCell_17 (by decide) (nz_w _) (nz_k rfl) h (fun h => ?_) (fun h => ?_)
    · skip
      exact Run.forget (ls' := [(15, 0), (0, a1), (0, a2), (5, 0)]) ⟨Or.inr rfl, Or.inr rfl, Or.inr rfl, Or.inl rfl, trivial⟩ (hK a2 D h)
    · skip
      show Run Γ rg κ Y_X0_getCell 20 [(15, 0), (0, a1), (0, a2), (0, a3)] [] D Φ
      refine r_iload_n d_X0_getCell_20 rfl ?_
      refine c_if_ne (tgt := 40) d_X0_getCell_21 (by decide) (nz_w _) h (fun h => ?_) (fun h => ?_)
      · skip
        exact Run.forget (ls' := [(15, 0), (0, a1), (0, a2), (5, 0)]) ⟨Or.inr rfl, Or.inr rfl, Or.inr rfl, Or.inl rfl, trivial⟩ (hK a2 D h)
      · skip
        show Run Γ rg κ Y_X0_getCell 24 [(15, 0), (0, a1), (0, a2), (0, a3)] [] D Φ
        refine r_aload_n d_X0_getCell_24 rfl (by decide) ?_
        refine c_callVv (a := 7) (z := 0) (as := []) (rest := []) (ls' := [(15, 0), (5, 0), (5, 0), (5, 0)]) d_X0_getCell_25 ck_RX0_82 rfl sh_7 rfl (by decide) (R 7 rfl) rfl rfl (Nat.le_of_ble_eq_true rfl) (Nat.le_of_ble_eq_true rfl) (by decide) rfl rfl (fun κ' Ψ hΨ => run_pC_addSector R hΨ) h (fun _ D1 h => ?_)
        show Run Γ rg κ Y_X0_getCell 28 [(15, 0), (0, a1), (0, a2), (0, a3)] [] D1 Φ
        refine r_aload_n d_X0_getCell_28 rfl (by decide) ?_
        refine r_iload_n d_X0_getCell_29 rfl ?_
        refine c_callVi (t' := (some .int)) (a := 7) (z := 0) (as := [(0, a1)]) (rest := []) (ls' := [(15, 0), (0, a1), (5, 0), (5, 0), (5, 0)]) d_X0_getCell_30 ck_RX0_79 rfl sh_7 rfl (by decide) (R 7 rfl) rfl rfl (Nat.le_of_ble_eq_true rfl) (Nat.le_of_ble_eq_true rfl) (by decide) rfl rfl (fun _ => rfl) (fun κ' Ψ hΨ => run_pC_firstFreeFor R _ hΨ) h (fun v1 D2 h => ?_)
        show Run Γ rg κ Y_X0_getCell 33 [(15, 0), (0, a1), (0, a2), (0, a3)] [(0, v1)] D2 Φ
        refine r_istore_n d_X0_getCell_33 (by decide) rfl ?_
        show Run Γ rg κ Y_X0_getCell 34 [(15, 0), (0, a1), (0, v1), (0, a3)] [] D2 Φ
        refine r_iinc d_X0_getCell_34 rfl (by decide) rfl ?_
        show Run Γ rg κ Y_X0_getCell 37 [(15, 0), (0, a1), (0, v1), (0, (a3 + 1))] [] D2 Φ
        refine r_goto (tgt := 14) d_X0_getCell_37 (by decide) ?_
        exact (ih v1 (a3 + 1) D2 h)
set_option maxRecDepth 20000 in
theorem run_pC_getCell {Γ : GG} {rg : Nat → Bool} {κ : Nat} {Φ : OT → DD → Prop} (R : cov rg rg0) (p1 : Int) {D : DD} (h : WP (some .int) κ Φ (pC_getCell p1 D)) : Run Γ rg κ Y_X0_getCell 0 [(15, 0), (0, p1), (5, 0), (5, 0)] [] D Φ := by
  unfold pC_getCell at h
  show Run Γ rg κ Y_X0_getCell 0 [(15, 0), (0, p1), (5, 0), (5, 0)] [] D Φ
  refine r_aload_n d_X0_getCell_0 rfl (by decide) ?_
  refine r_iload_n d_X0_getCell_1 rfl ?_
  refine c_callVi (t' := (some .int)) (a := 7) (z := 0) (as := [(0, p1)]) (rest := []) (ls' := [(15, 0), (0, p1), (5, 0), (5, 0), (5, 0)]) d_X0_getCell_2 ck_RX0_79 rfl sh_7 rfl (by decide) (R 7 rfl) rfl rfl (Nat.le_of_ble_eq_true rfl) (Nat.le_of_ble_eq_true rfl) (by decide) rfl rfl (fun _ => rfl) (fun κ' Ψ hΨ => run_pC_firstFreeFor R _ hΨ) h (fun v1 D1 h => ?_)
  show Run Γ rg κ Y_X0_getCell 5 [(15, 0), (0, p1), (5, 0), (5, 0)] [(0, v1)] D1 Φ
  refine r_istore_n d_X0_getCell_5 (by decide) rfl ?_
  show Run Γ rg κ Y_X0_getCell 6 [(15, 0), (0, p1), (0, v1), (5, 0)] [] D1 Φ
  refine r_aload_n d_X0_getCell_6 rfl (by decide) ?_
  refine r_getR (t := 2) d_X0_getCell_7 fk_RX0_23 sh_7 rfl (by decide) (R 7 rfl) ?_
  refine r_getI d_X0_getCell_10 fk_RX0_35 sh_2 rfl (by decide) (by decide) (R 2 rfl) ?_
  refine c_lt_n d_X0_getCell_13 (by decide) rfl h (fun x1 h => ?_)
  show Run Γ rg κ Y_X0_getCell 14 [(15, 0), (0, p1), (0, v1), (0, x1)] [] D1 Φ
  refine run_pC_getCell_14 R p1 ?_ fu v1 x1 D1 h
  intro x2 D2 h
  show Run Γ rg κ Y_X0_getCell 40 [(15, 0), (0, p1), (0, x2), (5, 0)] [] D2 Φ
  refine r_iload_n d_X0_getCell_40 rfl ?_
  refine c_if_eq (tgt := 88) d_X0_getCell_41 (by decide) (nz_w _) h (fun h => ?_) (fun h => ?_)
  · skip
    show Run Γ rg κ Y_X0_getCell 88 [(15, 0), (0, p1), (0, x2), (5, 0)] [] D2 Φ
    refine r_iload_n d_X0_getCell_88 rfl ?_
    exact c_iret d_X0_getCell_89 rfl h
  · skip
    show Run Γ rg κ Y_X0_getCell 44 [(15, 0), (0, p1), (0, x2), (5, 0)] [] D2 Φ
    refine r_aload_n d_X0_getCell_44 rfl (by decide) ?_
    refine r_getR (t := 2) d_X0_getCell_45 fk_RX0_23 sh_7 rfl (by decide) (R 7 rfl) ?_
    refine r_getR (t := 3) d_X0_getCell_48 fk_RX0_38 sh_2 rfl (by decide) (R 2 rfl) ?_
    refine r_iload_n d_X0_getCell_51 rfl ?_
    refine c_callNPi (as := [(11, 0), (0, x2)]) (rest := []) (ls' := [(11, 0), (0, x2)]) d_X0_getCell_52 ck_RX0_47 rfl rfl rfl (Nat.le_of_ble_eq_true rfl) (Nat.le_of_ble_eq_true rfl) (by decide) rfl rfl (fun Ψ hΨ => run_pH_read sh_3 (by decide) (R 3 rfl) (by decide) _ rfl hΨ) ?_
    show Run Γ rg κ Y_X0_getCell 55 [(15, 0), (0, p1), (0, x2), (5, 0)] [(0, (rd 1024 3 x2 D2))] D2 Φ
    refine r_iload_n d_X0_getCell_55 rfl ?_
    refine r_iadd d_X0_getCell_56 ?_
    refine c_lt_n d_X0_getCell_57 (by decide) rfl h (fun x3 h => ?_)
    show Run Γ rg κ Y_X0_getCell 58 [(15, 0), (0, p1), (0, x2), (0, x3)] [] D2 Φ
    refine r_iload_n d_X0_getCell_58 rfl ?_
    refine c_jn (fun J => ∀ (D3 : DD), WP (some .int) κ Φ (J D3) → Run Γ rg κ Y_X0_getCell 76 [(15, 0), (0, p1), (0, x2), (5, 0)] [] D3 Φ) h ?_ (fun J1 hJ1 h => ?_)
    · intro D3 h
      show Run Γ rg κ Y_X0_getCell 76 [(15, 0), (0, p1), (0, x2), (5, 0)] [] D3 Φ
      refine r_aload_n d_X0_getCell_76 rfl (by decide) ?_
      refine r_getR (t := 2) d_X0_getCell_77 fk_RX0_23 sh_7 rfl (by decide) (R 7 rfl) ?_
      refine r_getR (t := 3) d_X0_getCell_80 fk_RX0_38 sh_2 rfl (by decide) (R 2 rfl) ?_
      refine r_iload_n d_X0_getCell_83 rfl ?_
      refine r_iload_n d_X0_getCell_84 rfl ?_
      refine c_callND (as := [(11, 0), (0, x2), (0, p1)]) (rest := []) (ls' := [(11, 0), (0, x2), (0, p1)]) d_X0_getCell_85 ck_RX0_31 rfl rfl rfl (Nat.le_of_ble_eq_true rfl) (Nat.le_of_ble_eq_true rfl) (by decide) rfl rfl (fun Ψ hΨ => run_pH_store sh_3 (by decide) (R 3 rfl) (by decide) _ _ hΨ) h (fun D4 h => ?_)
      show Run Γ rg κ Y_X0_getCell 88 [(15, 0), (0, p1), (0, x2), (5, 0)] [] D4 Φ
      refine r_iload_n d_X0_getCell_88 rfl ?_
      exact c_iret d_X0_getCell_89 rfl h
    refine c_if_ge (tgt := 76) d_X0_getCell_59 (by decide) (nz_w _) h (fun h => ?_) (fun h => ?_)
    · skip
      exact Run.forget (ls' := [(15, 0), (0, p1), (0, x2), (5, 0)]) ⟨Or.inr rfl, Or.inr rfl, Or.inr rfl, Or.inl rfl, trivial⟩ (hJ1 D2 h)
    · skip
      show Run Γ rg κ Y_X0_getCell 62 [(15, 0), (0, p1), (0, x2), (0, x3)] [] D2 Φ
      refine r_aload_n d_X0_getCell_62 rfl (by decide) ?_
      refine r_getR (t := 2) d_X0_getCell_63 fk_RX0_23 sh_7 rfl (by decide) (R 7 rfl) ?_
      refine r_getR (t := 3) d_X0_getCell_66 fk_RX0_38 sh_2 rfl (by decide) (R 2 rfl) ?_
      refine r_iload_n d_X0_getCell_69 rfl ?_
      refine r_iload_n d_X0_getCell_70 rfl ?_
      refine r_iadd d_X0_getCell_71 ?_
      refine r_iload_n d_X0_getCell_72 rfl ?_
      refine c_callND (as := [(11, 0), (0, (x2 + p1)), (0, x3)]) (rest := []) (ls' := [(11, 0), (0, (x2 + p1)), (0, x3)]) d_X0_getCell_73 ck_RX0_31 rfl rfl rfl (Nat.le_of_ble_eq_true rfl) (Nat.le_of_ble_eq_true rfl) (by decide) rfl rfl (fun Ψ hΨ => run_pH_store sh_3 (by decide) (R 3 rfl) (by decide) _ _ hΨ) h (fun D5 h => ?_)
      show Run Γ rg κ Y_X0_getCell 76 [(15, 0), (0, p1), (0, x2), (0, x3)] [] D5 Φ
      exact Run.forget (ls' := [(15, 0), (0, p1), (0, x2), (5, 0)]) ⟨Or.inr rfl, Or.inr rfl, Or.inr rfl, Or.inl rfl, trivial⟩ (hJ1 D5 h)
set_option maxRecDepth 20000 in
theorem run_pC_getAllWanted_31 {Γ : GG} {rg : Nat → Bool} {κ : Nat} {Φ : OT → DD → Prop} (R : cov rg rg0) (c1 : Int) {K1 : DD → Res} {K2 : DD → Res} (hK0 : ∀ (D : DD), WP (some .boolean) κ Φ (K1 D) → Run Γ rg κ Y_X0_getAllWanted 102 [(15, 0), (5, 0), (5, 0), (5, 0)] [] D Φ) (hK1 : ∀ (D : DD), WP (some .boolean) κ Φ (K2 D) → Run Γ rg κ Y_X0_getAllWanted 56 [(15, 0), (0, c1), (5, 0), (5, 0)] [] D Φ) : ∀ (n : Nat) (a2 : Int) (D : DD), WP (some .boolean) κ Φ (pC_getAllWanted_31 n a2 D K1 K2) → Run Γ rg κ Y_X0_getAllWanted 31 [(15, 0), (0, c1), (0, a2), (5, 0)] [] D Φ := by
  intro n
  induction n with
  | zero => intro a2 D h; exact h.no.elim
  | succ n ih =>
    intro a2 D h
    rw [pC_getAllWanted_31] at h
    show Run Γ rg κ Y_X0_getAllWanted 31 [(15, 0), (0, c1), (0, a2), (5, 0)] [] D Φ
    refine r_iload_n d_X0_getAllWanted_31 rfl ?_
    refine r_aload_n d_X0_getAllWanted_32 rfl (by decide) ?_
    refine r_getI d_X0_getAllWanted_33 fk_RX0_27 sh_7 rfl (by decide) (by decide) (R 7 rfl) ?_
    refine c_icmp_ge (tgt := 102) d_X0_getAllWanted_36 (by decide) (nz_w _) (nz_w _) h (fun h => ?_) (fun h => ?_)
    · skip
      exact Run.forget (ls' := [(15, 0), (5, 0), (5, 0), (5, 0)]) ⟨Or.inr rfl, Or.inl rfl, Or.inl rfl, Or.inr rfl, trivial⟩ (hK0 D h)
    · skip
      show Run Γ rg κ Y_X0_getAllWanted 39 [(15, 0), (0, c1), (0, a2), (5, 0)] [] D Φ
      refine r_aload_n d_X0_getAllWanted_39 rfl (by decide) ?_
      refine r_aload_n d_X0_getAllWanted_40 rfl (by decide) ?_
      refine r_getR (t := 8) d_X0_getAllWanted_41 fk_RX0_11 sh_7 rfl (by decide) (R 7 rfl) ?_
      refine r_iload_n d_X0_getAllWanted_44 rfl ?_
      refine c_callNPi (as := [(16, 0), (0, a2)]) (rest := [(15, 0)]) (ls' := [(16, 0), (0, a2)]) d_X0_getAllWanted_45 ck_RX0_47 rfl rfl rfl (Nat.le_of_ble_eq_true rfl) (Nat.le_of_ble_eq_true rfl) (by decide) rfl rfl (fun Ψ hΨ => run_pH_read sh_8 (by decide) (R 8 rfl) (by decide) _ rfl hΨ) ?_
      show Run Γ rg κ Y_X0_getAllWanted 48 [(15, 0), (0, c1), (0, a2), (5, 0)] [(0, (rd 6 8 a2 D)), (15, 0)] D Φ
      refine c_callVi (t' := (some .int)) (a := 7) (z := 0) (as := [(0, (rd 6 8 a2 D))]) (rest := []) (ls' := [(15, 0), (0, (rd 6 8 a2 D)), (5, 0), (5, 0)]) d_X0_getAllWanted_48 ck_RX0_51 rfl sh_7 rfl (by decide) (R 7 rfl) rfl rfl (Nat.le_of_ble_eq_true rfl) (Nat.le_of_ble_eq_true rfl) (by decide) rfl rfl (fun _ => rfl) (fun κ' Ψ hΨ => run_pC_getCell R _ hΨ) h (fun v1 D1 h => ?_)
      show Run Γ rg κ Y_X0_getAllWanted 51 [(15, 0), (0, c1), (0, a2), (5, 0)] [(0, v1)] D1 Φ
      refine r_istore_n d_X0_getAllWanted_51 (by decide) rfl ?_
      show Run Γ rg κ Y_X0_getAllWanted 52 [(15, 0), (0, c1), (0, a2), (0, v1)] [] D1 Φ
      refine r_iload_n d_X0_getAllWanted_52 rfl ?_
      refine c_if_ne (tgt := 87) d_X0_getAllWanted_53 (by decide) (nz_w _) h (fun h => ?_) (fun h => ?_)
      · skip
        show Run Γ rg κ Y_X0_getAllWanted 87 [(15, 0), (0, c1), (0, a2), (0, v1)] [] D1 Φ
        refine r_aload_n d_X0_getAllWanted_87 rfl (by decide) ?_
        refine r_getR (t := 9) d_X0_getAllWanted_88 fk_RX0_15 sh_7 rfl (by decide) (R 7 rfl) ?_
        refine r_iload_n d_X0_getAllWanted_91 rfl ?_
        refine r_iload_n d_X0_getAllWanted_92 rfl ?_
        refine c_callND (as := [(17, 0), (0, a2), (0, v1)]) (rest := []) (ls' := [(17, 0), (0, a2), (0, v1)]) d_X0_getAllWanted_93 ck_RX0_31 rfl rfl rfl (Nat.le_of_ble_eq_true rfl) (Nat.le_of_ble_eq_true rfl) (by decide) rfl rfl (fun Ψ hΨ => run_pH_store sh_9 (by decide) (R 9 rfl) (by decide) _ _ hΨ) h (fun D2 h => ?_)
        show Run Γ rg κ Y_X0_getAllWanted 96 [(15, 0), (0, c1), (0, a2), (0, v1)] [] D2 Φ
        refine r_iinc d_X0_getAllWanted_96 rfl (by decide) rfl ?_
        show Run Γ rg κ Y_X0_getAllWanted 99 [(15, 0), (0, c1), (0, (a2 + 1)), (0, v1)] [] D2 Φ
        refine r_goto (tgt := 31) d_X0_getAllWanted_99 (by decide) ?_
        exact Run.forget (ls' := [(15, 0), (0, c1), (0, (a2 + 1)), (5, 0)]) ⟨Or.inr rfl, Or.inr rfl, Or.inr rfl, Or.inl rfl, trivial⟩ (ih (a2 + 1) D2 h)
      · skip
        exact Run.forget (ls' := [(15, 0), (0, c1), (5, 0), (5, 0)]) ⟨Or.inr rfl, Or.inr rfl, Or.inl rfl, Or.inl rfl, trivial⟩ (hK1 D1 h)
set_option maxRecDepth 20000 in
theorem run_pC_markWritten_24 {Γ : GG} {rg : Nat → Bool} {κ : Nat} {Φ : OT → DD → Prop} (R : cov rg rg0) (a2 : Int) : ∀ (n : Nat) (a3 : Int) (D : DD), WP none κ Φ (pC_markWritten_24 a2 n a3 D) → Run Γ rg κ Y_X0_markWritten 24 [(15, 0), (5, 0), (0, a2), (0, a3)] [] D Φ := by
  intro n
  induction n with
  | zero => intro a3 D h; exact h.no.elim
  | succ n ih =>
    intro a3 D h
    rw [pC_markWritten_24] at h
    show Run Γ rg κ Y_X0_markWritten 24 [(15, 0), (5, 0), (0, a2), (0, a3)] [] D Φ
    refine r_iload_n d_X0_markWritten_24 rfl ?_
    refine r_iload_n d_X0_markWritten_25 rfl ?_
    refine c_icmp_gt (tgt := 47) d_X0_markWritten_26 (by decide) (nz_w _) (nz_w _) h (fun h => ?_) (fun h => ?_)
    · skip
      show Run Γ rg κ Y_X0_markWritten 47 [(15, 0), (5, 0), (0, a2), (0, a3)] [] D Φ
      exact c_vret d_X0_markWritten_47 rfl h
    · skip
      show Run Γ rg κ Y_X0_markWritten 29 [(15, 0), (5, 0), (0, a2), (0, a3)] [] D Φ
      refine r_aload_n d_X0_markWritten_29 rfl (by decide) ?_
      refine r_dup d_X0_markWritten_30 (by decide) ?_
      refine r_getJ d_X0_markWritten_31 fk_RX0_62 sh_7 rfl (by decide) (R 7 rfl) ?_
      refine c_lconst d_X0_markWritten_34 rfl ?_
      refine r_iload_n d_X0_markWritten_35 rfl ?_
      refine c_lshl d_X0_markWritten_36 ?_
      refine c_lor d_X0_markWritten_37 ?_
      refine c_putJ (k := 5) d_X0_markWritten_38 pk_RX0_62 sh_7 rfl (by decide) (R 7 rfl) h (fun D1 h => ?_)
      refine r_iinc d_X0_markWritten_41 rfl (by decide) rfl ?_
      show Run Γ rg κ Y_X0_markWritten 44 [(15, 0), (5, 0), (0, a2), (0, (a3 + 1))] [] D1 Φ
      refine r_goto (tgt := 24) d_X0_markWritten_44 (by decide) ?_
      exact (ih (a3 + 1) D1 h)
set_option maxRecDepth 20000 in
theorem run_pC_markWritten {Γ : GG} {rg : Nat → Bool} {κ : Nat} {Φ : OT → DD → Prop} (R : cov rg rg0) (p1 : Int) {D : DD} (h : WP none κ Φ (pC_markWritten p1 D)) : Run Γ rg κ Y_X0_markWritten 0 [(15, 0), (0, p1), (5, 0), (5, 0)] [] D Φ := by
  unfold pC_markWritten at h
  show Run Γ rg κ Y_X0_markWritten 0 [(15, 0), (0, p1), (5, 0), (5, 0)] [] D Φ
  refine r_iload_n d_X0_markWritten_0 rfl ?_
  refine r_aload_n d_X0_markWritten_1 rfl (by decide) ?_
  refine r_getR (t := 2) d_X0_markWritten_2 fk_RX0_23 sh_7 rfl (by decide) (R 7 rfl) ?_
  refine r_getR (t := 3) d_X0_markWritten_5 fk_RX0_38 sh_2 rfl (by decide) (R 2 rfl) ?_
  refine r_iload_n d_X0_markWritten_8 rfl ?_
  refine c_callNPi (as := [(11, 0), (0, p1)]) (rest := [(0, p1)]) (ls' := [(11, 0), (0, p1)]) d_X0_markWritten_9 ck_RX0_47 rfl rfl rfl (Nat.le_of_ble_eq_true rfl) (Nat.le_of_ble_eq_true rfl) (by decide) rfl rfl (fun Ψ hΨ => run_pH_read sh_3 (by decide) (R 3 rfl) (by decide) _ rfl hΨ) ?_
  show Run Γ rg κ Y_X0_markWritten 12 [(15, 0), (0, p1), (5, 0), (5, 0)] [(0, (rd 1024 3 p1 D)), (0, p1)] D Φ
  refine r_iadd d_X0_markWritten_12 ?_
  refine r_iconst d_X0_markWritten_13 ?_
  refine r_isub d_X0_markWritten_14 ?_
  refine r_bipush d_X0_markWritten_15 (by decide) ?_
  refine c_idiv d_X0_markWritten_17 (nz_w _) ⟨by decide, by decide⟩ (by decide) ?_
  show Run Γ rg κ Y_X0_markWritten 18 [(15, 0), (0, p1), (5, 0), (5, 0)] [(0, (Int.tdiv (w32 ((p1 + (rd 1024 3 p1 D)) - 1)) 16))] D Φ
  refine c_lt_n d_X0_markWritten_18 (by decide) rfl h (fun x1 h => ?_)
  show Run Γ rg κ Y_X0_markWritten 19 [(15, 0), (0, p1), (0, x1), (5, 0)] [] D Φ
  refine r_iload_n d_X0_markWritten_19 rfl ?_
  refine r_bipush d_X0_markWritten_20 (by decide) ?_
  refine c_idiv d_X0_markWritten_22 (nz_w _) ⟨by decide, by decide⟩ (by decide) ?_
  refine c_lt_n d_X0_markWritten_23 (by decide) rfl h (fun x2 h => ?_)
  show Run Γ rg κ Y_X0_markWritten 24 [(15, 0), (0, p1), (0, x1), (0, x2)] [] D Φ
  refine Run.forget (ls' := [(15, 0), (5, 0), (0, x1), (0, x2)]) ⟨Or.inr rfl, Or.inl rfl, Or.inr rfl, Or.inr rfl, trivial⟩ ?_
  exact run_pC_markWritten_24 R x1 fu x2 D h
set_option maxRecDepth 20000 in
theorem run_pC_getAllWanted_104 {Γ : GG} {rg : Nat → Bool} {κ : Nat} {Φ : OT → DD → Prop} (R : cov rg rg0) : ∀ (n : Nat) (a2 : Int) (D : DD), WP (some .boolean) κ Φ (pC_getAllWanted_104 n a2 D) → Run Γ rg κ Y_X0_getAllWanted 104 [(15, 0), (5, 0), (0, a2), (5, 0)] [] D Φ := by
  intro n
  induction n with
  | zero => intro a2 D h; exact h.no.elim
  | succ n ih =>
    intro a2 D h
    rw [pC_getAllWanted_104] at h
    show Run Γ rg κ Y_X0_getAllWanted 104 [(15, 0), (5, 0), (0, a2), (5, 0)] [] D Φ
    refine r_iload_n d_X0_getAllWanted_104 rfl ?_
    refine r_aload_n d_X0_getAllWanted_105 rfl (by decide) ?_
    refine r_getI d_X0_getAllWanted_106 fk_RX0_27 sh_7 rfl (by decide) (by decide) (R 7 rfl) ?_
    refine c_icmp_ge (tgt := 130) d_X0_getAllWanted_109 (by decide) (nz_w _) (nz_w _) h (fun h => ?_) (fun h => ?_)
    · skip
      show Run Γ rg κ Y_X0_getAllWanted 130 [(15, 0), (5, 0), (0, a2), (5, 0)] [] D Φ
      refine r_iconst d_X0_getAllWanted_130 ?_
      exact c_zret d_X0_getAllWanted_131 rfl (Or.inr rfl) h
    · skip
      show Run Γ rg κ Y_X0_getAllWanted 112 [(15, 0), (5, 0), (0, a2), (5, 0)] [] D Φ
      refine r_aload_n d_X0_getAllWanted_112 rfl (by decide) ?_
      refine r_aload_n d_X0_getAllWanted_113 rfl (by decide) ?_
      refine r_getR (t := 9) d_X0_getAllWanted_114 fk_RX0_15 sh_7 rfl (by decide) (R 7 rfl) ?_
      refine r_iload_n d_X0_getAllWanted_117 rfl ?_
      refine c_callNPi (as := [(17, 0), (0, a2)]) (rest := [(15, 0)]) (ls' := [(17, 0), (0, a2)]) d_X0_getAllWanted_118 ck_RX0_47 rfl rfl rfl (Nat.le_of_ble_eq_true rfl) (Nat.le_of_ble_eq_true rfl) (by decide) rfl rfl (fun Ψ hΨ => run_pH_read sh_9 (by decide) (R 9 rfl) (by decide) _ rfl hΨ) ?_
      show Run Γ rg κ Y_X0_getAllWanted 121 [(15, 0), (5, 0), (0, a2), (5, 0)] [(0, (rd 6 9 a2 D)), (15, 0)] D Φ
      refine c_callVv (a := 7) (z := 0) (as := [(0, (rd 6 9 a2 D))]) (rest := []) (ls' := [(15, 0), (0, (rd 6 9 a2 D)), (5, 0), (5, 0)]) d_X0_getAllWanted_121 ck_RX0_55 rfl sh_7 rfl (by decide) (R 7 rfl) rfl rfl (Nat.le_of_ble_eq_true rfl) (Nat.le_of_ble_eq_true rfl) (by decide) rfl rfl (fun κ' Ψ hΨ => run_pC_markWritten R _ hΨ) h (fun _ D1 h => ?_)
      show Run Γ rg κ Y_X0_getAllWanted 124 [(15, 0), (5, 0), (0, a2), (5, 0)] [] D1 Φ
      refine r_iinc d_X0_getAllWanted_124 rfl (by decide) rfl ?_
      show Run Γ rg κ Y_X0_getAllWanted 127 [(15, 0), (5, 0), (0, (a2 + 1)), (5, 0)] [] D1 Φ
      refine r_goto (tgt := 104) d_X0_getAllWanted_127 (by decide) ?_
      exact (ih (a2 + 1) D1 h)
set_option maxRecDepth 20000 in
theorem run_pC_getAllWanted {Γ : GG} {rg : Nat → Bool} {κ : Nat} {Φ : OT → DD → Prop} (R : cov rg rg0) {D : DD} (h : WP (some .boolean) κ Φ (pC_getAllWanted D)) : Run Γ rg κ Y_X0_getAllWanted 0 [(15, 0), (5, 0), (5, 0), (5, 0)] [] D Φ := by
  unfold pC_getAllWanted at h
  show Run Γ rg κ Y_X0_getAllWanted 0 [(15, 0), (5, 0), (5, 0), (5, 0)] [] D Φ
  refine r_aload_n d_X0_getAllWanted_0 rfl (by decide) ?_
  refine r_getR (t := 2) d_X0_getAllWanted_1 fk_RX0_23 sh_7 rfl (by decide) (R 7 rfl) ?_
  refine r_getI d_X0_getAllWanted_4 fk_RX0_35 sh_2 rfl (by decide) (by decide) (R 2 rfl) ?_
  refine c_lt_n d_X0_getAllWanted_7 (by decide) rfl h (fun x1 h => ?_)
  show Run Γ rg κ Y_X0_getAllWanted 8 [(15, 0), (0, x1), (5, 0), (5, 0)] [] D Φ
  refine r_aload_n d_X0_getAllWanted_8 rfl (by decide) ?_
  refine r_getR (t := 2) d_X0_getAllWanted_9 fk_RX0_23 sh_7 rfl (by decide) (R 7 rfl) ?_
  refine r_getR (t := 3) d_X0_getAllWanted_12 fk_RX0_38 sh_2 rfl (by decide) (R 2 rfl) ?_
  refine r_iconst d_X0_getAllWanted_15 ?_
  refine r_aload_n d_X0_getAllWanted_16 rfl (by decide) ?_
  refine r_getR (t := 10) d_X0_getAllWanted_17 fk_RX0_20 sh_7 rfl (by decide) (R 7 rfl) ?_
  refine r_iconst d_X0_getAllWanted_20 ?_
  show Run Γ rg κ Y_X0_getAllWanted 21 [(15, 0), (0, x1), (5, 0), (5, 0)] [(0, 0), (18, 0), (0, 0), (11, 0)] D Φ
  refine r_aload_n d_X0_getAllWanted_21 rfl (by decide) ?_
  refine r_getR (t := 10) d_X0_getAllWanted_22 fk_RX0_20 sh_7 rfl (by decide) (R 7 rfl) ?_
  refine r_alen d_X0_getAllWanted_25 sh_10 (by decide) (R 10 rfl) ?_
  refine c_acopy (n := 1024) d_X0_getAllWanted_26 ak_RX0_41 sh_3 sh_10 (by decide) (by decide) (R 3 rfl) (R 10 rfl) (by decide) rfl (by decide) (by decide) (Nat.le_of_ble_eq_true rfl) (by decide) h (fun D1 h => ?_)
  refine r_iconst d_X0_getAllWanted_29 ?_
  refine r_istore_n d_X0_getAllWanted_30 (by decide) rfl ?_
  show Run Γ rg κ Y_X0_getAllWanted 31 [(15, 0), (0, x1), (0, 0), (5, 0)] [] D1 Φ
  refine run_pC_getAllWanted_31 R x1 ?_ ?_ fu 0 D1 h
  · intro D2 h
    show Run Γ rg κ Y_X0_getAllWanted 102 [(15, 0), (5, 0), (5, 0), (5, 0)] [] D2 Φ
    refine r_iconst d_X0_getAllWanted_102 ?_
    refine r_istore_n d_X0_getAllWanted_103 (by decide) rfl ?_
    show Run Γ rg κ Y_X0_getAllWanted 104 [(15, 0), (5, 0), (0, 0), (5, 0)] [] D2 Φ
    exact run_pC_getAllWanted_104 R fu 0 D2 h
  · intro D3 h
    show Run Γ rg κ Y_X0_getAllWanted 56 [(15, 0), (0, x1), (5, 0), (5, 0)] [] D3 Φ
    refine r_aload_n d_X0_getAllWanted_56 rfl (by decide) ?_
    refine r_getR (t := 2) d_X0_getAllWanted_57 fk_RX0_23 sh_7 rfl (by decide) (R 7 rfl) ?_
    refine r_iload_n d_X0_getAllWanted_60 rfl ?_
    refine c_putI (k := 4) d_X0_getAllWanted_61 pk_RX0_35 sh_2 rfl (by decide) (R 2 rfl) h (fun D4 h => ?_)
    refine r_aload_n d_X0_getAllWanted_64 rfl (by decide) ?_
    refine r_getR (t := 10) d_X0_getAllWanted_65 fk_RX0_20 sh_7 rfl (by decide) (R 7 rfl) ?_
    refine r_iconst d_X0_getAllWanted_68 ?_
    refine r_aload_n d_X0_getAllWanted_69 rfl (by decide) ?_
    refine r_getR (t := 2) d_X0_getAllWanted_70 fk_RX0_23 sh_7 rfl (by decide) (R 7 rfl) ?_
    refine r_getR (t := 3) d_X0_getAllWanted_73 fk_RX0_38 sh_2 rfl (by decide) (R 2 rfl) ?_
    refine r_iconst d_X0_getAllWanted_76 ?_
    show Run Γ rg κ Y_X0_getAllWanted 77 [(15, 0), (0, x1), (5, 0), (5, 0)] [(0, 0), (11, 0), (0, 0), (18, 0)] D4 Φ
    refine r_aload_n d_X0_getAllWanted_77 rfl (by decide) ?_
    refine r_getR (t := 10) d_X0_getAllWanted_78 fk_RX0_20 sh_7 rfl (by decide) (R 7 rfl) ?_
    refine r_alen d_X0_getAllWanted_81 sh_10 (by decide) (R 10 rfl) ?_
    refine c_acopy (n := 1024) d_X0_getAllWanted_82 ak_RX0_41 sh_10 sh_3 (by decide) (by decide) (R 10 rfl) (R 3 rfl) (by decide) rfl (by decide) (by decide) (Nat.le_of_ble_eq_true rfl) (by decide) h (fun D5 h => ?_)
    refine r_iconst d_X0_getAllWanted_85 ?_
    exact c_zret d_X0_getAllWanted_86 rfl (Or.inl rfl) h
set_option maxRecDepth 20000 in
theorem run_pC_got {Γ : GG} {rg : Nat → Bool} {κ : Nat} {Φ : OT → DD → Prop} (R : cov rg rg0) (p1 : Int) {D : DD} {x : Int} (h : EQx x (pC_got p1 D)) (hΦ : Φ (.inl (some (0, x))) D) : Run Γ rg κ Y_X0_got 0 [(15, 0), (0, p1)] [] D Φ := by
  unfold pC_got at h
  show Run Γ rg κ Y_X0_got 0 [(15, 0), (0, p1)] [] D Φ
  refine r_aload_n d_X0_got_0 rfl (by decide) ?_
  refine r_getR (t := 9) d_X0_got_1 fk_RX0_15 sh_7 rfl (by decide) (R 7 rfl) ?_
  refine r_iload_n d_X0_got_4 rfl ?_
  refine c_callNPi (as := [(17, 0), (0, p1)]) (rest := []) (ls' := [(17, 0), (0, p1)]) d_X0_got_5 ck_RX0_47 rfl rfl rfl (Nat.le_of_ble_eq_true rfl) (Nat.le_of_ble_eq_true rfl) (by decide) rfl rfl (fun Ψ hΨ => run_pH_read sh_9 (by decide) (R 9 rfl) (by decide) _ rfl hΨ) ?_
  show Run Γ rg κ Y_X0_got 8 [(15, 0), (0, p1)] [(0, (rd 6 9 p1 D))] D Φ
  exact e_iret d_X0_got_8 rfl h hΦ
set_option maxRecDepth 20000 in
theorem run_pI_putUnit {Γ : GG} {rg : Nat → Bool} {κ : Nat} {Φ : OT → DD → Prop} (R : cov rg rg0) (p1 : Int) (p2 : Int) {D : DD} (h : WPD Φ (pI_putUnit p1 p2 D)) : Run Γ rg κ Y_X2_putUnit 0 [(10, 0), (0, p1), (0, p2)] [] D Φ := by
  unfold pI_putUnit at h
  show Run Γ rg κ Y_X2_putUnit 0 [(10, 0), (0, p1), (0, p2)] [] D Φ
  refine r_aload_n d_X2_putUnit_0 rfl (by decide) ?_
  refine r_getR (t := 4) d_X2_putUnit_1 fk_RX2_15 sh_2 rfl (by decide) (R 2 rfl) ?_
  refine r_iload_n d_X2_putUnit_4 rfl ?_
  refine r_iload_n d_X2_putUnit_5 rfl ?_
  refine c_callND (as := [(12, 0), (0, p1), (0, p2)]) (rest := []) (ls' := [(12, 0), (0, p1), (0, p2)]) d_X2_putUnit_6 ck_RX2_31 rfl rfl rfl (Nat.le_of_ble_eq_true rfl) (Nat.le_of_ble_eq_true rfl) (by decide) rfl rfl (fun Ψ hΨ => run_pH_store sh_4 (by decide) (R 4 rfl) (by decide) _ _ hΨ) h (fun D1 h => ?_)
  show Run Γ rg κ Y_X2_putUnit 9 [(10, 0), (0, p1), (0, p2)] [] D1 Φ
  exact d_vret d_X2_putUnit_9 rfl h
set_option maxRecDepth 20000 in
theorem run_pI_setPlaceOfKey {Γ : GG} {rg : Nat → Bool} {κ : Nat} {Φ : OT → DD → Prop} (R : cov rg rg0) (p1 : Int) (p2 : Int) {D : DD} (h : WPD Φ (pI_setPlaceOfKey p1 p2 D)) : Run Γ rg κ Y_X2_setPlaceOfKey 0 [(10, 0), (0, p1), (0, p2)] [] D Φ := by
  unfold pI_setPlaceOfKey at h
  show Run Γ rg κ Y_X2_setPlaceOfKey 0 [(10, 0), (0, p1), (0, p2)] [] D Φ
  refine r_aload_n d_X2_setPlaceOfKey_0 rfl (by decide) ?_
  refine r_getR (t := 5) d_X2_setPlaceOfKey_1 fk_RX2_18 sh_2 rfl (by decide) (R 2 rfl) ?_
  refine r_iload_n d_X2_setPlaceOfKey_4 rfl ?_
  refine r_iload_n d_X2_setPlaceOfKey_5 rfl ?_
  refine c_callND (as := [(13, 0), (0, p1), (0, p2)]) (rest := []) (ls' := [(13, 0), (0, p1), (0, p2)]) d_X2_setPlaceOfKey_6 ck_RX2_31 rfl rfl rfl (Nat.le_of_ble_eq_true rfl) (Nat.le_of_ble_eq_true rfl) (by decide) rfl rfl (fun Ψ hΨ => run_pH_store sh_5 (by decide) (R 5 rfl) (by decide) _ _ hΨ) h (fun D1 h => ?_)
  show Run Γ rg κ Y_X2_setPlaceOfKey 9 [(10, 0), (0, p1), (0, p2)] [] D1 Φ
  exact d_vret d_X2_setPlaceOfKey_9 rfl h
set_option maxRecDepth 20000 in
theorem run_pH_enterKey {Γ : GG} {rg : Nat → Bool} {κ : Nat} {Φ : OT → DD → Prop} (R : cov rg rg0) (p1 : Int) (p2 : Int) (p3 : Int) (p4 : Int) {D : DD} (h : WPD Φ (pH_enterKey p1 p2 p3 p4 D)) : Run Γ rg κ Y_X7_enterKey 0 [(8, 0), (0, p1), (0, p2), (0, p3), (0, p4)] [] D Φ := by
  unfold pH_enterKey at h
  show Run Γ rg κ Y_X7_enterKey 0 [(8, 0), (0, p1), (0, p2), (0, p3), (0, p4)] [] D Φ
  refine r_aload_n d_X7_enterKey_0 rfl (by decide) ?_
  refine r_getR (t := 2) d_X7_enterKey_1 fk_RX7_21 sh_0 rfl (by decide) (R 0 rfl) ?_
  refine r_iload_n d_X7_enterKey_4 rfl ?_
  refine r_iconst d_X7_enterKey_5 ?_
  refine r_iadd d_X7_enterKey_6 ?_
  refine r_iload_n d_X7_enterKey_7 rfl ?_
  refine c_callVD (a := 2) (z := 0) (as := [(0, (p1 + 0)), (0, p2)]) (rest := []) (ls' := [(10, 0), (0, (p1 + 0)), (0, p2)]) d_X7_enterKey_8 ck_RX7_140 rfl sh_2 rfl (by decide) (R 2 rfl) rfl rfl (Nat.le_of_ble_eq_true rfl) (Nat.le_of_ble_eq_true rfl) (by decide) rfl rfl (fun Ψ hΨ => run_pI_putUnit R _ _ hΨ) h (fun D1 h => ?_)
  show Run Γ rg κ Y_X7_enterKey 11 [(8, 0), (0, p1), (0, p2), (0, p3), (0, p4)] [] D1 Φ
  refine r_aload_n d_X7_enterKey_11 rfl (by decide) ?_
  refine r_getR (t := 2) d_X7_enterKey_12 fk_RX7_21 sh_0 rfl (by decide) (R 0 rfl) ?_
  refine r_iload_n d_X7_enterKey_15 rfl ?_
  refine r_iconst d_X7_enterKey_16 ?_
  show Run Γ rg κ Y_X7_enterKey 17 [(8, 0), (0, p1), (0, p2), (0, p3), (0, p4)] [(0, 1), (0, p1), (10, 0)] D1 Φ
  refine r_iadd d_X7_enterKey_17 ?_
  refine r_iload_n d_X7_enterKey_18 rfl ?_
  refine c_callVD (a := 2) (z := 0) (as := [(0, (p1 + 1)), (0, p3)]) (rest := []) (ls' := [(10, 0), (0, (p1 + 1)), (0, p3)]) d_X7_enterKey_19 ck_RX7_140 rfl sh_2 rfl (by decide) (R 2 rfl) rfl rfl (Nat.le_of_ble_eq_true rfl) (Nat.le_of_ble_eq_true rfl) (by decide) rfl rfl (fun Ψ hΨ => run_pI_putUnit R _ _ hΨ) h (fun D2 h => ?_)
  show Run Γ rg κ Y_X7_enterKey 22 [(8, 0), (0, p1), (0, p2), (0, p3), (0, p4)] [] D2 Φ
  refine r_aload_n d_X7_enterKey_22 rfl (by decide) ?_
  refine r_getR (t := 2) d_X7_enterKey_23 fk_RX7_21 sh_0 rfl (by decide) (R 0 rfl) ?_
  refine r_iload_n d_X7_enterKey_26 rfl ?_
  refine r_iconst d_X7_enterKey_27 ?_
  refine r_iadd d_X7_enterKey_28 ?_
  refine r_iconst d_X7_enterKey_29 ?_
  refine c_callVD (a := 2) (z := 0) (as := [(0, (p1 + 2)), (0, 0)]) (rest := []) (ls' := [(10, 0), (0, (p1 + 2)), (0, 0)]) d_X7_enterKey_30 ck_RX7_140 rfl sh_2 rfl (by decide) (R 2 rfl) rfl rfl (Nat.le_of_ble_eq_true rfl) (Nat.le_of_ble_eq_true rfl) (by decide) rfl rfl (fun Ψ hΨ => run_pI_putUnit R _ _ hΨ) h (fun D3 h => ?_)
  show Run Γ rg κ Y_X7_enterKey 33 [(8, 0), (0, p1), (0, p2), (0, p3), (0, p4)] [] D3 Φ
  refine r_aload_n d_X7_enterKey_33 rfl (by decide) ?_
  refine r_getR (t := 2) d_X7_enterKey_34 fk_RX7_21 sh_0 rfl (by decide) (R 0 rfl) ?_
  show Run Γ rg κ Y_X7_enterKey 37 [(8, 0), (0, p1), (0, p2), (0, p3), (0, p4)] [(10, 0)] D3 Φ
  refine r_iload_n d_X7_enterKey_37 rfl ?_
  refine r_iconst d_X7_enterKey_38 ?_
  refine r_iadd d_X7_enterKey_39 ?_
  refine r_iconst d_X7_enterKey_40 ?_
  refine c_callVD (a := 2) (z := 0) (as := [(0, (p1 + 3)), (0, 0)]) (rest := []) (ls' := [(10, 0), (0, (p1 + 3)), (0, 0)]) d_X7_enterKey_41 ck_RX7_140 rfl sh_2 rfl (by decide) (R 2 rfl) rfl rfl (Nat.le_of_ble_eq_true rfl) (Nat.le_of_ble_eq_true rfl) (by decide) rfl rfl (fun Ψ hΨ => run_pI_putUnit R _ _ hΨ) h (fun D4 h => ?_)
  show Run Γ rg κ Y_X7_enterKey 44 [(8, 0), (0, p1), (0, p2), (0, p3), (0, p4)] [] D4 Φ
  refine r_aload_n d_X7_enterKey_44 rfl (by decide) ?_
  refine r_getR (t := 2) d_X7_enterKey_45 fk_RX7_21 sh_0 rfl (by decide) (R 0 rfl) ?_
  refine r_iload_n d_X7_enterKey_48 rfl ?_
  refine r_iconst d_X7_enterKey_49 ?_
  refine r_iadd d_X7_enterKey_50 ?_
  refine r_iconst d_X7_enterKey_51 ?_
  refine c_callVD (a := 2) (z := 0) (as := [(0, (p1 + 4)), (0, 0)]) (rest := []) (ls' := [(10, 0), (0, (p1 + 4)), (0, 0)]) d_X7_enterKey_52 ck_RX7_140 rfl sh_2 rfl (by decide) (R 2 rfl) rfl rfl (Nat.le_of_ble_eq_true rfl) (Nat.le_of_ble_eq_true rfl) (by decide) rfl rfl (fun Ψ hΨ => run_pI_putUnit R _ _ hΨ) h (fun D5 h => ?_)
  show Run Γ rg κ Y_X7_enterKey 55 [(8, 0), (0, p1), (0, p2), (0, p3), (0, p4)] [] D5 Φ
  show Run Γ rg κ Y_X7_enterKey 55 [(8, 0), (0, p1), (0, p2), (0, p3), (0, p4)] [] D5 Φ
  refine r_aload_n d_X7_enterKey_55 rfl (by decide) ?_
  refine r_getR (t := 2) d_X7_enterKey_56 fk_RX7_21 sh_0 rfl (by decide) (R 0 rfl) ?_
  refine r_iload_n d_X7_enterKey_59 rfl ?_
  refine r_iconst d_X7_enterKey_60 ?_
  refine r_iadd d_X7_enterKey_61 ?_
  refine r_iload d_X7_enterKey_62 rfl ?_
  refine c_callVD (a := 2) (z := 0) (as := [(0, (p1 + 5)), (0, p4)]) (rest := []) (ls' := [(10, 0), (0, (p1 + 5)), (0, p4)]) d_X7_enterKey_64 ck_RX7_140 rfl sh_2 rfl (by decide) (R 2 rfl) rfl rfl (Nat.le_of_ble_eq_true rfl) (Nat.le_of_ble_eq_true rfl) (by decide) rfl rfl (fun Ψ hΨ => run_pI_putUnit R _ _ hΨ) h (fun D6 h => ?_)
  show Run Γ rg κ Y_X7_enterKey 67 [(8, 0), (0, p1), (0, p2), (0, p3), (0, p4)] [] D6 Φ
  refine r_aload_n d_X7_enterKey_67 rfl (by decide) ?_
  refine r_getR (t := 2) d_X7_enterKey_68 fk_RX7_21 sh_0 rfl (by decide) (R 0 rfl) ?_
  refine r_aload_n d_X7_enterKey_71 rfl (by decide) ?_
  refine r_getR (t := 2) d_X7_enterKey_72 fk_RX7_21 sh_0 rfl (by decide) (R 0 rfl) ?_
  refine r_getI d_X7_enterKey_75 fk_RX7_370 sh_2 rfl (by decide) (by decide) (R 2 rfl) ?_
  show Run Γ rg κ Y_X7_enterKey 78 [(8, 0), (0, p1), (0, p2), (0, p3), (0, p4)] [(0, (D6 2 5)), (10, 0)] D6 Φ
  refine r_iload_n d_X7_enterKey_78 rfl ?_
  refine c_callVD (a := 2) (z := 0) (as := [(0, (D6 2 5)), (0, p1)]) (rest := []) (ls' := [(10, 0), (0, (D6 2 5)), (0, p1)]) d_X7_enterKey_79 ck_RX7_158 rfl sh_2 rfl (by decide) (R 2 rfl) rfl rfl (Nat.le_of_ble_eq_true rfl) (Nat.le_of_ble_eq_true rfl) (by decide) rfl rfl (fun Ψ hΨ => run_pI_setPlaceOfKey R _ _ hΨ) h (fun D7 h => ?_)
  show Run Γ rg κ Y_X7_enterKey 82 [(8, 0), (0, p1), (0, p2), (0, p3), (0, p4)] [] D7 Φ
  refine r_aload_n d_X7_enterKey_82 rfl (by decide) ?_
  refine r_getR (t := 2) d_X7_enterKey_83 fk_RX7_21 sh_0 rfl (by decide) (R 0 rfl) ?_
  refine r_dup d_X7_enterKey_86 (by decide) ?_
  refine r_getI d_X7_enterKey_87 fk_RX7_370 sh_2 rfl (by decide) (by decide) (R 2 rfl) ?_
  refine r_iconst d_X7_enterKey_90 ?_
  refine r_iadd d_X7_enterKey_91 ?_
  refine c_putI (k := 5) d_X7_enterKey_92 pk_RX7_370 sh_2 rfl (by decide) (R 2 rfl) h (fun D8 h => ?_)
  exact d_vret d_X7_enterKey_95 rfl h
set_option maxRecDepth 20000 in
theorem run_pS_changeCount {Γ : GG} {rg : Nat → Bool} {κ : Nat} {Φ : OT → DD → Prop} (R : cov rg rg0) (p1 : Int) (p2 : Int) {D : DD} (h : WP none κ Φ (pS_changeCount p1 p2 D)) : Run Γ rg κ Y_X4_changeCount 0 [(21, 0), (0, p1), (0, p2), (5, 0)] [] D Φ := by
  unfold pS_changeCount at h
  show Run Γ rg κ Y_X4_changeCount 0 [(21, 0), (0, p1), (0, p2), (5, 0)] [] D Φ
  refine r_aload_n d_X4_changeCount_0 rfl (by decide) ?_
  refine r_getR (t := 2) d_X4_changeCount_1 fk_RX4_15 sh_13 rfl (by decide) (R 13 rfl) ?_
  refine r_iload_n d_X4_changeCount_4 rfl ?_
  refine c_callVPi (a := 2) (z := 0) (as := [(0, p1)]) (rest := []) (ls' := [(10, 0), (0, p1)]) d_X4_changeCount_5 ck_RX4_23 rfl sh_2 rfl (by decide) (R 2 rfl) rfl rfl (Nat.le_of_ble_eq_true rfl) (Nat.le_of_ble_eq_true rfl) (by decide) rfl rfl (fun Ψ hΨ => run_pI_placeOfRights R _ rfl hΨ) ?_
  show Run Γ rg κ Y_X4_changeCount 8 [(21, 0), (0, p1), (0, p2), (5, 0)] [(0, (pI_placeOfRights p1 D))] D Φ
  refine c_lt_n d_X4_changeCount_8 (by decide) rfl h (fun x1 h => ?_)
  show Run Γ rg κ Y_X4_changeCount 9 [(21, 0), (0, p1), (0, p2), (0, x1)] [] D Φ
  refine r_aload_n d_X4_changeCount_9 rfl (by decide) ?_
  refine r_getR (t := 2) d_X4_changeCount_10 fk_RX4_15 sh_13 rfl (by decide) (R 13 rfl) ?_
  refine r_iload_n d_X4_changeCount_13 rfl ?_
  refine r_aload_n d_X4_changeCount_14 rfl (by decide) ?_
  refine r_getR (t := 2) d_X4_changeCount_15 fk_RX4_15 sh_13 rfl (by decide) (R 13 rfl) ?_
  refine r_iload_n d_X4_changeCount_18 rfl ?_
  show Run Γ rg κ Y_X4_changeCount 19 [(21, 0), (0, p1), (0, p2), (0, x1)] [(0, x1), (10, 0), (0, x1), (10, 0)] D Φ
  refine c_callVPi (a := 2) (z := 0) (as := [(0, x1)]) (rest := [(0, x1), (10, 0)]) (ls' := [(10, 0), (0, x1)]) d_X4_changeCount_19 ck_RX4_29 rfl sh_2 rfl (by decide) (R 2 rfl) rfl rfl (Nat.le_of_ble_eq_true rfl) (Nat.le_of_ble_eq_true rfl) (by decide) rfl rfl (fun Ψ hΨ => run_pI_unitAt R _ rfl hΨ) ?_
  show Run Γ rg κ Y_X4_changeCount 22 [(21, 0), (0, p1), (0, p2), (0, x1)] [(0, (pI_unitAt x1 D)), (0, x1), (10, 0)] D Φ
  refine r_iload_n d_X4_changeCount_22 rfl ?_
  refine r_iadd d_X4_changeCount_23 ?_
  refine c_callVD (a := 2) (z := 0) (as := [(0, x1), (0, ((pI_unitAt x1 D) + p2))]) (rest := []) (ls' := [(10, 0), (0, x1), (0, ((pI_unitAt x1 D) + p2))]) d_X4_changeCount_24 ck_RX4_32 rfl sh_2 rfl (by decide) (R 2 rfl) rfl rfl (Nat.le_of_ble_eq_true rfl) (Nat.le_of_ble_eq_true rfl) (by decide) rfl rfl (fun Ψ hΨ => run_pI_putUnit R _ _ hΨ) h (fun D1 h => ?_)
  show Run Γ rg κ Y_X4_changeCount 27 [(21, 0), (0, p1), (0, p2), (0, x1)] [] D1 Φ
  refine r_aload_n d_X4_changeCount_27 rfl (by decide) ?_
  refine r_getR (t := 7) d_X4_changeCount_28 fk_RX4_19 sh_13 rfl (by decide) (R 13 rfl) ?_
  refine r_iload_n d_X4_changeCount_31 rfl ?_
  refine c_callVv (a := 7) (z := 0) (as := [(0, x1)]) (rest := []) (ls' := [(15, 0), (0, x1), (5, 0), (5, 0)]) d_X4_changeCount_32 ck_RX4_36 rfl sh_7 rfl (by decide) (R 7 rfl) rfl rfl (Nat.le_of_ble_eq_true rfl) (Nat.le_of_ble_eq_true rfl) (by decide) rfl rfl (fun κ' Ψ hΨ => run_pC_markWritten R _ hΨ) h (fun _ D2 h => ?_)
  show Run Γ rg κ Y_X4_changeCount 35 [(21, 0), (0, p1), (0, p2), (0, x1)] [] D2 Φ
  exact c_vret d_X4_changeCount_35 rfl h
set_option maxRecDepth 20000 in
theorem run_pI_setPlaceOfRights {Γ : GG} {rg : Nat → Bool} {κ : Nat} {Φ : OT → DD → Prop} (R : cov rg rg0) (p1 : Int) (p2 : Int) {D : DD} (h : WPD Φ (pI_setPlaceOfRights p1 p2 D)) : Run Γ rg κ Y_X2_setPlaceOfRights 0 [(10, 0), (0, p1), (0, p2)] [] D Φ := by
  unfold pI_setPlaceOfRights at h
  show Run Γ rg κ Y_X2_setPlaceOfRights 0 [(10, 0), (0, p1), (0, p2)] [] D Φ
  refine r_aload_n d_X2_setPlaceOfRights_0 rfl (by decide) ?_
  refine r_getR (t := 6) d_X2_setPlaceOfRights_1 fk_RX2_21 sh_2 rfl (by decide) (R 2 rfl) ?_
  refine r_iload_n d_X2_setPlaceOfRights_4 rfl ?_
  refine r_iload_n d_X2_setPlaceOfRights_5 rfl ?_
  refine c_callND (as := [(14, 0), (0, p1), (0, p2)]) (rest := []) (ls' := [(14, 0), (0, p1), (0, p2)]) d_X2_setPlaceOfRights_6 ck_RX2_31 rfl rfl rfl (Nat.le_of_ble_eq_true rfl) (Nat.le_of_ble_eq_true rfl) (by decide) rfl rfl (fun Ψ hΨ => run_pH_store sh_6 (by decide) (R 6 rfl) (by decide) _ _ hΨ) h (fun D1 h => ?_)
  show Run Γ rg κ Y_X2_setPlaceOfRights 9 [(10, 0), (0, p1), (0, p2)] [] D1 Φ
  exact d_vret d_X2_setPlaceOfRights_9 rfl h
set_option maxRecDepth 20000 in
theorem run_pS_join {Γ : GG} {rg : Nat → Bool} {κ : Nat} {Φ : OT → DD → Prop} (R : cov rg rg0) (p1 : Int) {D : DD} (h : WP (some .boolean) κ Φ (pS_join p1 D)) : Run Γ rg κ Y_X4_join 0 [(21, 0), (0, p1)] [] D Φ := by
  unfold pS_join at h
  show Run Γ rg κ Y_X4_join 0 [(21, 0), (0, p1)] [] D Φ
  refine r_aload_n d_X4_join_0 rfl (by decide) ?_
  refine r_getR (t := 2) d_X4_join_1 fk_RX4_15 sh_13 rfl (by decide) (R 13 rfl) ?_
  refine r_iload_n d_X4_join_4 rfl ?_
  refine c_callVPi (a := 2) (z := 0) (as := [(0, p1)]) (rest := []) (ls' := [(10, 0), (0, p1)]) d_X4_join_5 ck_RX4_23 rfl sh_2 rfl (by decide) (R 2 rfl) rfl rfl (Nat.le_of_ble_eq_true rfl) (Nat.le_of_ble_eq_true rfl) (by decide) rfl rfl (fun Ψ hΨ => run_pI_placeOfRights R _ rfl hΨ) ?_
  show Run Γ rg κ Y_X4_join 8 [(21, 0), (0, p1)] [(0, (pI_placeOfRights p1 D))] D Φ
  refine c_jn (fun J => ∀ (D1 : DD), WP (some .boolean) κ Φ (J D1) → Run Γ rg κ Y_X4_join 70 [(21, 0), (0, p1)] [] D1 Φ) h ?_ (fun J1 hJ1 h => ?_)
  · intro D1 h
    show Run Γ rg κ Y_X4_join 70 [(21, 0), (0, p1)] [] D1 Φ
    refine r_aload_n d_X4_join_70 rfl (by decide) ?_
    refine r_iload_n d_X4_join_71 rfl ?_
    refine r_iconst d_X4_join_72 ?_
    refine c_callVv (a := 13) (z := 0) (as := [(0, p1), (0, 1)]) (rest := []) (ls' := [(21, 0), (0, p1), (0, 1), (5, 0)]) d_X4_join_73 ck_RX4_58 rfl sh_13 rfl (by decide) (R 13 rfl) rfl rfl (Nat.le_of_ble_eq_true rfl) (Nat.le_of_ble_eq_true rfl) (by decide) rfl rfl (fun κ' Ψ hΨ => run_pS_changeCount R _ _ hΨ) h (fun _ D2 h => ?_)
    show Run Γ rg κ Y_X4_join 76 [(21, 0), (0, p1)] [] D2 Φ
    refine r_iconst d_X4_join_76 ?_
    exact c_zret d_X4_join_77 rfl (Or.inr rfl) h
  refine c_if_ne (tgt := 70) d_X4_join_8 (by decide) (nz_w _) h (fun h => ?_) (fun h => ?_)
  · skip
    exact (hJ1 D h)
  · skip
    show Run Γ rg κ Y_X4_join 11 [(21, 0), (0, p1)] [] D Φ
    refine r_aload_n d_X4_join_11 rfl (by decide) ?_
    refine r_getR (t := 7) d_X4_join_12 fk_RX4_19 sh_13 rfl (by decide) (R 13 rfl) ?_
    refine c_callVD (a := 7) (z := 0) (as := []) (rest := []) (ls' := [(15, 0)]) d_X4_join_15 ck_RX4_42 rfl sh_7 rfl (by decide) (R 7 rfl) rfl rfl (Nat.le_of_ble_eq_true rfl) (Nat.le_of_ble_eq_true rfl) (by decide) rfl rfl (fun Ψ hΨ => run_pC_wantNothing R hΨ) h (fun D3 h => ?_)
    show Run Γ rg κ Y_X4_join 18 [(21, 0), (0, p1)] [] D3 Φ
    refine r_aload_n d_X4_join_18 rfl (by decide) ?_
    refine r_getR (t := 7) d_X4_join_19 fk_RX4_19 sh_13 rfl (by decide) (R 13 rfl) ?_
    refine r_iconst d_X4_join_22 ?_
    refine c_callVD (a := 7) (z := 0) (as := [(0, 2)]) (rest := []) (ls' := [(15, 0), (0, 2)]) d_X4_join_23 ck_RX4_45 rfl sh_7 rfl (by decide) (R 7 rfl) rfl rfl (Nat.le_of_ble_eq_true rfl) (Nat.le_of_ble_eq_true rfl) (by decide) rfl rfl (fun Ψ hΨ => run_pC_want R _ hΨ) h (fun D4 h => ?_)
    show Run Γ rg κ Y_X4_join 26 [(21, 0), (0, p1)] [] D4 Φ
    refine r_aload_n d_X4_join_26 rfl (by decide) ?_
    refine r_getR (t := 7) d_X4_join_27 fk_RX4_19 sh_13 rfl (by decide) (R 13 rfl) ?_
    refine c_callVi (t' := (some .boolean)) (a := 7) (z := 0) (as := []) (rest := []) (ls' := [(15, 0), (5, 0), (5, 0), (5, 0)]) d_X4_join_30 ck_RX4_48 rfl sh_7 rfl (by decide) (R 7 rfl) rfl rfl (Nat.le_of_ble_eq_true rfl) (Nat.le_of_ble_eq_true rfl) (by decide) rfl rfl (fun _ => rfl) (fun κ' Ψ hΨ => run_pC_getAllWanted R hΨ) h (fun v1 D5 h => ?_)
    show Run Γ rg κ Y_X4_join 33 [(21, 0), (0, p1)] [(0, v1)] D5 Φ
    refine c_if_ne (tgt := 38) d_X4_join_33 (by decide) (nz_w _) h (fun h => ?_) (fun h => ?_)
    · skip
      show Run Γ rg κ Y_X4_join 38 [(21, 0), (0, p1)] [] D5 Φ
      refine r_aload_n d_X4_join_38 rfl (by decide) ?_
      refine r_getR (t := 2) d_X4_join_39 fk_RX4_15 sh_13 rfl (by decide) (R 13 rfl) ?_
      refine r_iload_n d_X4_join_42 rfl ?_
      refine r_aload_n d_X4_join_43 rfl (by decide) ?_
      refine r_getR (t := 7) d_X4_join_44 fk_RX4_19 sh_13 rfl (by decide) (R 13 rfl) ?_
      refine r_iconst d_X4_join_47 ?_
      refine c_callVPi (a := 7) (z := 0) (as := [(0, 0)]) (rest := [(0, p1), (10, 0)]) (ls' := [(15, 0), (0, 0)]) d_X4_join_48 ck_RX4_52 rfl sh_7 rfl (by decide) (R 7 rfl) rfl rfl (Nat.le_of_ble_eq_true rfl) (Nat.le_of_ble_eq_true rfl) (by decide) rfl rfl (fun Ψ hΨ => run_pC_got R _ rfl hΨ) ?_
      show Run Γ rg κ Y_X4_join 51 [(21, 0), (0, p1)] [(0, (pC_got 0 D5)), (0, p1), (10, 0)] D5 Φ
      refine c_callVD (a := 2) (z := 0) (as := [(0, p1), (0, (pC_got 0 D5))]) (rest := []) (ls' := [(10, 0), (0, p1), (0, (pC_got 0 D5))]) d_X4_join_51 ck_RX4_55 rfl sh_2 rfl (by decide) (R 2 rfl) rfl rfl (Nat.le_of_ble_eq_true rfl) (Nat.le_of_ble_eq_true rfl) (by decide) rfl rfl (fun Ψ hΨ => run_pI_setPlaceOfRights R _ _ hΨ) h (fun D6 h => ?_)
      show Run Γ rg κ Y_X4_join 54 [(21, 0), (0, p1)] [] D6 Φ
      refine r_aload_n d_X4_join_54 rfl (by decide) ?_
      refine r_getR (t := 2) d_X4_join_55 fk_RX4_15 sh_13 rfl (by decide) (R 13 rfl) ?_
      refine r_aload_n d_X4_join_58 rfl (by decide) ?_
      show Run Γ rg κ Y_X4_join 59 [(21, 0), (0, p1)] [(21, 0), (10, 0)] D6 Φ
      refine r_getR (t := 7) d_X4_join_59 fk_RX4_19 sh_13 rfl (by decide) (R 13 rfl) ?_
      refine r_iconst d_X4_join_62 ?_
      refine c_callVPi (a := 7) (z := 0) (as := [(0, 0)]) (rest := [(10, 0)]) (ls' := [(15, 0), (0, 0)]) d_X4_join_63 ck_RX4_52 rfl sh_7 rfl (by decide) (R 7 rfl) rfl rfl (Nat.le_of_ble_eq_true rfl) (Nat.le_of_ble_eq_true rfl) (by decide) rfl rfl (fun Ψ hΨ => run_pC_got R _ rfl hΨ) ?_
      show Run Γ rg κ Y_X4_join 66 [(21, 0), (0, p1)] [(0, (pC_got 0 D6)), (10, 0)] D6 Φ
      refine r_iconst d_X4_join_66 ?_
      refine c_callVD (a := 2) (z := 0) (as := [(0, (pC_got 0 D6)), (0, 0)]) (rest := []) (ls' := [(10, 0), (0, (pC_got 0 D6)), (0, 0)]) d_X4_join_67 ck_RX4_32 rfl sh_2 rfl (by decide) (R 2 rfl) rfl rfl (Nat.le_of_ble_eq_true rfl) (Nat.le_of_ble_eq_true rfl) (by decide) rfl rfl (fun Ψ hΨ => run_pI_putUnit R _ _ hΨ) h (fun D7 h => ?_)
      show Run Γ rg κ Y_X4_join 70 [(21, 0), (0, p1)] [] D7 Φ
      exact (hJ1 D7 h)
    · skip
      show Run Γ rg κ Y_X4_join 36 [(21, 0), (0, p1)] [] D5 Φ
      refine r_iconst d_X4_join_36 ?_
      exact c_zret d_X4_join_37 rfl (Or.inl rfl) h
set_option maxRecDepth 20000 in
theorem run_pI_copyFrom_21_2 {Γ : GG} {rg : Nat → Bool} {κ : Nat} {Φ : OT → DD → Prop} (R : cov rg rg0) {D : DD} (h : WPD Φ (pI_copyFrom_21_2 D)) : Run Γ rg κ Y_X2_copyFrom 0 [(29, 0), (10, 0)] [] D Φ := by
  unfold pI_copyFrom_21_2 at h
  show Run Γ rg κ Y_X2_copyFrom 0 [(29, 0), (10, 0)] [] D Φ
  refine r_aload_n d_X2_copyFrom_0 rfl (by decide) ?_
  refine r_getR (t := 3) d_X2_copyFrom_1 fk_RX2_11 sh_2 rfl (by decide) (R 2 rfl) ?_
  refine r_iconst d_X2_copyFrom_4 ?_
  refine r_aload_n d_X2_copyFrom_5 rfl (by decide) ?_
  refine r_getR (t := 22) d_X2_copyFrom_6 fk_RX2_11 sh_21 rfl (by decide) (R 21 rfl) ?_
  refine r_iconst d_X2_copyFrom_9 ?_
  refine r_sipush d_X2_copyFrom_10 (by decide) ?_
  refine c_acopy (n := 1024) d_X2_copyFrom_13 ak_RX2_35 sh_3 sh_22 (by decide) (by decide) (R 3 rfl) (R 22 rfl) (by decide) rfl (by decide) (by decide) (Nat.le_of_ble_eq_true rfl) (by decide) h (fun D1 h => ?_)
  refine r_aload_n d_X2_copyFrom_16 rfl (by decide) ?_
  refine r_getR (t := 4) d_X2_copyFrom_17 fk_RX2_15 sh_2 rfl (by decide) (R 2 rfl) ?_
  refine r_iconst d_X2_copyFrom_20 ?_
  show Run Γ rg κ Y_X2_copyFrom 21 [(29, 0), (10, 0)] [(0, 0), (12, 0)] D1 Φ
  refine r_aload_n d_X2_copyFrom_21 rfl (by decide) ?_
  refine r_getR (t := 23) d_X2_copyFrom_22 fk_RX2_15 sh_21 rfl (by decide) (R 21 rfl) ?_
  refine r_iconst d_X2_copyFrom_25 ?_
  refine r_sipush d_X2_copyFrom_26 (by decide) ?_
  refine c_acopy (n := 1024) d_X2_copyFrom_29 ak_RX2_35 sh_4 sh_23 (by decide) (by decide) (R 4 rfl) (R 23 rfl) (by decide) rfl (by decide) (by decide) (Nat.le_of_ble_eq_true rfl) (by decide) h (fun D2 h => ?_)
  refine r_aload_n d_X2_copyFrom_32 rfl (by decide) ?_
  refine r_getR (t := 5) d_X2_copyFrom_33 fk_RX2_18 sh_2 rfl (by decide) (R 2 rfl) ?_
  refine r_iconst d_X2_copyFrom_36 ?_
  refine r_aload_n d_X2_copyFrom_37 rfl (by decide) ?_
  refine r_getR (t := 24) d_X2_copyFrom_38 fk_RX2_18 sh_21 rfl (by decide) (R 21 rfl) ?_
  refine r_iconst d_X2_copyFrom_41 ?_
  refine r_bipush d_X2_copyFrom_42 (by decide) ?_
  show Run Γ rg κ Y_X2_copyFrom 44 [(29, 0), (10, 0)] [(0, 80), (0, 0), (32, 0), (0, 0), (13, 0)] D2 Φ
  refine c_acopy (n := 80) d_X2_copyFrom_44 ak_RX2_35 sh_5 sh_24 (by decide) (by decide) (R 5 rfl) (R 24 rfl) (by decide) rfl (by decide) (by decide) (Nat.le_of_ble_eq_true rfl) (by decide) h (fun D3 h => ?_)
  refine r_aload_n d_X2_copyFrom_47 rfl (by decide) ?_
  refine r_getR (t := 6) d_X2_copyFrom_48 fk_RX2_21 sh_2 rfl (by decide) (R 2 rfl) ?_
  refine r_iconst d_X2_copyFrom_51 ?_
  refine r_aload_n d_X2_copyFrom_52 rfl (by decide) ?_
  refine r_getR (t := 25) d_X2_copyFrom_53 fk_RX2_21 sh_21 rfl (by decide) (R 21 rfl) ?_
  refine r_iconst d_X2_copyFrom_56 ?_
  refine r_sipush d_X2_copyFrom_57 (by decide) ?_
  refine c_acopy (n := 256) d_X2_copyFrom_60 ak_RX2_35 sh_6 sh_25 (by decide) (by decide) (R 6 rfl) (R 25 rfl) (by decide) rfl (by decide) (by decide) (Nat.le_of_ble_eq_true rfl) (by decide) h (fun D4 h => ?_)
  refine r_aload_n d_X2_copyFrom_63 rfl (by decide) ?_
  refine r_aload_n d_X2_copyFrom_64 rfl (by decide) ?_
  refine r_getI d_X2_copyFrom_65 fk_RX2_24 sh_2 rfl (by decide) (by decide) (R 2 rfl) ?_
  show Run Γ rg κ Y_X2_copyFrom 68 [(29, 0), (10, 0)] [(0, (D4 2 4)), (29, 0)] D4 Φ
  refine c_putI (k := 4) d_X2_copyFrom_68 pk_RX2_24 sh_21 rfl (by decide) (R 21 rfl) h (fun D5 h => ?_)
  refine r_aload_n d_X2_copyFrom_71 rfl (by decide) ?_
  refine r_aload_n d_X2_copyFrom_72 rfl (by decide) ?_
  refine r_getI d_X2_copyFrom_73 fk_RX2_28 sh_2 rfl (by decide) (by decide) (R 2 rfl) ?_
  refine c_putI (k := 5) d_X2_copyFrom_76 pk_RX2_28 sh_21 rfl (by decide) (R 21 rfl) h (fun D6 h => ?_)
  exact d_vret d_X2_copyFrom_79 rfl h
set_option maxRecDepth 20000 in
theorem run_pF_keepAsWhole {Γ : GG} {rg : Nat → Bool} {κ : Nat} {Φ : OT → DD → Prop} (R : cov rg rg0) {D : DD} (h : WPD Φ (pF_keepAsWhole D)) : Run Γ rg κ Y_X1_keepAsWhole 0 [(28, 0), (10, 0)] [] D Φ := by
  unfold pF_keepAsWhole at h
  show Run Γ rg κ Y_X1_keepAsWhole 0 [(28, 0), (10, 0)] [] D Φ
  refine r_aload_n d_X1_keepAsWhole_0 rfl (by decide) ?_
  refine r_getR (t := 21) d_X1_keepAsWhole_1 fk_RX1_10 sh_20 rfl (by decide) (R 20 rfl) ?_
  refine r_aload_n d_X1_keepAsWhole_4 rfl (by decide) ?_
  refine c_callVD (a := 21) (z := 0) (as := [(10, 0)]) (rest := []) (ls' := [(29, 0), (10, 0)]) d_X1_keepAsWhole_5 ck_RX1_23 rfl sh_21 rfl (by decide) (R 21 rfl) rfl rfl (Nat.le_of_ble_eq_true rfl) (Nat.le_of_ble_eq_true rfl) (by decide) rfl rfl (fun Ψ hΨ => run_pI_copyFrom_21_2 R hΨ) h (fun D1 h => ?_)
  show Run Γ rg κ Y_X1_keepAsWhole 8 [(28, 0), (10, 0)] [] D1 Φ
  exact d_vret d_X1_keepAsWhole_8 rfl h
set_option maxRecDepth 20000 in
theorem run_pH_ini {Γ : GG} {rg : Nat → Bool} {κ : Nat} {Φ : OT → DD → Prop} (R : cov rg rg0) {D : DD} (h : WP none κ Φ (pH_ini D)) : Run Γ rg κ Y_X7_init 100 [(8, 0), (10, 0), (15, 0)] [] D Φ := by
  unfold pH_ini at h
  show Run Γ rg κ Y_X7_init 100 [(8, 0), (10, 0), (15, 0)] [] D Φ
  refine r_aload_n d_X7_init_100 rfl (by decide) ?_
  refine r_getR (t := 7) d_X7_init_101 fk_RX7_25 sh_0 rfl (by decide) (R 0 rfl) ?_
  refine c_callVD (a := 7) (z := 0) (as := []) (rest := []) (ls' := [(15, 0)]) d_X7_init_104 ck_RX7_66 rfl sh_7 rfl (by decide) (R 7 rfl) rfl rfl (Nat.le_of_ble_eq_true rfl) (Nat.le_of_ble_eq_true rfl) (by decide) rfl rfl (fun Ψ hΨ => run_pC_wantNothing R hΨ) h (fun D1 h => ?_)
  show Run Γ rg κ Y_X7_init 107 [(8, 0), (10, 0), (15, 0)] [] D1 Φ
  refine r_aload_n d_X7_init_107 rfl (by decide) ?_
  refine r_getR (t := 7) d_X7_init_108 fk_RX7_25 sh_0 rfl (by decide) (R 0 rfl) ?_
  refine r_bipush d_X7_init_111 (by decide) ?_
  refine c_callVD (a := 7) (z := 0) (as := [(0, 6)]) (rest := []) (ls' := [(15, 0), (0, 6)]) d_X7_init_113 ck_RX7_69 rfl sh_7 rfl (by decide) (R 7 rfl) rfl rfl (Nat.le_of_ble_eq_true rfl) (Nat.le_of_ble_eq_true rfl) (by decide) rfl rfl (fun Ψ hΨ => run_pC_want R _ hΨ) h (fun D2 h => ?_)
  show Run Γ rg κ Y_X7_init 116 [(8, 0), (10, 0), (15, 0)] [] D2 Φ
  refine r_aload_n d_X7_init_116 rfl (by decide) ?_
  refine r_getR (t := 7) d_X7_init_117 fk_RX7_25 sh_0 rfl (by decide) (R 0 rfl) ?_
  refine c_callVi (t' := (some .boolean)) (a := 7) (z := 0) (as := []) (rest := []) (ls' := [(15, 0), (5, 0), (5, 0), (5, 0)]) d_X7_init_120 ck_RX7_73 rfl sh_7 rfl (by decide) (R 7 rfl) rfl rfl (Nat.le_of_ble_eq_true rfl) (Nat.le_of_ble_eq_true rfl) (by decide) rfl rfl (fun _ => rfl) (fun κ' Ψ hΨ => run_pC_getAllWanted R hΨ) h (fun v1 D3 h => ?_)
  show Run Γ rg κ Y_X7_init 123 [(8, 0), (10, 0), (15, 0)] [(0, v1)] D3 Φ
  refine r_pop d_X7_init_123 (show (0 : Nat) ≠ 1 by decide) ?_
  show Run Γ rg κ Y_X7_init 124 [(8, 0), (10, 0), (15, 0)] [] D3 Φ
  refine r_aload_n d_X7_init_124 rfl (by decide) ?_
  refine r_aload_n d_X7_init_125 rfl (by decide) ?_
  refine r_getR (t := 7) d_X7_init_126 fk_RX7_25 sh_0 rfl (by decide) (R 0 rfl) ?_
  refine r_iconst d_X7_init_129 ?_
  refine c_callVPi (a := 7) (z := 0) (as := [(0, 0)]) (rest := [(8, 0)]) (ls' := [(15, 0), (0, 0)]) d_X7_init_130 ck_RX7_77 rfl sh_7 rfl (by decide) (R 7 rfl) rfl rfl (Nat.le_of_ble_eq_true rfl) (Nat.le_of_ble_eq_true rfl) (by decide) rfl rfl (fun Ψ hΨ => run_pC_got R _ rfl hΨ) ?_
  show Run Γ rg κ Y_X7_init 133 [(8, 0), (10, 0), (15, 0)] [(0, (pC_got 0 D3)), (8, 0)] D3 Φ
  refine r_iconst d_X7_init_133 ?_
  refine r_iconst d_X7_init_134 ?_
  refine r_iconst d_X7_init_135 ?_
  refine c_callVD (a := 0) (z := 0) (as := [(0, (pC_got 0 D3)), (0, 0), (0, (-1)), (0, (-1))]) (rest := []) (ls' := [(8, 0), (0, (pC_got 0 D3)), (0, 0), (0, (-1)), (0, (-1))]) d_X7_init_136 ck_RX7_81 rfl sh_0 rfl (by decide) (R 0 rfl) rfl rfl (Nat.le_of_ble_eq_true rfl) (Nat.le_of_ble_eq_true rfl) (by decide) rfl rfl (fun Ψ hΨ => run_pH_enterKey R _ _ _ _ hΨ) h (fun D4 h => ?_)
  show Run Γ rg κ Y_X7_init 139 [(8, 0), (10, 0), (15, 0)] [] D4 Φ
  refine r_aload_n d_X7_init_139 rfl (by decide) ?_
  refine r_getR (t := 13) d_X7_init_140 fk_RX7_48 sh_0 rfl (by decide) (R 0 rfl) ?_
  refine r_iconst d_X7_init_143 ?_
  show Run Γ rg κ Y_X7_init 144 [(8, 0), (10, 0), (15, 0)] [(0, 0), (21, 0)] D4 Φ
  refine c_callVi (t' := (some .boolean)) (a := 13) (z := 0) (as := [(0, 0)]) (rest := []) (ls' := [(21, 0), (0, 0)]) d_X7_init_144 ck_RX7_85 rfl sh_13 rfl (by decide) (R 13 rfl) rfl rfl (Nat.le_of_ble_eq_true rfl) (Nat.le_of_ble_eq_true rfl) (by decide) rfl rfl (fun _ => rfl) (fun κ' Ψ hΨ => run_pS_join R _ hΨ) h (fun v2 D5 h => ?_)
  show Run Γ rg κ Y_X7_init 147 [(8, 0), (10, 0), (15, 0)] [(0, v2)] D5 Φ
  refine r_pop d_X7_init_147 (show (0 : Nat) ≠ 1 by decide) ?_
  refine r_aload_n d_X7_init_148 rfl (by decide) ?_
  refine r_getR (t := 7) d_X7_init_149 fk_RX7_25 sh_0 rfl (by decide) (R 0 rfl) ?_
  refine c_callVD (a := 7) (z := 0) (as := []) (rest := []) (ls' := [(15, 0)]) d_X7_init_152 ck_RX7_89 rfl sh_7 rfl (by decide) (R 7 rfl) rfl rfl (Nat.le_of_ble_eq_true rfl) (Nat.le_of_ble_eq_true rfl) (by decide) rfl rfl (fun Ψ hΨ => run_pC_forgetDirty R hΨ) h (fun D6 h => ?_)
  show Run Γ rg κ Y_X7_init 155 [(8, 0), (10, 0), (15, 0)] [] D6 Φ
  refine r_aload_n d_X7_init_155 rfl (by decide) ?_
  refine r_getR (t := 20) d_X7_init_156 fk_RX7_62 sh_0 rfl (by decide) (R 0 rfl) ?_
  refine r_aload_n d_X7_init_159 rfl (by decide) ?_
  refine c_callVD (a := 20) (z := 0) (as := [(10, 0)]) (rest := []) (ls' := [(28, 0), (10, 0)]) d_X7_init_160 ck_RX7_92 rfl sh_20 rfl (by decide) (R 20 rfl) rfl rfl (Nat.le_of_ble_eq_true rfl) (Nat.le_of_ble_eq_true rfl) (by decide) rfl rfl (fun Ψ hΨ => run_pF_keepAsWhole R hΨ) h (fun D7 h => ?_)
  show Run Γ rg κ Y_X7_init 163 [(8, 0), (10, 0), (15, 0)] [] D7 Φ
  exact c_vret d_X7_init_163 rfl h
