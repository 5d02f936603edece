/-! the law's own small methods -/
abbrev Y_L_make : YT := (cL_make, 5, (some .int), yL_make, [(0, 10, 13, 13), (0, 10, 17, 15), (0, 10, 21, 17)], 9)
theorem d_L_make_0 : decode cL_make 0 = .ok (.aload_n 3, 1) := by decide +kernel
theorem d_L_make_1 : decode cL_make 1 = .ok (.iconst 0, 1) := by decide +kernel
theorem d_L_make_2 : decode cL_make 2 = .ok (.aload_n 0, 1) := by decide +kernel
theorem d_L_make_3 : decode cL_make 3 = .ok (.iload_n 1, 1) := by decide +kernel
theorem d_L_make_4 : decode cL_make 4 = .ok (.iload_n 2, 1) := by decide +kernel
theorem d_L_make_5 : decode cL_make 5 = .ok (.invokevirtual 7, 3) := by decide +kernel
theorem mk_X7_make : MK Y_X7_make 2 := ⟨KW.at (i := 75) (by decide +kernel) rfl, KW.at (i := 543) (by decide +kernel) rfl, ⟨by decide +kernel, by decide +kernel⟩, by decide +kernel, by decide +kernel, rfl, by decide⟩
theorem vm_X7_make : KW (.instanceMethod (yN Y_X7_make)) ∧ KW (.selects (yN Y_X7_make).cls (yN Y_X7_make) (yN Y_X7_make)) := ⟨KW.at (i := 541) (by decide +kernel) rfl, KW.at (i := 542) (by decide +kernel) rfl⟩
theorem ck_RL_7 : CKV RL 7 Y_X7_make 2 := ⟨KW.at (i := 540) (by decide +kernel) rfl, vm_X7_make.1, vm_X7_make.2, mk_X7_make⟩
theorem d_L_make_8 : decode cL_make 8 = .ok (.i2l, 1) := by decide +kernel
theorem d_L_make_9 : decode cL_make 9 = .ok (.lastore, 1) := by decide +kernel
theorem sh_68 : SH.getD 68 (9, 0, []) = (3, 1, []) := rfl
theorem d_L_make_10 : decode cL_make 10 = .ok (.goto 15, 3) := by decide +kernel
theorem d_L_make_25 : decode cL_make 25 = .ok (.iconst 0, 1) := by decide +kernel
theorem d_L_make_26 : decode cL_make 26 = .ok (.ireturn, 1) := by decide +kernel
theorem d_L_make_13 : decode cL_make 13 = .ok (.astore 4, 2) := by decide +kernel
theorem d_L_make_15 : decode cL_make 15 = .ok (.iconst 1, 1) := by decide +kernel
theorem d_L_make_16 : decode cL_make 16 = .ok (.ireturn, 1) := by decide +kernel
theorem d_L_make_17 : decode cL_make 17 = .ok (.astore 4, 2) := by decide +kernel
theorem d_L_make_19 : decode cL_make 19 = .ok (.iconst 2, 1) := by decide +kernel
theorem d_L_make_20 : decode cL_make 20 = .ok (.ireturn, 1) := by decide +kernel
theorem d_L_make_21 : decode cL_make 21 = .ok (.astore 4, 2) := by decide +kernel
theorem d_L_make_23 : decode cL_make 23 = .ok (.iconst 3, 1) := by decide +kernel
theorem d_L_make_24 : decode cL_make 24 = .ok (.ireturn, 1) := by decide +kernel
theorem hk_L_make_0 : HK Y_L_make 5 0 13 := ⟨[], (0, 10, 13, 13), [(0, 10, 17, 15), (0, 10, 21, 17)], rfl, (fun z hz => by cases hz), ⟨by decide, by decide⟩, rfl, by decide, KW.at (i := 537) (by decide +kernel) rfl, KW.at (i := 554) (by decide +kernel) rfl⟩
theorem hk_L_make_1 : HK Y_L_make 5 1 17 := ⟨[(0, 10, 13, 13)], (0, 10, 17, 15), [(0, 10, 21, 17)], rfl, (List.forall_mem_cons.mpr ⟨⟨by decide, exn 0, KW.at (i := 537) (by decide +kernel) rfl, by decide +kernel⟩, fun _ h => by cases h⟩), ⟨by decide, by decide⟩, rfl, by decide, KW.at (i := 538) (by decide +kernel) rfl, KW.at (i := 625) (by decide +kernel) rfl⟩
theorem hk_L_make_2 : HK Y_L_make 5 2 21 := ⟨[(0, 10, 13, 13), (0, 10, 17, 15)], (0, 10, 21, 17), [], rfl, (List.forall_mem_cons.mpr ⟨⟨by decide, exn 0, KW.at (i := 537) (by decide +kernel) rfl, by decide +kernel⟩, List.forall_mem_cons.mpr ⟨⟨by decide, exn 1, KW.at (i := 538) (by decide +kernel) rfl, by decide +kernel⟩, fun _ h => by cases h⟩⟩), ⟨by decide, by decide⟩, rfl, by decide, KW.at (i := 539) (by decide +kernel) rfl, KW.at (i := 659) (by decide +kernel) rfl⟩
abbrev Y_L_makeLink : YT := (cL_makeLink, 6, (some .int), yL_makeLink, [(0, 12, 15, 13), (0, 12, 19, 15), (0, 12, 23, 17)], 9)
theorem d_L_makeLink_0 : decode cL_makeLink 0 = .ok (.aload 4, 2) := by decide +kernel
theorem d_L_makeLink_2 : decode cL_makeLink 2 = .ok (.iconst 0, 1) := by decide +kernel
theorem d_L_makeLink_3 : decode cL_makeLink 3 = .ok (.aload_n 0, 1) := by decide +kernel
theorem d_L_makeLink_4 : decode cL_makeLink 4 = .ok (.iload_n 1, 1) := by decide +kernel
theorem d_L_makeLink_5 : decode cL_makeLink 5 = .ok (.iload_n 2, 1) := by decide +kernel
theorem d_L_makeLink_6 : decode cL_makeLink 6 = .ok (.iload_n 3, 1) := by decide +kernel
theorem d_L_makeLink_7 : decode cL_makeLink 7 = .ok (.invokevirtual 19, 3) := by decide +kernel
theorem mk_X7_makeLink : MK Y_X7_makeLink 3 := ⟨KW.at (i := 75) (by decide +kernel) rfl, KW.at (i := 748) (by decide +kernel) rfl, ⟨by decide +kernel, by decide +kernel⟩, by decide +kernel, by decide +kernel, rfl, by decide⟩
theorem vm_X7_makeLink : KW (.instanceMethod (yN Y_X7_makeLink)) ∧ KW (.selects (yN Y_X7_makeLink).cls (yN Y_X7_makeLink) (yN Y_X7_makeLink)) := ⟨KW.at (i := 746) (by decide +kernel) rfl, KW.at (i := 747) (by decide +kernel) rfl⟩
theorem ck_RL_19 : CKV RL 19 Y_X7_makeLink 3 := ⟨KW.at (i := 745) (by decide +kernel) rfl, vm_X7_makeLink.1, vm_X7_makeLink.2, mk_X7_makeLink⟩
theorem d_L_makeLink_10 : decode cL_makeLink 10 = .ok (.i2l, 1) := by decide +kernel
theorem d_L_makeLink_11 : decode cL_makeLink 11 = .ok (.lastore, 1) := by decide +kernel
theorem d_L_makeLink_12 : decode cL_makeLink 12 = .ok (.goto 15, 3) := by decide +kernel
theorem d_L_makeLink_27 : decode cL_makeLink 27 = .ok (.iconst 0, 1) := by decide +kernel
theorem d_L_makeLink_28 : decode cL_makeLink 28 = .ok (.ireturn, 1) := by decide +kernel
theorem d_L_makeLink_15 : decode cL_makeLink 15 = .ok (.astore 5, 2) := by decide +kernel
theorem d_L_makeLink_17 : decode cL_makeLink 17 = .ok (.iconst 1, 1) := by decide +kernel
theorem d_L_makeLink_18 : decode cL_makeLink 18 = .ok (.ireturn, 1) := by decide +kernel
theorem d_L_makeLink_19 : decode cL_makeLink 19 = .ok (.astore 5, 2) := by decide +kernel
theorem d_L_makeLink_21 : decode cL_makeLink 21 = .ok (.iconst 2, 1) := by decide +kernel
theorem d_L_makeLink_22 : decode cL_makeLink 22 = .ok (.ireturn, 1) := by decide +kernel
theorem d_L_makeLink_23 : decode cL_makeLink 23 = .ok (.astore 5, 2) := by decide +kernel
theorem d_L_makeLink_25 : decode cL_makeLink 25 = .ok (.iconst 3, 1) := by decide +kernel
theorem d_L_makeLink_26 : decode cL_makeLink 26 = .ok (.ireturn, 1) := by decide +kernel
theorem hk_L_makeLink_0 : HK Y_L_makeLink 7 0 15 := ⟨[], (0, 12, 15, 13), [(0, 12, 19, 15), (0, 12, 23, 17)], rfl, (fun z hz => by cases hz), ⟨by decide, by decide⟩, rfl, by decide, KW.at (i := 537) (by decide +kernel) rfl, KW.at (i := 554) (by decide +kernel) rfl⟩
theorem hk_L_makeLink_1 : HK Y_L_makeLink 7 1 19 := ⟨[(0, 12, 15, 13)], (0, 12, 19, 15), [(0, 12, 23, 17)], rfl, (List.forall_mem_cons.mpr ⟨⟨by decide, exn 0, KW.at (i := 537) (by decide +kernel) rfl, by decide +kernel⟩, fun _ h => by cases h⟩), ⟨by decide, by decide⟩, rfl, by decide, KW.at (i := 538) (by decide +kernel) rfl, KW.at (i := 625) (by decide +kernel) rfl⟩
theorem hk_L_makeLink_2 : HK Y_L_makeLink 7 2 23 := ⟨[(0, 12, 15, 13), (0, 12, 19, 15)], (0, 12, 23, 17), [], rfl, (List.forall_mem_cons.mpr ⟨⟨by decide, exn 0, KW.at (i := 537) (by decide +kernel) rfl, by decide +kernel⟩, List.forall_mem_cons.mpr ⟨⟨by decide, exn 1, KW.at (i := 538) (by decide +kernel) rfl, by decide +kernel⟩, fun _ h => by cases h⟩⟩), ⟨by decide, by decide⟩, rfl, by decide, KW.at (i := 539) (by decide +kernel) rfl, KW.at (i := 659) (by decide +kernel) rfl⟩
abbrev Y_L_rename : YT := (cL_rename, 5, (some .int), yL_rename, [(0, 10, 13, 13), (0, 10, 17, 15), (0, 10, 21, 17)], 8)
theorem d_L_rename_0 : decode cL_rename 0 = .ok (.aload_n 3, 1) := by decide +kernel
theorem d_L_rename_1 : decode cL_rename 1 = .ok (.iconst 0, 1) := by decide +kernel
theorem d_L_rename_2 : decode cL_rename 2 = .ok (.aload_n 0, 1) := by decide +kernel
theorem d_L_rename_3 : decode cL_rename 3 = .ok (.iload_n 1, 1) := by decide +kernel
theorem d_L_rename_4 : decode cL_rename 4 = .ok (.iload_n 2, 1) := by decide +kernel
theorem d_L_rename_5 : decode cL_rename 5 = .ok (.invokevirtual 23, 3) := by decide +kernel
theorem mk_X7_rename : MK Y_X7_rename 2 := ⟨KW.at (i := 75) (by decide +kernel) rfl, KW.at (i := 755) (by decide +kernel) rfl, ⟨by decide +kernel, by decide +kernel⟩, by decide +kernel, by decide +kernel, rfl, by decide⟩
theorem vm_X7_rename : KW (.instanceMethod (yN Y_X7_rename)) ∧ KW (.selects (yN Y_X7_rename).cls (yN Y_X7_rename) (yN Y_X7_rename)) := ⟨KW.at (i := 753) (by decide +kernel) rfl, KW.at (i := 754) (by decide +kernel) rfl⟩
theorem ck_RL_23 : CKV RL 23 Y_X7_rename 2 := ⟨KW.at (i := 752) (by decide +kernel) rfl, vm_X7_rename.1, vm_X7_rename.2, mk_X7_rename⟩
theorem d_L_rename_8 : decode cL_rename 8 = .ok (.i2l, 1) := by decide +kernel
theorem d_L_rename_9 : decode cL_rename 9 = .ok (.lastore, 1) := by decide +kernel
theorem d_L_rename_10 : decode cL_rename 10 = .ok (.goto 15, 3) := by decide +kernel
theorem d_L_rename_25 : decode cL_rename 25 = .ok (.iconst 0, 1) := by decide +kernel
theorem d_L_rename_26 : decode cL_rename 26 = .ok (.ireturn, 1) := by decide +kernel
theorem d_L_rename_13 : decode cL_rename 13 = .ok (.astore 4, 2) := by decide +kernel
theorem d_L_rename_15 : decode cL_rename 15 = .ok (.iconst 1, 1) := by decide +kernel
theorem d_L_rename_16 : decode cL_rename 16 = .ok (.ireturn, 1) := by decide +kernel
theorem d_L_rename_17 : decode cL_rename 17 = .ok (.astore 4, 2) := by decide +kernel
theorem d_L_rename_19 : decode cL_rename 19 = .ok (.iconst 2, 1) := by decide +kernel
theorem d_L_rename_20 : decode cL_rename 20 = .ok (.ireturn, 1) := by decide +kernel
theorem d_L_rename_21 : decode cL_rename 21 = .ok (.astore 4, 2) := by decide +kernel
theorem d_L_rename_23 : decode cL_rename 23 = .ok (.iconst 3, 1) := by decide +kernel
theorem d_L_rename_24 : decode cL_rename 24 = .ok (.ireturn, 1) := by decide +kernel
theorem hk_L_rename_0 : HK Y_L_rename 5 0 13 := ⟨[], (0, 10, 13, 13), [(0, 10, 17, 15), (0, 10, 21, 17)], rfl, (fun z hz => by cases hz), ⟨by decide, by decide⟩, rfl, by decide, KW.at (i := 537) (by decide +kernel) rfl, KW.at (i := 554) (by decide +kernel) rfl⟩
theorem hk_L_rename_1 : HK Y_L_rename 5 1 17 := ⟨[(0, 10, 13, 13)], (0, 10, 17, 15), [(0, 10, 21, 17)], rfl, (List.forall_mem_cons.mpr ⟨⟨by decide, exn 0, KW.at (i := 537) (by decide +kernel) rfl, by decide +kernel⟩, fun _ h => by cases h⟩), ⟨by decide, by decide⟩, rfl, by decide, KW.at (i := 538) (by decide +kernel) rfl, KW.at (i := 625) (by decide +kernel) rfl⟩
theorem hk_L_rename_2 : HK Y_L_rename 5 2 21 := ⟨[(0, 10, 13, 13), (0, 10, 17, 15)], (0, 10, 21, 17), [], rfl, (List.forall_mem_cons.mpr ⟨⟨by decide, exn 0, KW.at (i := 537) (by decide +kernel) rfl, by decide +kernel⟩, List.forall_mem_cons.mpr ⟨⟨by decide, exn 1, KW.at (i := 538) (by decide +kernel) rfl, by decide +kernel⟩, fun _ h => by cases h⟩⟩), ⟨by decide, by decide⟩, rfl, by decide, KW.at (i := 539) (by decide +kernel) rfl, KW.at (i := 659) (by decide +kernel) rfl⟩
abbrev Y_L_delete : YT := (cL_delete, 4, (some .int), yL_delete, [(0, 9, 12, 13), (0, 9, 15, 17)], 8)
theorem d_L_delete_0 : decode cL_delete 0 = .ok (.aload_n 2, 1) := by decide +kernel
theorem d_L_delete_1 : decode cL_delete 1 = .ok (.iconst 0, 1) := by decide +kernel
theorem d_L_delete_2 : decode cL_delete 2 = .ok (.aload_n 0, 1) := by decide +kernel
theorem d_L_delete_3 : decode cL_delete 3 = .ok (.iload_n 1, 1) := by decide +kernel
theorem d_L_delete_4 : decode cL_delete 4 = .ok (.invokevirtual 26, 3) := by decide +kernel
theorem mk_X7_delete : MK Y_X7_delete 1 := ⟨KW.at (i := 75) (by decide +kernel) rfl, KW.at (i := 783) (by decide +kernel) rfl, ⟨by decide +kernel, by decide +kernel⟩, by decide +kernel, by decide +kernel, rfl, by decide⟩
theorem vm_X7_delete : KW (.instanceMethod (yN Y_X7_delete)) ∧ KW (.selects (yN Y_X7_delete).cls (yN Y_X7_delete) (yN Y_X7_delete)) := ⟨KW.at (i := 781) (by decide +kernel) rfl, KW.at (i := 782) (by decide +kernel) rfl⟩
theorem ck_RL_26 : CKV RL 26 Y_X7_delete 1 := ⟨KW.at (i := 780) (by decide +kernel) rfl, vm_X7_delete.1, vm_X7_delete.2, mk_X7_delete⟩
theorem d_L_delete_7 : decode cL_delete 7 = .ok (.i2l, 1) := by decide +kernel
theorem d_L_delete_8 : decode cL_delete 8 = .ok (.lastore, 1) := by decide +kernel
theorem d_L_delete_9 : decode cL_delete 9 = .ok (.goto 9, 3) := by decide +kernel
theorem d_L_delete_18 : decode cL_delete 18 = .ok (.iconst 0, 1) := by decide +kernel
theorem d_L_delete_19 : decode cL_delete 19 = .ok (.ireturn, 1) := by decide +kernel
theorem d_L_delete_12 : decode cL_delete 12 = .ok (.astore_n 3, 1) := by decide +kernel
theorem d_L_delete_13 : decode cL_delete 13 = .ok (.iconst 1, 1) := by decide +kernel
theorem d_L_delete_14 : decode cL_delete 14 = .ok (.ireturn, 1) := by decide +kernel
theorem d_L_delete_15 : decode cL_delete 15 = .ok (.astore_n 3, 1) := by decide +kernel
theorem d_L_delete_16 : decode cL_delete 16 = .ok (.iconst 2, 1) := by decide +kernel
theorem d_L_delete_17 : decode cL_delete 17 = .ok (.ireturn, 1) := by decide +kernel
theorem hk_L_delete_0 : HK Y_L_delete 4 0 12 := ⟨[], (0, 9, 12, 13), [(0, 9, 15, 17)], rfl, (fun z hz => by cases hz), ⟨by decide, by decide⟩, rfl, by decide, KW.at (i := 537) (by decide +kernel) rfl, KW.at (i := 554) (by decide +kernel) rfl⟩
theorem hk_L_delete_1 : HK Y_L_delete 4 2 15 := ⟨[(0, 9, 12, 13)], (0, 9, 15, 17), [], rfl, (List.forall_mem_cons.mpr ⟨⟨by decide, exn 0, KW.at (i := 537) (by decide +kernel) rfl, by decide +kernel⟩, fun _ h => by cases h⟩), ⟨by decide, by decide⟩, rfl, by decide, KW.at (i := 539) (by decide +kernel) rfl, KW.at (i := 659) (by decide +kernel) rfl⟩
abbrev Y_L_find : YT := (cL_find, 5, (some .int), yL_find, [(0, 10, 13, 13), (0, 10, 17, 15)], 8)
theorem d_L_find_0 : decode cL_find 0 = .ok (.aload_n 3, 1) := by decide +kernel
theorem d_L_find_1 : decode cL_find 1 = .ok (.iconst 0, 1) := by decide +kernel
theorem d_L_find_2 : decode cL_find 2 = .ok (.aload_n 0, 1) := by decide +kernel
theorem d_L_find_3 : decode cL_find 3 = .ok (.iload_n 1, 1) := by decide +kernel
theorem d_L_find_4 : decode cL_find 4 = .ok (.iload_n 2, 1) := by decide +kernel
theorem d_L_find_5 : decode cL_find 5 = .ok (.invokevirtual 30, 3) := by decide +kernel
theorem mk_X7_find : MK Y_X7_find 2 := ⟨KW.at (i := 75) (by decide +kernel) rfl, KW.at (i := 825) (by decide +kernel) rfl, ⟨by decide +kernel, by decide +kernel⟩, by decide +kernel, by decide +kernel, rfl, by decide⟩
theorem vm_X7_find : KW (.instanceMethod (yN Y_X7_find)) ∧ KW (.selects (yN Y_X7_find).cls (yN Y_X7_find) (yN Y_X7_find)) := ⟨KW.at (i := 823) (by decide +kernel) rfl, KW.at (i := 824) (by decide +kernel) rfl⟩
theorem ck_RL_30 : CKV RL 30 Y_X7_find 2 := ⟨KW.at (i := 822) (by decide +kernel) rfl, vm_X7_find.1, vm_X7_find.2, mk_X7_find⟩
theorem d_L_find_8 : decode cL_find 8 = .ok (.i2l, 1) := by decide +kernel
theorem d_L_find_9 : decode cL_find 9 = .ok (.lastore, 1) := by decide +kernel
theorem d_L_find_10 : decode cL_find 10 = .ok (.goto 11, 3) := by decide +kernel
theorem d_L_find_21 : decode cL_find 21 = .ok (.iconst 0, 1) := by decide +kernel
theorem d_L_find_22 : decode cL_find 22 = .ok (.ireturn, 1) := by decide +kernel
theorem d_L_find_13 : decode cL_find 13 = .ok (.astore 4, 2) := by decide +kernel
theorem d_L_find_15 : decode cL_find 15 = .ok (.iconst 1, 1) := by decide +kernel
theorem d_L_find_16 : decode cL_find 16 = .ok (.ireturn, 1) := by decide +kernel
theorem d_L_find_17 : decode cL_find 17 = .ok (.astore 4, 2) := by decide +kernel
theorem d_L_find_19 : decode cL_find 19 = .ok (.iconst 2, 1) := by decide +kernel
theorem d_L_find_20 : decode cL_find 20 = .ok (.ireturn, 1) := by decide +kernel
theorem hk_L_find_0 : HK Y_L_find 5 0 13 := ⟨[], (0, 10, 13, 13), [(0, 10, 17, 15)], rfl, (fun z hz => by cases hz), ⟨by decide, by decide⟩, rfl, by decide, KW.at (i := 537) (by decide +kernel) rfl, KW.at (i := 554) (by decide +kernel) rfl⟩
theorem hk_L_find_1 : HK Y_L_find 5 1 17 := ⟨[(0, 10, 13, 13)], (0, 10, 17, 15), [], rfl, (List.forall_mem_cons.mpr ⟨⟨by decide, exn 0, KW.at (i := 537) (by decide +kernel) rfl, by decide +kernel⟩, fun _ h => by cases h⟩), ⟨by decide, by decide⟩, rfl, by decide, KW.at (i := 538) (by decide +kernel) rfl, KW.at (i := 625) (by decide +kernel) rfl⟩
abbrev Y_L_subkeyAt : YT := (cL_subkeyAt, 5, (some .int), yL_subkeyAt, [(0, 10, 13, 13)], 8)
theorem d_L_subkeyAt_0 : decode cL_subkeyAt 0 = .ok (.aload_n 3, 1) := by decide +kernel
theorem d_L_subkeyAt_1 : decode cL_subkeyAt 1 = .ok (.iconst 0, 1) := by decide +kernel
theorem d_L_subkeyAt_2 : decode cL_subkeyAt 2 = .ok (.aload_n 0, 1) := by decide +kernel
theorem d_L_subkeyAt_3 : decode cL_subkeyAt 3 = .ok (.iload_n 1, 1) := by decide +kernel
theorem d_L_subkeyAt_4 : decode cL_subkeyAt 4 = .ok (.iload_n 2, 1) := by decide +kernel
theorem d_L_subkeyAt_5 : decode cL_subkeyAt 5 = .ok (.invokevirtual 33, 3) := by decide +kernel
theorem mk_X7_subkeyAt : MK Y_X7_subkeyAt 2 := ⟨KW.at (i := 75) (by decide +kernel) rfl, KW.at (i := 832) (by decide +kernel) rfl, ⟨by decide +kernel, by decide +kernel⟩, by decide +kernel, by decide +kernel, rfl, by decide⟩
theorem vm_X7_subkeyAt : KW (.instanceMethod (yN Y_X7_subkeyAt)) ∧ KW (.selects (yN Y_X7_subkeyAt).cls (yN Y_X7_subkeyAt) (yN Y_X7_subkeyAt)) := ⟨KW.at (i := 830) (by decide +kernel) rfl, KW.at (i := 831) (by decide +kernel) rfl⟩
theorem ck_RL_33 : CKV RL 33 Y_X7_subkeyAt 2 := ⟨KW.at (i := 829) (by decide +kernel) rfl, vm_X7_subkeyAt.1, vm_X7_subkeyAt.2, mk_X7_subkeyAt⟩
theorem d_L_subkeyAt_8 : decode cL_subkeyAt 8 = .ok (.i2l, 1) := by decide +kernel
theorem d_L_subkeyAt_9 : decode cL_subkeyAt 9 = .ok (.lastore, 1) := by decide +kernel
theorem d_L_subkeyAt_10 : decode cL_subkeyAt 10 = .ok (.goto 7, 3) := by decide +kernel
theorem d_L_subkeyAt_17 : decode cL_subkeyAt 17 = .ok (.iconst 0, 1) := by decide +kernel
theorem d_L_subkeyAt_18 : decode cL_subkeyAt 18 = .ok (.ireturn, 1) := by decide +kernel
theorem d_L_subkeyAt_13 : decode cL_subkeyAt 13 = .ok (.astore 4, 2) := by decide +kernel
theorem d_L_subkeyAt_15 : decode cL_subkeyAt 15 = .ok (.iconst 1, 1) := by decide +kernel
theorem d_L_subkeyAt_16 : decode cL_subkeyAt 16 = .ok (.ireturn, 1) := by decide +kernel
theorem hk_L_subkeyAt_0 : HK Y_L_subkeyAt 5 0 13 := ⟨[], (0, 10, 13, 13), [], rfl, (fun z hz => by cases hz), ⟨by decide, by decide⟩, rfl, by decide, KW.at (i := 537) (by decide +kernel) rfl, KW.at (i := 554) (by decide +kernel) rfl⟩
abbrev Y_L_list : YT := (cL_list, 4, (some .int), yL_list, [(0, 9, 12, 13)], 8)
theorem d_L_list_0 : decode cL_list 0 = .ok (.aload_n 2, 1) := by decide +kernel
theorem d_L_list_1 : decode cL_list 1 = .ok (.iconst 0, 1) := by decide +kernel
theorem d_L_list_2 : decode cL_list 2 = .ok (.aload_n 0, 1) := by decide +kernel
theorem d_L_list_3 : decode cL_list 3 = .ok (.iload_n 1, 1) := by decide +kernel
theorem d_L_list_4 : decode cL_list 4 = .ok (.invokevirtual 36, 3) := by decide +kernel
theorem mk_X7_list : MK Y_X7_list 1 := ⟨KW.at (i := 75) (by decide +kernel) rfl, KW.at (i := 840) (by decide +kernel) rfl, ⟨by decide +kernel, by decide +kernel⟩, by decide +kernel, by decide +kernel, rfl, by decide⟩
theorem vm_X7_list : KW (.instanceMethod (yN Y_X7_list)) ∧ KW (.selects (yN Y_X7_list).cls (yN Y_X7_list) (yN Y_X7_list)) := ⟨KW.at (i := 838) (by decide +kernel) rfl, KW.at (i := 839) (by decide +kernel) rfl⟩
theorem ck_RL_36 : CKV RL 36 Y_X7_list 1 := ⟨KW.at (i := 837) (by decide +kernel) rfl, vm_X7_list.1, vm_X7_list.2, mk_X7_list⟩
theorem d_L_list_7 : decode cL_list 7 = .ok (.i2l, 1) := by decide +kernel
theorem d_L_list_8 : decode cL_list 8 = .ok (.lastore, 1) := by decide +kernel
theorem d_L_list_9 : decode cL_list 9 = .ok (.goto 6, 3) := by decide +kernel
theorem d_L_list_15 : decode cL_list 15 = .ok (.iconst 0, 1) := by decide +kernel
theorem d_L_list_16 : decode cL_list 16 = .ok (.ireturn, 1) := by decide +kernel
theorem d_L_list_12 : decode cL_list 12 = .ok (.astore_n 3, 1) := by decide +kernel
theorem d_L_list_13 : decode cL_list 13 = .ok (.iconst 1, 1) := by decide +kernel
theorem d_L_list_14 : decode cL_list 14 = .ok (.ireturn, 1) := by decide +kernel
theorem hk_L_list_0 : HK Y_L_list 4 0 12 := ⟨[], (0, 9, 12, 13), [], rfl, (fun z hz => by cases hz), ⟨by decide, by decide⟩, rfl, by decide, KW.at (i := 537) (by decide +kernel) rfl, KW.at (i := 554) (by decide +kernel) rfl⟩
abbrev Y_L_follow : YT := (cL_follow, 4, (some .int), yL_follow, [(0, 9, 12, 13)], 8)
theorem d_L_follow_0 : decode cL_follow 0 = .ok (.aload_n 2, 1) := by decide +kernel
theorem d_L_follow_1 : decode cL_follow 1 = .ok (.iconst 0, 1) := by decide +kernel
theorem d_L_follow_2 : decode cL_follow 2 = .ok (.aload_n 0, 1) := by decide +kernel
theorem d_L_follow_3 : decode cL_follow 3 = .ok (.iload_n 1, 1) := by decide +kernel
theorem d_L_follow_4 : decode cL_follow 4 = .ok (.invokevirtual 39, 3) := by decide +kernel
theorem mk_X7_follow : MK Y_X7_follow 1 := ⟨KW.at (i := 75) (by decide +kernel) rfl, KW.at (i := 847) (by decide +kernel) rfl, ⟨by decide +kernel, by decide +kernel⟩, by decide +kernel, by decide +kernel, rfl, by decide⟩
theorem vm_X7_follow : KW (.instanceMethod (yN Y_X7_follow)) ∧ KW (.selects (yN Y_X7_follow).cls (yN Y_X7_follow) (yN Y_X7_follow)) := ⟨KW.at (i := 845) (by decide +kernel) rfl, KW.at (i := 846) (by decide +kernel) rfl⟩
theorem ck_RL_39 : CKV RL 39 Y_X7_follow 1 := ⟨KW.at (i := 844) (by decide +kernel) rfl, vm_X7_follow.1, vm_X7_follow.2, mk_X7_follow⟩
theorem d_L_follow_7 : decode cL_follow 7 = .ok (.i2l, 1) := by decide +kernel
theorem d_L_follow_8 : decode cL_follow 8 = .ok (.lastore, 1) := by decide +kernel
theorem d_L_follow_9 : decode cL_follow 9 = .ok (.goto 6, 3) := by decide +kernel
theorem d_L_follow_15 : decode cL_follow 15 = .ok (.iconst 0, 1) := by decide +kernel
theorem d_L_follow_16 : decode cL_follow 16 = .ok (.ireturn, 1) := by decide +kernel
theorem d_L_follow_12 : decode cL_follow 12 = .ok (.astore_n 3, 1) := by decide +kernel
theorem d_L_follow_13 : decode cL_follow 13 = .ok (.iconst 1, 1) := by decide +kernel
theorem d_L_follow_14 : decode cL_follow 14 = .ok (.ireturn, 1) := by decide +kernel
theorem hk_L_follow_0 : HK Y_L_follow 4 0 12 := ⟨[], (0, 9, 12, 13), [], rfl, (fun z hz => by cases hz), ⟨by decide, by decide⟩, rfl, by decide, KW.at (i := 537) (by decide +kernel) rfl, KW.at (i := 554) (by decide +kernel) rfl⟩
abbrev Y_L_setValue : YT := (cL_setValue, 7, (some .int), yL_setValue, [(0, 14, 17, 13), (0, 14, 21, 15), (0, 14, 25, 17)], 8)
theorem d_L_setValue_0 : decode cL_setValue 0 = .ok (.aload 5, 2) := by decide +kernel
theorem d_L_setValue_2 : decode cL_setValue 2 = .ok (.iconst 0, 1) := by decide +kernel
theorem d_L_setValue_3 : decode cL_setValue 3 = .ok (.aload_n 0, 1) := by decide +kernel
theorem d_L_setValue_4 : decode cL_setValue 4 = .ok (.iload_n 1, 1) := by decide +kernel
theorem d_L_setValue_5 : decode cL_setValue 5 = .ok (.iload_n 2, 1) := by decide +kernel
theorem d_L_setValue_6 : decode cL_setValue 6 = .ok (.iload_n 3, 1) := by decide +kernel
theorem d_L_setValue_7 : decode cL_setValue 7 = .ok (.iload 4, 2) := by decide +kernel
theorem d_L_setValue_9 : decode cL_setValue 9 = .ok (.invokevirtual 42, 3) := by decide +kernel
theorem mk_X7_setValue : MK Y_X7_setValue 4 := ⟨KW.at (i := 75) (by decide +kernel) rfl, KW.at (i := 854) (by decide +kernel) rfl, ⟨by decide +kernel, by decide +kernel⟩, by decide +kernel, by decide +kernel, rfl, by decide⟩
theorem vm_X7_setValue : KW (.instanceMethod (yN Y_X7_setValue)) ∧ KW (.selects (yN Y_X7_setValue).cls (yN Y_X7_setValue) (yN Y_X7_setValue)) := ⟨KW.at (i := 852) (by decide +kernel) rfl, KW.at (i := 853) (by decide +kernel) rfl⟩
theorem ck_RL_42 : CKV RL 42 Y_X7_setValue 4 := ⟨KW.at (i := 851) (by decide +kernel) rfl, vm_X7_setValue.1, vm_X7_setValue.2, mk_X7_setValue⟩
theorem d_L_setValue_12 : decode cL_setValue 12 = .ok (.i2l, 1) := by decide +kernel
theorem d_L_setValue_13 : decode cL_setValue 13 = .ok (.lastore, 1) := by decide +kernel
theorem d_L_setValue_14 : decode cL_setValue 14 = .ok (.goto 15, 3) := by decide +kernel
theorem d_L_setValue_29 : decode cL_setValue 29 = .ok (.iconst 0, 1) := by decide +kernel
theorem d_L_setValue_30 : decode cL_setValue 30 = .ok (.ireturn, 1) := by decide +kernel
theorem d_L_setValue_17 : decode cL_setValue 17 = .ok (.astore 6, 2) := by decide +kernel
theorem d_L_setValue_19 : decode cL_setValue 19 = .ok (.iconst 1, 1) := by decide +kernel
theorem d_L_setValue_20 : decode cL_setValue 20 = .ok (.ireturn, 1) := by decide +kernel
theorem d_L_setValue_21 : decode cL_setValue 21 = .ok (.astore 6, 2) := by decide +kernel
theorem d_L_setValue_23 : decode cL_setValue 23 = .ok (.iconst 2, 1) := by decide +kernel
theorem d_L_setValue_24 : decode cL_setValue 24 = .ok (.ireturn, 1) := by decide +kernel
theorem d_L_setValue_25 : decode cL_setValue 25 = .ok (.astore 6, 2) := by decide +kernel
theorem d_L_setValue_27 : decode cL_setValue 27 = .ok (.iconst 3, 1) := by decide +kernel
theorem d_L_setValue_28 : decode cL_setValue 28 = .ok (.ireturn, 1) := by decide +kernel
theorem hk_L_setValue_0 : HK Y_L_setValue 9 0 17 := ⟨[], (0, 14, 17, 13), [(0, 14, 21, 15), (0, 14, 25, 17)], rfl, (fun z hz => by cases hz), ⟨by decide, by decide⟩, rfl, by decide, KW.at (i := 537) (by decide +kernel) rfl, KW.at (i := 554) (by decide +kernel) rfl⟩
theorem hk_L_setValue_1 : HK Y_L_setValue 9 1 21 := ⟨[(0, 14, 17, 13)], (0, 14, 21, 15), [(0, 14, 25, 17)], rfl, (List.forall_mem_cons.mpr ⟨⟨by decide, exn 0, KW.at (i := 537) (by decide +kernel) rfl, by decide +kernel⟩, fun _ h => by cases h⟩), ⟨by decide, by decide⟩, rfl, by decide, KW.at (i := 538) (by decide +kernel) rfl, KW.at (i := 625) (by decide +kernel) rfl⟩
theorem hk_L_setValue_2 : HK Y_L_setValue 9 2 25 := ⟨[(0, 14, 17, 13), (0, 14, 21, 15)], (0, 14, 25, 17), [], rfl, (List.forall_mem_cons.mpr ⟨⟨by decide, exn 0, KW.at (i := 537) (by decide +kernel) rfl, by decide +kernel⟩, List.forall_mem_cons.mpr ⟨⟨by decide, exn 1, KW.at (i := 538) (by decide +kernel) rfl, by decide +kernel⟩, fun _ h => by cases h⟩⟩), ⟨by decide, by decide⟩, rfl, by decide, KW.at (i := 539) (by decide +kernel) rfl, KW.at (i := 659) (by decide +kernel) rfl⟩
abbrev Y_L_resize : YT := (cL_resize, 6, (some .int), yL_resize, [(0, 12, 15, 13), (0, 12, 19, 15), (0, 12, 23, 17)], 8)
theorem d_L_resize_0 : decode cL_resize 0 = .ok (.aload 4, 2) := by decide +kernel
theorem d_L_resize_2 : decode cL_resize 2 = .ok (.iconst 0, 1) := by decide +kernel
theorem d_L_resize_3 : decode cL_resize 3 = .ok (.aload_n 0, 1) := by decide +kernel
theorem d_L_resize_4 : decode cL_resize 4 = .ok (.iload_n 1, 1) := by decide +kernel
theorem d_L_resize_5 : decode cL_resize 5 = .ok (.iload_n 2, 1) := by decide +kernel
theorem d_L_resize_6 : decode cL_resize 6 = .ok (.iload_n 3, 1) := by decide +kernel
theorem d_L_resize_7 : decode cL_resize 7 = .ok (.invokevirtual 46, 3) := by decide +kernel
theorem mk_X7_resize : MK Y_X7_resize 3 := ⟨KW.at (i := 75) (by decide +kernel) rfl, KW.at (i := 923) (by decide +kernel) rfl, ⟨by decide +kernel, by decide +kernel⟩, by decide +kernel, by decide +kernel, rfl, by decide⟩
theorem vm_X7_resize : KW (.instanceMethod (yN Y_X7_resize)) ∧ KW (.selects (yN Y_X7_resize).cls (yN Y_X7_resize) (yN Y_X7_resize)) := ⟨KW.at (i := 921) (by decide +kernel) rfl, KW.at (i := 922) (by decide +kernel) rfl⟩
theorem ck_RL_46 : CKV RL 46 Y_X7_resize 3 := ⟨KW.at (i := 920) (by decide +kernel) rfl, vm_X7_resize.1, vm_X7_resize.2, mk_X7_resize⟩
theorem d_L_resize_10 : decode cL_resize 10 = .ok (.i2l, 1) := by decide +kernel
theorem d_L_resize_11 : decode cL_resize 11 = .ok (.lastore, 1) := by decide +kernel
theorem d_L_resize_12 : decode cL_resize 12 = .ok (.goto 15, 3) := by decide +kernel
theorem d_L_resize_27 : decode cL_resize 27 = .ok (.iconst 0, 1) := by decide +kernel
theorem d_L_resize_28 : decode cL_resize 28 = .ok (.ireturn, 1) := by decide +kernel
theorem d_L_resize_15 : decode cL_resize 15 = .ok (.astore 5, 2) := by decide +kernel
theorem d_L_resize_17 : decode cL_resize 17 = .ok (.iconst 1, 1) := by decide +kernel
theorem d_L_resize_18 : decode cL_resize 18 = .ok (.ireturn, 1) := by decide +kernel
theorem d_L_resize_19 : decode cL_resize 19 = .ok (.astore 5, 2) := by decide +kernel
theorem d_L_resize_21 : decode cL_resize 21 = .ok (.iconst 2, 1) := by decide +kernel
theorem d_L_resize_22 : decode cL_resize 22 = .ok (.ireturn, 1) := by decide +kernel
theorem d_L_resize_23 : decode cL_resize 23 = .ok (.astore 5, 2) := by decide +kernel
theorem d_L_resize_25 : decode cL_resize 25 = .ok (.iconst 3, 1) := by decide +kernel
theorem d_L_resize_26 : decode cL_resize 26 = .ok (.ireturn, 1) := by decide +kernel
theorem hk_L_resize_0 : HK Y_L_resize 7 0 15 := ⟨[], (0, 12, 15, 13), [(0, 12, 19, 15), (0, 12, 23, 17)], rfl, (fun z hz => by cases hz), ⟨by decide, by decide⟩, rfl, by decide, KW.at (i := 537) (by decide +kernel) rfl, KW.at (i := 554) (by decide +kernel) rfl⟩
theorem hk_L_resize_1 : HK Y_L_resize 7 1 19 := ⟨[(0, 12, 15, 13)], (0, 12, 19, 15), [(0, 12, 23, 17)], rfl, (List.forall_mem_cons.mpr ⟨⟨by decide, exn 0, KW.at (i := 537) (by decide +kernel) rfl, by decide +kernel⟩, fun _ h => by cases h⟩), ⟨by decide, by decide⟩, rfl, by decide, KW.at (i := 538) (by decide +kernel) rfl, KW.at (i := 625) (by decide +kernel) rfl⟩
theorem hk_L_resize_2 : HK Y_L_resize 7 2 23 := ⟨[(0, 12, 15, 13), (0, 12, 19, 15)], (0, 12, 23, 17), [], rfl, (List.forall_mem_cons.mpr ⟨⟨by decide, exn 0, KW.at (i := 537) (by decide +kernel) rfl, by decide +kernel⟩, List.forall_mem_cons.mpr ⟨⟨by decide, exn 1, KW.at (i := 538) (by decide +kernel) rfl, by decide +kernel⟩, fun _ h => by cases h⟩⟩), ⟨by decide, by decide⟩, rfl, by decide, KW.at (i := 539) (by decide +kernel) rfl, KW.at (i := 659) (by decide +kernel) rfl⟩
abbrev Y_L_dropValue : YT := (cL_dropValue, 5, (some .int), yL_dropValue, [(0, 10, 13, 13)], 8)
theorem d_L_dropValue_0 : decode cL_dropValue 0 = .ok (.aload_n 3, 1) := by decide +kernel
theorem d_L_dropValue_1 : decode cL_dropValue 1 = .ok (.iconst 0, 1) := by decide +kernel
theorem d_L_dropValue_2 : decode cL_dropValue 2 = .ok (.aload_n 0, 1) := by decide +kernel
theorem d_L_dropValue_3 : decode cL_dropValue 3 = .ok (.iload_n 1, 1) := by decide +kernel
theorem d_L_dropValue_4 : decode cL_dropValue 4 = .ok (.iload_n 2, 1) := by decide +kernel
theorem d_L_dropValue_5 : decode cL_dropValue 5 = .ok (.invokevirtual 49, 3) := by decide +kernel
theorem mk_X7_dropValue : MK Y_X7_dropValue 2 := ⟨KW.at (i := 75) (by decide +kernel) rfl, KW.at (i := 947) (by decide +kernel) rfl, ⟨by decide +kernel, by decide +kernel⟩, by decide +kernel, by decide +kernel, rfl, by decide⟩
theorem vm_X7_dropValue : KW (.instanceMethod (yN Y_X7_dropValue)) ∧ KW (.selects (yN Y_X7_dropValue).cls (yN Y_X7_dropValue) (yN Y_X7_dropValue)) := ⟨KW.at (i := 945) (by decide +kernel) rfl, KW.at (i := 946) (by decide +kernel) rfl⟩
theorem ck_RL_49 : CKV RL 49 Y_X7_dropValue 2 := ⟨KW.at (i := 944) (by decide +kernel) rfl, vm_X7_dropValue.1, vm_X7_dropValue.2, mk_X7_dropValue⟩
theorem d_L_dropValue_8 : decode cL_dropValue 8 = .ok (.i2l, 1) := by decide +kernel
theorem d_L_dropValue_9 : decode cL_dropValue 9 = .ok (.lastore, 1) := by decide +kernel
theorem d_L_dropValue_10 : decode cL_dropValue 10 = .ok (.goto 7, 3) := by decide +kernel
theorem d_L_dropValue_17 : decode cL_dropValue 17 = .ok (.iconst 0, 1) := by decide +kernel
theorem d_L_dropValue_18 : decode cL_dropValue 18 = .ok (.ireturn, 1) := by decide +kernel
theorem d_L_dropValue_13 : decode cL_dropValue 13 = .ok (.astore 4, 2) := by decide +kernel
theorem d_L_dropValue_15 : decode cL_dropValue 15 = .ok (.iconst 1, 1) := by decide +kernel
theorem d_L_dropValue_16 : decode cL_dropValue 16 = .ok (.ireturn, 1) := by decide +kernel
theorem hk_L_dropValue_0 : HK Y_L_dropValue 5 0 13 := ⟨[], (0, 10, 13, 13), [], rfl, (fun z hz => by cases hz), ⟨by decide, by decide⟩, rfl, by decide, KW.at (i := 537) (by decide +kernel) rfl, KW.at (i := 554) (by decide +kernel) rfl⟩
abbrev Y_L_unit : YT := (cL_unit, 6, (some .int), yL_unit, [(0, 12, 15, 13)], 8)
theorem d_L_unit_0 : decode cL_unit 0 = .ok (.aload 4, 2) := by decide +kernel
theorem d_L_unit_2 : decode cL_unit 2 = .ok (.iconst 0, 1) := by decide +kernel
theorem d_L_unit_3 : decode cL_unit 3 = .ok (.aload_n 0, 1) := by decide +kernel
theorem d_L_unit_4 : decode cL_unit 4 = .ok (.iload_n 1, 1) := by decide +kernel
theorem d_L_unit_5 : decode cL_unit 5 = .ok (.iload_n 2, 1) := by decide +kernel
theorem d_L_unit_6 : decode cL_unit 6 = .ok (.iload_n 3, 1) := by decide +kernel
theorem d_L_unit_7 : decode cL_unit 7 = .ok (.invokevirtual 52, 3) := by decide +kernel
theorem mk_X7_unit : MK Y_X7_unit 3 := ⟨KW.at (i := 75) (by decide +kernel) rfl, KW.at (i := 963) (by decide +kernel) rfl, ⟨by decide +kernel, by decide +kernel⟩, by decide +kernel, by decide +kernel, rfl, by decide⟩
theorem vm_X7_unit : KW (.instanceMethod (yN Y_X7_unit)) ∧ KW (.selects (yN Y_X7_unit).cls (yN Y_X7_unit) (yN Y_X7_unit)) := ⟨KW.at (i := 961) (by decide +kernel) rfl, KW.at (i := 962) (by decide +kernel) rfl⟩
theorem ck_RL_52 : CKV RL 52 Y_X7_unit 3 := ⟨KW.at (i := 960) (by decide +kernel) rfl, vm_X7_unit.1, vm_X7_unit.2, mk_X7_unit⟩
theorem d_L_unit_10 : decode cL_unit 10 = .ok (.i2l, 1) := by decide +kernel
theorem d_L_unit_11 : decode cL_unit 11 = .ok (.lastore, 1) := by decide +kernel
theorem d_L_unit_12 : decode cL_unit 12 = .ok (.goto 7, 3) := by decide +kernel
theorem d_L_unit_19 : decode cL_unit 19 = .ok (.iconst 0, 1) := by decide +kernel
theorem d_L_unit_20 : decode cL_unit 20 = .ok (.ireturn, 1) := by decide +kernel
theorem d_L_unit_15 : decode cL_unit 15 = .ok (.astore 5, 2) := by decide +kernel
theorem d_L_unit_17 : decode cL_unit 17 = .ok (.iconst 1, 1) := by decide +kernel
theorem d_L_unit_18 : decode cL_unit 18 = .ok (.ireturn, 1) := by decide +kernel
theorem hk_L_unit_0 : HK Y_L_unit 7 0 15 := ⟨[], (0, 12, 15, 13), [], rfl, (fun z hz => by cases hz), ⟨by decide, by decide⟩, rfl, by decide, KW.at (i := 537) (by decide +kernel) rfl, KW.at (i := 554) (by decide +kernel) rfl⟩
abbrev Y_L_setRights : YT := (cL_setRights, 5, (some .int), yL_setRights, [(0, 10, 13, 13), (0, 10, 17, 15), (0, 10, 21, 17)], 8)
theorem d_L_setRights_0 : decode cL_setRights 0 = .ok (.aload_n 3, 1) := by decide +kernel
theorem d_L_setRights_1 : decode cL_setRights 1 = .ok (.iconst 0, 1) := by decide +kernel
theorem d_L_setRights_2 : decode cL_setRights 2 = .ok (.aload_n 0, 1) := by decide +kernel
theorem d_L_setRights_3 : decode cL_setRights 3 = .ok (.iload_n 1, 1) := by decide +kernel
theorem d_L_setRights_4 : decode cL_setRights 4 = .ok (.iload_n 2, 1) := by decide +kernel
theorem d_L_setRights_5 : decode cL_setRights 5 = .ok (.invokevirtual 55, 3) := by decide +kernel
theorem mk_X7_setRights : MK Y_X7_setRights 2 := ⟨KW.at (i := 75) (by decide +kernel) rfl, KW.at (i := 975) (by decide +kernel) rfl, ⟨by decide +kernel, by decide +kernel⟩, by decide +kernel, by decide +kernel, rfl, by decide⟩
theorem vm_X7_setRights : KW (.instanceMethod (yN Y_X7_setRights)) ∧ KW (.selects (yN Y_X7_setRights).cls (yN Y_X7_setRights) (yN Y_X7_setRights)) := ⟨KW.at (i := 973) (by decide +kernel) rfl, KW.at (i := 974) (by decide +kernel) rfl⟩
theorem ck_RL_55 : CKV RL 55 Y_X7_setRights 2 := ⟨KW.at (i := 972) (by decide +kernel) rfl, vm_X7_setRights.1, vm_X7_setRights.2, mk_X7_setRights⟩
theorem d_L_setRights_8 : decode cL_setRights 8 = .ok (.i2l, 1) := by decide +kernel
theorem d_L_setRights_9 : decode cL_setRights 9 = .ok (.lastore, 1) := by decide +kernel
theorem d_L_setRights_10 : decode cL_setRights 10 = .ok (.goto 15, 3) := by decide +kernel
theorem d_L_setRights_25 : decode cL_setRights 25 = .ok (.iconst 0, 1) := by decide +kernel
theorem d_L_setRights_26 : decode cL_setRights 26 = .ok (.ireturn, 1) := by decide +kernel
theorem d_L_setRights_13 : decode cL_setRights 13 = .ok (.astore 4, 2) := by decide +kernel
theorem d_L_setRights_15 : decode cL_setRights 15 = .ok (.iconst 1, 1) := by decide +kernel
theorem d_L_setRights_16 : decode cL_setRights 16 = .ok (.ireturn, 1) := by decide +kernel
theorem d_L_setRights_17 : decode cL_setRights 17 = .ok (.astore 4, 2) := by decide +kernel
theorem d_L_setRights_19 : decode cL_setRights 19 = .ok (.iconst 2, 1) := by decide +kernel
theorem d_L_setRights_20 : decode cL_setRights 20 = .ok (.ireturn, 1) := by decide +kernel
theorem d_L_setRights_21 : decode cL_setRights 21 = .ok (.astore 4, 2) := by decide +kernel
theorem d_L_setRights_23 : decode cL_setRights 23 = .ok (.iconst 3, 1) := by decide +kernel
theorem d_L_setRights_24 : decode cL_setRights 24 = .ok (.ireturn, 1) := by decide +kernel
theorem hk_L_setRights_0 : HK Y_L_setRights 5 0 13 := ⟨[], (0, 10, 13, 13), [(0, 10, 17, 15), (0, 10, 21, 17)], rfl, (fun z hz => by cases hz), ⟨by decide, by decide⟩, rfl, by decide, KW.at (i := 537) (by decide +kernel) rfl, KW.at (i := 554) (by decide +kernel) rfl⟩
theorem hk_L_setRights_1 : HK Y_L_setRights 5 1 17 := ⟨[(0, 10, 13, 13)], (0, 10, 17, 15), [(0, 10, 21, 17)], rfl, (List.forall_mem_cons.mpr ⟨⟨by decide, exn 0, KW.at (i := 537) (by decide +kernel) rfl, by decide +kernel⟩, fun _ h => by cases h⟩), ⟨by decide, by decide⟩, rfl, by decide, KW.at (i := 538) (by decide +kernel) rfl, KW.at (i := 625) (by decide +kernel) rfl⟩
theorem hk_L_setRights_2 : HK Y_L_setRights 5 2 21 := ⟨[(0, 10, 13, 13), (0, 10, 17, 15)], (0, 10, 21, 17), [], rfl, (List.forall_mem_cons.mpr ⟨⟨by decide, exn 0, KW.at (i := 537) (by decide +kernel) rfl, by decide +kernel⟩, List.forall_mem_cons.mpr ⟨⟨by decide, exn 1, KW.at (i := 538) (by decide +kernel) rfl, by decide +kernel⟩, fun _ h => by cases h⟩⟩), ⟨by decide, by decide⟩, rfl, by decide, KW.at (i := 539) (by decide +kernel) rfl, KW.at (i := 659) (by decide +kernel) rfl⟩
abbrev Y_L_sharers : YT := (cL_sharers, 4, (some .int), yL_sharers, [(0, 9, 12, 15)], 8)
theorem d_L_sharers_0 : decode cL_sharers 0 = .ok (.aload_n 2, 1) := by decide +kernel
theorem d_L_sharers_1 : decode cL_sharers 1 = .ok (.iconst 0, 1) := by decide +kernel
theorem d_L_sharers_2 : decode cL_sharers 2 = .ok (.aload_n 0, 1) := by decide +kernel
theorem d_L_sharers_3 : decode cL_sharers 3 = .ok (.iload_n 1, 1) := by decide +kernel
theorem d_L_sharers_4 : decode cL_sharers 4 = .ok (.invokevirtual 58, 3) := by decide +kernel
theorem mk_X7_sharers : MK Y_X7_sharers 1 := ⟨KW.at (i := 75) (by decide +kernel) rfl, KW.at (i := 986) (by decide +kernel) rfl, ⟨by decide +kernel, by decide +kernel⟩, by decide +kernel, by decide +kernel, rfl, by decide⟩
theorem vm_X7_sharers : KW (.instanceMethod (yN Y_X7_sharers)) ∧ KW (.selects (yN Y_X7_sharers).cls (yN Y_X7_sharers) (yN Y_X7_sharers)) := ⟨KW.at (i := 984) (by decide +kernel) rfl, KW.at (i := 985) (by decide +kernel) rfl⟩
theorem ck_RL_58 : CKV RL 58 Y_X7_sharers 1 := ⟨KW.at (i := 983) (by decide +kernel) rfl, vm_X7_sharers.1, vm_X7_sharers.2, mk_X7_sharers⟩
theorem d_L_sharers_7 : decode cL_sharers 7 = .ok (.i2l, 1) := by decide +kernel
theorem d_L_sharers_8 : decode cL_sharers 8 = .ok (.lastore, 1) := by decide +kernel
theorem d_L_sharers_9 : decode cL_sharers 9 = .ok (.goto 6, 3) := by decide +kernel
theorem d_L_sharers_15 : decode cL_sharers 15 = .ok (.iconst 0, 1) := by decide +kernel
theorem d_L_sharers_16 : decode cL_sharers 16 = .ok (.ireturn, 1) := by decide +kernel
theorem d_L_sharers_12 : decode cL_sharers 12 = .ok (.astore_n 3, 1) := by decide +kernel
theorem d_L_sharers_13 : decode cL_sharers 13 = .ok (.iconst 1, 1) := by decide +kernel
theorem d_L_sharers_14 : decode cL_sharers 14 = .ok (.ireturn, 1) := by decide +kernel
theorem hk_L_sharers_0 : HK Y_L_sharers 4 1 12 := ⟨[], (0, 9, 12, 15), [], rfl, (fun z hz => by cases hz), ⟨by decide, by decide⟩, rfl, by decide, KW.at (i := 538) (by decide +kernel) rfl, KW.at (i := 625) (by decide +kernel) rfl⟩
abbrev Y_L_cell : YT := (cL_cell, 4, (some .int), yL_cell, [(0, 9, 12, 13)], 7)
theorem d_L_cell_0 : decode cL_cell 0 = .ok (.aload_n 2, 1) := by decide +kernel
theorem d_L_cell_1 : decode cL_cell 1 = .ok (.iconst 0, 1) := by decide +kernel
theorem d_L_cell_2 : decode cL_cell 2 = .ok (.aload_n 0, 1) := by decide +kernel
theorem d_L_cell_3 : decode cL_cell 3 = .ok (.iload_n 1, 1) := by decide +kernel
theorem d_L_cell_4 : decode cL_cell 4 = .ok (.invokevirtual 61, 3) := by decide +kernel
theorem mk_X7_cell : MK Y_X7_cell 1 := ⟨KW.at (i := 75) (by decide +kernel) rfl, KW.at (i := 994) (by decide +kernel) rfl, ⟨by decide +kernel, by decide +kernel⟩, by decide +kernel, by decide +kernel, rfl, by decide⟩
theorem vm_X7_cell : KW (.instanceMethod (yN Y_X7_cell)) ∧ KW (.selects (yN Y_X7_cell).cls (yN Y_X7_cell) (yN Y_X7_cell)) := ⟨KW.at (i := 992) (by decide +kernel) rfl, KW.at (i := 993) (by decide +kernel) rfl⟩
theorem ck_RL_61 : CKV RL 61 Y_X7_cell 1 := ⟨KW.at (i := 991) (by decide +kernel) rfl, vm_X7_cell.1, vm_X7_cell.2, mk_X7_cell⟩
theorem d_L_cell_7 : decode cL_cell 7 = .ok (.i2l, 1) := by decide +kernel
theorem d_L_cell_8 : decode cL_cell 8 = .ok (.lastore, 1) := by decide +kernel
theorem d_L_cell_9 : decode cL_cell 9 = .ok (.goto 6, 3) := by decide +kernel
theorem d_L_cell_15 : decode cL_cell 15 = .ok (.iconst 0, 1) := by decide +kernel
theorem d_L_cell_16 : decode cL_cell 16 = .ok (.ireturn, 1) := by decide +kernel
theorem d_L_cell_12 : decode cL_cell 12 = .ok (.astore_n 3, 1) := by decide +kernel
theorem d_L_cell_13 : decode cL_cell 13 = .ok (.iconst 1, 1) := by decide +kernel
theorem d_L_cell_14 : decode cL_cell 14 = .ok (.ireturn, 1) := by decide +kernel
theorem hk_L_cell_0 : HK Y_L_cell 4 0 12 := ⟨[], (0, 9, 12, 13), [], rfl, (fun z hz => by cases hz), ⟨by decide, by decide⟩, rfl, by decide, KW.at (i := 537) (by decide +kernel) rfl, KW.at (i := 554) (by decide +kernel) rfl⟩
abbrev Y_L_place : YT := (cL_place, 4, (some .int), yL_place, [(0, 9, 12, 13)], 8)
theorem d_L_place_0 : decode cL_place 0 = .ok (.aload_n 2, 1) := by decide +kernel
theorem d_L_place_1 : decode cL_place 1 = .ok (.iconst 0, 1) := by decide +kernel
theorem d_L_place_2 : decode cL_place 2 = .ok (.aload_n 0, 1) := by decide +kernel
theorem d_L_place_3 : decode cL_place 3 = .ok (.iload_n 1, 1) := by decide +kernel
theorem d_L_place_4 : decode cL_place 4 = .ok (.invokevirtual 64, 3) := by decide +kernel
theorem mk_X7_place : MK Y_X7_place 1 := ⟨KW.at (i := 75) (by decide +kernel) rfl, KW.at (i := 1003) (by decide +kernel) rfl, ⟨by decide +kernel, by decide +kernel⟩, by decide +kernel, by decide +kernel, rfl, by decide⟩
theorem vm_X7_place : KW (.instanceMethod (yN Y_X7_place)) ∧ KW (.selects (yN Y_X7_place).cls (yN Y_X7_place) (yN Y_X7_place)) := ⟨KW.at (i := 1001) (by decide +kernel) rfl, KW.at (i := 1002) (by decide +kernel) rfl⟩
theorem ck_RL_64 : CKV RL 64 Y_X7_place 1 := ⟨KW.at (i := 1000) (by decide +kernel) rfl, vm_X7_place.1, vm_X7_place.2, mk_X7_place⟩
theorem d_L_place_7 : decode cL_place 7 = .ok (.i2l, 1) := by decide +kernel
theorem d_L_place_8 : decode cL_place 8 = .ok (.lastore, 1) := by decide +kernel
theorem d_L_place_9 : decode cL_place 9 = .ok (.goto 6, 3) := by decide +kernel
theorem d_L_place_15 : decode cL_place 15 = .ok (.iconst 0, 1) := by decide +kernel
theorem d_L_place_16 : decode cL_place 16 = .ok (.ireturn, 1) := by decide +kernel
theorem d_L_place_12 : decode cL_place 12 = .ok (.astore_n 3, 1) := by decide +kernel
theorem d_L_place_13 : decode cL_place 13 = .ok (.iconst 1, 1) := by decide +kernel
theorem d_L_place_14 : decode cL_place 14 = .ok (.ireturn, 1) := by decide +kernel
theorem hk_L_place_0 : HK Y_L_place 4 0 12 := ⟨[], (0, 9, 12, 13), [], rfl, (fun z hz => by cases hz), ⟨by decide, by decide⟩, rfl, by decide, KW.at (i := 537) (by decide +kernel) rfl, KW.at (i := 554) (by decide +kernel) rfl⟩
abbrev Y_L_watch : YT := (cL_watch, 6, (some .int), yL_watch, [(0, 19, 22, 13), (0, 19, 26, 15)], 8)
theorem d_L_watch_0 : decode cL_watch 0 = .ok (.aload 4, 2) := by decide +kernel
theorem d_L_watch_2 : decode cL_watch 2 = .ok (.iconst 0, 1) := by decide +kernel
theorem d_L_watch_3 : decode cL_watch 3 = .ok (.aload_n 0, 1) := by decide +kernel
theorem d_L_watch_4 : decode cL_watch 4 = .ok (.iload_n 1, 1) := by decide +kernel
theorem d_L_watch_5 : decode cL_watch 5 = .ok (.iload_n 2, 1) := by decide +kernel
theorem d_L_watch_6 : decode cL_watch 6 = .ok (.iload_n 3, 1) := by decide +kernel
theorem d_L_watch_7 : decode cL_watch 7 = .ok (.invokevirtual 67, 3) := by decide +kernel
theorem mk_X7_watch : MK Y_X7_watch 3 := ⟨KW.at (i := 75) (by decide +kernel) rfl, KW.at (i := 1010) (by decide +kernel) rfl, ⟨by decide +kernel, by decide +kernel⟩, by decide +kernel, by decide +kernel, rfl, by decide⟩
theorem vm_X7_watch : KW (.instanceMethod (yN Y_X7_watch)) ∧ KW (.selects (yN Y_X7_watch).cls (yN Y_X7_watch) (yN Y_X7_watch)) := ⟨KW.at (i := 1008) (by decide +kernel) rfl, KW.at (i := 1009) (by decide +kernel) rfl⟩
theorem ck_RL_67 : CKV RL 67 Y_X7_watch 3 := ⟨KW.at (i := 1007) (by decide +kernel) rfl, vm_X7_watch.1, vm_X7_watch.2, mk_X7_watch⟩
theorem d_L_watch_10 : decode cL_watch 10 = .ok (.ifCond .eq 7, 3) := by decide +kernel
theorem d_L_watch_18 : decode cL_watch 18 = .ok (.lastore, 1) := by decide +kernel
theorem d_L_watch_19 : decode cL_watch 19 = .ok (.goto 11, 3) := by decide +kernel
theorem d_L_watch_30 : decode cL_watch 30 = .ok (.iconst 0, 1) := by decide +kernel
theorem d_L_watch_31 : decode cL_watch 31 = .ok (.ireturn, 1) := by decide +kernel
theorem d_L_watch_17 : decode cL_watch 17 = .ok (.lconst 0, 1) := by decide +kernel
theorem d_L_watch_13 : decode cL_watch 13 = .ok (.lconst 1, 1) := by decide +kernel
theorem d_L_watch_14 : decode cL_watch 14 = .ok (.goto 4, 3) := by decide +kernel
theorem d_L_watch_22 : decode cL_watch 22 = .ok (.astore 5, 2) := by decide +kernel
theorem d_L_watch_24 : decode cL_watch 24 = .ok (.iconst 1, 1) := by decide +kernel
theorem d_L_watch_25 : decode cL_watch 25 = .ok (.ireturn, 1) := by decide +kernel
theorem d_L_watch_26 : decode cL_watch 26 = .ok (.astore 5, 2) := by decide +kernel
theorem d_L_watch_28 : decode cL_watch 28 = .ok (.iconst 2, 1) := by decide +kernel
theorem d_L_watch_29 : decode cL_watch 29 = .ok (.ireturn, 1) := by decide +kernel
theorem hk_L_watch_0 : HK Y_L_watch 7 0 22 := ⟨[], (0, 19, 22, 13), [(0, 19, 26, 15)], rfl, (fun z hz => by cases hz), ⟨by decide, by decide⟩, rfl, by decide, KW.at (i := 537) (by decide +kernel) rfl, KW.at (i := 554) (by decide +kernel) rfl⟩
theorem hk_L_watch_1 : HK Y_L_watch 7 1 26 := ⟨[(0, 19, 22, 13)], (0, 19, 26, 15), [], rfl, (List.forall_mem_cons.mpr ⟨⟨by decide, exn 0, KW.at (i := 537) (by decide +kernel) rfl, by decide +kernel⟩, fun _ h => by cases h⟩), ⟨by decide, by decide⟩, rfl, by decide, KW.at (i := 538) (by decide +kernel) rfl, KW.at (i := 625) (by decide +kernel) rfl⟩
abbrev Y_L_flush : YT := (cL_flush, 3, (some .int), yL_flush, [(0, 8, 11, 17)], 7)
theorem d_L_flush_0 : decode cL_flush 0 = .ok (.aload_n 1, 1) := by decide +kernel
theorem d_L_flush_1 : decode cL_flush 1 = .ok (.iconst 0, 1) := by decide +kernel
theorem d_L_flush_2 : decode cL_flush 2 = .ok (.aload_n 0, 1) := by decide +kernel
theorem d_L_flush_3 : decode cL_flush 3 = .ok (.invokevirtual 71, 3) := by decide +kernel
theorem mk_X7_flush : MK Y_X7_flush 0 := ⟨KW.at (i := 75) (by decide +kernel) rfl, KW.at (i := 1023) (by decide +kernel) rfl, ⟨by decide +kernel, by decide +kernel⟩, by decide +kernel, by decide +kernel, rfl, by decide⟩
theorem vm_X7_flush : KW (.instanceMethod (yN Y_X7_flush)) ∧ KW (.selects (yN Y_X7_flush).cls (yN Y_X7_flush) (yN Y_X7_flush)) := ⟨KW.at (i := 1021) (by decide +kernel) rfl, KW.at (i := 1022) (by decide +kernel) rfl⟩
theorem ck_RL_71 : CKV RL 71 Y_X7_flush 0 := ⟨KW.at (i := 1020) (by decide +kernel) rfl, vm_X7_flush.1, vm_X7_flush.2, mk_X7_flush⟩
theorem d_L_flush_6 : decode cL_flush 6 = .ok (.i2l, 1) := by decide +kernel
theorem d_L_flush_7 : decode cL_flush 7 = .ok (.lastore, 1) := by decide +kernel
theorem d_L_flush_8 : decode cL_flush 8 = .ok (.goto 6, 3) := by decide +kernel
theorem d_L_flush_14 : decode cL_flush 14 = .ok (.iconst 0, 1) := by decide +kernel
theorem d_L_flush_15 : decode cL_flush 15 = .ok (.ireturn, 1) := by decide +kernel
theorem d_L_flush_11 : decode cL_flush 11 = .ok (.astore_n 2, 1) := by decide +kernel
theorem d_L_flush_12 : decode cL_flush 12 = .ok (.iconst 1, 1) := by decide +kernel
theorem d_L_flush_13 : decode cL_flush 13 = .ok (.ireturn, 1) := by decide +kernel
theorem hk_L_flush_0 : HK Y_L_flush 3 2 11 := ⟨[], (0, 8, 11, 17), [], rfl, (fun z hz => by cases hz), ⟨by decide, by decide⟩, rfl, by decide, KW.at (i := 539) (by decide +kernel) rfl, KW.at (i := 659) (by decide +kernel) rfl⟩
abbrev Y_L_write : YT := (cL_write, 4, (some .int), yL_write, [(0, 9, 12, 15), (0, 9, 15, 17)], 7)
theorem d_L_write_0 : decode cL_write 0 = .ok (.aload_n 2, 1) := by decide +kernel
theorem d_L_write_1 : decode cL_write 1 = .ok (.iconst 0, 1) := by decide +kernel
theorem d_L_write_2 : decode cL_write 2 = .ok (.aload_n 0, 1) := by decide +kernel
theorem d_L_write_3 : decode cL_write 3 = .ok (.iload_n 1, 1) := by decide +kernel
theorem d_L_write_4 : decode cL_write 4 = .ok (.invokevirtual 75, 3) := by decide +kernel
theorem mk_X7_write : MK Y_X7_write 1 := ⟨KW.at (i := 75) (by decide +kernel) rfl, KW.at (i := 1046) (by decide +kernel) rfl, ⟨by decide +kernel, by decide +kernel⟩, by decide +kernel, by decide +kernel, rfl, by decide⟩
theorem vm_X7_write : KW (.instanceMethod (yN Y_X7_write)) ∧ KW (.selects (yN Y_X7_write).cls (yN Y_X7_write) (yN Y_X7_write)) := ⟨KW.at (i := 1044) (by decide +kernel) rfl, KW.at (i := 1045) (by decide +kernel) rfl⟩
theorem ck_RL_75 : CKV RL 75 Y_X7_write 1 := ⟨KW.at (i := 1043) (by decide +kernel) rfl, vm_X7_write.1, vm_X7_write.2, mk_X7_write⟩
theorem d_L_write_7 : decode cL_write 7 = .ok (.i2l, 1) := by decide +kernel
theorem d_L_write_8 : decode cL_write 8 = .ok (.lastore, 1) := by decide +kernel
theorem d_L_write_9 : decode cL_write 9 = .ok (.goto 9, 3) := by decide +kernel
theorem d_L_write_18 : decode cL_write 18 = .ok (.iconst 0, 1) := by decide +kernel
theorem d_L_write_19 : decode cL_write 19 = .ok (.ireturn, 1) := by decide +kernel
theorem d_L_write_12 : decode cL_write 12 = .ok (.astore_n 3, 1) := by decide +kernel
theorem d_L_write_13 : decode cL_write 13 = .ok (.iconst 1, 1) := by decide +kernel
theorem d_L_write_14 : decode cL_write 14 = .ok (.ireturn, 1) := by decide +kernel
theorem d_L_write_15 : decode cL_write 15 = .ok (.astore_n 3, 1) := by decide +kernel
theorem d_L_write_16 : decode cL_write 16 = .ok (.iconst 2, 1) := by decide +kernel
theorem d_L_write_17 : decode cL_write 17 = .ok (.ireturn, 1) := by decide +kernel
theorem hk_L_write_0 : HK Y_L_write 4 1 12 := ⟨[], (0, 9, 12, 15), [(0, 9, 15, 17)], rfl, (fun z hz => by cases hz), ⟨by decide, by decide⟩, rfl, by decide, KW.at (i := 538) (by decide +kernel) rfl, KW.at (i := 625) (by decide +kernel) rfl⟩
theorem hk_L_write_1 : HK Y_L_write 4 2 15 := ⟨[(0, 9, 12, 15)], (0, 9, 15, 17), [], rfl, (List.forall_mem_cons.mpr ⟨⟨by decide, exn 1, KW.at (i := 538) (by decide +kernel) rfl, by decide +kernel⟩, fun _ h => by cases h⟩), ⟨by decide, by decide⟩, rfl, by decide, KW.at (i := 539) (by decide +kernel) rfl, KW.at (i := 659) (by decide +kernel) rfl⟩
abbrev Y_L_log : YT := (cL_log, 4, (some .int), yL_log, [(0, 9, 12, 15)], 7)
theorem d_L_log_0 : decode cL_log 0 = .ok (.aload_n 2, 1) := by decide +kernel
theorem d_L_log_1 : decode cL_log 1 = .ok (.iconst 0, 1) := by decide +kernel
theorem d_L_log_2 : decode cL_log 2 = .ok (.aload_n 0, 1) := by decide +kernel
theorem d_L_log_3 : decode cL_log 3 = .ok (.iload_n 1, 1) := by decide +kernel
theorem d_L_log_4 : decode cL_log 4 = .ok (.invokevirtual 78, 3) := by decide +kernel
theorem mk_X7_log : MK Y_X7_log 1 := ⟨KW.at (i := 75) (by decide +kernel) rfl, KW.at (i := 1062) (by decide +kernel) rfl, ⟨by decide +kernel, by decide +kernel⟩, by decide +kernel, by decide +kernel, rfl, by decide⟩
theorem vm_X7_log : KW (.instanceMethod (yN Y_X7_log)) ∧ KW (.selects (yN Y_X7_log).cls (yN Y_X7_log) (yN Y_X7_log)) := ⟨KW.at (i := 1060) (by decide +kernel) rfl, KW.at (i := 1061) (by decide +kernel) rfl⟩
theorem ck_RL_78 : CKV RL 78 Y_X7_log 1 := ⟨KW.at (i := 1059) (by decide +kernel) rfl, vm_X7_log.1, vm_X7_log.2, mk_X7_log⟩
theorem d_L_log_7 : decode cL_log 7 = .ok (.i2l, 1) := by decide +kernel
theorem d_L_log_8 : decode cL_log 8 = .ok (.lastore, 1) := by decide +kernel
theorem d_L_log_9 : decode cL_log 9 = .ok (.goto 6, 3) := by decide +kernel
theorem d_L_log_15 : decode cL_log 15 = .ok (.iconst 0, 1) := by decide +kernel
theorem d_L_log_16 : decode cL_log 16 = .ok (.ireturn, 1) := by decide +kernel
theorem d_L_log_12 : decode cL_log 12 = .ok (.astore_n 3, 1) := by decide +kernel
theorem d_L_log_13 : decode cL_log 13 = .ok (.iconst 1, 1) := by decide +kernel
theorem d_L_log_14 : decode cL_log 14 = .ok (.ireturn, 1) := by decide +kernel
theorem hk_L_log_0 : HK Y_L_log 4 1 12 := ⟨[], (0, 9, 12, 15), [], rfl, (fun z hz => by cases hz), ⟨by decide, by decide⟩, rfl, by decide, KW.at (i := 538) (by decide +kernel) rfl, KW.at (i := 625) (by decide +kernel) rfl⟩
noncomputable section
def pE_make (p1 : Int) (p2 : Int) (D : DD) : Res :=
  ctc (pH_make p1 p2 D) (fun v1 D1 =>
      gD (up2 D1 68 0 (w32 v1)) fun D2 =>
      okR 0 D2) fun n D3 =>
  if n = 0 then (
    okR 1 D3
  ) else (
  if n = 1 then (
    okR 2 D3
  ) else (
  if n = 2 then (
    okR 3 D3
  ) else (
  none)))
def pE_makeLink (p1 : Int) (p2 : Int) (p3 : Int) (D : DD) : Res :=
  ctc (pH_makeLink p1 p2 p3 D) (fun v1 D1 =>
      gD (up2 D1 68 0 (w32 v1)) fun D2 =>
      okR 0 D2) fun n D3 =>
  if n = 0 then (
    okR 1 D3
  ) else (
  if n = 1 then (
    okR 2 D3
  ) else (
  if n = 2 then (
    okR 3 D3
  ) else (
  none)))
def pE_rename (p1 : Int) (p2 : Int) (D : DD) : Res :=
  ctc (pH_rename p1 p2 D) (fun v1 D1 =>
      gD (up2 D1 68 0 (w32 v1)) fun D2 =>
      okR 0 D2) fun n D3 =>
  if n = 0 then (
    okR 1 D3
  ) else (
  if n = 1 then (
    okR 2 D3
  ) else (
  if n = 2 then (
    okR 3 D3
  ) else (
  none)))
def pE_delete (p1 : Int) (D : DD) : Res :=
  ctc (pH_delete p1 D) (fun v1 D1 =>
      gD (up2 D1 68 0 (w32 v1)) fun D2 =>
      okR 0 D2) fun n D3 =>
  if n = 0 then (
    okR 1 D3
  ) else (
  if n = 2 then (
    okR 2 D3
  ) else (
  none))
def pE_find (p1 : Int) (p2 : Int) (D : DD) : Res :=
  ctc (pH_find p1 p2 D) (fun v1 D1 =>
      gD (up2 D1 68 0 (w32 v1)) fun D2 =>
      okR 0 D2) fun n D3 =>
  if n = 0 then (
    okR 1 D3
  ) else (
  if n = 1 then (
    okR 2 D3
  ) else (
  none))
def pE_subkeyAt (p1 : Int) (p2 : Int) (D : DD) : Res :=
  ctc (pH_subkeyAt p1 p2 D) (fun v1 D1 =>
      gD (up2 D1 68 0 (w32 v1)) fun D2 =>
      okR 0 D2) fun n D3 =>
  if n = 0 then (
    okR 1 D3
  ) else (
  none)
def pE_list (p1 : Int) (D : DD) : Res :=
  ctc (pH_list p1 D) (fun v1 D1 =>
      gD (up2 D1 68 0 (w32 v1)) fun D2 =>
      okR 0 D2) fun n D3 =>
  if n = 0 then (
    okR 1 D3
  ) else (
  none)
def pE_follow (p1 : Int) (D : DD) : Res :=
  ctc (pH_follow p1 D) (fun v1 D1 =>
      gD (up2 D1 68 0 (w32 v1)) fun D2 =>
      okR 0 D2) fun n D3 =>
  if n = 0 then (
    okR 1 D3
  ) else (
  none)
def pE_setValue (p1 : Int) (p2 : Int) (p3 : Int) (p4 : Int) (D : DD) : Res :=
  ctc (pH_setValue p1 p2 p3 p4 D) (fun v1 D1 =>
      gD (up2 D1 68 0 (w32 v1)) fun D2 =>
      okR 0 D2) fun n D3 =>
  if n = 0 then (
    okR 1 D3
  ) else (
  if n = 1 then (
    okR 2 D3
  ) else (
  if n = 2 then (
    okR 3 D3
  ) else (
  none)))
def pE_resize (p1 : Int) (p2 : Int) (p3 : Int) (D : DD) : Res :=
  ctc (pH_resize p1 p2 p3 D) (fun v1 D1 =>
      gD (up2 D1 68 0 (w32 v1)) fun D2 =>
      okR 0 D2) fun n D3 =>
  if n = 0 then (
    okR 1 D3
  ) else (
  if n = 1 then (
    okR 2 D3
  ) else (
  if n = 2 then (
    okR 3 D3
  ) else (
  none)))
def pE_dropValue (p1 : Int) (p2 : Int) (D : DD) : Res :=
  ctc (pH_dropValue p1 p2 D) (fun v1 D1 =>
      gD (up2 D1 68 0 (w32 v1)) fun D2 =>
      okR 0 D2) fun n D3 =>
  if n = 0 then (
    okR 1 D3
  ) else (
  none)
def pE_unit (p1 : Int) (p2 : Int) (p3 : Int) (D : DD) : Res :=
  ctc (pH_unit p1 p2 p3 D) (fun v1 D1 =>
      gD (up2 D1 68 0 (w32 v1)) fun D2 =>
      okR 0 D2) fun n D3 =>
  if n = 0 then (
    okR 1 D3
  ) else (
  none)
def pE_setRights (p1 : Int) (p2 : Int) (D : DD) : Res :=
  ctc (pH_setRights p1 p2 D) (fun v1 D1 =>
      gD (up2 D1 68 0 (w32 v1)) fun D2 =>
      okR 0 D2) fun n D3 =>
  if n = 0 then (
    okR 1 D3
  ) else (
  if n = 1 then (
    okR 2 D3
  ) else (
  if n = 2 then (
    okR 3 D3
  ) else (
  none)))
def pE_sharers (p1 : Int) (D : DD) : Res :=
  ctc (pH_sharers p1 D) (fun v1 D1 =>
      gD (up2 D1 68 0 (w32 v1)) fun D2 =>
      okR 0 D2) fun n D3 =>
  if n = 1 then (
    okR 1 D3
  ) else (
  none)
def pE_cell (p1 : Int) (D : DD) : Res :=
  ctc (pH_cell p1 D) (fun v1 D1 =>
      gD (up2 D1 68 0 (w32 v1)) fun D2 =>
      okR 0 D2) fun n D3 =>
  if n = 0 then (
    okR 1 D3
  ) else (
  none)
def pE_place (p1 : Int) (D : DD) : Res :=
  ctc (pH_place p1 D) (fun v1 D1 =>
      gD (up2 D1 68 0 (w32 v1)) fun D2 =>
      okR 0 D2) fun n D3 =>
  if n = 0 then (
    okR 1 D3
  ) else (
  none)
def pE_watch (p1 : Int) (p2 : Int) (p3 : Int) (D : DD) : Res :=
  ctc (pH_watch p1 p2 p3 D) (fun v1 D1 =>
      jnR (fun (x1 : Int) (D2 : DD) =>
          gD (up2 D2 68 0 x1) fun D3 =>
          okR 0 D3) fun J1 =>
      if (w32 v1) = 0 then (
        J1 0 D1
      ) else (
        J1 1 D1
      )) fun n D4 =>
  if n = 0 then (
    okR 1 D4
  ) else (
  if n = 1 then (
    okR 2 D4
  ) else (
  none))
def pE_flush (D : DD) : Res :=
  ctc (pH_flush D) (fun v1 D1 =>
      gD (up2 D1 68 0 (w32 v1)) fun D2 =>
      okR 0 D2) fun n D3 =>
  if n = 2 then (
    okR 1 D3
  ) else (
  none)
def pE_write (p1 : Int) (D : DD) : Res :=
  ctc (pH_write p1 D) (fun v1 D1 =>
      gD (up2 D1 68 0 (w32 v1)) fun D2 =>
      okR 0 D2) fun n D3 =>
  if n = 1 then (
    okR 1 D3
  ) else (
  if n = 2 then (
    okR 2 D3
  ) else (
  none))
def pE_log (p1 : Int) (D : DD) : Res :=
  ctc (pH_log p1 D) (fun v1 D1 =>
      gD (up2 D1 68 0 (w32 v1)) fun D2 =>
      okR 0 D2) fun n D3 =>
  if n = 1 then (
    okR 1 D3
  ) else (
  none)
end
set_option maxRecDepth 20000 in
theorem run_pE_make {Γ : GG} {rg : Nat → Bool} {κ : Nat} {Φ : OT → DD → Prop} (R : cov rg rg2) (p1 : Int) (p2 : Int) {D : DD} (h : WP (some .int) 0 Φ (pE_make p1 p2 D)) : Run Γ rg 1 Y_L_make 0 [(8, 0), (0, p1), (0, p2), (76, 0), (5, 0)] [] D Φ := by
  unfold pE_make at h
  show Run Γ rg 1 Y_L_make 0 [(8, 0), (0, p1), (0, p2), (76, 0), (5, 0)] [] D Φ
  refine r_aload_n d_L_make_0 rfl (by decide) ?_
  refine r_iconst d_L_make_1 ?_
  refine r_aload_n d_L_make_2 rfl (by decide) ?_
  refine r_iload_n d_L_make_3 rfl ?_
  refine r_iload_n d_L_make_4 rfl ?_
  refine c_callCi (t' := (some .int)) (a := 0) (z := 0) (as := [(0, p1), (0, p2)]) (rest := [(0, 0), (76, 0)]) (ls' := [(8, 0), (0, p1), (0, p2)]) d_L_make_5 ck_RL_7 rfl sh_0 rfl (by decide) (R 0 rfl) rfl rfl (Nat.le_of_ble_eq_true rfl) (Nat.le_of_ble_eq_true rfl) (by decide) rfl rfl (fun _ => rfl) (fun κ' Ψ hΨ => run_pH_make (cov20 R) _ _ hΨ) h (fun v1 D1 h => ?_) (fun n D3 h => ?_)
  · skip
    show Run Γ rg 0 Y_L_make 8 [(8, 0), (0, p1), (0, p2), (76, 0), (5, 0)] [(0, v1), (0, 0), (76, 0)] D1 Φ
    refine c_i2l d_L_make_8 (nz_w _) ?_
    refine c_last0 (k := 0) d_L_make_9 sh_68 (by decide) (R 68 rfl) (by decide) rfl (by decide) h (fun D2 h => ?_)
    refine r_goto (tgt := 25) d_L_make_10 (by decide) ?_
    show Run Γ rg 0 Y_L_make 25 [(8, 0), (0, p1), (0, p2), (76, 0), (5, 0)] [] D2 Φ
    refine r_iconst d_L_make_25 ?_
    exact c_iret d_L_make_26 rfl h
  · skip
    by_cases g0 : n = 0
    · rw [if_pos g0] at h
      subst g0
      refine ⟨13, hk_L_make_0, ?_⟩
      show Run Γ rg 0 Y_L_make 13 [(8, 0), (0, p1), (0, p2), (76, 0), (5, 0)] [(4, 0)] D3 Φ
      refine r_astore d_L_make_13 (by decide) rfl (by decide) ?_
      show Run Γ rg 0 Y_L_make 15 [(8, 0), (0, p1), (0, p2), (76, 0), (4, 0)] [] D3 Φ
      refine r_iconst d_L_make_15 ?_
      exact c_iret d_L_make_16 rfl h
    · rw [if_neg g0] at h
      by_cases g1 : n = 1
      · rw [if_pos g1] at h
        subst g1
        refine ⟨17, hk_L_make_1, ?_⟩
        show Run Γ rg 0 Y_L_make 17 [(8, 0), (0, p1), (0, p2), (76, 0), (5, 0)] [(4, 0)] D3 Φ
        refine r_astore d_L_make_17 (by decide) rfl (by decide) ?_
        show Run Γ rg 0 Y_L_make 19 [(8, 0), (0, p1), (0, p2), (76, 0), (4, 0)] [] D3 Φ
        refine r_iconst d_L_make_19 ?_
        exact c_iret d_L_make_20 rfl h
      · rw [if_neg g1] at h
        by_cases g2 : n = 2
        · rw [if_pos g2] at h
          subst g2
          refine ⟨21, hk_L_make_2, ?_⟩
          show Run Γ rg 0 Y_L_make 21 [(8, 0), (0, p1), (0, p2), (76, 0), (5, 0)] [(4, 0)] D3 Φ
          refine r_astore d_L_make_21 (by decide) rfl (by decide) ?_
          show Run Γ rg 0 Y_L_make 23 [(8, 0), (0, p1), (0, p2), (76, 0), (4, 0)] [] D3 Φ
          refine r_iconst d_L_make_23 ?_
          exact c_iret d_L_make_24 rfl h
        · rw [if_neg g2] at h
          exact h.no.elim
set_option maxRecDepth 20000 in
theorem run_pE_makeLink {Γ : GG} {rg : Nat → Bool} {κ : Nat} {Φ : OT → DD → Prop} (R : cov rg rg2) (p1 : Int) (p2 : Int) (p3 : Int) {D : DD} (h : WP (some .int) 0 Φ (pE_makeLink p1 p2 p3 D)) : Run Γ rg 1 Y_L_makeLink 0 [(8, 0), (0, p1), (0, p2), (0, p3), (76, 0), (5, 0)] [] D Φ := by
  unfold pE_makeLink at h
  show Run Γ rg 1 Y_L_makeLink 0 [(8, 0), (0, p1), (0, p2), (0, p3), (76, 0), (5, 0)] [] D Φ
  refine r_aload d_L_makeLink_0 rfl (by decide) ?_
  refine r_iconst d_L_makeLink_2 ?_
  refine r_aload_n d_L_makeLink_3 rfl (by decide) ?_
  refine r_iload_n d_L_makeLink_4 rfl ?_
  refine r_iload_n d_L_makeLink_5 rfl ?_
  refine r_iload_n d_L_makeLink_6 rfl ?_
  refine c_callCi (t' := (some .int)) (a := 0) (z := 0) (as := [(0, p1), (0, p2), (0, p3)]) (rest := [(0, 0), (76, 0)]) (ls' := [(8, 0), (0, p1), (0, p2), (0, p3)]) d_L_makeLink_7 ck_RL_19 rfl sh_0 rfl (by decide) (R 0 rfl) rfl rfl (Nat.le_of_ble_eq_true rfl) (Nat.le_of_ble_eq_true rfl) (by decide) rfl rfl (fun _ => rfl) (fun κ' Ψ hΨ => run_pH_makeLink (cov20 R) _ _ _ hΨ) h (fun v1 D1 h => ?_) (fun n D3 h => ?_)
  · skip
    show Run Γ rg 0 Y_L_makeLink 10 [(8, 0), (0, p1), (0, p2), (0, p3), (76, 0), (5, 0)] [(0, v1), (0, 0), (76, 0)] D1 Φ
    refine c_i2l d_L_makeLink_10 (nz_w _) ?_
    refine c_last0 (k := 0) d_L_makeLink_11 sh_68 (by decide) (R 68 rfl) (by decide) rfl (by decide) h (fun D2 h => ?_)
    refine r_goto (tgt := 27) d_L_makeLink_12 (by decide) ?_
    show Run Γ rg 0 Y_L_makeLink 27 [(8, 0), (0, p1), (0, p2), (0, p3), (76, 0), (5, 0)] [] D2 Φ
    refine r_iconst d_L_makeLink_27 ?_
    exact c_iret d_L_makeLink_28 rfl h
  · skip
    by_cases g0 : n = 0
    · rw [if_pos g0] at h
      subst g0
      refine ⟨15, hk_L_makeLink_0, ?_⟩
      show Run Γ rg 0 Y_L_makeLink 15 [(8, 0), (0, p1), (0, p2), (0, p3), (76, 0), (5, 0)] [(4, 0)] D3 Φ
      refine r_astore d_L_makeLink_15 (by decide) rfl (by decide) ?_
      show Run Γ rg 0 Y_L_makeLink 17 [(8, 0), (0, p1), (0, p2), (0, p3), (76, 0), (4, 0)] [] D3 Φ
      refine r_iconst d_L_makeLink_17 ?_
      exact c_iret d_L_makeLink_18 rfl h
    · rw [if_neg g0] at h
      by_cases g1 : n = 1
      · rw [if_pos g1] at h
        subst g1
        refine ⟨19, hk_L_makeLink_1, ?_⟩
        show Run Γ rg 0 Y_L_makeLink 19 [(8, 0), (0, p1), (0, p2), (0, p3), (76, 0), (5, 0)] [(4, 0)] D3 Φ
        refine r_astore d_L_makeLink_19 (by decide) rfl (by decide) ?_
        show Run Γ rg 0 Y_L_makeLink 21 [(8, 0), (0, p1), (0, p2), (0, p3), (76, 0), (4, 0)] [] D3 Φ
        refine r_iconst d_L_makeLink_21 ?_
        exact c_iret d_L_makeLink_22 rfl h
      · rw [if_neg g1] at h
        by_cases g2 : n = 2
        · rw [if_pos g2] at h
          subst g2
          refine ⟨23, hk_L_makeLink_2, ?_⟩
          show Run Γ rg 0 Y_L_makeLink 23 [(8, 0), (0, p1), (0, p2), (0, p3), (76, 0), (5, 0)] [(4, 0)] D3 Φ
          refine r_astore d_L_makeLink_23 (by decide) rfl (by decide) ?_
          show Run Γ rg 0 Y_L_makeLink 25 [(8, 0), (0, p1), (0, p2), (0, p3), (76, 0), (4, 0)] [] D3 Φ
          refine r_iconst d_L_makeLink_25 ?_
          exact c_iret d_L_makeLink_26 rfl h
        · rw [if_neg g2] at h
          exact h.no.elim
set_option maxRecDepth 20000 in
theorem run_pE_rename {Γ : GG} {rg : Nat → Bool} {κ : Nat} {Φ : OT → DD → Prop} (R : cov rg rg2) (p1 : Int) (p2 : Int) {D : DD} (h : WP (some .int) 0 Φ (pE_rename p1 p2 D)) : Run Γ rg 1 Y_L_rename 0 [(8, 0), (0, p1), (0, p2), (76, 0), (5, 0)] [] D Φ := by
  unfold pE_rename at h
  show Run Γ rg 1 Y_L_rename 0 [(8, 0), (0, p1), (0, p2), (76, 0), (5, 0)] [] D Φ
  refine r_aload_n d_L_rename_0 rfl (by decide) ?_
  refine r_iconst d_L_rename_1 ?_
  refine r_aload_n d_L_rename_2 rfl (by decide) ?_
  refine r_iload_n d_L_rename_3 rfl ?_
  refine r_iload_n d_L_rename_4 rfl ?_
  refine c_callCi (t' := (some .int)) (a := 0) (z := 0) (as := [(0, p1), (0, p2)]) (rest := [(0, 0), (76, 0)]) (ls' := [(8, 0), (0, p1), (0, p2), (5, 0), (5, 0), (5, 0), (5, 0)]) d_L_rename_5 ck_RL_23 rfl sh_0 rfl (by decide) (R 0 rfl) rfl rfl (Nat.le_of_ble_eq_true rfl) (Nat.le_of_ble_eq_true rfl) (by decide) rfl rfl (fun _ => rfl) (fun κ' Ψ hΨ => run_pH_rename (cov20 R) _ _ hΨ) h (fun v1 D1 h => ?_) (fun n D3 h => ?_)
  · skip
    show Run Γ rg 0 Y_L_rename 8 [(8, 0), (0, p1), (0, p2), (76, 0), (5, 0)] [(0, v1), (0, 0), (76, 0)] D1 Φ
    refine c_i2l d_L_rename_8 (nz_w _) ?_
    refine c_last0 (k := 0) d_L_rename_9 sh_68 (by decide) (R 68 rfl) (by decide) rfl (by decide) h (fun D2 h => ?_)
    refine r_goto (tgt := 25) d_L_rename_10 (by decide) ?_
    show Run Γ rg 0 Y_L_rename 25 [(8, 0), (0, p1), (0, p2), (76, 0), (5, 0)] [] D2 Φ
    refine r_iconst d_L_rename_25 ?_
    exact c_iret d_L_rename_26 rfl h
  · skip
    by_cases g0 : n = 0
    · rw [if_pos g0] at h
      subst g0
      refine ⟨13, hk_L_rename_0, ?_⟩
      show Run Γ rg 0 Y_L_rename 13 [(8, 0), (0, p1), (0, p2), (76, 0), (5, 0)] [(4, 0)] D3 Φ
      refine r_astore d_L_rename_13 (by decide) rfl (by decide) ?_
      show Run Γ rg 0 Y_L_rename 15 [(8, 0), (0, p1), (0, p2), (76, 0), (4, 0)] [] D3 Φ
      refine r_iconst d_L_rename_15 ?_
      exact c_iret d_L_rename_16 rfl h
    · rw [if_neg g0] at h
      by_cases g1 : n = 1
      · rw [if_pos g1] at h
        subst g1
        refine ⟨17, hk_L_rename_1, ?_⟩
        show Run Γ rg 0 Y_L_rename 17 [(8, 0), (0, p1), (0, p2), (76, 0), (5, 0)] [(4, 0)] D3 Φ
        refine r_astore d_L_rename_17 (by decide) rfl (by decide) ?_
        show Run Γ rg 0 Y_L_rename 19 [(8, 0), (0, p1), (0, p2), (76, 0), (4, 0)] [] D3 Φ
        refine r_iconst d_L_rename_19 ?_
        exact c_iret d_L_rename_20 rfl h
      · rw [if_neg g1] at h
        by_cases g2 : n = 2
        · rw [if_pos g2] at h
          subst g2
          refine ⟨21, hk_L_rename_2, ?_⟩
          show Run Γ rg 0 Y_L_rename 21 [(8, 0), (0, p1), (0, p2), (76, 0), (5, 0)] [(4, 0)] D3 Φ
          refine r_astore d_L_rename_21 (by decide) rfl (by decide) ?_
          show Run Γ rg 0 Y_L_rename 23 [(8, 0), (0, p1), (0, p2), (76, 0), (4, 0)] [] D3 Φ
          refine r_iconst d_L_rename_23 ?_
          exact c_iret d_L_rename_24 rfl h
        · rw [if_neg g2] at h
          exact h.no.elim
set_option maxRecDepth 20000 in
theorem run_pE_delete {Γ : GG} {rg : Nat → Bool} {κ : Nat} {Φ : OT → DD → Prop} (R : cov rg rg2) (p1 : Int) {D : DD} (h : WP (some .int) 0 Φ (pE_delete p1 D)) : Run Γ rg 1 Y_L_delete 0 [(8, 0), (0, p1), (76, 0), (5, 0)] [] D Φ := by
  unfold pE_delete at h
  show Run Γ rg 1 Y_L_delete 0 [(8, 0), (0, p1), (76, 0), (5, 0)] [] D Φ
  refine r_aload_n d_L_delete_0 rfl (by decide) ?_
  refine r_iconst d_L_delete_1 ?_
  refine r_aload_n d_L_delete_2 rfl (by decide) ?_
  refine r_iload_n d_L_delete_3 rfl ?_
  refine c_callCi (t' := (some .int)) (a := 0) (z := 0) (as := [(0, p1)]) (rest := [(0, 0), (76, 0)]) (ls' := [(8, 0), (0, p1), (5, 0), (5, 0), (5, 0), (5, 0), (5, 0)]) d_L_delete_4 ck_RL_26 rfl sh_0 rfl (by decide) (R 0 rfl) rfl rfl (Nat.le_of_ble_eq_true rfl) (Nat.le_of_ble_eq_true rfl) (by decide) rfl rfl (fun _ => rfl) (fun κ' Ψ hΨ => run_pH_delete (cov20 R) _ hΨ) h (fun v1 D1 h => ?_) (fun n D3 h => ?_)
  · skip
    show Run Γ rg 0 Y_L_delete 7 [(8, 0), (0, p1), (76, 0), (5, 0)] [(0, v1), (0, 0), (76, 0)] D1 Φ
    refine c_i2l d_L_delete_7 (nz_w _) ?_
    refine c_last0 (k := 0) d_L_delete_8 sh_68 (by decide) (R 68 rfl) (by decide) rfl (by decide) h (fun D2 h => ?_)
    refine r_goto (tgt := 18) d_L_delete_9 (by decide) ?_
    show Run Γ rg 0 Y_L_delete 18 [(8, 0), (0, p1), (76, 0), (5, 0)] [] D2 Φ
    refine r_iconst d_L_delete_18 ?_
    exact c_iret d_L_delete_19 rfl h
  · skip
    by_cases g0 : n = 0
    · rw [if_pos g0] at h
      subst g0
      refine ⟨12, hk_L_delete_0, ?_⟩
      show Run Γ rg 0 Y_L_delete 12 [(8, 0), (0, p1), (76, 0), (5, 0)] [(4, 0)] D3 Φ
      refine r_astore_n d_L_delete_12 (by decide) rfl (by decide) ?_
      show Run Γ rg 0 Y_L_delete 13 [(8, 0), (0, p1), (76, 0), (4, 0)] [] D3 Φ
      refine r_iconst d_L_delete_13 ?_
      exact c_iret d_L_delete_14 rfl h
    · rw [if_neg g0] at h
      by_cases g1 : n = 2
      · rw [if_pos g1] at h
        subst g1
        refine ⟨15, hk_L_delete_1, ?_⟩
        show Run Γ rg 0 Y_L_delete 15 [(8, 0), (0, p1), (76, 0), (5, 0)] [(4, 0)] D3 Φ
        refine r_astore_n d_L_delete_15 (by decide) rfl (by decide) ?_
        show Run Γ rg 0 Y_L_delete 16 [(8, 0), (0, p1), (76, 0), (4, 0)] [] D3 Φ
        refine r_iconst d_L_delete_16 ?_
        exact c_iret d_L_delete_17 rfl h
      · rw [if_neg g1] at h
        exact h.no.elim
set_option maxRecDepth 20000 in
theorem run_pE_find {Γ : GG} {rg : Nat → Bool} {κ : Nat} {Φ : OT → DD → Prop} (R : cov rg rg2) (p1 : Int) (p2 : Int) {D : DD} (h : WP (some .int) 0 Φ (pE_find p1 p2 D)) : Run Γ rg 1 Y_L_find 0 [(8, 0), (0, p1), (0, p2), (76, 0), (5, 0)] [] D Φ := by
  unfold pE_find at h
  show Run Γ rg 1 Y_L_find 0 [(8, 0), (0, p1), (0, p2), (76, 0), (5, 0)] [] D Φ
  refine r_aload_n d_L_find_0 rfl (by decide) ?_
  refine r_iconst d_L_find_1 ?_
  refine r_aload_n d_L_find_2 rfl (by decide) ?_
  refine r_iload_n d_L_find_3 rfl ?_
  refine r_iload_n d_L_find_4 rfl ?_
  refine c_callCi (t' := (some .int)) (a := 0) (z := 0) (as := [(0, p1), (0, p2)]) (rest := [(0, 0), (76, 0)]) (ls' := [(8, 0), (0, p1), (0, p2)]) d_L_find_5 ck_RL_30 rfl sh_0 rfl (by decide) (R 0 rfl) rfl rfl (Nat.le_of_ble_eq_true rfl) (Nat.le_of_ble_eq_true rfl) (by decide) rfl rfl (fun _ => rfl) (fun κ' Ψ hΨ => run_pH_find (cov20 R) _ _ hΨ) h (fun v1 D1 h => ?_) (fun n D3 h => ?_)
  · skip
    show Run Γ rg 0 Y_L_find 8 [(8, 0), (0, p1), (0, p2), (76, 0), (5, 0)] [(0, v1), (0, 0), (76, 0)] D1 Φ
    refine c_i2l d_L_find_8 (nz_w _) ?_
    refine c_last0 (k := 0) d_L_find_9 sh_68 (by decide) (R 68 rfl) (by decide) rfl (by decide) h (fun D2 h => ?_)
    refine r_goto (tgt := 21) d_L_find_10 (by decide) ?_
    show Run Γ rg 0 Y_L_find 21 [(8, 0), (0, p1), (0, p2), (76, 0), (5, 0)] [] D2 Φ
    refine r_iconst d_L_find_21 ?_
    exact c_iret d_L_find_22 rfl h
  · skip
    by_cases g0 : n = 0
    · rw [if_pos g0] at h
      subst g0
      refine ⟨13, hk_L_find_0, ?_⟩
      show Run Γ rg 0 Y_L_find 13 [(8, 0), (0, p1), (0, p2), (76, 0), (5, 0)] [(4, 0)] D3 Φ
      refine r_astore d_L_find_13 (by decide) rfl (by decide) ?_
      show Run Γ rg 0 Y_L_find 15 [(8, 0), (0, p1), (0, p2), (76, 0), (4, 0)] [] D3 Φ
      refine r_iconst d_L_find_15 ?_
      exact c_iret d_L_find_16 rfl h
    · rw [if_neg g0] at h
      by_cases g1 : n = 1
      · rw [if_pos g1] at h
        subst g1
        refine ⟨17, hk_L_find_1, ?_⟩
        show Run Γ rg 0 Y_L_find 17 [(8, 0), (0, p1), (0, p2), (76, 0), (5, 0)] [(4, 0)] D3 Φ
        refine r_astore d_L_find_17 (by decide) rfl (by decide) ?_
        show Run Γ rg 0 Y_L_find 19 [(8, 0), (0, p1), (0, p2), (76, 0), (4, 0)] [] D3 Φ
        refine r_iconst d_L_find_19 ?_
        exact c_iret d_L_find_20 rfl h
      · rw [if_neg g1] at h
        exact h.no.elim
set_option maxRecDepth 20000 in
theorem run_pE_subkeyAt {Γ : GG} {rg : Nat → Bool} {κ : Nat} {Φ : OT → DD → Prop} (R : cov rg rg2) (p1 : Int) (p2 : Int) {D : DD} (h : WP (some .int) 0 Φ (pE_subkeyAt p1 p2 D)) : Run Γ rg 1 Y_L_subkeyAt 0 [(8, 0), (0, p1), (0, p2), (76, 0), (5, 0)] [] D Φ := by
  unfold pE_subkeyAt at h
  show Run Γ rg 1 Y_L_subkeyAt 0 [(8, 0), (0, p1), (0, p2), (76, 0), (5, 0)] [] D Φ
  refine r_aload_n d_L_subkeyAt_0 rfl (by decide) ?_
  refine r_iconst d_L_subkeyAt_1 ?_
  refine r_aload_n d_L_subkeyAt_2 rfl (by decide) ?_
  refine r_iload_n d_L_subkeyAt_3 rfl ?_
  refine r_iload_n d_L_subkeyAt_4 rfl ?_
  refine c_callCi (t' := (some .int)) (a := 0) (z := 0) (as := [(0, p1), (0, p2)]) (rest := [(0, 0), (76, 0)]) (ls' := [(8, 0), (0, p1), (0, p2), (5, 0)]) d_L_subkeyAt_5 ck_RL_33 rfl sh_0 rfl (by decide) (R 0 rfl) rfl rfl (Nat.le_of_ble_eq_true rfl) (Nat.le_of_ble_eq_true rfl) (by decide) rfl rfl (fun _ => rfl) (fun κ' Ψ hΨ => run_pH_subkeyAt (cov20 R) _ _ hΨ) h (fun v1 D1 h => ?_) (fun n D3 h => ?_)
  · skip
    show Run Γ rg 0 Y_L_subkeyAt 8 [(8, 0), (0, p1), (0, p2), (76, 0), (5, 0)] [(0, v1), (0, 0), (76, 0)] D1 Φ
    refine c_i2l d_L_subkeyAt_8 (nz_w _) ?_
    refine c_last0 (k := 0) d_L_subkeyAt_9 sh_68 (by decide) (R 68 rfl) (by decide) rfl (by decide) h (fun D2 h => ?_)
    refine r_goto (tgt := 17) d_L_subkeyAt_10 (by decide) ?_
    show Run Γ rg 0 Y_L_subkeyAt 17 [(8, 0), (0, p1), (0, p2), (76, 0), (5, 0)] [] D2 Φ
    refine r_iconst d_L_subkeyAt_17 ?_
    exact c_iret d_L_subkeyAt_18 rfl h
  · skip
    by_cases g0 : n = 0
    · rw [if_pos g0] at h
      subst g0
      refine ⟨13, hk_L_subkeyAt_0, ?_⟩
      show Run Γ rg 0 Y_L_subkeyAt 13 [(8, 0), (0, p1), (0, p2), (76, 0), (5, 0)] [(4, 0)] D3 Φ
      refine r_astore d_L_subkeyAt_13 (by decide) rfl (by decide) ?_
      show Run Γ rg 0 Y_L_subkeyAt 15 [(8, 0), (0, p1), (0, p2), (76, 0), (4, 0)] [] D3 Φ
      refine r_iconst d_L_subkeyAt_15 ?_
      exact c_iret d_L_subkeyAt_16 rfl h
    · rw [if_neg g0] at h
      exact h.no.elim
set_option maxRecDepth 20000 in
theorem run_pE_list {Γ : GG} {rg : Nat → Bool} {κ : Nat} {Φ : OT → DD → Prop} (R : cov rg rg2) (p1 : Int) {D : DD} (h : WP (some .int) 0 Φ (pE_list p1 D)) : Run Γ rg 1 Y_L_list 0 [(8, 0), (0, p1), (76, 0), (5, 0)] [] D Φ := by
  unfold pE_list at h
  show Run Γ rg 1 Y_L_list 0 [(8, 0), (0, p1), (76, 0), (5, 0)] [] D Φ
  refine r_aload_n d_L_list_0 rfl (by decide) ?_
  refine r_iconst d_L_list_1 ?_
  refine r_aload_n d_L_list_2 rfl (by decide) ?_
  refine r_iload_n d_L_list_3 rfl ?_
  refine c_callCi (t' := (some .int)) (a := 0) (z := 0) (as := [(0, p1)]) (rest := [(0, 0), (76, 0)]) (ls' := [(8, 0), (0, p1), (5, 0)]) d_L_list_4 ck_RL_36 rfl sh_0 rfl (by decide) (R 0 rfl) rfl rfl (Nat.le_of_ble_eq_true rfl) (Nat.le_of_ble_eq_true rfl) (by decide) rfl rfl (fun _ => rfl) (fun κ' Ψ hΨ => run_pH_list (cov20 R) _ hΨ) h (fun v1 D1 h => ?_) (fun n D3 h => ?_)
  · skip
    show Run Γ rg 0 Y_L_list 7 [(8, 0), (0, p1), (76, 0), (5, 0)] [(0, v1), (0, 0), (76, 0)] D1 Φ
    refine c_i2l d_L_list_7 (nz_w _) ?_
    refine c_last0 (k := 0) d_L_list_8 sh_68 (by decide) (R 68 rfl) (by decide) rfl (by decide) h (fun D2 h => ?_)
    refine r_goto (tgt := 15) d_L_list_9 (by decide) ?_
    show Run Γ rg 0 Y_L_list 15 [(8, 0), (0, p1), (76, 0), (5, 0)] [] D2 Φ
    refine r_iconst d_L_list_15 ?_
    exact c_iret d_L_list_16 rfl h
  · skip
    by_cases g0 : n = 0
    · rw [if_pos g0] at h
      subst g0
      refine ⟨12, hk_L_list_0, ?_⟩
      show Run Γ rg 0 Y_L_list 12 [(8, 0), (0, p1), (76, 0), (5, 0)] [(4, 0)] D3 Φ
      refine r_astore_n d_L_list_12 (by decide) rfl (by decide) ?_
      show Run Γ rg 0 Y_L_list 13 [(8, 0), (0, p1), (76, 0), (4, 0)] [] D3 Φ
      refine r_iconst d_L_list_13 ?_
      exact c_iret d_L_list_14 rfl h
    · rw [if_neg g0] at h
      exact h.no.elim
set_option maxRecDepth 20000 in
theorem run_pE_follow {Γ : GG} {rg : Nat → Bool} {κ : Nat} {Φ : OT → DD → Prop} (R : cov rg rg2) (p1 : Int) {D : DD} (h : WP (some .int) 0 Φ (pE_follow p1 D)) : Run Γ rg 1 Y_L_follow 0 [(8, 0), (0, p1), (76, 0), (5, 0)] [] D Φ := by
  unfold pE_follow at h
  show Run Γ rg 1 Y_L_follow 0 [(8, 0), (0, p1), (76, 0), (5, 0)] [] D Φ
  refine r_aload_n d_L_follow_0 rfl (by decide) ?_
  refine r_iconst d_L_follow_1 ?_
  refine r_aload_n d_L_follow_2 rfl (by decide) ?_
  refine r_iload_n d_L_follow_3 rfl ?_
  refine c_callCi (t' := (some .int)) (a := 0) (z := 0) (as := [(0, p1)]) (rest := [(0, 0), (76, 0)]) (ls' := [(8, 0), (0, p1), (5, 0), (5, 0)]) d_L_follow_4 ck_RL_39 rfl sh_0 rfl (by decide) (R 0 rfl) rfl rfl (Nat.le_of_ble_eq_true rfl) (Nat.le_of_ble_eq_true rfl) (by decide) rfl rfl (fun _ => rfl) (fun κ' Ψ hΨ => run_pH_follow (cov20 R) _ hΨ) h (fun v1 D1 h => ?_) (fun n D3 h => ?_)
  · skip
    show Run Γ rg 0 Y_L_follow 7 [(8, 0), (0, p1), (76, 0), (5, 0)] [(0, v1), (0, 0), (76, 0)] D1 Φ
    refine c_i2l d_L_follow_7 (nz_w _) ?_
    refine c_last0 (k := 0) d_L_follow_8 sh_68 (by decide) (R 68 rfl) (by decide) rfl (by decide) h (fun D2 h => ?_)
    refine r_goto (tgt := 15) d_L_follow_9 (by decide) ?_
    show Run Γ rg 0 Y_L_follow 15 [(8, 0), (0, p1), (76, 0), (5, 0)] [] D2 Φ
    refine r_iconst d_L_follow_15 ?_
    exact c_iret d_L_follow_16 rfl h
  · skip
    by_cases g0 : n = 0
    · rw [if_pos g0] at h
      subst g0
      refine ⟨12, hk_L_follow_0, ?_⟩
      show Run Γ rg 0 Y_L_follow 12 [(8, 0), (0, p1), (76, 0), (5, 0)] [(4, 0)] D3 Φ
      refine r_astore_n d_L_follow_12 (by decide) rfl (by decide) ?_
      show Run Γ rg 0 Y_L_follow 13 [(8, 0), (0, p1), (76, 0), (4, 0)] [] D3 Φ
      refine r_iconst d_L_follow_13 ?_
      exact c_iret d_L_follow_14 rfl h
    · rw [if_neg g0] at h
      exact h.no.elim
set_option maxRecDepth 20000 in
theorem run_pE_setValue {Γ : GG} {rg : Nat → Bool} {κ : Nat} {Φ : OT → DD → Prop} (R : cov rg rg2) (p1 : Int) (p2 : Int) (p3 : Int) (p4 : Int) {D : DD} (h : WP (some .int) 0 Φ (pE_setValue p1 p2 p3 p4 D)) : Run Γ rg 1 Y_L_setValue 0 [(8, 0), (0, p1), (0, p2), (0, p3), (0, p4), (76, 0), (5, 0)] [] D Φ := by
  unfold pE_setValue at h
  show Run Γ rg 1 Y_L_setValue 0 [(8, 0), (0, p1), (0, p2), (0, p3), (0, p4), (76, 0), (5, 0)] [] D Φ
  refine r_aload d_L_setValue_0 rfl (by decide) ?_
  refine r_iconst d_L_setValue_2 ?_
  refine r_aload_n d_L_setValue_3 rfl (by decide) ?_
  refine r_iload_n d_L_setValue_4 rfl ?_
  refine r_iload_n d_L_setValue_5 rfl ?_
  refine r_iload_n d_L_setValue_6 rfl ?_
  refine r_iload d_L_setValue_7 rfl ?_
  refine c_callCi (t' := (some .int)) (a := 0) (z := 0) (as := [(0, p1), (0, p2), (0, p3), (0, p4)]) (rest := [(0, 0), (76, 0)]) (ls' := [(8, 0), (0, p1), (0, p2), (0, p3), (0, p4), (5, 0)]) d_L_setValue_9 ck_RL_42 rfl sh_0 rfl (by decide) (R 0 rfl) rfl rfl (Nat.le_of_ble_eq_true rfl) (Nat.le_of_ble_eq_true rfl) (by decide) rfl rfl (fun _ => rfl) (fun κ' Ψ hΨ => run_pH_setValue (cov20 R) _ _ _ _ hΨ) h (fun v1 D1 h => ?_) (fun n D3 h => ?_)
  · skip
    show Run Γ rg 0 Y_L_setValue 12 [(8, 0), (0, p1), (0, p2), (0, p3), (0, p4), (76, 0), (5, 0)] [(0, v1), (0, 0), (76, 0)] D1 Φ
    refine c_i2l d_L_setValue_12 (nz_w _) ?_
    refine c_last0 (k := 0) d_L_setValue_13 sh_68 (by decide) (R 68 rfl) (by decide) rfl (by decide) h (fun D2 h => ?_)
    refine r_goto (tgt := 29) d_L_setValue_14 (by decide) ?_
    show Run Γ rg 0 Y_L_setValue 29 [(8, 0), (0, p1), (0, p2), (0, p3), (0, p4), (76, 0), (5, 0)] [] D2 Φ
    refine r_iconst d_L_setValue_29 ?_
    exact c_iret d_L_setValue_30 rfl h
  · skip
    by_cases g0 : n = 0
    · rw [if_pos g0] at h
      subst g0
      refine ⟨17, hk_L_setValue_0, ?_⟩
      show Run Γ rg 0 Y_L_setValue 17 [(8, 0), (0, p1), (0, p2), (0, p3), (0, p4), (76, 0), (5, 0)] [(4, 0)] D3 Φ
      refine r_astore d_L_setValue_17 (by decide) rfl (by decide) ?_
      show Run Γ rg 0 Y_L_setValue 19 [(8, 0), (0, p1), (0, p2), (0, p3), (0, p4), (76, 0), (4, 0)] [] D3 Φ
      refine r_iconst d_L_setValue_19 ?_
      exact c_iret d_L_setValue_20 rfl h
    · rw [if_neg g0] at h
      by_cases g1 : n = 1
      · rw [if_pos g1] at h
        subst g1
        refine ⟨21, hk_L_setValue_1, ?_⟩
        show Run Γ rg 0 Y_L_setValue 21 [(8, 0), (0, p1), (0, p2), (0, p3), (0, p4), (76, 0), (5, 0)] [(4, 0)] D3 Φ
        refine r_astore d_L_setValue_21 (by decide) rfl (by decide) ?_
        show Run Γ rg 0 Y_L_setValue 23 [(8, 0), (0, p1), (0, p2), (0, p3), (0, p4), (76, 0), (4, 0)] [] D3 Φ
        refine r_iconst d_L_setValue_23 ?_
        exact c_iret d_L_setValue_24 rfl h
      · rw [if_neg g1] at h
        by_cases g2 : n = 2
        · rw [if_pos g2] at h
          subst g2
          refine ⟨25, hk_L_setValue_2, ?_⟩
          show Run Γ rg 0 Y_L_setValue 25 [(8, 0), (0, p1), (0, p2), (0, p3), (0, p4), (76, 0), (5, 0)] [(4, 0)] D3 Φ
          refine r_astore d_L_setValue_25 (by decide) rfl (by decide) ?_
          show Run Γ rg 0 Y_L_setValue 27 [(8, 0), (0, p1), (0, p2), (0, p3), (0, p4), (76, 0), (4, 0)] [] D3 Φ
          refine r_iconst d_L_setValue_27 ?_
          exact c_iret d_L_setValue_28 rfl h
        · rw [if_neg g2] at h
          exact h.no.elim
set_option maxRecDepth 20000 in
theorem run_pE_resize {Γ : GG} {rg : Nat → Bool} {κ : Nat} {Φ : OT → DD → Prop} (R : cov rg rg2) (p1 : Int) (p2 : Int) (p3 : Int) {D : DD} (h : WP (some .int) 0 Φ (pE_resize p1 p2 p3 D)) : Run Γ rg 1 Y_L_resize 0 [(8, 0), (0, p1), (0, p2), (0, p3), (76, 0), (5, 0)] [] D Φ := by
  unfold pE_resize at h
  show Run Γ rg 1 Y_L_resize 0 [(8, 0), (0, p1), (0, p2), (0, p3), (76, 0), (5, 0)] [] D Φ
  refine r_aload d_L_resize_0 rfl (by decide) ?_
  refine r_iconst d_L_resize_2 ?_
  refine r_aload_n d_L_resize_3 rfl (by decide) ?_
  refine r_iload_n d_L_resize_4 rfl ?_
  refine r_iload_n d_L_resize_5 rfl ?_
  refine r_iload_n d_L_resize_6 rfl ?_
  refine c_callCi (t' := (some .int)) (a := 0) (z := 0) (as := [(0, p1), (0, p2), (0, p3)]) (rest := [(0, 0), (76, 0)]) (ls' := [(8, 0), (0, p1), (0, p2), (0, p3), (5, 0), (5, 0), (5, 0)]) d_L_resize_7 ck_RL_46 rfl sh_0 rfl (by decide) (R 0 rfl) rfl rfl (Nat.le_of_ble_eq_true rfl) (Nat.le_of_ble_eq_true rfl) (by decide) rfl rfl (fun _ => rfl) (fun κ' Ψ hΨ => run_pH_resize (cov20 R) _ _ _ hΨ) h (fun v1 D1 h => ?_) (fun n D3 h => ?_)
  · skip
    show Run Γ rg 0 Y_L_resize 10 [(8, 0), (0, p1), (0, p2), (0, p3), (76, 0), (5, 0)] [(0, v1), (0, 0), (76, 0)] D1 Φ
    refine c_i2l d_L_resize_10 (nz_w _) ?_
    refine c_last0 (k := 0) d_L_resize_11 sh_68 (by decide) (R 68 rfl) (by decide) rfl (by decide) h (fun D2 h => ?_)
    refine r_goto (tgt := 27) d_L_resize_12 (by decide) ?_
    show Run Γ rg 0 Y_L_resize 27 [(8, 0), (0, p1), (0, p2), (0, p3), (76, 0), (5, 0)] [] D2 Φ
    refine r_iconst d_L_resize_27 ?_
    exact c_iret d_L_resize_28 rfl h
  · skip
    by_cases g0 : n = 0
    · rw [if_pos g0] at h
      subst g0
      refine ⟨15, hk_L_resize_0, ?_⟩
      show Run Γ rg 0 Y_L_resize 15 [(8, 0), (0, p1), (0, p2), (0, p3), (76, 0), (5, 0)] [(4, 0)] D3 Φ
      refine r_astore d_L_resize_15 (by decide) rfl (by decide) ?_
      show Run Γ rg 0 Y_L_resize 17 [(8, 0), (0, p1), (0, p2), (0, p3), (76, 0), (4, 0)] [] D3 Φ
      refine r_iconst d_L_resize_17 ?_
      exact c_iret d_L_resize_18 rfl h
    · rw [if_neg g0] at h
      by_cases g1 : n = 1
      · rw [if_pos g1] at h
        subst g1
        refine ⟨19, hk_L_resize_1, ?_⟩
        show Run Γ rg 0 Y_L_resize 19 [(8, 0), (0, p1), (0, p2), (0, p3), (76, 0), (5, 0)] [(4, 0)] D3 Φ
        refine r_astore d_L_resize_19 (by decide) rfl (by decide) ?_
        show Run Γ rg 0 Y_L_resize 21 [(8, 0), (0, p1), (0, p2), (0, p3), (76, 0), (4, 0)] [] D3 Φ
        refine r_iconst d_L_resize_21 ?_
        exact c_iret d_L_resize_22 rfl h
      · rw [if_neg g1] at h
        by_cases g2 : n = 2
        · rw [if_pos g2] at h
          subst g2
          refine ⟨23, hk_L_resize_2, ?_⟩
          show Run Γ rg 0 Y_L_resize 23 [(8, 0), (0, p1), (0, p2), (0, p3), (76, 0), (5, 0)] [(4, 0)] D3 Φ
          refine r_astore d_L_resize_23 (by decide) rfl (by decide) ?_
          show Run Γ rg 0 Y_L_resize 25 [(8, 0), (0, p1), (0, p2), (0, p3), (76, 0), (4, 0)] [] D3 Φ
          refine r_iconst d_L_resize_25 ?_
          exact c_iret d_L_resize_26 rfl h
        · rw [if_neg g2] at h
          exact h.no.elim
set_option maxRecDepth 20000 in
theorem run_pE_dropValue {Γ : GG} {rg : Nat → Bool} {κ : Nat} {Φ : OT → DD → Prop} (R : cov rg rg2) (p1 : Int) (p2 : Int) {D : DD} (h : WP (some .int) 0 Φ (pE_dropValue p1 p2 D)) : Run Γ rg 1 Y_L_dropValue 0 [(8, 0), (0, p1), (0, p2), (76, 0), (5, 0)] [] D Φ := by
  unfold pE_dropValue at h
  show Run Γ rg 1 Y_L_dropValue 0 [(8, 0), (0, p1), (0, p2), (76, 0), (5, 0)] [] D Φ
  refine r_aload_n d_L_dropValue_0 rfl (by decide) ?_
  refine r_iconst d_L_dropValue_1 ?_
  refine r_aload_n d_L_dropValue_2 rfl (by decide) ?_
  refine r_iload_n d_L_dropValue_3 rfl ?_
  refine r_iload_n d_L_dropValue_4 rfl ?_
  refine c_callCi (t' := (some .int)) (a := 0) (z := 0) (as := [(0, p1), (0, p2)]) (rest := [(0, 0), (76, 0)]) (ls' := [(8, 0), (0, p1), (0, p2), (5, 0), (5, 0), (5, 0)]) d_L_dropValue_5 ck_RL_49 rfl sh_0 rfl (by decide) (R 0 rfl) rfl rfl (Nat.le_of_ble_eq_true rfl) (Nat.le_of_ble_eq_true rfl) (by decide) rfl rfl (fun _ => rfl) (fun κ' Ψ hΨ => run_pH_dropValue (cov20 R) _ _ hΨ) h (fun v1 D1 h => ?_) (fun n D3 h => ?_)
  · skip
    show Run Γ rg 0 Y_L_dropValue 8 [(8, 0), (0, p1), (0, p2), (76, 0), (5, 0)] [(0, v1), (0, 0), (76, 0)] D1 Φ
    refine c_i2l d_L_dropValue_8 (nz_w _) ?_
    refine c_last0 (k := 0) d_L_dropValue_9 sh_68 (by decide) (R 68 rfl) (by decide) rfl (by decide) h (fun D2 h => ?_)
    refine r_goto (tgt := 17) d_L_dropValue_10 (by decide) ?_
    show Run Γ rg 0 Y_L_dropValue 17 [(8, 0), (0, p1), (0, p2), (76, 0), (5, 0)] [] D2 Φ
    refine r_iconst d_L_dropValue_17 ?_
    exact c_iret d_L_dropValue_18 rfl h
  · skip
    by_cases g0 : n = 0
    · rw [if_pos g0] at h
      subst g0
      refine ⟨13, hk_L_dropValue_0, ?_⟩
      show Run Γ rg 0 Y_L_dropValue 13 [(8, 0), (0, p1), (0, p2), (76, 0), (5, 0)] [(4, 0)] D3 Φ
      refine r_astore d_L_dropValue_13 (by decide) rfl (by decide) ?_
      show Run Γ rg 0 Y_L_dropValue 15 [(8, 0), (0, p1), (0, p2), (76, 0), (4, 0)] [] D3 Φ
      refine r_iconst d_L_dropValue_15 ?_
      exact c_iret d_L_dropValue_16 rfl h
    · rw [if_neg g0] at h
      exact h.no.elim
set_option maxRecDepth 20000 in
theorem run_pE_unit {Γ : GG} {rg : Nat → Bool} {κ : Nat} {Φ : OT → DD → Prop} (R : cov rg rg2) (p1 : Int) (p2 : Int) (p3 : Int) {D : DD} (h : WP (some .int) 0 Φ (pE_unit p1 p2 p3 D)) : Run Γ rg 1 Y_L_unit 0 [(8, 0), (0, p1), (0, p2), (0, p3), (76, 0), (5, 0)] [] D Φ := by
  unfold pE_unit at h
  show Run Γ rg 1 Y_L_unit 0 [(8, 0), (0, p1), (0, p2), (0, p3), (76, 0), (5, 0)] [] D Φ
  refine r_aload d_L_unit_0 rfl (by decide) ?_
  refine r_iconst d_L_unit_2 ?_
  refine r_aload_n d_L_unit_3 rfl (by decide) ?_
  refine r_iload_n d_L_unit_4 rfl ?_
  refine r_iload_n d_L_unit_5 rfl ?_
  refine r_iload_n d_L_unit_6 rfl ?_
  refine c_callCi (t' := (some .int)) (a := 0) (z := 0) (as := [(0, p1), (0, p2), (0, p3)]) (rest := [(0, 0), (76, 0)]) (ls' := [(8, 0), (0, p1), (0, p2), (0, p3), (5, 0)]) d_L_unit_7 ck_RL_52 rfl sh_0 rfl (by decide) (R 0 rfl) rfl rfl (Nat.le_of_ble_eq_true rfl) (Nat.le_of_ble_eq_true rfl) (by decide) rfl rfl (fun _ => rfl) (fun κ' Ψ hΨ => run_pH_unit (cov20 R) _ _ _ hΨ) h (fun v1 D1 h => ?_) (fun n D3 h => ?_)
  · skip
    show Run Γ rg 0 Y_L_unit 10 [(8, 0), (0, p1), (0, p2), (0, p3), (76, 0), (5, 0)] [(0, v1), (0, 0), (76, 0)] D1 Φ
    refine c_i2l d_L_unit_10 (nz_w _) ?_
    refine c_last0 (k := 0) d_L_unit_11 sh_68 (by decide) (R 68 rfl) (by decide) rfl (by decide) h (fun D2 h => ?_)
    refine r_goto (tgt := 19) d_L_unit_12 (by decide) ?_
    show Run Γ rg 0 Y_L_unit 19 [(8, 0), (0, p1), (0, p2), (0, p3), (76, 0), (5, 0)] [] D2 Φ
    refine r_iconst d_L_unit_19 ?_
    exact c_iret d_L_unit_20 rfl h
  · skip
    by_cases g0 : n = 0
    · rw [if_pos g0] at h
      subst g0
      refine ⟨15, hk_L_unit_0, ?_⟩
      show Run Γ rg 0 Y_L_unit 15 [(8, 0), (0, p1), (0, p2), (0, p3), (76, 0), (5, 0)] [(4, 0)] D3 Φ
      refine r_astore d_L_unit_15 (by decide) rfl (by decide) ?_
      show Run Γ rg 0 Y_L_unit 17 [(8, 0), (0, p1), (0, p2), (0, p3), (76, 0), (4, 0)] [] D3 Φ
      refine r_iconst d_L_unit_17 ?_
      exact c_iret d_L_unit_18 rfl h
    · rw [if_neg g0] at h
      exact h.no.elim
set_option maxRecDepth 20000 in
theorem run_pE_setRights {Γ : GG} {rg : Nat → Bool} {κ : Nat} {Φ : OT → DD → Prop} (R : cov rg rg2) (p1 : Int) (p2 : Int) {D : DD} (h : WP (some .int) 0 Φ (pE_setRights p1 p2 D)) : Run Γ rg 1 Y_L_setRights 0 [(8, 0), (0, p1), (0, p2), (76, 0), (5, 0)] [] D Φ := by
  unfold pE_setRights at h
  show Run Γ rg 1 Y_L_setRights 0 [(8, 0), (0, p1), (0, p2), (76, 0), (5, 0)] [] D Φ
  refine r_aload_n d_L_setRights_0 rfl (by decide) ?_
  refine r_iconst d_L_setRights_1 ?_
  refine r_aload_n d_L_setRights_2 rfl (by decide) ?_
  refine r_iload_n d_L_setRights_3 rfl ?_
  refine r_iload_n d_L_setRights_4 rfl ?_
  refine c_callCi (t' := (some .int)) (a := 0) (z := 0) (as := [(0, p1), (0, p2)]) (rest := [(0, 0), (76, 0)]) (ls' := [(8, 0), (0, p1), (0, p2), (5, 0), (5, 0)]) d_L_setRights_5 ck_RL_55 rfl sh_0 rfl (by decide) (R 0 rfl) rfl rfl (Nat.le_of_ble_eq_true rfl) (Nat.le_of_ble_eq_true rfl) (by decide) rfl rfl (fun _ => rfl) (fun κ' Ψ hΨ => run_pH_setRights (cov20 R) _ _ hΨ) h (fun v1 D1 h => ?_) (fun n D3 h => ?_)
  · skip
    show Run Γ rg 0 Y_L_setRights 8 [(8, 0), (0, p1), (0, p2), (76, 0), (5, 0)] [(0, v1), (0, 0), (76, 0)] D1 Φ
    refine c_i2l d_L_setRights_8 (nz_w _) ?_
    refine c_last0 (k := 0) d_L_setRights_9 sh_68 (by decide) (R 68 rfl) (by decide) rfl (by decide) h (fun D2 h => ?_)
    refine r_goto (tgt := 25) d_L_setRights_10 (by decide) ?_
    show Run Γ rg 0 Y_L_setRights 25 [(8, 0), (0, p1), (0, p2), (76, 0), (5, 0)] [] D2 Φ
    refine r_iconst d_L_setRights_25 ?_
    exact c_iret d_L_setRights_26 rfl h
  · skip
    by_cases g0 : n = 0
    · rw [if_pos g0] at h
      subst g0
      refine ⟨13, hk_L_setRights_0, ?_⟩
      show Run Γ rg 0 Y_L_setRights 13 [(8, 0), (0, p1), (0, p2), (76, 0), (5, 0)] [(4, 0)] D3 Φ
      refine r_astore d_L_setRights_13 (by decide) rfl (by decide) ?_
      show Run Γ rg 0 Y_L_setRights 15 [(8, 0), (0, p1), (0, p2), (76, 0), (4, 0)] [] D3 Φ
      refine r_iconst d_L_setRights_15 ?_
      exact c_iret d_L_setRights_16 rfl h
    · rw [if_neg g0] at h
      by_cases g1 : n = 1
      · rw [if_pos g1] at h
        subst g1
        refine ⟨17, hk_L_setRights_1, ?_⟩
        show Run Γ rg 0 Y_L_setRights 17 [(8, 0), (0, p1), (0, p2), (76, 0), (5, 0)] [(4, 0)] D3 Φ
        refine r_astore d_L_setRights_17 (by decide) rfl (by decide) ?_
        show Run Γ rg 0 Y_L_setRights 19 [(8, 0), (0, p1), (0, p2), (76, 0), (4, 0)] [] D3 Φ
        refine r_iconst d_L_setRights_19 ?_
        exact c_iret d_L_setRights_20 rfl h
      · rw [if_neg g1] at h
        by_cases g2 : n = 2
        · rw [if_pos g2] at h
          subst g2
          refine ⟨21, hk_L_setRights_2, ?_⟩
          show Run Γ rg 0 Y_L_setRights 21 [(8, 0), (0, p1), (0, p2), (76, 0), (5, 0)] [(4, 0)] D3 Φ
          refine r_astore d_L_setRights_21 (by decide) rfl (by decide) ?_
          show Run Γ rg 0 Y_L_setRights 23 [(8, 0), (0, p1), (0, p2), (76, 0), (4, 0)] [] D3 Φ
          refine r_iconst d_L_setRights_23 ?_
          exact c_iret d_L_setRights_24 rfl h
        · rw [if_neg g2] at h
          exact h.no.elim
set_option maxRecDepth 20000 in
theorem run_pE_sharers {Γ : GG} {rg : Nat → Bool} {κ : Nat} {Φ : OT → DD → Prop} (R : cov rg rg2) (p1 : Int) {D : DD} (h : WP (some .int) 0 Φ (pE_sharers p1 D)) : Run Γ rg 1 Y_L_sharers 0 [(8, 0), (0, p1), (76, 0), (5, 0)] [] D Φ := by
  unfold pE_sharers at h
  show Run Γ rg 1 Y_L_sharers 0 [(8, 0), (0, p1), (76, 0), (5, 0)] [] D Φ
  refine r_aload_n d_L_sharers_0 rfl (by decide) ?_
  refine r_iconst d_L_sharers_1 ?_
  refine r_aload_n d_L_sharers_2 rfl (by decide) ?_
  refine r_iload_n d_L_sharers_3 rfl ?_
  refine c_callCi (t' := (some .int)) (a := 0) (z := 0) (as := [(0, p1)]) (rest := [(0, 0), (76, 0)]) (ls' := [(8, 0), (0, p1)]) d_L_sharers_4 ck_RL_58 rfl sh_0 rfl (by decide) (R 0 rfl) rfl rfl (Nat.le_of_ble_eq_true rfl) (Nat.le_of_ble_eq_true rfl) (by decide) rfl rfl (fun _ => rfl) (fun κ' Ψ hΨ => run_pH_sharers (cov20 R) _ hΨ) h (fun v1 D1 h => ?_) (fun n D3 h => ?_)
  · skip
    show Run Γ rg 0 Y_L_sharers 7 [(8, 0), (0, p1), (76, 0), (5, 0)] [(0, v1), (0, 0), (76, 0)] D1 Φ
    refine c_i2l d_L_sharers_7 (nz_w _) ?_
    refine c_last0 (k := 0) d_L_sharers_8 sh_68 (by decide) (R 68 rfl) (by decide) rfl (by decide) h (fun D2 h => ?_)
    refine r_goto (tgt := 15) d_L_sharers_9 (by decide) ?_
    show Run Γ rg 0 Y_L_sharers 15 [(8, 0), (0, p1), (76, 0), (5, 0)] [] D2 Φ
    refine r_iconst d_L_sharers_15 ?_
    exact c_iret d_L_sharers_16 rfl h
  · skip
    by_cases g0 : n = 1
    · rw [if_pos g0] at h
      subst g0
      refine ⟨12, hk_L_sharers_0, ?_⟩
      show Run Γ rg 0 Y_L_sharers 12 [(8, 0), (0, p1), (76, 0), (5, 0)] [(4, 0)] D3 Φ
      refine r_astore_n d_L_sharers_12 (by decide) rfl (by decide) ?_
      show Run Γ rg 0 Y_L_sharers 13 [(8, 0), (0, p1), (76, 0), (4, 0)] [] D3 Φ
      refine r_iconst d_L_sharers_13 ?_
      exact c_iret d_L_sharers_14 rfl h
    · rw [if_neg g0] at h
      exact h.no.elim
set_option maxRecDepth 20000 in
theorem run_pE_cell {Γ : GG} {rg : Nat → Bool} {κ : Nat} {Φ : OT → DD → Prop} (R : cov rg rg2) (p1 : Int) {D : DD} (h : WP (some .int) 0 Φ (pE_cell p1 D)) : Run Γ rg 1 Y_L_cell 0 [(8, 0), (0, p1), (76, 0), (5, 0)] [] D Φ := by
  unfold pE_cell at h
  show Run Γ rg 1 Y_L_cell 0 [(8, 0), (0, p1), (76, 0), (5, 0)] [] D Φ
  refine r_aload_n d_L_cell_0 rfl (by decide) ?_
  refine r_iconst d_L_cell_1 ?_
  refine r_aload_n d_L_cell_2 rfl (by decide) ?_
  refine r_iload_n d_L_cell_3 rfl ?_
  refine c_callCi (t' := (some .int)) (a := 0) (z := 0) (as := [(0, p1)]) (rest := [(0, 0), (76, 0)]) (ls' := [(8, 0), (0, p1)]) d_L_cell_4 ck_RL_61 rfl sh_0 rfl (by decide) (R 0 rfl) rfl rfl (Nat.le_of_ble_eq_true rfl) (Nat.le_of_ble_eq_true rfl) (by decide) rfl rfl (fun _ => rfl) (fun κ' Ψ hΨ => run_pH_cell (cov20 R) _ hΨ) h (fun v1 D1 h => ?_) (fun n D3 h => ?_)
  · skip
    show Run Γ rg 0 Y_L_cell 7 [(8, 0), (0, p1), (76, 0), (5, 0)] [(0, v1), (0, 0), (76, 0)] D1 Φ
    refine c_i2l d_L_cell_7 (nz_w _) ?_
    refine c_last0 (k := 0) d_L_cell_8 sh_68 (by decide) (R 68 rfl) (by decide) rfl (by decide) h (fun D2 h => ?_)
    refine r_goto (tgt := 15) d_L_cell_9 (by decide) ?_
    show Run Γ rg 0 Y_L_cell 15 [(8, 0), (0, p1), (76, 0), (5, 0)] [] D2 Φ
    refine r_iconst d_L_cell_15 ?_
    exact c_iret d_L_cell_16 rfl h
  · skip
    by_cases g0 : n = 0
    · rw [if_pos g0] at h
      subst g0
      refine ⟨12, hk_L_cell_0, ?_⟩
      show Run Γ rg 0 Y_L_cell 12 [(8, 0), (0, p1), (76, 0), (5, 0)] [(4, 0)] D3 Φ
      refine r_astore_n d_L_cell_12 (by decide) rfl (by decide) ?_
      show Run Γ rg 0 Y_L_cell 13 [(8, 0), (0, p1), (76, 0), (4, 0)] [] D3 Φ
      refine r_iconst d_L_cell_13 ?_
      exact c_iret d_L_cell_14 rfl h
    · rw [if_neg g0] at h
      exact h.no.elim
set_option maxRecDepth 20000 in
theorem run_pE_place {Γ : GG} {rg : Nat → Bool} {κ : Nat} {Φ : OT → DD → Prop} (R : cov rg rg2) (p1 : Int) {D : DD} (h : WP (some .int) 0 Φ (pE_place p1 D)) : Run Γ rg 1 Y_L_place 0 [(8, 0), (0, p1), (76, 0), (5, 0)] [] D Φ := by
  unfold pE_place at h
  show Run Γ rg 1 Y_L_place 0 [(8, 0), (0, p1), (76, 0), (5, 0)] [] D Φ
  refine r_aload_n d_L_place_0 rfl (by decide) ?_
  refine r_iconst d_L_place_1 ?_
  refine r_aload_n d_L_place_2 rfl (by decide) ?_
  refine r_iload_n d_L_place_3 rfl ?_
  refine c_callCi (t' := (some .int)) (a := 0) (z := 0) (as := [(0, p1)]) (rest := [(0, 0), (76, 0)]) (ls' := [(8, 0), (0, p1)]) d_L_place_4 ck_RL_64 rfl sh_0 rfl (by decide) (R 0 rfl) rfl rfl (Nat.le_of_ble_eq_true rfl) (Nat.le_of_ble_eq_true rfl) (by decide) rfl rfl (fun _ => rfl) (fun κ' Ψ hΨ => run_pH_place (cov20 R) _ hΨ) h (fun v1 D1 h => ?_) (fun n D3 h => ?_)
  · skip
    show Run Γ rg 0 Y_L_place 7 [(8, 0), (0, p1), (76, 0), (5, 0)] [(0, v1), (0, 0), (76, 0)] D1 Φ
    refine c_i2l d_L_place_7 (nz_w _) ?_
    refine c_last0 (k := 0) d_L_place_8 sh_68 (by decide) (R 68 rfl) (by decide) rfl (by decide) h (fun D2 h => ?_)
    refine r_goto (tgt := 15) d_L_place_9 (by decide) ?_
    show Run Γ rg 0 Y_L_place 15 [(8, 0), (0, p1), (76, 0), (5, 0)] [] D2 Φ
    refine r_iconst d_L_place_15 ?_
    exact c_iret d_L_place_16 rfl h
  · skip
    by_cases g0 : n = 0
    · rw [if_pos g0] at h
      subst g0
      refine ⟨12, hk_L_place_0, ?_⟩
      show Run Γ rg 0 Y_L_place 12 [(8, 0), (0, p1), (76, 0), (5, 0)] [(4, 0)] D3 Φ
      refine r_astore_n d_L_place_12 (by decide) rfl (by decide) ?_
      show Run Γ rg 0 Y_L_place 13 [(8, 0), (0, p1), (76, 0), (4, 0)] [] D3 Φ
      refine r_iconst d_L_place_13 ?_
      exact c_iret d_L_place_14 rfl h
    · rw [if_neg g0] at h
      exact h.no.elim
set_option maxRecDepth 20000 in
theorem run_pE_watch {Γ : GG} {rg : Nat → Bool} {κ : Nat} {Φ : OT → DD → Prop} (R : cov rg rg2) (p1 : Int) (p2 : Int) (p3 : Int) {D : DD} (h : WP (some .int) 0 Φ (pE_watch p1 p2 p3 D)) : Run Γ rg 1 Y_L_watch 0 [(8, 0), (0, p1), (0, p2), (0, p3), (76, 0), (5, 0)] [] D Φ := by
  unfold pE_watch at h
  show Run Γ rg 1 Y_L_watch 0 [(8, 0), (0, p1), (0, p2), (0, p3), (76, 0), (5, 0)] [] D Φ
  refine r_aload d_L_watch_0 rfl (by decide) ?_
  refine r_iconst d_L_watch_2 ?_
  refine r_aload_n d_L_watch_3 rfl (by decide) ?_
  refine r_iload_n d_L_watch_4 rfl ?_
  refine r_iload_n d_L_watch_5 rfl ?_
  refine r_iload_n d_L_watch_6 rfl ?_
  refine c_callCi (t' := (some .boolean)) (a := 0) (z := 0) (as := [(0, p1), (0, p2), (0, p3)]) (rest := [(0, 0), (76, 0)]) (ls' := [(8, 0), (0, p1), (0, p2), (0, p3), (5, 0)]) d_L_watch_7 ck_RL_67 rfl sh_0 rfl (by decide) (R 0 rfl) rfl rfl (Nat.le_of_ble_eq_true rfl) (Nat.le_of_ble_eq_true rfl) (by decide) rfl rfl (fun _ => rfl) (fun κ' Ψ hΨ => run_pH_watch (cov20 R) _ _ _ hΨ) h (fun v1 D1 h => ?_) (fun n D4 h => ?_)
  · skip
    show Run Γ rg 0 Y_L_watch 10 [(8, 0), (0, p1), (0, p2), (0, p3), (76, 0), (5, 0)] [(0, v1), (0, 0), (76, 0)] D1 Φ
    refine c_jn (fun J => ∀ (x1 : Int) (D2 : DD), WP (some .int) 0 Φ (J x1 D2) → Run Γ rg 0 Y_L_watch 18 [(5, 0), (5, 0), (5, 0), (5, 0), (5, 0), (5, 0)] [(1, x1), (0, 0), (76, 0)] D2 Φ) h ?_ (fun J1 hJ1 h => ?_)
    · intro x1 D2 h
      show Run Γ rg 0 Y_L_watch 18 [(5, 0), (5, 0), (5, 0), (5, 0), (5, 0), (5, 0)] [(1, x1), (0, 0), (76, 0)] D2 Φ
      refine c_last0 (k := 0) d_L_watch_18 sh_68 (by decide) (R 68 rfl) (by decide) rfl (by decide) h (fun D3 h => ?_)
      refine r_goto (tgt := 30) d_L_watch_19 (by decide) ?_
      show Run Γ rg 0 Y_L_watch 30 [(5, 0), (5, 0), (5, 0), (5, 0), (5, 0), (5, 0)] [] D3 Φ
      refine r_iconst d_L_watch_30 ?_
      exact c_iret d_L_watch_31 rfl h
    refine c_if_eq (tgt := 17) d_L_watch_10 (by decide) (nz_w _) h (fun h => ?_) (fun h => ?_)
    · skip
      show Run Γ rg 0 Y_L_watch 17 [(8, 0), (0, p1), (0, p2), (0, p3), (76, 0), (5, 0)] [(0, 0), (76, 0)] D1 Φ
      refine c_lconst d_L_watch_17 rfl ?_
      exact Run.forget (ls' := [(5, 0), (5, 0), (5, 0), (5, 0), (5, 0), (5, 0)]) ⟨Or.inl rfl, Or.inl rfl, Or.inl rfl, Or.inl rfl, Or.inl rfl, Or.inr rfl, trivial⟩ (hJ1 0 D1 h)
    · skip
      show Run Γ rg 0 Y_L_watch 13 [(8, 0), (0, p1), (0, p2), (0, p3), (76, 0), (5, 0)] [(0, 0), (76, 0)] D1 Φ
      refine c_lconst d_L_watch_13 rfl ?_
      refine r_goto (tgt := 18) d_L_watch_14 (by decide) ?_
      exact Run.forget (ls' := [(5, 0), (5, 0), (5, 0), (5, 0), (5, 0), (5, 0)]) ⟨Or.inl rfl, Or.inl rfl, Or.inl rfl, Or.inl rfl, Or.inl rfl, Or.inr rfl, trivial⟩ (hJ1 1 D1 h)
  · skip
    by_cases g0 : n = 0
    · rw [if_pos g0] at h
      subst g0
      refine ⟨22, hk_L_watch_0, ?_⟩
      show Run Γ rg 0 Y_L_watch 22 [(8, 0), (0, p1), (0, p2), (0, p3), (76, 0), (5, 0)] [(4, 0)] D4 Φ
      refine r_astore d_L_watch_22 (by decide) rfl (by decide) ?_
      show Run Γ rg 0 Y_L_watch 24 [(8, 0), (0, p1), (0, p2), (0, p3), (76, 0), (4, 0)] [] D4 Φ
      refine r_iconst d_L_watch_24 ?_
      exact c_iret d_L_watch_25 rfl h
    · rw [if_neg g0] at h
      by_cases g1 : n = 1
      · rw [if_pos g1] at h
        subst g1
        refine ⟨26, hk_L_watch_1, ?_⟩
        show Run Γ rg 0 Y_L_watch 26 [(8, 0), (0, p1), (0, p2), (0, p3), (76, 0), (5, 0)] [(4, 0)] D4 Φ
        refine r_astore d_L_watch_26 (by decide) rfl (by decide) ?_
        show Run Γ rg 0 Y_L_watch 28 [(8, 0), (0, p1), (0, p2), (0, p3), (76, 0), (4, 0)] [] D4 Φ
        refine r_iconst d_L_watch_28 ?_
        exact c_iret d_L_watch_29 rfl h
      · rw [if_neg g1] at h
        exact h.no.elim
set_option maxRecDepth 20000 in
theorem run_pE_flush {Γ : GG} {rg : Nat → Bool} {κ : Nat} {Φ : OT → DD → Prop} (R : cov rg rg2) {D : DD} (h : WP (some .int) 0 Φ (pE_flush D)) : Run Γ rg 1 Y_L_flush 0 [(8, 0), (76, 0), (5, 0)] [] D Φ := by
  unfold pE_flush at h
  show Run Γ rg 1 Y_L_flush 0 [(8, 0), (76, 0), (5, 0)] [] D Φ
  refine r_aload_n d_L_flush_0 rfl (by decide) ?_
  refine r_iconst d_L_flush_1 ?_
  refine r_aload_n d_L_flush_2 rfl (by decide) ?_
  refine c_callCi (t' := (some .int)) (a := 0) (z := 0) (as := []) (rest := [(0, 0), (76, 0)]) (ls' := [(8, 0)]) d_L_flush_3 ck_RL_71 rfl sh_0 rfl (by decide) (R 0 rfl) rfl rfl (Nat.le_of_ble_eq_true rfl) (Nat.le_of_ble_eq_true rfl) (by decide) rfl rfl (fun _ => rfl) (fun κ' Ψ hΨ => run_pH_flush (cov20 R) hΨ) h (fun v1 D1 h => ?_) (fun n D3 h => ?_)
  · skip
    show Run Γ rg 0 Y_L_flush 6 [(8, 0), (76, 0), (5, 0)] [(0, v1), (0, 0), (76, 0)] D1 Φ
    refine c_i2l d_L_flush_6 (nz_w _) ?_
    refine c_last0 (k := 0) d_L_flush_7 sh_68 (by decide) (R 68 rfl) (by decide) rfl (by decide) h (fun D2 h => ?_)
    refine r_goto (tgt := 14) d_L_flush_8 (by decide) ?_
    show Run Γ rg 0 Y_L_flush 14 [(8, 0), (76, 0), (5, 0)] [] D2 Φ
    refine r_iconst d_L_flush_14 ?_
    exact c_iret d_L_flush_15 rfl h
  · skip
    by_cases g0 : n = 2
    · rw [if_pos g0] at h
      subst g0
      refine ⟨11, hk_L_flush_0, ?_⟩
      show Run Γ rg 0 Y_L_flush 11 [(8, 0), (76, 0), (5, 0)] [(4, 0)] D3 Φ
      refine r_astore_n d_L_flush_11 (by decide) rfl (by decide) ?_
      show Run Γ rg 0 Y_L_flush 12 [(8, 0), (76, 0), (4, 0)] [] D3 Φ
      refine r_iconst d_L_flush_12 ?_
      exact c_iret d_L_flush_13 rfl h
    · rw [if_neg g0] at h
      exact h.no.elim
set_option maxRecDepth 20000 in
theorem run_pE_write {Γ : GG} {rg : Nat → Bool} {κ : Nat} {Φ : OT → DD → Prop} (R : cov rg rg2) (p1 : Int) {D : DD} (h : WP (some .int) 0 Φ (pE_write p1 D)) : Run Γ rg 1 Y_L_write 0 [(8, 0), (0, p1), (76, 0), (5, 0)] [] D Φ := by
  unfold pE_write at h
  show Run Γ rg 1 Y_L_write 0 [(8, 0), (0, p1), (76, 0), (5, 0)] [] D Φ
  refine r_aload_n d_L_write_0 rfl (by decide) ?_
  refine r_iconst d_L_write_1 ?_
  refine r_aload_n d_L_write_2 rfl (by decide) ?_
  refine r_iload_n d_L_write_3 rfl ?_
  refine c_callCi (t' := (some .int)) (a := 0) (z := 0) (as := [(0, p1)]) (rest := [(0, 0), (76, 0)]) (ls' := [(8, 0), (0, p1)]) d_L_write_4 ck_RL_75 rfl sh_0 rfl (by decide) (R 0 rfl) rfl rfl (Nat.le_of_ble_eq_true rfl) (Nat.le_of_ble_eq_true rfl) (by decide) rfl rfl (fun _ => rfl) (fun κ' Ψ hΨ => run_pH_write (cov20 R) _ hΨ) h (fun v1 D1 h => ?_) (fun n D3 h => ?_)
  · skip
    show Run Γ rg 0 Y_L_write 7 [(8, 0), (0, p1), (76, 0), (5, 0)] [(0, v1), (0, 0), (76, 0)] D1 Φ
    refine c_i2l d_L_write_7 (nz_w _) ?_
    refine c_last0 (k := 0) d_L_write_8 sh_68 (by decide) (R 68 rfl) (by decide) rfl (by decide) h (fun D2 h => ?_)
    refine r_goto (tgt := 18) d_L_write_9 (by decide) ?_
    show Run Γ rg 0 Y_L_write 18 [(8, 0), (0, p1), (76, 0), (5, 0)] [] D2 Φ
    refine r_iconst d_L_write_18 ?_
    exact c_iret d_L_write_19 rfl h
  · skip
    by_cases g0 : n = 1
    · rw [if_pos g0] at h
      subst g0
      refine ⟨12, hk_L_write_0, ?_⟩
      show Run Γ rg 0 Y_L_write 12 [(8, 0), (0, p1), (76, 0), (5, 0)] [(4, 0)] D3 Φ
      refine r_astore_n d_L_write_12 (by decide) rfl (by decide) ?_
      show Run Γ rg 0 Y_L_write 13 [(8, 0), (0, p1), (76, 0), (4, 0)] [] D3 Φ
      refine r_iconst d_L_write_13 ?_
      exact c_iret d_L_write_14 rfl h
    · rw [if_neg g0] at h
      by_cases g1 : n = 2
      · rw [if_pos g1] at h
        subst g1
        refine ⟨15, hk_L_write_1, ?_⟩
        show Run Γ rg 0 Y_L_write 15 [(8, 0), (0, p1), (76, 0), (5, 0)] [(4, 0)] D3 Φ
        refine r_astore_n d_L_write_15 (by decide) rfl (by decide) ?_
        show Run Γ rg 0 Y_L_write 16 [(8, 0), (0, p1), (76, 0), (4, 0)] [] D3 Φ
        refine r_iconst d_L_write_16 ?_
        exact c_iret d_L_write_17 rfl h
      · rw [if_neg g1] at h
        exact h.no.elim
set_option maxRecDepth 20000 in
theorem run_pE_log {Γ : GG} {rg : Nat → Bool} {κ : Nat} {Φ : OT → DD → Prop} (R : cov rg rg2) (p1 : Int) {D : DD} (h : WP (some .int) 0 Φ (pE_log p1 D)) : Run Γ rg 1 Y_L_log 0 [(8, 0), (0, p1), (76, 0), (5, 0)] [] D Φ := by
  unfold pE_log at h
  show Run Γ rg 1 Y_L_log 0 [(8, 0), (0, p1), (76, 0), (5, 0)] [] D Φ
  refine r_aload_n d_L_log_0 rfl (by decide) ?_
  refine r_iconst d_L_log_1 ?_
  refine r_aload_n d_L_log_2 rfl (by decide) ?_
  refine r_iload_n d_L_log_3 rfl ?_
  refine c_callCi (t' := (some .int)) (a := 0) (z := 0) (as := [(0, p1)]) (rest := [(0, 0), (76, 0)]) (ls' := [(8, 0), (0, p1)]) d_L_log_4 ck_RL_78 rfl sh_0 rfl (by decide) (R 0 rfl) rfl rfl (Nat.le_of_ble_eq_true rfl) (Nat.le_of_ble_eq_true rfl) (by decide) rfl rfl (fun _ => rfl) (fun κ' Ψ hΨ => run_pH_log (cov20 R) _ hΨ) h (fun v1 D1 h => ?_) (fun n D3 h => ?_)
  · skip
    show Run Γ rg 0 Y_L_log 7 [(8, 0), (0, p1), (76, 0), (5, 0)] [(0, v1), (0, 0), (76, 0)] D1 Φ
    refine c_i2l d_L_log_7 (nz_w _) ?_
    refine c_last0 (k := 0) d_L_log_8 sh_68 (by decide) (R 68 rfl) (by decide) rfl (by decide) h (fun D2 h => ?_)
    refine r_goto (tgt := 15) d_L_log_9 (by decide) ?_
    show Run Γ rg 0 Y_L_log 15 [(8, 0), (0, p1), (76, 0), (5, 0)] [] D2 Φ
    refine r_iconst d_L_log_15 ?_
    exact c_iret d_L_log_16 rfl h
  · skip
    by_cases g0 : n = 1
    · rw [if_pos g0] at h
      subst g0
      refine ⟨12, hk_L_log_0, ?_⟩
      show Run Γ rg 0 Y_L_log 12 [(8, 0), (0, p1), (76, 0), (5, 0)] [(4, 0)] D3 Φ
      refine r_astore_n d_L_log_12 (by decide) rfl (by decide) ?_
      show Run Γ rg 0 Y_L_log 13 [(8, 0), (0, p1), (76, 0), (4, 0)] [] D3 Φ
      refine r_iconst d_L_log_13 ?_
      exact c_iret d_L_log_14 rfl h
    · rw [if_neg g0] at h
      exact h.no.elim
