section
-- ===== PART A: goes FIRST, ahead of the names: the tables' words, and 'selects' of the private methods out of them =====
/-- a private method of a class that the tables say can be made, by its rows of tables_1 -/
def lw_okq (q : MethodName × Nat) : Prop := (q.1.cls ≠ "java/lang/invoke/MethodHandle" ∧ q.1.cls ≠ "java/lang/invoke/VarHandle") ∧ Cond.instantiable q.1.cls q.2 ∈ tables_1 ∧ Cond.privateMethod q.1 ∈ tables_1 ∧ Cond.instanceMethod q.1 ∈ tables_1
theorem lw_p0 : lw_okq (⟨"HiveKeys$Cells", "getCell", "(I)I"⟩, 6) := ⟨⟨by decide +kernel, by decide +kernel⟩, List.mem_of_getElem? (i := 63) (by decide +kernel), List.mem_of_getElem? (i := 204) (by decide +kernel), List.mem_of_getElem? (i := 205) (by decide +kernel)⟩
theorem lw_p1 : lw_okq (⟨"HiveKeys$Cells", "firstFreeFor", "(I)I"⟩, 6) := ⟨⟨by decide +kernel, by decide +kernel⟩, List.mem_of_getElem? (i := 63) (by decide +kernel), List.mem_of_getElem? (i := 208) (by decide +kernel), List.mem_of_getElem? (i := 209) (by decide +kernel)⟩
theorem lw_p2 : lw_okq (⟨"HiveKeys$Cells", "addSector", "()V"⟩, 6) := ⟨⟨by decide +kernel, by decide +kernel⟩, List.mem_of_getElem? (i := 63) (by decide +kernel), List.mem_of_getElem? (i := 222) (by decide +kernel), List.mem_of_getElem? (i := 223) (by decide +kernel)⟩
theorem lw_p3 : lw_okq (⟨"HiveKeys$Cells", "cellAhead", "(I)I"⟩, 6) := ⟨⟨by decide +kernel, by decide +kernel⟩, List.mem_of_getElem? (i := 63) (by decide +kernel), List.mem_of_getElem? (i := 226) (by decide +kernel), List.mem_of_getElem? (i := 227) (by decide +kernel)⟩
theorem lw_p4 : lw_okq (⟨"HiveKeys", "enterKey", "(IIII)V"⟩, 8) := ⟨⟨by decide +kernel, by decide +kernel⟩, List.mem_of_getElem? (i := 21) (by decide +kernel), List.mem_of_getElem? (i := 238) (by decide +kernel), List.mem_of_getElem? (i := 239) (by decide +kernel)⟩
theorem lw_p5 : lw_okq (⟨"HiveKeys$Lists", "isIndex", "(I)Z"⟩, 2) := ⟨⟨by decide +kernel, by decide +kernel⟩, List.mem_of_getElem? (i := 89) (by decide +kernel), List.mem_of_getElem? (i := 357) (by decide +kernel), List.mem_of_getElem? (i := 358) (by decide +kernel)⟩
theorem lw_p6 : lw_okq (⟨"HiveKeys$Lists", "leafNumbered", "(II)I"⟩, 2) := ⟨⟨by decide +kernel, by decide +kernel⟩, List.mem_of_getElem? (i := 89) (by decide +kernel), List.mem_of_getElem? (i := 367) (by decide +kernel), List.mem_of_getElem? (i := 368) (by decide +kernel)⟩
theorem lw_p7 : lw_okq (⟨"HiveKeys$Values", "cellNumbered", "(II)I"⟩, 2) := ⟨⟨by decide +kernel, by decide +kernel⟩, List.mem_of_getElem? (i := 102) (by decide +kernel), List.mem_of_getElem? (i := 386) (by decide +kernel), List.mem_of_getElem? (i := 387) (by decide +kernel)⟩
theorem lw_p8 : lw_okq (⟨"HiveKeys", "addSubkeysToWalk", "(II)I"⟩, 8) := ⟨⟨by decide +kernel, by decide +kernel⟩, List.mem_of_getElem? (i := 21) (by decide +kernel), List.mem_of_getElem? (i := 399) (by decide +kernel), List.mem_of_getElem? (i := 400) (by decide +kernel)⟩
theorem lw_p9 : lw_okq (⟨"HiveKeys$Flushes", "isSealed", "()Z"⟩, 7) := ⟨⟨by decide +kernel, by decide +kernel⟩, List.mem_of_getElem? (i := 153) (by decide +kernel), List.mem_of_getElem? (i := 437) (by decide +kernel), List.mem_of_getElem? (i := 438) (by decide +kernel)⟩
theorem lw_p10 : lw_okq (⟨"HiveKeys$Flushes", "endWhole", "()V"⟩, 7) := ⟨⟨by decide +kernel, by decide +kernel⟩, List.mem_of_getElem? (i := 153) (by decide +kernel), List.mem_of_getElem? (i := 441) (by decide +kernel), List.mem_of_getElem? (i := 442) (by decide +kernel)⟩
theorem lw_p11 : lw_okq (⟨"HiveKeys", "requireKey", "(I)V"⟩, 8) := ⟨⟨by decide +kernel, by decide +kernel⟩, List.mem_of_getElem? (i := 21) (by decide +kernel), List.mem_of_getElem? (i := 471) (by decide +kernel), List.mem_of_getElem? (i := 472) (by decide +kernel)⟩
theorem lw_p12 : lw_okq (⟨"HiveKeys", "hasKey", "(I)Z"⟩, 8) := ⟨⟨by decide +kernel, by decide +kernel⟩, List.mem_of_getElem? (i := 21) (by decide +kernel), List.mem_of_getElem? (i := 475) (by decide +kernel), List.mem_of_getElem? (i := 476) (by decide +kernel)⟩
theorem lw_p13 : lw_okq (⟨"java/lang/Throwable", "fillInStackTrace", "(I)Ljava/lang/Throwable;"⟩, 6) := ⟨⟨by decide +kernel, by decide +kernel⟩, List.mem_of_getElem? (i := 517) (by decide +kernel), List.mem_of_getElem? (i := 515) (by decide +kernel), List.mem_of_getElem? (i := 516) (by decide +kernel)⟩
theorem lw_p14 : lw_okq (⟨"HiveKeys", "makeSubkey", "(III)I"⟩, 8) := ⟨⟨by decide +kernel, by decide +kernel⟩, List.mem_of_getElem? (i := 21) (by decide +kernel), List.mem_of_getElem? (i := 566) (by decide +kernel), List.mem_of_getElem? (i := 567) (by decide +kernel)⟩
theorem lw_p15 : lw_okq (⟨"HiveKeys", "requireNoLink", "(I)V"⟩, 8) := ⟨⟨by decide +kernel, by decide +kernel⟩, List.mem_of_getElem? (i := 21) (by decide +kernel), List.mem_of_getElem? (i := 576) (by decide +kernel), List.mem_of_getElem? (i := 577) (by decide +kernel)⟩
def lw_privs_1 : List (MethodName × Nat) := [(⟨"HiveKeys$Cells", "getCell", "(I)I"⟩, 6), (⟨"HiveKeys$Cells", "firstFreeFor", "(I)I"⟩, 6), (⟨"HiveKeys$Cells", "addSector", "()V"⟩, 6), (⟨"HiveKeys$Cells", "cellAhead", "(I)I"⟩, 6), (⟨"HiveKeys", "enterKey", "(IIII)V"⟩, 8), (⟨"HiveKeys$Lists", "isIndex", "(I)Z"⟩, 2), (⟨"HiveKeys$Lists", "leafNumbered", "(II)I"⟩, 2), (⟨"HiveKeys$Values", "cellNumbered", "(II)I"⟩, 2), (⟨"HiveKeys", "addSubkeysToWalk", "(II)I"⟩, 8), (⟨"HiveKeys$Flushes", "isSealed", "()Z"⟩, 7), (⟨"HiveKeys$Flushes", "endWhole", "()V"⟩, 7), (⟨"HiveKeys", "requireKey", "(I)V"⟩, 8), (⟨"HiveKeys", "hasKey", "(I)Z"⟩, 8), (⟨"java/lang/Throwable", "fillInStackTrace", "(I)Ljava/lang/Throwable;"⟩, 6), (⟨"HiveKeys", "makeSubkey", "(III)I"⟩, 8), (⟨"HiveKeys", "requireNoLink", "(I)V"⟩, 8)]
theorem lw_r1 : ∀ q ∈ lw_privs_1, lw_okq q := List.forall_mem_cons.mpr ⟨lw_p0, List.forall_mem_cons.mpr ⟨lw_p1, List.forall_mem_cons.mpr ⟨lw_p2, List.forall_mem_cons.mpr ⟨lw_p3, List.forall_mem_cons.mpr ⟨lw_p4, List.forall_mem_cons.mpr ⟨lw_p5, List.forall_mem_cons.mpr ⟨lw_p6, List.forall_mem_cons.mpr ⟨lw_p7, List.forall_mem_cons.mpr ⟨lw_p8, List.forall_mem_cons.mpr ⟨lw_p9, List.forall_mem_cons.mpr ⟨lw_p10, List.forall_mem_cons.mpr ⟨lw_p11, List.forall_mem_cons.mpr ⟨lw_p12, List.forall_mem_cons.mpr ⟨lw_p13, List.forall_mem_cons.mpr ⟨lw_p14, List.forall_mem_cons.mpr ⟨lw_p15, fun _ h => absurd h List.not_mem_nil⟩⟩⟩⟩⟩⟩⟩⟩⟩⟩⟩⟩⟩⟩⟩⟩
theorem lw_p16 : lw_okq (⟨"HiveKeys", "isLink", "(I)Z"⟩, 8) := ⟨⟨by decide +kernel, by decide +kernel⟩, List.mem_of_getElem? (i := 21) (by decide +kernel), List.mem_of_getElem? (i := 580) (by decide +kernel), List.mem_of_getElem? (i := 581) (by decide +kernel)⟩
theorem lw_p17 : lw_okq (⟨"HiveKeys", "requireNameFree", "(II)V"⟩, 8) := ⟨⟨by decide +kernel, by decide +kernel⟩, List.mem_of_getElem? (i := 21) (by decide +kernel), List.mem_of_getElem? (i := 600) (by decide +kernel), List.mem_of_getElem? (i := 601) (by decide +kernel)⟩
theorem lw_p18 : lw_okq (⟨"HiveKeys$Lists", "keyInLeaf", "(II)I"⟩, 2) := ⟨⟨by decide +kernel, by decide +kernel⟩, List.mem_of_getElem? (i := 89) (by decide +kernel), List.mem_of_getElem? (i := 608) (by decide +kernel), List.mem_of_getElem? (i := 609) (by decide +kernel)⟩
theorem lw_p19 : lw_okq (⟨"HiveKeys$Lists", "leafNumberFor", "(II)I"⟩, 2) := ⟨⟨by decide +kernel, by decide +kernel⟩, List.mem_of_getElem? (i := 89) (by decide +kernel), List.mem_of_getElem? (i := 618) (by decide +kernel), List.mem_of_getElem? (i := 619) (by decide +kernel)⟩
theorem lw_p20 : lw_okq (⟨"HiveKeys$Lists", "entriesAhead", "(II)I"⟩, 2) := ⟨⟨by decide +kernel, by decide +kernel⟩, List.mem_of_getElem? (i := 89) (by decide +kernel), List.mem_of_getElem? (i := 645) (by decide +kernel), List.mem_of_getElem? (i := 646) (by decide +kernel)⟩
theorem lw_p21 : lw_okq (⟨"HiveKeys$Lists", "insertLeafBehind", "(III)I"⟩, 2) := ⟨⟨by decide +kernel, by decide +kernel⟩, List.mem_of_getElem? (i := 89) (by decide +kernel), List.mem_of_getElem? (i := 649) (by decide +kernel), List.mem_of_getElem? (i := 650) (by decide +kernel)⟩
theorem lw_p22 : lw_okq (⟨"HiveKeys$Lists", "splitLeaf", "(III)V"⟩, 2) := ⟨⟨by decide +kernel, by decide +kernel⟩, List.mem_of_getElem? (i := 89) (by decide +kernel), List.mem_of_getElem? (i := 653) (by decide +kernel), List.mem_of_getElem? (i := 654) (by decide +kernel)⟩
theorem lw_p23 : lw_okq (⟨"HiveKeys", "tellUpwards", "(II)V"⟩, 8) := ⟨⟨by decide +kernel, by decide +kernel⟩, List.mem_of_getElem? (i := 21) (by decide +kernel), List.mem_of_getElem? (i := 661) (by decide +kernel), List.mem_of_getElem? (i := 662) (by decide +kernel)⟩
theorem lw_p24 : lw_okq (⟨"HiveKeys$Lists", "removeLeaf", "(II)I"⟩, 2) := ⟨⟨by decide +kernel, by decide +kernel⟩, List.mem_of_getElem? (i := 89) (by decide +kernel), List.mem_of_getElem? (i := 699) (by decide +kernel), List.mem_of_getElem? (i := 700) (by decide +kernel)⟩
theorem lw_p25 : lw_okq (⟨"HiveKeys", "requireNoSubkeys", "(I)V"⟩, 8) := ⟨⟨by decide +kernel, by decide +kernel⟩, List.mem_of_getElem? (i := 21) (by decide +kernel), List.mem_of_getElem? (i := 711) (by decide +kernel), List.mem_of_getElem? (i := 712) (by decide +kernel)⟩
theorem lw_p26 : lw_okq (⟨"HiveKeys$Values", "giveBackValue", "(I)I"⟩, 2) := ⟨⟨by decide +kernel, by decide +kernel⟩, List.mem_of_getElem? (i := 102) (by decide +kernel), List.mem_of_getElem? (i := 721) (by decide +kernel), List.mem_of_getElem? (i := 722) (by decide +kernel)⟩
theorem lw_p27 : lw_okq (⟨"HiveKeys$Values", "giveBackPieces", "(I)I"⟩, 2) := ⟨⟨by decide +kernel, by decide +kernel⟩, List.mem_of_getElem? (i := 102) (by decide +kernel), List.mem_of_getElem? (i := 725) (by decide +kernel), List.mem_of_getElem? (i := 726) (by decide +kernel)⟩
theorem lw_p28 : lw_okq (⟨"HiveKeys$Values", "giveBackList", "(I)I"⟩, 2) := ⟨⟨by decide +kernel, by decide +kernel⟩, List.mem_of_getElem? (i := 102) (by decide +kernel), List.mem_of_getElem? (i := 730) (by decide +kernel), List.mem_of_getElem? (i := 731) (by decide +kernel)⟩
theorem lw_p29 : lw_okq (⟨"HiveKeys$Values", "wantPieces", "(II)V"⟩, 2) := ⟨⟨by decide +kernel, by decide +kernel⟩, List.mem_of_getElem? (i := 102) (by decide +kernel), List.mem_of_getElem? (i := 807) (by decide +kernel), List.mem_of_getElem? (i := 808) (by decide +kernel)⟩
theorem lw_p30 : lw_okq (⟨"HiveKeys$Values", "wantListForOneMore", "(I)V"⟩, 2) := ⟨⟨by decide +kernel, by decide +kernel⟩, List.mem_of_getElem? (i := 102) (by decide +kernel), List.mem_of_getElem? (i := 818) (by decide +kernel), List.mem_of_getElem? (i := 819) (by decide +kernel)⟩
theorem lw_p31 : lw_okq (⟨"HiveKeys$Values", "needsListForOneMore", "(I)Z"⟩, 2) := ⟨⟨by decide +kernel, by decide +kernel⟩, List.mem_of_getElem? (i := 102) (by decide +kernel), List.mem_of_getElem? (i := 822) (by decide +kernel), List.mem_of_getElem? (i := 823) (by decide +kernel)⟩
def lw_privs_2 : List (MethodName × Nat) := [(⟨"HiveKeys", "isLink", "(I)Z"⟩, 8), (⟨"HiveKeys", "requireNameFree", "(II)V"⟩, 8), (⟨"HiveKeys$Lists", "keyInLeaf", "(II)I"⟩, 2), (⟨"HiveKeys$Lists", "leafNumberFor", "(II)I"⟩, 2), (⟨"HiveKeys$Lists", "entriesAhead", "(II)I"⟩, 2), (⟨"HiveKeys$Lists", "insertLeafBehind", "(III)I"⟩, 2), (⟨"HiveKeys$Lists", "splitLeaf", "(III)V"⟩, 2), (⟨"HiveKeys", "tellUpwards", "(II)V"⟩, 8), (⟨"HiveKeys$Lists", "removeLeaf", "(II)I"⟩, 2), (⟨"HiveKeys", "requireNoSubkeys", "(I)V"⟩, 8), (⟨"HiveKeys$Values", "giveBackValue", "(I)I"⟩, 2), (⟨"HiveKeys$Values", "giveBackPieces", "(I)I"⟩, 2), (⟨"HiveKeys$Values", "giveBackList", "(I)I"⟩, 2), (⟨"HiveKeys$Values", "wantPieces", "(II)V"⟩, 2), (⟨"HiveKeys$Values", "wantListForOneMore", "(I)V"⟩, 2), (⟨"HiveKeys$Values", "needsListForOneMore", "(I)Z"⟩, 2)]
theorem lw_r2 : ∀ q ∈ lw_privs_2, lw_okq q := List.forall_mem_cons.mpr ⟨lw_p16, List.forall_mem_cons.mpr ⟨lw_p17, List.forall_mem_cons.mpr ⟨lw_p18, List.forall_mem_cons.mpr ⟨lw_p19, List.forall_mem_cons.mpr ⟨lw_p20, List.forall_mem_cons.mpr ⟨lw_p21, List.forall_mem_cons.mpr ⟨lw_p22, List.forall_mem_cons.mpr ⟨lw_p23, List.forall_mem_cons.mpr ⟨lw_p24, List.forall_mem_cons.mpr ⟨lw_p25, List.forall_mem_cons.mpr ⟨lw_p26, List.forall_mem_cons.mpr ⟨lw_p27, List.forall_mem_cons.mpr ⟨lw_p28, List.forall_mem_cons.mpr ⟨lw_p29, List.forall_mem_cons.mpr ⟨lw_p30, List.forall_mem_cons.mpr ⟨lw_p31, fun _ h => absurd h List.not_mem_nil⟩⟩⟩⟩⟩⟩⟩⟩⟩⟩⟩⟩⟩⟩⟩⟩
theorem lw_p32 : lw_okq (⟨"HiveKeys$Values", "addToList", "(III)V"⟩, 2) := ⟨⟨by decide +kernel, by decide +kernel⟩, List.mem_of_getElem? (i := 102) (by decide +kernel), List.mem_of_getElem? (i := 828) (by decide +kernel), List.mem_of_getElem? (i := 829) (by decide +kernel)⟩
theorem lw_p33 : lw_okq (⟨"HiveKeys$Values", "putHead", "(III)V"⟩, 2) := ⟨⟨by decide +kernel, by decide +kernel⟩, List.mem_of_getElem? (i := 102) (by decide +kernel), List.mem_of_getElem? (i := 835) (by decide +kernel), List.mem_of_getElem? (i := 836) (by decide +kernel)⟩
theorem lw_p34 : lw_okq (⟨"HiveKeys$Values", "chainPieces", "(II)V"⟩, 2) := ⟨⟨by decide +kernel, by decide +kernel⟩, List.mem_of_getElem? (i := 102) (by decide +kernel), List.mem_of_getElem? (i := 839) (by decide +kernel), List.mem_of_getElem? (i := 840) (by decide +kernel)⟩
theorem lw_p35 : lw_okq (⟨"HiveKeysModel", "copies", "(II)V"⟩, 43) := ⟨⟨by decide +kernel, by decide +kernel⟩, List.mem_of_getElem? (i := 996) (by decide +kernel), List.mem_of_getElem? (i := 1002) (by decide +kernel), List.mem_of_getElem? (i := 1003) (by decide +kernel)⟩
theorem lw_p36 : lw_okq (⟨"HiveKeysModel", "isKey", "(I)Z"⟩, 43) := ⟨⟨by decide +kernel, by decide +kernel⟩, List.mem_of_getElem? (i := 996) (by decide +kernel), List.mem_of_getElem? (i := 1148) (by decide +kernel), List.mem_of_getElem? (i := 1149) (by decide +kernel)⟩
theorem lw_p37 : lw_okq (⟨"HiveKeysModel", "fails", "(I)Z"⟩, 43) := ⟨⟨by decide +kernel, by decide +kernel⟩, List.mem_of_getElem? (i := 996) (by decide +kernel), List.mem_of_getElem? (i := 1155) (by decide +kernel), List.mem_of_getElem? (i := 1156) (by decide +kernel)⟩
theorem lw_p38 : lw_okq (⟨"HiveKeysModel", "forgets", "(I)V"⟩, 43) := ⟨⟨by decide +kernel, by decide +kernel⟩, List.mem_of_getElem? (i := 996) (by decide +kernel), List.mem_of_getElem? (i := 1159) (by decide +kernel), List.mem_of_getElem? (i := 1160) (by decide +kernel)⟩
theorem lw_p39 : lw_okq (⟨"HiveKeysModel", "cannotMake", "(II)Z"⟩, 43) := ⟨⟨by decide +kernel, by decide +kernel⟩, List.mem_of_getElem? (i := 996) (by decide +kernel), List.mem_of_getElem? (i := 1174) (by decide +kernel), List.mem_of_getElem? (i := 1175) (by decide +kernel)⟩
theorem lw_p40 : lw_okq (⟨"HiveKeysModel", "entryOf", "(II)I"⟩, 43) := ⟨⟨by decide +kernel, by decide +kernel⟩, List.mem_of_getElem? (i := 996) (by decide +kernel), List.mem_of_getElem? (i := 1178) (by decide +kernel), List.mem_of_getElem? (i := 1179) (by decide +kernel)⟩
theorem lw_p41 : lw_okq (⟨"HiveKeysModel", "entries", "(I)I"⟩, 43) := ⟨⟨by decide +kernel, by decide +kernel⟩, List.mem_of_getElem? (i := 996) (by decide +kernel), List.mem_of_getElem? (i := 1182) (by decide +kernel), List.mem_of_getElem? (i := 1183) (by decide +kernel)⟩
theorem lw_p42 : lw_okq (⟨"HiveKeysModel", "start", "(II)I"⟩, 43) := ⟨⟨by decide +kernel, by decide +kernel⟩, List.mem_of_getElem? (i := 996) (by decide +kernel), List.mem_of_getElem? (i := 1186) (by decide +kernel), List.mem_of_getElem? (i := 1187) (by decide +kernel)⟩
theorem lw_p43 : lw_okq (⟨"HiveKeysModel", "isFull", "(II)Z"⟩, 43) := ⟨⟨by decide +kernel, by decide +kernel⟩, List.mem_of_getElem? (i := 996) (by decide +kernel), List.mem_of_getElem? (i := 1190) (by decide +kernel), List.mem_of_getElem? (i := 1191) (by decide +kernel)⟩
theorem lw_p44 : lw_okq (⟨"HiveKeysModel", "isSplit", "(II)Z"⟩, 43) := ⟨⟨by decide +kernel, by decide +kernel⟩, List.mem_of_getElem? (i := 996) (by decide +kernel), List.mem_of_getElem? (i := 1194) (by decide +kernel), List.mem_of_getElem? (i := 1195) (by decide +kernel)⟩
theorem lw_p45 : lw_okq (⟨"HiveKeysModel", "leafFor", "(II)I"⟩, 43) := ⟨⟨by decide +kernel, by decide +kernel⟩, List.mem_of_getElem? (i := 996) (by decide +kernel), List.mem_of_getElem? (i := 1198) (by decide +kernel), List.mem_of_getElem? (i := 1199) (by decide +kernel)⟩
theorem lw_p46 : lw_okq (⟨"HiveKeysModel", "wants", "(I)V"⟩, 43) := ⟨⟨by decide +kernel, by decide +kernel⟩, List.mem_of_getElem? (i := 996) (by decide +kernel), List.mem_of_getElem? (i := 1205) (by decide +kernel), List.mem_of_getElem? (i := 1206) (by decide +kernel)⟩
theorem lw_p47 : lw_okq (⟨"HiveKeysModel", "wantsEntry", "(II)V"⟩, 43) := ⟨⟨by decide +kernel, by decide +kernel⟩, List.mem_of_getElem? (i := 996) (by decide +kernel), List.mem_of_getElem? (i := 1209) (by decide +kernel), List.mem_of_getElem? (i := 1210) (by decide +kernel)⟩
def lw_privs_3 : List (MethodName × Nat) := [(⟨"HiveKeys$Values", "addToList", "(III)V"⟩, 2), (⟨"HiveKeys$Values", "putHead", "(III)V"⟩, 2), (⟨"HiveKeys$Values", "chainPieces", "(II)V"⟩, 2), (⟨"HiveKeysModel", "copies", "(II)V"⟩, 43), (⟨"HiveKeysModel", "isKey", "(I)Z"⟩, 43), (⟨"HiveKeysModel", "fails", "(I)Z"⟩, 43), (⟨"HiveKeysModel", "forgets", "(I)V"⟩, 43), (⟨"HiveKeysModel", "cannotMake", "(II)Z"⟩, 43), (⟨"HiveKeysModel", "entryOf", "(II)I"⟩, 43), (⟨"HiveKeysModel", "entries", "(I)I"⟩, 43), (⟨"HiveKeysModel", "start", "(II)I"⟩, 43), (⟨"HiveKeysModel", "isFull", "(II)Z"⟩, 43), (⟨"HiveKeysModel", "isSplit", "(II)Z"⟩, 43), (⟨"HiveKeysModel", "leafFor", "(II)I"⟩, 43), (⟨"HiveKeysModel", "wants", "(I)V"⟩, 43), (⟨"HiveKeysModel", "wantsEntry", "(II)V"⟩, 43)]
theorem lw_r3 : ∀ q ∈ lw_privs_3, lw_okq q := List.forall_mem_cons.mpr ⟨lw_p32, List.forall_mem_cons.mpr ⟨lw_p33, List.forall_mem_cons.mpr ⟨lw_p34, List.forall_mem_cons.mpr ⟨lw_p35, List.forall_mem_cons.mpr ⟨lw_p36, List.forall_mem_cons.mpr ⟨lw_p37, List.forall_mem_cons.mpr ⟨lw_p38, List.forall_mem_cons.mpr ⟨lw_p39, List.forall_mem_cons.mpr ⟨lw_p40, List.forall_mem_cons.mpr ⟨lw_p41, List.forall_mem_cons.mpr ⟨lw_p42, List.forall_mem_cons.mpr ⟨lw_p43, List.forall_mem_cons.mpr ⟨lw_p44, List.forall_mem_cons.mpr ⟨lw_p45, List.forall_mem_cons.mpr ⟨lw_p46, List.forall_mem_cons.mpr ⟨lw_p47, fun _ h => absurd h List.not_mem_nil⟩⟩⟩⟩⟩⟩⟩⟩⟩⟩⟩⟩⟩⟩⟩⟩
theorem lw_p48 : lw_okq (⟨"HiveKeysModel", "gets", "()Z"⟩, 43) := ⟨⟨by decide +kernel, by decide +kernel⟩, List.mem_of_getElem? (i := 996) (by decide +kernel), List.mem_of_getElem? (i := 1213) (by decide +kernel), List.mem_of_getElem? (i := 1214) (by decide +kernel)⟩
theorem lw_p49 : lw_okq (⟨"HiveKeysModel", "takes", "(I)I"⟩, 43) := ⟨⟨by decide +kernel, by decide +kernel⟩, List.mem_of_getElem? (i := 996) (by decide +kernel), List.mem_of_getElem? (i := 1217) (by decide +kernel), List.mem_of_getElem? (i := 1218) (by decide +kernel)⟩
theorem lw_p50 : lw_okq (⟨"HiveKeysModel", "freeFor", "(I)I"⟩, 43) := ⟨⟨by decide +kernel, by decide +kernel⟩, List.mem_of_getElem? (i := 996) (by decide +kernel), List.mem_of_getElem? (i := 1221) (by decide +kernel), List.mem_of_getElem? (i := 1222) (by decide +kernel)⟩
theorem lw_p51 : lw_okq (⟨"HiveKeysModel", "units", "()I"⟩, 43) := ⟨⟨by decide +kernel, by decide +kernel⟩, List.mem_of_getElem? (i := 996) (by decide +kernel), List.mem_of_getElem? (i := 1225) (by decide +kernel), List.mem_of_getElem? (i := 1226) (by decide +kernel)⟩
theorem lw_p52 : lw_okq (⟨"HiveKeysModel", "grows", "()V"⟩, 43) := ⟨⟨by decide +kernel, by decide +kernel⟩, List.mem_of_getElem? (i := 996) (by decide +kernel), List.mem_of_getElem? (i := 1229) (by decide +kernel), List.mem_of_getElem? (i := 1230) (by decide +kernel)⟩
theorem lw_p53 : lw_okq (⟨"HiveKeysModel", "freeAhead", "(I)I"⟩, 43) := ⟨⟨by decide +kernel, by decide +kernel⟩, List.mem_of_getElem? (i := 996) (by decide +kernel), List.mem_of_getElem? (i := 1233) (by decide +kernel), List.mem_of_getElem? (i := 1234) (by decide +kernel)⟩
theorem lw_p54 : lw_okq (⟨"HiveKeysModel", "makes", "(III)I"⟩, 43) := ⟨⟨by decide +kernel, by decide +kernel⟩, List.mem_of_getElem? (i := 996) (by decide +kernel), List.mem_of_getElem? (i := 1237) (by decide +kernel), List.mem_of_getElem? (i := 1238) (by decide +kernel)⟩
theorem lw_p55 : lw_okq (⟨"HiveKeysModel", "writesGot", "()V"⟩, 43) := ⟨⟨by decide +kernel, by decide +kernel⟩, List.mem_of_getElem? (i := 996) (by decide +kernel), List.mem_of_getElem? (i := 1241) (by decide +kernel), List.mem_of_getElem? (i := 1242) (by decide +kernel)⟩
theorem lw_p56 : lw_okq (⟨"HiveKeysModel", "writes", "(I)V"⟩, 43) := ⟨⟨by decide +kernel, by decide +kernel⟩, List.mem_of_getElem? (i := 996) (by decide +kernel), List.mem_of_getElem? (i := 1245) (by decide +kernel), List.mem_of_getElem? (i := 1246) (by decide +kernel)⟩
theorem lw_p57 : lw_okq (⟨"HiveKeysModel", "enters", "(IIII)V"⟩, 43) := ⟨⟨by decide +kernel, by decide +kernel⟩, List.mem_of_getElem? (i := 996) (by decide +kernel), List.mem_of_getElem? (i := 1249) (by decide +kernel), List.mem_of_getElem? (i := 1250) (by decide +kernel)⟩
theorem lw_p58 : lw_okq (⟨"HiveKeysModel", "changes", "(II)V"⟩, 43) := ⟨⟨by decide +kernel, by decide +kernel⟩, List.mem_of_getElem? (i := 996) (by decide +kernel), List.mem_of_getElem? (i := 1253) (by decide +kernel), List.mem_of_getElem? (i := 1254) (by decide +kernel)⟩
theorem lw_p59 : lw_okq (⟨"HiveKeysModel", "tells", "(II)V"⟩, 43) := ⟨⟨by decide +kernel, by decide +kernel⟩, List.mem_of_getElem? (i := 996) (by decide +kernel), List.mem_of_getElem? (i := 1257) (by decide +kernel), List.mem_of_getElem? (i := 1258) (by decide +kernel)⟩
theorem lw_p60 : lw_okq (⟨"HiveKeysModel", "cannotRename", "(II)Z"⟩, 43) := ⟨⟨by decide +kernel, by decide +kernel⟩, List.mem_of_getElem? (i := 996) (by decide +kernel), List.mem_of_getElem? (i := 1269) (by decide +kernel), List.mem_of_getElem? (i := 1270) (by decide +kernel)⟩
theorem lw_p61 : lw_okq (⟨"HiveKeysModel", "goes", "(II)V"⟩, 43) := ⟨⟨by decide +kernel, by decide +kernel⟩, List.mem_of_getElem? (i := 996) (by decide +kernel), List.mem_of_getElem? (i := 1273) (by decide +kernel), List.mem_of_getElem? (i := 1274) (by decide +kernel)⟩
theorem lw_p62 : lw_okq (⟨"HiveKeysModel", "gives", "(I)V"⟩, 43) := ⟨⟨by decide +kernel, by decide +kernel⟩, List.mem_of_getElem? (i := 996) (by decide +kernel), List.mem_of_getElem? (i := 1277) (by decide +kernel), List.mem_of_getElem? (i := 1278) (by decide +kernel)⟩
theorem lw_p63 : lw_okq (⟨"HiveKeysModel", "givesPieces", "(II)V"⟩, 43) := ⟨⟨by decide +kernel, by decide +kernel⟩, List.mem_of_getElem? (i := 996) (by decide +kernel), List.mem_of_getElem? (i := 1285) (by decide +kernel), List.mem_of_getElem? (i := 1286) (by decide +kernel)⟩
def lw_privs_4 : List (MethodName × Nat) := [(⟨"HiveKeysModel", "gets", "()Z"⟩, 43), (⟨"HiveKeysModel", "takes", "(I)I"⟩, 43), (⟨"HiveKeysModel", "freeFor", "(I)I"⟩, 43), (⟨"HiveKeysModel", "units", "()I"⟩, 43), (⟨"HiveKeysModel", "grows", "()V"⟩, 43), (⟨"HiveKeysModel", "freeAhead", "(I)I"⟩, 43), (⟨"HiveKeysModel", "makes", "(III)I"⟩, 43), (⟨"HiveKeysModel", "writesGot", "()V"⟩, 43), (⟨"HiveKeysModel", "writes", "(I)V"⟩, 43), (⟨"HiveKeysModel", "enters", "(IIII)V"⟩, 43), (⟨"HiveKeysModel", "changes", "(II)V"⟩, 43), (⟨"HiveKeysModel", "tells", "(II)V"⟩, 43), (⟨"HiveKeysModel", "cannotRename", "(II)Z"⟩, 43), (⟨"HiveKeysModel", "goes", "(II)V"⟩, 43), (⟨"HiveKeysModel", "gives", "(I)V"⟩, 43), (⟨"HiveKeysModel", "givesPieces", "(II)V"⟩, 43)]
theorem lw_r4 : ∀ q ∈ lw_privs_4, lw_okq q := List.forall_mem_cons.mpr ⟨lw_p48, List.forall_mem_cons.mpr ⟨lw_p49, List.forall_mem_cons.mpr ⟨lw_p50, List.forall_mem_cons.mpr ⟨lw_p51, List.forall_mem_cons.mpr ⟨lw_p52, List.forall_mem_cons.mpr ⟨lw_p53, List.forall_mem_cons.mpr ⟨lw_p54, List.forall_mem_cons.mpr ⟨lw_p55, List.forall_mem_cons.mpr ⟨lw_p56, List.forall_mem_cons.mpr ⟨lw_p57, List.forall_mem_cons.mpr ⟨lw_p58, List.forall_mem_cons.mpr ⟨lw_p59, List.forall_mem_cons.mpr ⟨lw_p60, List.forall_mem_cons.mpr ⟨lw_p61, List.forall_mem_cons.mpr ⟨lw_p62, List.forall_mem_cons.mpr ⟨lw_p63, fun _ h => absurd h List.not_mem_nil⟩⟩⟩⟩⟩⟩⟩⟩⟩⟩⟩⟩⟩⟩⟩⟩
theorem lw_p64 : lw_okq (⟨"HiveKeysModel", "leavesRights", "(I)V"⟩, 43) := ⟨⟨by decide +kernel, by decide +kernel⟩, List.mem_of_getElem? (i := 996) (by decide +kernel), List.mem_of_getElem? (i := 1292) (by decide +kernel), List.mem_of_getElem? (i := 1293) (by decide +kernel)⟩
theorem lw_p65 : lw_okq (⟨"HiveKeysModel", "cannotSet", "(III)Z"⟩, 43) := ⟨⟨by decide +kernel, by decide +kernel⟩, List.mem_of_getElem? (i := 996) (by decide +kernel), List.mem_of_getElem? (i := 1316) (by decide +kernel), List.mem_of_getElem? (i := 1317) (by decide +kernel)⟩
theorem lw_p66 : lw_okq (⟨"HiveKeysModel", "valueOf", "(II)I"⟩, 43) := ⟨⟨by decide +kernel, by decide +kernel⟩, List.mem_of_getElem? (i := 996) (by decide +kernel), List.mem_of_getElem? (i := 1320) (by decide +kernel), List.mem_of_getElem? (i := 1321) (by decide +kernel)⟩
theorem lw_p67 : lw_okq (⟨"HiveKeysModel", "listFor", "(I)I"⟩, 43) := ⟨⟨by decide +kernel, by decide +kernel⟩, List.mem_of_getElem? (i := 996) (by decide +kernel), List.mem_of_getElem? (i := 1327) (by decide +kernel), List.mem_of_getElem? (i := 1328) (by decide +kernel)⟩
theorem lw_p68 : lw_okq (⟨"HiveKeysModel", "cannotResize", "(II)Z"⟩, 43) := ⟨⟨by decide +kernel, by decide +kernel⟩, List.mem_of_getElem? (i := 996) (by decide +kernel), List.mem_of_getElem? (i := 1335) (by decide +kernel), List.mem_of_getElem? (i := 1336) (by decide +kernel)⟩
theorem lw_p69 : lw_okq (⟨"HiveKeysModel", "moves", "(II)V"⟩, 43) := ⟨⟨by decide +kernel, by decide +kernel⟩, List.mem_of_getElem? (i := 996) (by decide +kernel), List.mem_of_getElem? (i := 1346) (by decide +kernel), List.mem_of_getElem? (i := 1347) (by decide +kernel)⟩
theorem lw_p70 : lw_okq (⟨"HiveKeysModel", "cannotHave", "(I)Z"⟩, 43) := ⟨⟨by decide +kernel, by decide +kernel⟩, List.mem_of_getElem? (i := 996) (by decide +kernel), List.mem_of_getElem? (i := 1358) (by decide +kernel), List.mem_of_getElem? (i := 1359) (by decide +kernel)⟩
theorem lw_p71 : lw_okq (⟨"HiveKeysModel", "dirtyOnes", "()I"⟩, 43) := ⟨⟨by decide +kernel, by decide +kernel⟩, List.mem_of_getElem? (i := 996) (by decide +kernel), List.mem_of_getElem? (i := 1394) (by decide +kernel), List.mem_of_getElem? (i := 1395) (by decide +kernel)⟩
theorem lw_p72 : lw_okq (⟨"HiveKeysModel", "cleans", "()V"⟩, 43) := ⟨⟨by decide +kernel, by decide +kernel⟩, List.mem_of_getElem? (i := 996) (by decide +kernel), List.mem_of_getElem? (i := 1398) (by decide +kernel), List.mem_of_getElem? (i := 1399) (by decide +kernel)⟩
theorem lw_p73 : lw_okq (⟨"HiveKeysModel", "ends", "()V"⟩, 43) := ⟨⟨by decide +kernel, by decide +kernel⟩, List.mem_of_getElem? (i := 996) (by decide +kernel), List.mem_of_getElem? (i := 1406) (by decide +kernel), List.mem_of_getElem? (i := 1407) (by decide +kernel)⟩
def lw_privs_5 : List (MethodName × Nat) := [(⟨"HiveKeysModel", "leavesRights", "(I)V"⟩, 43), (⟨"HiveKeysModel", "cannotSet", "(III)Z"⟩, 43), (⟨"HiveKeysModel", "valueOf", "(II)I"⟩, 43), (⟨"HiveKeysModel", "listFor", "(I)I"⟩, 43), (⟨"HiveKeysModel", "cannotResize", "(II)Z"⟩, 43), (⟨"HiveKeysModel", "moves", "(II)V"⟩, 43), (⟨"HiveKeysModel", "cannotHave", "(I)Z"⟩, 43), (⟨"HiveKeysModel", "dirtyOnes", "()I"⟩, 43), (⟨"HiveKeysModel", "cleans", "()V"⟩, 43), (⟨"HiveKeysModel", "ends", "()V"⟩, 43)]
theorem lw_r5 : ∀ q ∈ lw_privs_5, lw_okq q := List.forall_mem_cons.mpr ⟨lw_p64, List.forall_mem_cons.mpr ⟨lw_p65, List.forall_mem_cons.mpr ⟨lw_p66, List.forall_mem_cons.mpr ⟨lw_p67, List.forall_mem_cons.mpr ⟨lw_p68, List.forall_mem_cons.mpr ⟨lw_p69, List.forall_mem_cons.mpr ⟨lw_p70, List.forall_mem_cons.mpr ⟨lw_p71, List.forall_mem_cons.mpr ⟨lw_p72, List.forall_mem_cons.mpr ⟨lw_p73, fun _ h => absurd h List.not_mem_nil⟩⟩⟩⟩⟩⟩⟩⟩⟩⟩
def lw_privs : List (MethodName × Nat) := lw_privs_1 ++ (lw_privs_2 ++ (lw_privs_3 ++ (lw_privs_4 ++ (lw_privs_5))))
def lw_tbl : List Cond := k2_sels lw_privs ++ tables_1
theorem lw_privs_ok : ∀ q ∈ lw_privs, lw_okq q := by
  show ∀ q ∈ lw_privs_1 ++ (lw_privs_2 ++ (lw_privs_3 ++ (lw_privs_4 ++ (lw_privs_5)))), lw_okq q
  exact List.forall_mem_append.mpr ⟨lw_r1, List.forall_mem_append.mpr ⟨lw_r2, List.forall_mem_append.mpr ⟨lw_r3, List.forall_mem_append.mpr ⟨lw_r4, lw_r5⟩⟩⟩⟩
end
section
/-! ===== BEGIN words of one list among another's, by their places ===== -/
theorem goodIn_r {big : List Cond} (ws : List Cond) (ps : List Nat) (hp : ws = ps.filterMap (fun i => big[i]?)) (h : ws.all goodWord = true) : GoodIn big ws := by
  intro w hw
  have h1 := List.all_eq_true.mp h w hw
  rw [hp] at hw
  obtain ⟨i, -, hi⟩ := List.mem_filterMap.mp hw
  have hm : w ∈ big := by first | exact List.mem_of_getElem? hi | exact List.getElem?_mem hi
  exact ⟨hm, good_of_word h1⟩
theorem goodIn_app {big a b : List Cond} (ha : GoodIn big a) (hb : GoodIn big b) : GoodIn big (a ++ b) := fun w h => (List.mem_append.mp h).elim (ha w) (hb w)
theorem goodIn_ca {big a b : List Cond} {c : Cond} (ha : GoodIn big (c :: a)) (hb : GoodIn big b) : GoodIn big (c :: (a ++ b)) := fun w h => (List.mem_cons.mp h).elim (fun e => ha w (List.mem_cons.mpr (Or.inl e))) (fun h => (List.mem_append.mp h).elim (fun h => ha w (List.mem_cons.mpr (Or.inr h))) (hb w))
theorem goodIn_sub {big ws : List Cond} (hm : ∀ w ∈ ws, w ∈ big) (h : ws.all goodWord = true) : GoodIn big ws := fun w hw => ⟨hm w hw, good_of_word (List.all_eq_true.mp h w hw)⟩
/-! ===== END ===== -/

/-! ===== BEGIN exceptions that leave a method, and their catching by the caller (launches without stack traces) ===== -/
section VXA
/-! The laws vx_back, vx_callV, vx_callS, vx_callSW, vx_throw0, vx_throwS follow proofs of the library, with one case more: JvmDerived/Free/Laws.lean (Back.of_free), Shelf42/LK1.lean (callV, callS), Shelf/KitTraced.lean (throwNew0V, throwNewS). -/
/-- where a method has thrown q: the class by its name, the cell, what was written, the world -/
def vx_T (XC : String → State → State → Prop) (st : State) (q : Addr) (t : State) (mc ms : Nat) (free : Addr → Prop) : Prop :=
  ∃ (E : String) (ce : Cell) (L : List Loc), XC E st t ∧ t.heap[q]? = some ce ∧ ce.vm = .none ∧ st.vm.findClass E = some ce.cls ∧ st.WarmedH t.vm ∧ st.sameButNew ({ t with vm := st.vm } : State) L mc ms ∧ ∀ z ∈ L, free z.base
def vx_Q (Qc : Array Value → State → Outcome → State → Prop) (XC : String → State → State → Prop) (mc ms : Nat) (free : Addr → Prop) : Array Value → State → Outcome → State → Prop := fun a st o t =>
  (Qc a st o t ∧ ∃ L, FrameEnd st o t L mc ms ∧ ∀ q ∈ L, free q.base) ∨ ∃ q, o = .threw q ∧ vx_T XC st q t mc ms free
/-- a callee that returns or throws -/
def vx_Met (l : Launch) (y : MethodName) (ws : List Cond) (rm : Room) (Pc : Array Value → State → Prop) (Qc : Array Value → State → Outcome → State → Prop) (XC : String → State → State → Prop) (mc ms : Nat) (free : Addr → Prop) : Prop :=
  MetFree l y (headSpec ws rm) Pc (fun _ _ _ _ _ => True) (vx_Q Qc XC mc ms free)
def vx_Post (XC : String → State → State → Prop) (mc ms : Nat) (free : Addr → Prop) : Pt → Array Value → Addr → Pt → Prop := fun A a q B =>
  ∃ (g : JFrame) (mk : MethodId) (t : State) (L : List Loc) (E : String) (ce : Cell), B.U.heap = t.heap ∧ B.U.vm = t.vm ∧ XC E (A.U.calling g mk a) t ∧ t.heap[q]? = some ce ∧ ce.vm = .none ∧ A.U.vm.findClass E = some ce.cls ∧ B.locs = A.locs ++ L ∧ (∀ z ∈ L, free z.base) ∧ B.cells = A.cells + mc ∧ B.slots = A.slots + ms
def vx_Back (l : Launch) (R : Room) (p : Program) (e : Env) (below : List Frame) (s : State) (sargs : Array Value) (y : MethodName) (len W9 : Nat)
    (Pre : Pt → Array Value → Prop) (Post : Pt → Array Value → Option Value → Pt → Prop) (PostX : Pt → Array Value → Addr → Pt → Prop) : Prop :=
  ∀ (m : MethodId) (meth : Method) (c : Code) (A : Pt) (g : JFrame) (ig : Instr) (mk : MethodId) (a : Array Value),
    Stand p l e R s m sargs below meth c A.U A.locs A.cells A.slots → g.method = m → g.locals.size = c.maxLocals → decode c.code g.pc = .ok (ig, len) →
    2 * g.monitorRoom + (g.stack.map fun v => v.category).sum ≤ W9 → A.U.methodNamed? y = some mk → Pre A a →
    (∃ (v : Option Value) (B : Pt), Stand p l e R s m sargs below meth c B.U B.locs B.cells B.slots ∧ Post A a v B ∧
      Steps p.tables e below (doInvoke e (A.U.setTop g) [] mk a).1 (B.U.setTop { g with pc := g.pc + len, stack := v.toList ++ g.stack })) ∨
    (∃ (q : Addr) (B : Pt), Stand p l e R s m sargs below meth c B.U B.locs B.cells B.slots ∧ PostX A a q B ∧
      Steps p.tables e below (doInvoke e (A.U.setTop g) [] mk a).1 ((B.U.setTop g).pushFrame (.throwing q)))
section Payer
variable {l : Launch} {R : Room} {p : Program} {e : Env} {below : List Frame} {s : State} {sargs : Array Value} {y : MethodName} {len W9 : Nat}
theorem vx_back {ws : List Cond} {rm : Room} {Pc : Array Value → State → Prop} {Qc : Array Value → State → Outcome → State → Prop} {XC : String → State → State → Prop} {mc ms : Nat} {free : Addr → Prop} {bytes : ByteArray} {maxL : Nat} {ret : Option FieldType}
    (hM : vx_Met l y ws rm Pc Qc XC mc ms free) (hblind : FrameBlind Pc) (hrc : rm.cells = mc) (hrs : rm.slots = ms)
    (hframes : rm.frames + 1 ≤ R.frames) (hlocals : W9 + (maxL + 11) + rm.locals ≤ R.locals)
    (hws : ∀ w ∈ ws, ∀ a' U, s.WarmedH U.vm → w.before a' U = true) (hcode : Cond.code y bytes maxL ret ∈ ws) (hinit : ∀ a' U, s.WarmedH U.vm → (Cond.initialized y.cls).before a' U = true) :
    vx_Back l R p e below s sargs y len W9 (PreOf R mc ms Pc) (PostOf Qc mc ms free) (vx_Post XC mc ms free) := by
  intro m meth c A g ig mk a X hg hsize hdg hW hn hp
  have h1 : (headSpec ws rm).pre.before a A.U = true := atoms_intro fun w hw => hws w hw _ _ X.warmed
  have h2 : (Cond.code y bytes maxL ret).before a A.U = true := hws _ hcode _ _ X.warmed
  have h3 : (Cond.initialized y.cls).before a A.U = true := hinit _ _ X.warmed
  have h4 : A.cells + (headSpec ws rm).room.cells ≤ R.cells := by rw [show (headSpec ws rm).room.cells = mc from hrc]; exact hp.1
  have h5 : A.slots + (headSpec ws rm).room.slots ≤ R.slots := by rw [show (headSpec ws rm).room.slots = ms from hrs]; exact hp.2.1
  have hPc : Pc a (A.U.calling g mk a) := hblind _ _ _ _ hp.2.2
  obtain ⟨U, Ls, c0, s0⟩ := A
  dsimp only [Pt.U, Pt.locs, Pt.cells, Pt.slots] at h1 h2 h3 h4 h5 X hn hPc ⊢
  obtain ⟨methY, cY, hmY, hcY, -, hlY, -, -, -, -⟩ := Cond.code_spec hn h2
  obtain ⟨kY, hkY, -⟩ := className_of_methodNamed hn
  have hinitY : kY.init = .initialized := Cond.initialized_spec (findClass_of_methodNamed hn) hkY h3
  have h : At U g.method c below := by rw [hg]; exact X.here
  have hlocals9 : W9 + (maxL + 11) + (headSpec ws rm).room.locals ≤ R.locals := hlocals
  have happ : (headSpec ws rm).appliesLoose y e.platform (U.calling g mk a) = true :=
    Spec.appliesLoose_calling (g := g) h hdg hn hkY hinitY
      (X.room_calling (g := g) (R' := (headSpec ws rm).room) hsize hmY hcY hframes (by rw [hlY]; omega) h4 h5) h1
  obtain ⟨mid, hmid⟩ := h.above
  have hfr : (U.setTop g).frames = (.java g :: mid) ++ below := by rw [State.frames_setTop' g h.top, hmid]; rfl
  obtain ⟨o, s₂, hsteps, -, hend, hq⟩ := Steps.callFree hM p X.admits X.cas X.clock (acts := []) hfr happ hPc trivial
  have hq' : vx_Q Qc XC mc ms free a (U.calling g mk a) o s₂ := hq
  rw [State.frames_setTop' g h.top] at hend
  obtain ⟨g₀, hg0⟩ := Option.isSome_iff_exists.mp h.top
  obtain ⟨r, hr⟩ := State.topJava?_eq_some.mp hg0
  have hr' : (({ U with heap := s₂.heap, slotsUsed := s₂.slotsUsed } : State).setVm s₂.vm).frames = .java g₀ :: r := hr
  rcases hq' with ⟨hqc, L, hfe, hL⟩ | ⟨q, rfl, E, ce, L, hx, hce, hcv, hcl, hW₂, hsm, hL⟩
  · obtain ⟨⟨v, rfl⟩, hW₂, e2, q2, q3, q4, q5, q6⟩ := id hfe
    have e3 : s₂ = ({ (U.calling g mk a).setFrames s₂.frames with heap := s₂.heap, slotsUsed := s₂.slotsUsed } : State).setVm s₂.vm := by
      have : s₂ = ({ s₂ with vm := (U.calling g mk a).vm } : State).setVm s₂.vm := rfl
      rw [e2] at this
      exact this
    obtain ⟨c₂, i₂, len₂, hc₂, hd₂, hf₂⟩ := hend
    have hW' : U.WarmedH s₂.vm := hW₂
    have hcc : c₂ = c := by
      have h1 : s₂.code? g.method = U.code? g.method := by
        rw [State.code?_eq, State.code?_eq, hW'.alike.method?]
      exact Option.some.inj (hc₂.symm.trans (h1.trans h.code))
    subst hcc
    have hlen : len₂ = len := by rw [hdg] at hd₂; cases hd₂; rfl
    subst hlen
    have hs₂ : s₂ = (({ U with heap := s₂.heap, slotsUsed := s₂.slotsUsed } : State).setVm s₂.vm).setTop { g with pc := g.pc + len₂, stack := v.toList ++ g.stack } := by
      refine e3.trans ?_
      rw [hf₂, State.calling_eq h.top, State.setFrames_setFrames, State.setTop_of_frames _ hr', hr]
      rfl
    have hsame : U.sameButNew ({ U with heap := s₂.heap, slotsUsed := s₂.slotsUsed } : State) L mc ms := by
      refine ⟨?_, q2, q3, q4, q5, q6⟩
      obtain ⟨t, ht, -⟩ := State.frames_cons hr
      show ({ U with heap := s₂.heap, slotsUsed := s₂.slotsUsed } : State) = { U.setFrames U.frames with heap := s₂.heap, slotsUsed := s₂.slotsUsed }
      rw [State.setFrames_self ht]
    subst hg
    refine Or.inl ⟨v, ⟨(({ U with heap := s₂.heap, slotsUsed := s₂.slotsUsed } : State).setVm s₂.vm), Ls ++ L, c0 + mc, s0 + ms⟩,
      ⟨X.admits, X.cas, X.clock, X.frames, X.room, X.hears, X.method, X.code, (X.here.setHeapUsed s₂.heap s₂.slotsUsed).setVm hW'.alike, X.tail, State.WarmedH.trans X.warmed hW', X.limits, X.bytes, X.same.trans (hsame.setVm s.vm)⟩,
      ⟨g, mk, s₂, L, rfl, rfl, hqc, rfl, hL, rfl, rfl⟩, ?_⟩
    show Steps p.tables e below _ ((({ U with heap := s₂.heap, slotsUsed := s₂.slotsUsed } : State).setVm s₂.vm).setTop { g with pc := g.pc + len₂, stack := v.toList ++ g.stack })
    rw [← hs₂]
    exact hsteps
  · obtain ⟨e2, q2, q3, q4, q5, q6⟩ := id hsm
    have e3 : s₂ = ({ (U.calling g mk a).setFrames s₂.frames with heap := s₂.heap, slotsUsed := s₂.slotsUsed } : State).setVm s₂.vm := by
      have : s₂ = ({ s₂ with vm := (U.calling g mk a).vm } : State).setVm s₂.vm := rfl
      rw [e2] at this
      exact this
    have hf₂ : s₂.frames = .throwing q :: .java g :: U.frames.tail := hend
    have hW' : U.WarmedH s₂.vm := hW₂
    have hs₂ : s₂ = ((({ U with heap := s₂.heap, slotsUsed := s₂.slotsUsed } : State).setVm s₂.vm).setTop g).pushFrame (.throwing q) := by
      refine e3.trans ?_
      rw [hf₂, State.calling_eq h.top, State.setFrames_setFrames, State.pushFrame, State.frames_setTop _ hr', State.setTop_of_frames _ hr', State.setFrames_setFrames, hr]
      rfl
    have hsame : U.sameButNew ({ U with heap := s₂.heap, slotsUsed := s₂.slotsUsed } : State) L mc ms := by
      refine ⟨?_, q2, q3, q4, q5, q6⟩
      obtain ⟨t, ht, -⟩ := State.frames_cons hr
      show ({ U with heap := s₂.heap, slotsUsed := s₂.slotsUsed } : State) = { U.setFrames U.frames with heap := s₂.heap, slotsUsed := s₂.slotsUsed }
      rw [State.setFrames_self ht]
    subst hg
    refine Or.inr ⟨q, ⟨(({ U with heap := s₂.heap, slotsUsed := s₂.slotsUsed } : State).setVm s₂.vm), Ls ++ L, c0 + mc, s0 + ms⟩,
      ⟨X.admits, X.cas, X.clock, X.frames, X.room, X.hears, X.method, X.code, (X.here.setHeapUsed s₂.heap s₂.slotsUsed).setVm hW'.alike, X.tail, State.WarmedH.trans X.warmed hW', X.limits, X.bytes, X.same.trans (hsame.setVm s.vm)⟩,
      ⟨g, mk, s₂, L, E, ce, rfl, rfl, hx, hce, hcv, hcl, rfl, hL, rfl, rfl⟩, ?_⟩
    show Steps p.tables e below _ (((({ U with heap := s₂.heap, slotsUsed := s₂.slotsUsed } : State).setVm s₂.vm).setTop g).pushFrame (.throwing q))
    rw [← hs₂]
    exact hsteps
end Payer
section Calls
variable {p : Program} {l : Launch} {e : Env} {R : Room} {s : State} {m : MethodId} {args : Array Value} {below : List Frame} {meth : Method} {c : Code} {T : State} {locs : List Loc} {cells slots : Nat}
theorem vx_callV (X : Stand p l e R s m args below meth c T locs cells slots) (hexec : p.tables.exec = Jvm.exec) {own C : String} {index : Nat} {y : MethodName} {bytes : ByteArray} {maxL : Nat} {ret : Option FieldType}
    (hown : s.vm.findClass own = some m.cls) (hlink : (Cond.methodLink own index y).before args s = true) (hinst : (Cond.instanceMethod y).before args s = true) (hsel : (Cond.selects C y y).before args s = true)
    (hcode : (Cond.code y bytes maxL ret).before args s = true) (hy : y.cls ≠ "java/lang/invoke/MethodHandle" ∧ y.cls ≠ "java/lang/invoke/VarHandle")
    {W9 : Nat} {Pre : Pt → Array Value → Prop} {Post : Pt → Array Value → Option Value → Pt → Prop} {PostX : Pt → Array Value → Addr → Pt → Prop} (hK : vx_Back l R p e below s args y 3 W9 Pre Post PostX)
    {b : Addr} {cellB : Cell} (hcell : T.heap[b]? = some cellB) (hobj : cellB.vm.isStatics = false) (hcls : s.vm.findClass C = some cellB.cls)
    {g : JFrame} (hg : g.method = m) (hsize : g.locals.size = c.maxLocals) {argsL rest : List Value} (hlen : ∀ sig, parseMethodDescriptor y.desc = some sig → argsL.length = sig.parameters.length)
    (hstack : g.stack = argsL.reverse ++ .ref b :: rest) (hW : 2 * g.monitorRoom + (rest.map fun v => v.category).sum ≤ W9) (hdg : decode c.code g.pc = .ok (.invokevirtual index, 3))
    (hpre : ∀ vm₁, s.WarmedH vm₁ → Pre ⟨T.setVm vm₁, locs, cells, slots⟩ (Value.ref b :: argsL).toArray) :
    (∃ (v : Option Value) (vm₁ : Vm) (B : Pt), s.WarmedH vm₁ ∧ Stand p l e R s m args below meth c B.U B.locs B.cells B.slots ∧ Post ⟨T.setVm vm₁, locs, cells, slots⟩ (Value.ref b :: argsL).toArray v B ∧
      ∀ target, Steps p.tables e below (B.U.setTop { g with pc := g.pc + 3, stack := v.toList ++ rest }) target → Steps p.tables e below (T.setTop g) target) ∨
    (∃ (q : Addr) (vm₁ : Vm) (B : Pt), s.WarmedH vm₁ ∧ Stand p l e R s m args below meth c B.U B.locs B.cells B.slots ∧ PostX ⟨T.setVm vm₁, locs, cells, slots⟩ (Value.ref b :: argsL).toArray q B ∧
      Steps p.tables e below (T.setTop g) ((B.U.setTop { g with stack := rest }).pushFrame (.throwing q))) := by
  obtain ⟨mk, methM, hnamed, hmethM, hstM, habM⟩ := Cond.instanceMethod_spec hinst
  obtain ⟨methM', cM, hmethM', -, -, -, -, -, -, hsigM⟩ := Cond.code_spec hnamed hcode
  cases hmethM.symm.trans hmethM'
  obtain ⟨c2, r2, m2, q1, q2, q3, q4, kP, hkP, hkPi⟩ := Cond.selects_spec hsel
  cases hcls.symm.trans q1
  cases (State.methodFound?_of_named hnamed hy).symm.trans q2
  cases hnamed.symm.trans q3
  have hselP : selectMethod e.platform s.vm cellB.cls mk = .method mk := by rw [Launch.admits_selectMethod X.admits]; exact q4
  obtain ⟨vm₁, X₁, hstep₁⟩ := X.invokevirtual hexec hown hlink hnamed hmethM hstM hkP hkPi hy (a := b) (cell := cellB) hcell
    (fun z h => by rw [h] at hobj; cases hobj) hselP hmethM habM hkP hkPi (g := g) hg (argsL := argsL) (rest := rest) (hlen _ hsigM) hstack hdg
  rcases hK m meth c ⟨T.setVm vm₁, locs, cells, slots⟩ { g with stack := rest } (.invokevirtual index) mk (Value.ref b :: argsL).toArray X₁ hg hsize hdg hW (X₁.named hnamed) (hpre vm₁ X₁.warmed) with ⟨v, B, X', hpost, hsteps⟩ | ⟨q, B, X', hpost, hsteps⟩
  · exact Or.inl ⟨v, vm₁, B, X₁.warmed, X', hpost, fun target h => hstep₁ _ fun acts => by rw [doInvoke_state]; exact hsteps.trans h⟩
  · exact Or.inr ⟨q, vm₁, B, X₁.warmed, X', hpost, hstep₁ _ fun acts => by rw [doInvoke_state]; exact hsteps⟩
theorem vx_callS (X : Stand p l e R s m args below meth c T locs cells slots) (hexec : p.tables.exec = Jvm.exec) {own : String} {index : Nat} {y : MethodName} {bytes : ByteArray} {maxL : Nat} {ret : Option FieldType}
    (hown : s.vm.findClass own = some m.cls) (hlink : (Cond.methodLink own index y).before args s = true) (hstat : (Cond.static y).before args s = true) (hinit : (Cond.initialized y.cls).before args s = true)
    (hcode : (Cond.code y bytes maxL ret).before args s = true) (hy : y.cls ≠ "java/lang/invoke/MethodHandle" ∧ y.cls ≠ "java/lang/invoke/VarHandle")
    {W9 : Nat} {Pre : Pt → Array Value → Prop} {Post : Pt → Array Value → Option Value → Pt → Prop} {PostX : Pt → Array Value → Addr → Pt → Prop} (hK : vx_Back l R p e below s args y 3 W9 Pre Post PostX)
    {g : JFrame} (hg : g.method = m) (hsize : g.locals.size = c.maxLocals) {argsL rest : List Value} (hlen : ∀ sig, parseMethodDescriptor y.desc = some sig → argsL.length = sig.parameters.length)
    (hstack : g.stack = argsL.reverse ++ rest) (hW : 2 * g.monitorRoom + (rest.map fun v => v.category).sum ≤ W9) (hdg : decode c.code g.pc = .ok (.invokestatic index, 3))
    (hpre : ∀ vm₁, s.WarmedH vm₁ → Pre ⟨T.setVm vm₁, locs, cells, slots⟩ argsL.toArray) :
    (∃ (v : Option Value) (vm₁ : Vm) (B : Pt), s.WarmedH vm₁ ∧ Stand p l e R s m args below meth c B.U B.locs B.cells B.slots ∧ Post ⟨T.setVm vm₁, locs, cells, slots⟩ argsL.toArray v B ∧
      ∀ target, Steps p.tables e below (B.U.setTop { g with pc := g.pc + 3, stack := v.toList ++ rest }) target → Steps p.tables e below (T.setTop g) target) ∨
    (∃ (q : Addr) (vm₁ : Vm) (B : Pt), s.WarmedH vm₁ ∧ Stand p l e R s m args below meth c B.U B.locs B.cells B.slots ∧ PostX ⟨T.setVm vm₁, locs, cells, slots⟩ argsL.toArray q B ∧
      Steps p.tables e below (T.setTop g) ((B.U.setTop { g with stack := rest }).pushFrame (.throwing q))) := by
  obtain ⟨mk, hnamed⟩ := Cond.code_named hcode
  obtain ⟨methM, cM, hmethM, -, -, -, -, -, -, hsigM⟩ := Cond.code_spec hnamed hcode
  have hstatic : methM.isStatic = true := Cond.static_spec hnamed hmethM hstat
  obtain ⟨kP, hkP, -⟩ := className_of_methodNamed hnamed
  have hinitP : kP.init = .initialized := Cond.initialized_spec (findClass_of_methodNamed hnamed) hkP hinit
  obtain ⟨vm₁, X₁, hstep₁⟩ := X.invokestatic hexec hown hlink hnamed hmethM hstatic hkP hinitP hy (g := g) hg (argsL := argsL) (rest := rest) (hlen _ hsigM) hstack hdg
  rcases hK m meth c ⟨T.setVm vm₁, locs, cells, slots⟩ { g with stack := rest } (.invokestatic index) mk argsL.toArray X₁ hg hsize hdg hW (X₁.named hnamed) (hpre vm₁ X₁.warmed) with ⟨v, B, X', hpost, hsteps⟩ | ⟨q, B, X', hpost, hsteps⟩
  · exact Or.inl ⟨v, vm₁, B, X₁.warmed, X', hpost, fun target h => hstep₁ _ fun acts => by rw [doInvoke_state]; exact hsteps.trans h⟩
  · exact Or.inr ⟨q, vm₁, B, X₁.warmed, X', hpost, hstep₁ _ fun acts => by rw [doInvoke_state]; exact hsteps⟩
end Calls
theorem vx_cls {s : State} {T : State} {vm₁ : Vm} {E : String} {k : ClassId} (hW : s.WarmedH vm₁) (h : (T.setVm vm₁).vm.findClass E = some k) : s.vm.findClass E = some k := by
  have h1 : vm₁.findClass E = some k := h
  rw [hW.alike.findClass] at h1
  exact h1
/-- the method's frame g, with q thrown over it -/
def vx_W (p : Program) (l : Launch) (e : Env) (R : Room) (s : State) (m : MethodId) (args : Array Value) (below : List Frame) (meth : Method) (c : Code) (H : Heap) (locs : List Loc) (cells slots : Nat) (Q : State → Prop) (g : JFrame) (q : Addr) : Prop :=
  ∀ T : State, T.heap = H → Stand p l e R s m args below meth c T locs cells slots → ∃ t, Steps p.tables e below ((T.setTop g).pushFrame (.throwing q)) t ∧ Q t
def vx_Run (p : Program) (l : Launch) (e : Env) (R : Room) (s : State) (m : MethodId) (args : Array Value) (below : List Frame) (meth : Method) (c : Code) (H : Heap) (locs : List Loc) (cells slots mc ms : Nat) (g : JFrame) (rest : List Value) (Qa : State → Outcome → State → Prop) (XC : String → State → State → Prop) (free : Addr → Prop) : Prop :=
  ∀ T : State, T.heap = H → Stand p l e R s m args below meth c T locs cells slots →
    (∃ (v : Option Value) (st₀ t T' : State) (L : List Loc), st₀.heap = H ∧ Stand p l e R s m args below meth c T' (locs ++ L) (cells + mc) (slots + ms) ∧ (∀ q ∈ L, free q.base) ∧ T'.heap = t.heap ∧ T'.vm = t.vm ∧ Qa st₀ (.returned v) t ∧
      Goes p e below T g T' { g with pc := g.pc + 3, stack := v.toList ++ rest }) ∨
    (∃ (q : Addr) (st₀ t T' : State) (L : List Loc) (E : String) (ce : Cell), st₀.heap = H ∧ Stand p l e R s m args below meth c T' (locs ++ L) (cells + mc) (slots + ms) ∧ (∀ z ∈ L, free z.base) ∧ T'.heap = t.heap ∧ T'.vm = t.vm ∧ XC E st₀ t ∧ t.heap[q]? = some ce ∧ ce.vm = .none ∧ s.vm.findClass E = some ce.cls ∧
      Steps p.tables e below (T.setTop g) ((T'.setTop { g with stack := rest }).pushFrame (.throwing q)))
def vx_X {S : Type} (px : S → Prop) (B : String → S → State → Prop) (A : Nat → Prop) : String → State → State → Prop := fun E st t => ∃ u : S, px u ∧ B E u t ∧ va_F A st t
section Runs
variable {p : Program} {l : Launch} {e : Env} {R : Room} {s : State} {m : MethodId} {args : Array Value} {below : List Frame} {meth : Method} {c : Code} {H : Heap} {locs : List Loc} {cells slots : Nat}
variable {y : MethodName} {bytes cc : ByteArray} {maxL nL mc ms n index : Nat} {ret : Option FieldType} {ws : List Cond} {rm : Room} {Pc : Array Value → State → Prop} {Qc : Array Value → State → Outcome → State → Prop} {XC : String → State → State → Prop} {free : Addr → Prop} {Ts : List Cond} {own C : String} {b : Addr} {As rest : List Value} {g : JFrame}
theorem vx_callBack (cb : CallB R s args own index y bytes maxL ret ws rm mc ms n) (hM : vx_Met l y ws rm Pc Qc XC mc ms free) (hbl : FrameBlind Pc) : vx_Back l R p e below s args y 3 8 (PreOf R mc ms Pc) (PostOf Qc mc ms free) (vx_Post XC mc ms free) := by
  obtain ⟨hrc, hrs, hfr, hlo, hws, hcw, -, hini, -⟩ := cb
  exact vx_back (bytes := bytes) (maxL := maxL) (ret := ret) hM hbl hrc hrs hfr hlo hws hcw (fun a' U hW => word_at hW (Or.inl (by first | rfl | simp [Cond.onTables, Cond.keeps, Cond.steady])) hini)
theorem vx_runV (S : CallFix p m c cc nL s args Ts own) (hM : vx_Met l y ws rm Pc Qc XC mc ms free) (cw : CallW R s args own C index y bytes maxL ret ws rm mc ms n) (hp : PreV s H C b Pc As)
    (hg : g.method = m) (hn : As.length = n) (hsize : g.locals.size = nL) (hstack : g.stack = As.reverse ++ .ref b :: rest) (hW : 2 * g.monitorRoom + (rest.map fun v => v.category).sum ≤ 8) (hdg : decode cc g.pc = .ok (.invokevirtual index, 3)) (hf : cells + mc ≤ R.cells ∧ slots + ms ≤ R.slots) :
    vx_Run p l e R s m args below meth c H locs cells slots mc ms g rest (Qc (Value.ref b :: As).toArray) XC free := by
  have hK : vx_Back l R p e below s args y 3 8 (PreOf R mc ms Pc) (PostOf Qc mc ms free) (vx_Post XC mc ms free) := vx_callBack cw.1 hM hp.1
  obtain ⟨⟨-, -, -, -, -, -, hcode, -, hy, hlen, hl⟩, hin, hse⟩ := cw
  obtain ⟨hx, hb, hml, ho, -⟩ := S
  obtain ⟨-, ⟨cellB, hcB, hoB, hclB⟩, hPc⟩ := hp
  intro T hT X
  rcases vx_callV X hx (C := C) (bytes := bytes) (maxL := maxL) (ret := ret) ho hl hin hse hcode hy hK (by rw [hT]; exact hcB) hoB hclB hg (hsize.trans hml.symm) (argsL := As) (rest := rest) (fun sig h => hn.trans (hlen sig h)) hstack hW (by rw [hb]; exact hdg)
    (fun vm₁ hW₁ => ⟨hf.1, hf.2, hPc (T.setVm vm₁) hT hW₁⟩) with ⟨v, vm₁, ⟨U', l2, c2, s2⟩, hW₁, X', ⟨g', mk, t, L, e1, e2, hq, h1, hL, h2, h3⟩, st⟩ | ⟨q, vm₁, ⟨U', l2, c2, s2⟩, hW₁, X', ⟨g', mk, t, L, E, ce, e1, e2, hq, hce, hcv, hcl, h1, hL, h2, h3⟩, st⟩
  · dsimp only [Pt.U, Pt.locs, Pt.cells, Pt.slots] at X' e1 e2 h1 h2 h3 st
    subst h1; subst h2; subst h3
    exact Or.inl ⟨v, (T.setVm vm₁).calling g' mk (Value.ref b :: As).toArray, t, U', L, hT, X', hL, e1, e2, hq, st⟩
  · dsimp only [Pt.U, Pt.locs, Pt.cells, Pt.slots] at X' e1 e2 h1 h2 h3 st hcl
    subst h1; subst h2; subst h3
    exact Or.inr ⟨q, (T.setVm vm₁).calling g' mk (Value.ref b :: As).toArray, t, U', L, E, ce, hT, X', hL, e1, e2, hq, hce, hcv, vx_cls hW₁ hcl, st⟩
theorem vx_runS (S : CallFix p m c cc nL s args Ts own) (hM : vx_Met l y ws rm Pc Qc XC mc ms free) (cw : CallB R s args own index y bytes maxL ret ws rm mc ms n ∧ (Cond.static y).before args s = true) (hp : PreS s H Pc As)
    (hg : g.method = m) (hn : As.length = n) (hsize : g.locals.size = nL) (hstack : g.stack = As.reverse ++ rest) (hW : 2 * g.monitorRoom + (rest.map fun v => v.category).sum ≤ 8) (hdg : decode cc g.pc = .ok (.invokestatic index, 3)) (hf : cells + mc ≤ R.cells ∧ slots + ms ≤ R.slots) :
    vx_Run p l e R s m args below meth c H locs cells slots mc ms g rest (Qc As.toArray) XC free := by
  have hK : vx_Back l R p e below s args y 3 8 (PreOf R mc ms Pc) (PostOf Qc mc ms free) (vx_Post XC mc ms free) := vx_callBack cw.1 hM hp.1
  obtain ⟨⟨-, -, -, -, -, -, hcode, hini, hy, hlen, hl⟩, hstt⟩ := cw
  obtain ⟨hx, hb, hml, ho, -⟩ := S
  intro T hT X
  rcases vx_callS X hx (bytes := bytes) (maxL := maxL) (ret := ret) ho hl hstt hini hcode hy hK hg (hsize.trans hml.symm) (argsL := As) (rest := rest) (fun sig h => hn.trans (hlen sig h)) hstack hW (by rw [hb]; exact hdg)
    (fun vm₁ hW₁ => ⟨hf.1, hf.2, hp.2 (T.setVm vm₁) hT hW₁⟩) with ⟨v, vm₁, ⟨U', l2, c2, s2⟩, hW₁, X', ⟨g', mk, t, L, e1, e2, hq, h1, hL, h2, h3⟩, st⟩ | ⟨q, vm₁, ⟨U', l2, c2, s2⟩, hW₁, X', ⟨g', mk, t, L, E, ce, e1, e2, hq, hce, hcv, hcl, h1, hL, h2, h3⟩, st⟩
  · dsimp only [Pt.U, Pt.locs, Pt.cells, Pt.slots] at X' e1 e2 h1 h2 h3 st
    subst h1; subst h2; subst h3
    exact Or.inl ⟨v, (T.setVm vm₁).calling g' mk As.toArray, t, U', L, hT, X', hL, e1, e2, hq, st⟩
  · dsimp only [Pt.U, Pt.locs, Pt.cells, Pt.slots] at X' e1 e2 h1 h2 h3 st hcl
    subst h1; subst h2; subst h3
    exact Or.inr ⟨q, (T.setVm vm₁).calling g' mk As.toArray, t, U', L, E, ce, hT, X', hL, e1, e2, hq, hce, hcv, vx_cls hW₁ hcl, st⟩
end Runs
section Rows
variable {p : Program} {l : Launch} {e : Env} {R : Room} {s : State} {m : MethodId} {args : Array Value} {below : List Frame} {meth : Method} {c : Code} {H : Heap} {locs : List Loc} {cells slots : Nat} {Q : State → Prop}
variable {mc ms : Nat} {free : Addr → Prop} {A0 A1 : Nat → Prop} {H0 : Heap} {a : Array Value} {pc : Nat} {ls : Array Slot} {st0 rest : List Value}
theorem vx_keep {st₀ t T' : State} {L : List Loc} (h0 : st₀.heap = H) (e1 : T'.heap = t.heap) (hS : va_S A0 H0 H locs) (hA : ∀ q, q < H.size → A1 q → A0 q) (hf : ∀ q, free q → A0 q) (hL : ∀ q ∈ L, free q.base) (hF : va_F A1 st₀ t) :
    H.size ≤ T'.heap.size ∧ (∀ q : Nat, q < H.size → ¬ A1 q → T'.heap[q]? = H[q]?) ∧ va_S A0 H0 T'.heap (locs ++ L) := by
  obtain ⟨hz, hk⟩ := hF
  rw [h0] at hz hk
  exact ⟨by rw [e1]; exact hz, fun q h1 h2 => by rw [e1]; exact hk q h1 h2,
    ⟨Nat.le_trans hS.1 (by rw [e1]; exact hz), fun q h1 h2 => by rw [e1, hk q (Nat.lt_of_lt_of_le h1 hS.1) (fun z => h2 (hA q (Nat.lt_of_lt_of_le h1 hS.1) z))]; exact hS.2.1 q h1 h2, fun q hq => by
      rcases List.mem_append.mp hq with h | h
      · exact hS.2.2 q h
      · exact hf _ (hL q h)⟩⟩
theorem vx_calli {S SX : Type} {post : Int32 → S → Prop} {px : SX → Prop} {B : S → State → Prop} {BX : String → SX → State → Prop} {AX : Nat → Prop} (hr : vx_Run p l e R s m args below meth c H locs cells slots mc ms (F0 m pc ls st0) rest (va_Qi post B A1 a) (vx_X px BX AX) free) (hS : va_S A0 H0 H locs) (hA : ∀ q, q < H.size → A1 q → A0 q) (hf : ∀ q, free q → A0 q) (hAX : ∀ q, q < H.size → AX q → A0 q)
    (kx : ∀ (E : String) (ce : Cell) (q9 : Addr) (u : SX) (t : State) (H1 : Heap) (locs1 : List Loc), t.heap = H1 → s.vm.Alike t.vm → px u → BX E u t → H.size ≤ H1.size → (∀ q : Nat, q < H.size → ¬ AX q → H1[q]? = H[q]?) → va_S A0 H0 H1 locs1 → H1[q9]? = some ce → ce.vm = .none → s.vm.findClass E = some ce.cls → vx_W p l e R s m args below meth c H1 locs1 (cells + mc) (slots + ms) Q (F0 m pc ls rest) q9)
    (kk : ∀ (r : Int32) (u : S) (t : State) (H1 : Heap) (locs1 : List Loc), t.heap = H1 → s.vm.Alike t.vm → post r u → B u t → H.size ≤ H1.size → (∀ q : Nat, q < H.size → ¬ A1 q → H1[q]? = H[q]?) → va_S A0 H0 H1 locs1 → W p l e R s m args below meth c H1 locs1 (cells + mc) (slots + ms) Q (F0 m (pc + 3) ls (.int r :: rest))) : W p l e R s m args below meth c H locs cells slots Q (F0 m pc ls st0) := by
  intro T hT X
  rcases hr T hT X with ⟨v, st₀, t, T', L, h0, X', hL, e1, e2, ⟨⟨r, u, hv, hp, hb⟩, hF⟩, st⟩ | ⟨q, st₀, t, T', L, E, ce, h0, X', hL, e1, e2, ⟨u, hp, hb, hF⟩, hce, hcv, hcl, st⟩
  · cases hv
    obtain ⟨k1, k2, k3⟩ := vx_keep h0 e1 hS hA hf hL hF
    obtain ⟨t2, a1, b1⟩ := kk r u t T'.heap (locs ++ L) e1.symm (by rw [← e2]; exact X'.warmed.alike) hp hb k1 k2 k3 T' rfl X'
    exact ⟨t2, st t2 a1, b1⟩
  · obtain ⟨k1, k2, k3⟩ := vx_keep h0 e1 hS hAX hf hL hF
    obtain ⟨t2, a1, b1⟩ := kx E ce q u t T'.heap (locs ++ L) e1.symm (by rw [← e2]; exact X'.warmed.alike) hp hb k1 k2 k3 (by rw [e1]; exact hce) hcv hcl T' rfl X'
    exact ⟨t2, st.trans a1, b1⟩
theorem vx_calll {S SX : Type} {post : Int64 → S → Prop} {px : SX → Prop} {B : S → State → Prop} {BX : String → SX → State → Prop} {AX : Nat → Prop} (hr : vx_Run p l e R s m args below meth c H locs cells slots mc ms (F0 m pc ls st0) rest (va_Ql post B A1 a) (vx_X px BX AX) free) (hS : va_S A0 H0 H locs) (hA : ∀ q, q < H.size → A1 q → A0 q) (hf : ∀ q, free q → A0 q) (hAX : ∀ q, q < H.size → AX q → A0 q)
    (kx : ∀ (E : String) (ce : Cell) (q9 : Addr) (u : SX) (t : State) (H1 : Heap) (locs1 : List Loc), t.heap = H1 → s.vm.Alike t.vm → px u → BX E u t → H.size ≤ H1.size → (∀ q : Nat, q < H.size → ¬ AX q → H1[q]? = H[q]?) → va_S A0 H0 H1 locs1 → H1[q9]? = some ce → ce.vm = .none → s.vm.findClass E = some ce.cls → vx_W p l e R s m args below meth c H1 locs1 (cells + mc) (slots + ms) Q (F0 m pc ls rest) q9)
    (kk : ∀ (r : Int64) (u : S) (t : State) (H1 : Heap) (locs1 : List Loc), t.heap = H1 → s.vm.Alike t.vm → post r u → B u t → H.size ≤ H1.size → (∀ q : Nat, q < H.size → ¬ A1 q → H1[q]? = H[q]?) → va_S A0 H0 H1 locs1 → W p l e R s m args below meth c H1 locs1 (cells + mc) (slots + ms) Q (F0 m (pc + 3) ls (.long r :: rest))) : W p l e R s m args below meth c H locs cells slots Q (F0 m pc ls st0) := by
  intro T hT X
  rcases hr T hT X with ⟨v, st₀, t, T', L, h0, X', hL, e1, e2, ⟨⟨r, u, hv, hp, hb⟩, hF⟩, st⟩ | ⟨q, st₀, t, T', L, E, ce, h0, X', hL, e1, e2, ⟨u, hp, hb, hF⟩, hce, hcv, hcl, st⟩
  · cases hv
    obtain ⟨k1, k2, k3⟩ := vx_keep h0 e1 hS hA hf hL hF
    obtain ⟨t2, a1, b1⟩ := kk r u t T'.heap (locs ++ L) e1.symm (by rw [← e2]; exact X'.warmed.alike) hp hb k1 k2 k3 T' rfl X'
    exact ⟨t2, st t2 a1, b1⟩
  · obtain ⟨k1, k2, k3⟩ := vx_keep h0 e1 hS hAX hf hL hF
    obtain ⟨t2, a1, b1⟩ := kx E ce q u t T'.heap (locs ++ L) e1.symm (by rw [← e2]; exact X'.warmed.alike) hp hb k1 k2 k3 (by rw [e1]; exact hce) hcv hcl T' rfl X'
    exact ⟨t2, st.trans a1, b1⟩
theorem vx_callf {S SX : Type} {post : UInt32 → S → Prop} {px : SX → Prop} {B : S → State → Prop} {BX : String → SX → State → Prop} {AX : Nat → Prop} (hr : vx_Run p l e R s m args below meth c H locs cells slots mc ms (F0 m pc ls st0) rest (va_Qf post B A1 a) (vx_X px BX AX) free) (hS : va_S A0 H0 H locs) (hA : ∀ q, q < H.size → A1 q → A0 q) (hf : ∀ q, free q → A0 q) (hAX : ∀ q, q < H.size → AX q → A0 q)
    (kx : ∀ (E : String) (ce : Cell) (q9 : Addr) (u : SX) (t : State) (H1 : Heap) (locs1 : List Loc), t.heap = H1 → s.vm.Alike t.vm → px u → BX E u t → H.size ≤ H1.size → (∀ q : Nat, q < H.size → ¬ AX q → H1[q]? = H[q]?) → va_S A0 H0 H1 locs1 → H1[q9]? = some ce → ce.vm = .none → s.vm.findClass E = some ce.cls → vx_W p l e R s m args below meth c H1 locs1 (cells + mc) (slots + ms) Q (F0 m pc ls rest) q9)
    (kk : ∀ (r : UInt32) (u : S) (t : State) (H1 : Heap) (locs1 : List Loc), t.heap = H1 → s.vm.Alike t.vm → post r u → B u t → H.size ≤ H1.size → (∀ q : Nat, q < H.size → ¬ A1 q → H1[q]? = H[q]?) → va_S A0 H0 H1 locs1 → W p l e R s m args below meth c H1 locs1 (cells + mc) (slots + ms) Q (F0 m (pc + 3) ls (.float r :: rest))) : W p l e R s m args below meth c H locs cells slots Q (F0 m pc ls st0) := by
  intro T hT X
  rcases hr T hT X with ⟨v, st₀, t, T', L, h0, X', hL, e1, e2, ⟨⟨r, u, hv, hp, hb⟩, hF⟩, st⟩ | ⟨q, st₀, t, T', L, E, ce, h0, X', hL, e1, e2, ⟨u, hp, hb, hF⟩, hce, hcv, hcl, st⟩
  · cases hv
    obtain ⟨k1, k2, k3⟩ := vx_keep h0 e1 hS hA hf hL hF
    obtain ⟨t2, a1, b1⟩ := kk r u t T'.heap (locs ++ L) e1.symm (by rw [← e2]; exact X'.warmed.alike) hp hb k1 k2 k3 T' rfl X'
    exact ⟨t2, st t2 a1, b1⟩
  · obtain ⟨k1, k2, k3⟩ := vx_keep h0 e1 hS hAX hf hL hF
    obtain ⟨t2, a1, b1⟩ := kx E ce q u t T'.heap (locs ++ L) e1.symm (by rw [← e2]; exact X'.warmed.alike) hp hb k1 k2 k3 (by rw [e1]; exact hce) hcv hcl T' rfl X'
    exact ⟨t2, st.trans a1, b1⟩
theorem vx_calld {S SX : Type} {post : UInt64 → S → Prop} {px : SX → Prop} {B : S → State → Prop} {BX : String → SX → State → Prop} {AX : Nat → Prop} (hr : vx_Run p l e R s m args below meth c H locs cells slots mc ms (F0 m pc ls st0) rest (va_Qd post B A1 a) (vx_X px BX AX) free) (hS : va_S A0 H0 H locs) (hA : ∀ q, q < H.size → A1 q → A0 q) (hf : ∀ q, free q → A0 q) (hAX : ∀ q, q < H.size → AX q → A0 q)
    (kx : ∀ (E : String) (ce : Cell) (q9 : Addr) (u : SX) (t : State) (H1 : Heap) (locs1 : List Loc), t.heap = H1 → s.vm.Alike t.vm → px u → BX E u t → H.size ≤ H1.size → (∀ q : Nat, q < H.size → ¬ AX q → H1[q]? = H[q]?) → va_S A0 H0 H1 locs1 → H1[q9]? = some ce → ce.vm = .none → s.vm.findClass E = some ce.cls → vx_W p l e R s m args below meth c H1 locs1 (cells + mc) (slots + ms) Q (F0 m pc ls rest) q9)
    (kk : ∀ (r : UInt64) (u : S) (t : State) (H1 : Heap) (locs1 : List Loc), t.heap = H1 → s.vm.Alike t.vm → post r u → B u t → H.size ≤ H1.size → (∀ q : Nat, q < H.size → ¬ A1 q → H1[q]? = H[q]?) → va_S A0 H0 H1 locs1 → W p l e R s m args below meth c H1 locs1 (cells + mc) (slots + ms) Q (F0 m (pc + 3) ls (.double r :: rest))) : W p l e R s m args below meth c H locs cells slots Q (F0 m pc ls st0) := by
  intro T hT X
  rcases hr T hT X with ⟨v, st₀, t, T', L, h0, X', hL, e1, e2, ⟨⟨r, u, hv, hp, hb⟩, hF⟩, st⟩ | ⟨q, st₀, t, T', L, E, ce, h0, X', hL, e1, e2, ⟨u, hp, hb, hF⟩, hce, hcv, hcl, st⟩
  · cases hv
    obtain ⟨k1, k2, k3⟩ := vx_keep h0 e1 hS hA hf hL hF
    obtain ⟨t2, a1, b1⟩ := kk r u t T'.heap (locs ++ L) e1.symm (by rw [← e2]; exact X'.warmed.alike) hp hb k1 k2 k3 T' rfl X'
    exact ⟨t2, st t2 a1, b1⟩
  · obtain ⟨k1, k2, k3⟩ := vx_keep h0 e1 hS hAX hf hL hF
    obtain ⟨t2, a1, b1⟩ := kx E ce q u t T'.heap (locs ++ L) e1.symm (by rw [← e2]; exact X'.warmed.alike) hp hb k1 k2 k3 (by rw [e1]; exact hce) hcv hcl T' rfl X'
    exact ⟨t2, st.trans a1, b1⟩
theorem vx_callv {S SX : Type} {post : S → Prop} {px : SX → Prop} {B : S → State → Prop} {BX : String → SX → State → Prop} {AX : Nat → Prop} (hr : vx_Run p l e R s m args below meth c H locs cells slots mc ms (F0 m pc ls st0) rest (va_Qv post B A1 a) (vx_X px BX AX) free) (hS : va_S A0 H0 H locs) (hA : ∀ q, q < H.size → A1 q → A0 q) (hf : ∀ q, free q → A0 q) (hAX : ∀ q, q < H.size → AX q → A0 q)
    (kx : ∀ (E : String) (ce : Cell) (q9 : Addr) (u : SX) (t : State) (H1 : Heap) (locs1 : List Loc), t.heap = H1 → s.vm.Alike t.vm → px u → BX E u t → H.size ≤ H1.size → (∀ q : Nat, q < H.size → ¬ AX q → H1[q]? = H[q]?) → va_S A0 H0 H1 locs1 → H1[q9]? = some ce → ce.vm = .none → s.vm.findClass E = some ce.cls → vx_W p l e R s m args below meth c H1 locs1 (cells + mc) (slots + ms) Q (F0 m pc ls rest) q9)
    (kk : ∀ (u : S) (t : State) (H1 : Heap) (locs1 : List Loc), t.heap = H1 → s.vm.Alike t.vm → post u → B u t → H.size ≤ H1.size → (∀ q : Nat, q < H.size → ¬ A1 q → H1[q]? = H[q]?) → va_S A0 H0 H1 locs1 → W p l e R s m args below meth c H1 locs1 (cells + mc) (slots + ms) Q (F0 m (pc + 3) ls (rest))) : W p l e R s m args below meth c H locs cells slots Q (F0 m pc ls st0) := by
  intro T hT X
  rcases hr T hT X with ⟨v, st₀, t, T', L, h0, X', hL, e1, e2, ⟨⟨u, hv, hp, hb⟩, hF⟩, st⟩ | ⟨q, st₀, t, T', L, E, ce, h0, X', hL, e1, e2, ⟨u, hp, hb, hF⟩, hce, hcv, hcl, st⟩
  · cases hv
    obtain ⟨k1, k2, k3⟩ := vx_keep h0 e1 hS hA hf hL hF
    obtain ⟨t2, a1, b1⟩ := kk u t T'.heap (locs ++ L) e1.symm (by rw [← e2]; exact X'.warmed.alike) hp hb k1 k2 k3 T' rfl X'
    exact ⟨t2, st t2 a1, b1⟩
  · obtain ⟨k1, k2, k3⟩ := vx_keep h0 e1 hS hAX hf hL hF
    obtain ⟨t2, a1, b1⟩ := kx E ce q u t T'.heap (locs ++ L) e1.symm (by rw [← e2]; exact X'.warmed.alike) hp hb k1 k2 k3 (by rw [e1]; exact hce) hcv hcl T' rfl X'
    exact ⟨t2, st.trans a1, b1⟩
/-- caught by the row x of this method's table; the rows ahead don't take it -/
theorem vx_catch {own name : String} {E : String} {ce : Cell} {q : Addr} (hown : s.vm.findClass own = some m.cls) (pre : List ExceptionTableEntry) (x : ExceptionTableEntry) (suf : List ExceptionTableEntry) (hsplit : c.exceptionTable.toList = pre ++ x :: suf)
    (hpass : ∀ z ∈ pre, covers z pc = false ∨ (z.catchType ≠ 0 ∧ ∃ nm : String, (Cond.classLink own z.catchType nm).before args s = true ∧ va_Nc E nm s)) (hx : covers x pc = true) (h0 : x.catchType ≠ 0)
    (hlink : (Cond.classLink own x.catchType name).before args s = true) (hcast : (Cond.castable E name).before args s = true) (hcell : H[q]? = some ce) (hv : ce.vm = .none) (hcl : s.vm.findClass E = some ce.cls)
    (kk : W p l e R s m args below meth c H locs cells slots Q (F0 m x.handlerPc ls [.ref q])) : vx_W p l e R s m args below meth c H locs cells slots Q (F0 m pc ls rest) q := by
  intro T hT X
  have hpl : e.platform.magicAccessors = ({} : Platform).magicAccessors := by rw [X.admits.platform]
  obtain ⟨c3, c4, hc3, hc4, hasg⟩ := Cond.castable_spec hcast
  cases Option.some.inj (hc3.symm.trans hcl)
  obtain ⟨c5, hc5, hcl5⟩ := Cond.classLink_spec hown hlink e.platform hpl
  cases Option.some.inj (hc4.symm.trans hc5)
  obtain ⟨vm', X', st⟩ := X.thenCaughtThrough q (g := F0 m pc ls rest) rfl (Steps.refl _) (by rw [hT]; exact hcell) (by rw [hv]; rfl) (by obtain ⟨k9, h9, -⟩ := Vm.findClass_spec hcl; exact ⟨k9, h9⟩) pre x suf hsplit
    (fun z hz => by
      rcases hpass z hz with h | ⟨hz0, nm, hl1, hn1⟩
      · exact Or.inl h
      · obtain ⟨c6, hc6, hcl6⟩ := Cond.classLink_spec hown hl1 e.platform hpl
        obtain ⟨a8, b8, h1, h2, h3⟩ := hn1
        cases Option.some.inj (h1.symm.trans hcl)
        cases Option.some.inj (h2.symm.trans hc6)
        exact Or.inr ⟨hz0, _, hcl6, h3⟩) hx (Or.inr ⟨h0, c4, hcl5, hasg⟩)
  obtain ⟨t, a1, b1⟩ := kk (T.setVm vm') hT X'
  exact ⟨t, st.trans a1, b1⟩
end Rows
section Ends
variable {p : Program} {l : Launch} {e : Env} {R : Room} {s : State} {m : MethodId} {args : Array Value} {below : List Frame} {meth : Method} {c : Code} {H : Heap} {locs : List Loc} {cells slots : Nat} {Q : State → Prop}
variable {mc ms : Nat} {free : Addr → Prop} {A0 A1 : Nat → Prop} {H0 : Heap} {a : Array Value} {ls : Array Slot} {st0 rest : List Value}
variable {Qc : Array Value → State → Outcome → State → Prop} {XC : String → State → State → Prop}
/-- what a body that may throw owes at its end -/
def vx_MQ (below : List Frame) (Qc : Array Value → State → Outcome → State → Prop) (XC : String → State → State → Prop) (a : Array Value) (s : State) (mc ms : Nat) (free : Addr → Prop) : State → Prop := fun t =>
  ∃ o, t.status = .running ∧ Ended t below o ∧ vx_Q Qc XC mc ms free a s o t
theorem vx_ret {g : JFrame} {mc ms : Nat} (k : W p l e R s m args below meth c H locs cells slots (MQ below Qc args s mc ms free) g) : W p l e R s m args below meth c H locs cells slots (vx_MQ below Qc XC args s mc ms free) g := by
  intro T hT X
  obtain ⟨t, a1, o, b1, b2, b3, b4⟩ := k T hT X
  exact ⟨t, a1, o, b1, b2, Or.inl ⟨b3, b4⟩⟩
/-- not caught here: it goes on to the caller -/
theorem vx_widen {g : JFrame} {q : Addr} {k n : Nat} (h1 : cells ≤ k) (h2 : slots ≤ n) (kk : vx_W p l e R s m args below meth c H locs k n Q g q) : vx_W p l e R s m args below meth c H locs cells slots Q g q := fun T hT X => kk T hT (stand_widen X h1 h2)
theorem vx_out {pc : Nat} {E : String} {ce : Cell} {q : Addr} {mc ms : Nat} (hout : ∀ x ∈ c.exceptionTable.toList, covers x pc = false) (hlocks : meth.locks = false) (hcell : H[q]? = some ce) (hv : ce.vm = .none) (hcl : s.vm.findClass E = some ce.cls)
    (hx : ∀ t : State, t.heap = H → s.vm.Alike t.vm → XC E s t) (hf : ∀ z ∈ locs, free z.base) (hc : cells ≤ mc) (hs : slots ≤ ms) :
    vx_W p l e R s m args below meth c H locs cells slots (vx_MQ below Qc XC args s mc ms free) (F0 m pc ls rest) q := by
  intro T hT X
  obtain ⟨st1, hrun, hend, hW, hsm⟩ := X.leaveThrown q (g := F0 m pc ls rest) rfl rfl rfl hout hlocks
  have hcell9 : (T.setFrames (.throwing q :: below)).heap[q]? = some ce := by
    show T.heap[q]? = some ce
    rw [hT]; exact hcell
  exact ⟨_, st1, .threw q, hrun, hend, Or.inr ⟨q, rfl, E, ce, locs, hx _ hT hW.alike, hcell9, hv, hcl, hW, hsm.mono hc hs, hf⟩⟩
theorem vx_frame {U : State} {k n : Nat} (h : s.sameButNew ({ U with vm := s.vm } : State) locs k n) : s.heap.size ≤ U.heap.size ∧ ∀ q : Nat, q < s.heap.size → (∀ z ∈ locs, z.base ≠ q) → U.heap[q]? = s.heap[q]? := by
  obtain ⟨-, h2, -, -, -, h6⟩ := h
  refine ⟨h2, fun q hq hz => ?_⟩
  obtain ⟨c9, e1, e2, e3, e4⟩ := h6 q _ (Array.getElem?_eq_getElem hq)
  have hs : c9.slots = (s.heap[q]).slots := Array.ext_getElem? fun i => e4 i fun hm => hz _ hm rfl
  have h9 : c9 = s.heap[q] := by
    rw [hs] at e2
    exact e2
  have e5 : U.heap[q]? = some c9 := e1
  rw [e5, h9, Array.getElem?_eq_getElem hq]
/-- the words of a throw but the four that speak of the heap -/
def vx_no (w : Cond) : Bool := decide (w ≠ .isRef (.static Bundle.tN "UNASSIGNED_STACK" Bundle.steD)) && decide (w ≠ .isRef (.static Bundle.tN "SUPPRESSED_SENTINEL" Bundle.listD)) && decide (w ≠ .laysStatic Bundle.tN "UNASSIGNED_STACK" Bundle.steD) && decide (w ≠ .laysStatic Bundle.tN "SUPPRESSED_SENTINEL" Bundle.listD)
def vx_at0 (own : String) (ic : Nat) (X : String) (names : List String) : List Cond := (Bundle.ownAtoms0 own ic X names).filter vx_no
def vx_atS (own : String) (ic : Nat) (X : String) (names : List String) : List Cond := (Bundle.ownAtoms own ic X names).filter vx_no
/-- a word that the tables alone decide, or a good one -/
def vx_ot (w : Cond) : Bool := w.onTables || goodWord w
theorem vx_ot_at {args a' : Array Value} {s U : State} {w : Cond} (hW : s.WarmedH U.vm) (hvm : s.vm = U.vm) (hg : vx_ot w = true) (h : w.before args s = true) : w.before a' U = true := by
  simp only [vx_ot, Bool.or_eq_true] at hg
  rcases hg with hg | hg
  · exact va_tabs hg hvm h
  · exact word_at hW (good_of_word hg) h
/-- a list's words: the good ones out of the method's own list, the others by premises of their own -/
theorem vx_hat {args : Array Value} {s : State} {L B : List Cond} (h1 : ∀ w ∈ L.filter goodWord, w.before args s = true) (h2 : ∀ w ∈ L.filter (fun w => !goodWord w), w ∈ B) (h3 : ∀ w ∈ B, w.before args s = true) : ∀ w ∈ L, w.before args s = true := by
  intro w hw
  by_cases g : goodWord w = true
  · exact h1 w (List.mem_filter.mpr ⟨hw, g⟩)
  · refine h3 w (h2 w (List.mem_filter.mpr ⟨hw, ?_⟩))
    show (!goodWord w) = true
    cases hgw : goodWord w
    · rfl
    · exact absurd hgw g
theorem vx_c {args : Array Value} {s : State} {w : Cond} {B : List Cond} (h : w.before args s = true) (t : ∀ w ∈ B, w.before args s = true) : ∀ w' ∈ w :: B, w'.before args s = true := fun w' h' => (List.mem_cons.mp h').elim (fun e => by rw [e]; exact h) (t w')
theorem vx_n {args : Array Value} {s : State} : ∀ w ∈ ([] : List Cond), w.before args s = true := fun _ h => nomatch h
theorem vx_own {args : Array Value} {s : State} {L : List Cond} (h1 : ∀ w ∈ L.filter vx_no, w.before args s = true)
    (hU : (Cond.isRef (.static Bundle.tN "UNASSIGNED_STACK" Bundle.steD)).before args s = true) (hN : (Cond.isRef (.static Bundle.tN "SUPPRESSED_SENTINEL" Bundle.listD)).before args s = true)
    (lU : (Cond.laysStatic Bundle.tN "UNASSIGNED_STACK" Bundle.steD).before args s = true) (lN : (Cond.laysStatic Bundle.tN "SUPPRESSED_SENTINEL" Bundle.listD).before args s = true) : ∀ w ∈ L, w.before args s = true := by
  intro w hw
  by_cases e1 : w = .isRef (.static Bundle.tN "UNASSIGNED_STACK" Bundle.steD)
  · rw [e1]; exact hU
  · by_cases e2 : w = .isRef (.static Bundle.tN "SUPPRESSED_SENTINEL" Bundle.listD)
    · rw [e2]; exact hN
    · by_cases e3 : w = .laysStatic Bundle.tN "UNASSIGNED_STACK" Bundle.steD
      · rw [e3]; exact lU
      · by_cases e4 : w = .laysStatic Bundle.tN "SUPPRESSED_SENTINEL" Bundle.listD
        · rw [e4]; exact lN
        · exact h1 w (List.mem_filter.mpr ⟨hw, by unfold vx_no; rw [decide_eq_true e1, decide_eq_true e2, decide_eq_true e3, decide_eq_true e4]; rfl⟩)
/-- where a static field lies, its class's statics cell in H -/
def vx_L (C n d : String) (A : Nat → Prop) (U : State) (H : Heap) : Prop := ∃ (c : ClassId) (k : Class) (i : Nat) (f : Field) (a : Nat) (cell : Cell), U.vm.findClass C = some c ∧ U.fieldFound? C n d = some (c, k, i, f) ∧ f.isStatic = true ∧ k.statics = some a ∧ H[a]? = some cell ∧ cell.vm.isStatics = true ∧ cell.cls = c ∧ f.slot < cell.slots.size ∧ k.staticTypes[f.slot]? = some f.type ∧ ¬ A a
theorem vx_L.moved {C n d : String} {A : Nat → Prop} {u U : State} {H : Heap} (hvm : u.vm.Alike U.vm) (h : vx_L C n d A u H) : vx_L C n d A U H := by
  obtain ⟨c, k, i, f, a, cell, h1, h2, h3, h4, h5, h6, h7, h8, h9, h10⟩ := h
  obtain ⟨k', hi', he⟩ := State.fieldFound?_setVm hvm h2
  exact ⟨c, k', i, f, a, cell, by rw [hvm.findClass]; exact h1, hi', h3, by rw [he]; exact h4, h5, h6, h7, h8, by rw [he]; exact h9, h10⟩
theorem vx_L.kept {C n d : String} {A : Nat → Prop} {U : State} {H H1 : Heap} (h : vx_L C n d A U H) (hq : ∀ a : Nat, a < H.size → ¬ A a → H1[a]? = H[a]?) : vx_L C n d A U H1 := by
  obtain ⟨c, k, i, f, a, cell, h1, h2, h3, h4, h5, h6, h7, h8, h9, h10⟩ := h
  exact ⟨c, k, i, f, a, cell, h1, h2, h3, h4, by rw [hq a (Array.getElem?_eq_some_iff.mp h5).1 h10]; exact h5, h6, h7, h8, h9, h10⟩
theorem vx_L.narrow {C n d : String} {A B : Nat → Prop} {U : State} {H : Heap} (h : vx_L C n d A U H) (hAB : ∀ q, B q → A q) : vx_L C n d B U H := by
  obtain ⟨c, k, i, f, a, cell, h1, h2, h3, h4, h5, h6, h7, h8, h9, h10⟩ := h
  exact ⟨c, k, i, f, a, cell, h1, h2, h3, h4, h5, h6, h7, h8, h9, fun z => h10 (hAB _ z)⟩
theorem vx_L.word {C n d : String} {A : Nat → Prop} {s : State} {args : Array Value} (h : vx_L C n d A s s.heap) : (Cond.laysStatic C n d).before args s = true := by
  obtain ⟨c, k, i, f, a, cell, h1, h2, h3, h4, h5, h6, h7, h8, h9, -⟩ := h
  show (Cond.laysStatic C n d).holds args s none s [] = true
  exact Cond.laysStatic_of h1 h2 h3 h4 h5 h6 h7 h8 h9
/-- .. and what it holds: null or some reference -/
def vx_Zq (C n d : String) (A : Nat → Prop) (U : State) (H : Heap) : Prop := va_Zq C n d A U H ∧ vx_L C n d A U H
theorem vx_Zq.moved {C n d : String} {A : Nat → Prop} {u U : State} {H : Heap} (hvm : u.vm.Alike U.vm) (h : vx_Zq C n d A u H) : vx_Zq C n d A U H := ⟨va_Zq.moved hvm h.1, vx_L.moved hvm h.2⟩
theorem vx_Zq.kept {C n d : String} {A : Nat → Prop} {U : State} {H H1 : Heap} (h : vx_Zq C n d A U H) (hq : ∀ a : Nat, a < H.size → ¬ A a → H1[a]? = H[a]?) : vx_Zq C n d A U H1 := ⟨va_Zq.kept h.1 hq, vx_L.kept h.2 hq⟩
theorem vx_Zq.narrow {C n d : String} {A B : Nat → Prop} {U : State} {H : Heap} (h : vx_Zq C n d A U H) (hAB : ∀ q, B q → A q) : vx_Zq C n d B U H := ⟨va_Zq.narrow h.1 hAB, vx_L.narrow h.2 hAB⟩
theorem vx_Zqof {args : Array Value} {s : State} {C n d : String} {A : Nat → Prop} (hl : (Cond.laysStatic C n d).before args s = true) (hini : (Cond.initialized C).before args s = true) (h : (Cond.isRef (.static C n d)).before args s = true) (hA : ∀ a : Nat, a < s.heap.size → ¬ A a) : vx_Zq C n d A s s.heap := by
  refine ⟨va_Zqof hl hini h hA, ?_⟩
  obtain ⟨c, k, i, f, a, cell, h1, h2, h3, h4, h5, h6, h7, h8, h9⟩ := Cond.laysStatic_spec hl
  exact ⟨c, k, i, f, a, cell, h1, h2, h3, h4, h5, h6, h7, h8, h9, hA a (Array.getElem?_eq_some_iff.mp h5).1⟩
theorem vx_isRef {C n d : String} {v : Value} {A : Nat → Prop} {s : State} {args : Array Value} (h : va_Z C n d v A s s.heap) (hv : v.isRef = true) : (Cond.isRef (.static C n d)).before args s = true := by
  obtain ⟨cf, kf, fi, f, a, cell, h1, h2, h3, h4, h5, h6, h7, -⟩ := h
  have he : (Term.static C n d).eval args s none [] s = some v := by
    simp [Term.eval, State.fieldNamed?, h1, h2, h4, h5, h6, h7]
  simp only [Cond.before, Cond.holds, Cond.value, he]
  cases v <;> simp_all [Value.isRef]
theorem vx_isRefq {C n d : String} {A : Nat → Prop} {s : State} {args : Array Value} (h : va_Zq C n d A s s.heap) : (Cond.isRef (.static C n d)).before args s = true := by
  rcases h with h | ⟨t, h⟩
  · exact vx_isRef h rfl
  · exact vx_isRef h rfl
/-- the same frame, seen from here: as if the method were called anew in this heap -/
theorem vx_rebase {T : State} (X : Stand p l e R s m args below meth c T locs cells slots) {R' : Room} (hf : R'.frames ≤ R.frames) (hl : R'.locals ≤ R.locals) (hc : cells + R'.cells ≤ R.cells) (hs : slots + R'.slots ≤ R.slots) :
    Stand p l e R' ((T.setVm s.vm).setFrames (.invoking m args :: below)) m args below meth c T [] 0 0 := by
  have htop : (T.setVm s.vm).topJava?.isSome := X.here.top
  have hF : ((T.setVm s.vm).setFrames (.invoking m args :: below)).frames = .invoking m args :: below := State.frames_setFrames _ (State.cur_lt_of_top htop)
  obtain ⟨g₀, hg0⟩ := Option.isSome_iff_exists.mp htop
  obtain ⟨r, hr⟩ := State.topJava?_eq_some.mp hg0
  have hl9 : e.platform.stackLimits (T.setVm s.vm).me = e.platform.stackLimits s.me := X.limits
  have hb9 : (T.setVm s.vm).me.stackBytes = s.me.stackBytes := X.bytes
  refine ⟨X.admits, X.cas, X.clock, hF, ?_, X.hears, X.method, X.code, X.here, X.tail, X.warmed, ?_, ?_, ?_⟩
  · have h := X.room
    have hU : ((T.setVm s.vm).setFrames (.invoking m args :: below)).localsInUse = s.localsInUse := by
      rw [State.localsInUse_invoking hF (meth := meth) (c := c) X.method X.code, State.localsInUse_invoking X.frames X.method X.code]
    simp only [State.hasRoom, Bool.and_eq_true, decide_eq_true_eq] at h ⊢
    obtain ⟨⟨⟨⟨h1, h2, h3, h4, h5, h6⟩, h7⟩, h8⟩, h9⟩ := h
    rw [X.frames, List.length_cons] at h2 h3
    have q1 := X.heapSize
    have q2 := X.used
    simp only [hF, hU, List.length_cons, State.stackLimits_setFrames, State.stackBytes_setFrames, hl9, hb9]
    refine ⟨⟨⟨⟨by omega, by omega, by omega, by omega, by omega, h6⟩, ?_⟩, ?_⟩, X.book⟩
    · show T.heap.size + R'.cells ≤ e.platform.maxCells
      omega
    · show T.slotsUsed + R'.slots ≤ e.platform.maxSlots
      omega
  · rw [State.stackLimits_setFrames]; rfl
  · rw [State.stackBytes_setFrames]; rfl
  · refine ⟨?_, Nat.le_refl _, Nat.le_refl _, ?_, ?_, fun a c9 h9 => ⟨c9, h9, rfl, rfl, fun _ _ => rfl⟩⟩
    · obtain ⟨t, ht, -⟩ := State.frames_cons hr
      show T.setVm s.vm = { ((T.setVm s.vm).setFrames (.invoking m args :: below)).setFrames (T.setVm s.vm).frames with heap := T.heap, slotsUsed := T.slotsUsed }
      rw [State.setFrames_setFrames, State.setFrames_self ht]
      rfl
    · show T.slotsUsed = T.slotsUsed + ((T.heap.toList.drop T.heap.size).map (·.slots.size)).sum
      rw [List.drop_eq_nil_of_le (Nat.le_of_eq Array.length_toList)]
      rfl
    · show ((T.heap.toList.drop T.heap.size).map (·.slots.size)).sum ≤ 0
      rw [List.drop_eq_nil_of_le (Nat.le_of_eq Array.length_toList)]
      exact Nat.le_refl _
/-- 'throw new E()': new; dup; invokespecial; athrow -/
theorem vx_throw0 {cc : ByteArray} {pc : Nat} (hexec : p.tables.exec = Jvm.exec) (hb : c.code = cc) (hl : l.stackTraces = false) {own cls : String} {names : List String} {ik ic mc ms : Nat} {A : Nat → Prop}
    (hown : s.vm.findClass own = some m.cls) (hcls : Bundle.fit cls = true) (hnames : ∀ n ∈ names, Bundle.fit n = true)
    (hk : (Cond.classLink own ik cls).before args s = true) (hini : (Cond.initialized cls).before args s = true) (hat : ∀ w ∈ vx_at0 own ic cls names, w.before args s = true)
    (hgood : ∀ w ∈ Cond.classLink own ik cls :: Cond.initialized cls :: vx_at0 own ic cls names, vx_ot w = true)
    (hU : vx_Zq Bundle.tN "UNASSIGNED_STACK" Bundle.steD A s s.heap) (hN : vx_Zq Bundle.tN "SUPPRESSED_SENTINEL" Bundle.listD A s s.heap) (hS : va_S A s.heap H locs) (hsize : ls.size = c.maxLocals)
    (d0 : decode cc pc = .ok (.new ik, 3)) (d3 : decode cc (pc + 3) = .ok (.dup, 1)) (d4 : decode cc (pc + 4) = .ok (.invokespecial ic, 3)) (d7 : decode cc (pc + 7) = .ok (.athrow, 1))
    (hout : ∀ x ∈ c.exceptionTable.toList, covers x (pc + 7) = false)
    (hRframes : names.length + 3 < R.frames) (hRlocals : (rest.map fun v => v.category).sum + (13 * (names.length + 1) + 42) ≤ R.locals) (hRcells : cells + 1 ≤ R.cells) (hRslots : slots + 6 ≤ R.slots) (hlocks : meth.locks = false)
    (hx : ∀ t : State, s.vm.Alike t.vm → H.size ≤ t.heap.size → (∀ q : Nat, q < H.size → t.heap[q]? = H[q]?) → XC cls s t)
    (hf : ∀ z ∈ locs, free z.base) (hc : cells + 1 ≤ mc) (hs : slots + 6 ≤ ms) :
    W p l e R s m args below meth c H locs cells slots (vx_MQ below Qc XC args s mc ms free) (F0 m pc ls rest) := by
  intro T hT X
  have htr : e.platform.stackTraces = false := (show e.platform.stackTraces = l.stackTraces by rw [X.admits.platform]).trans hl
  have Y := vx_rebase X (R' := { frames := R.frames, locals := R.locals, cells := 1, slots := 6 }) (Nat.le_refl _) (Nat.le_refl _) hRcells hRslots
  obtain ⟨s', hA⟩ : ∃ z, z = (T.setVm s.vm).setFrames (.invoking m args :: below) := ⟨_, rfl⟩
  rw [← hA] at Y
  have hvm : s'.vm = s.vm := by rw [hA]; rfl
  have hhp : s'.heap = H := by rw [hA]; exact hT
  have hW0 : s.WarmedH s'.vm := by rw [hvm]; exact State.WarmedH.refl s
  have hat' : ∀ w ∈ vx_at0 own ic cls names, w.before args s' = true := fun w hw => vx_ot_at hW0 hvm.symm (hgood w (List.mem_cons_of_mem _ (List.mem_cons_of_mem _ hw))) (hat w hw)
  have hk' : (Cond.classLink own ik cls).before args s' = true := vx_ot_at hW0 hvm.symm (hgood _ List.mem_cons_self) hk
  have hini' : (Cond.initialized cls).before args s' = true := vx_ot_at hW0 hvm.symm (hgood _ (List.mem_cons_of_mem _ List.mem_cons_self)) hini
  have hU' : vx_Zq Bundle.tN "UNASSIGNED_STACK" Bundle.steD A s' s'.heap := by rw [hhp]; exact vx_Zq.moved hW0.alike (hU.kept hS.2.1)
  have hN' : vx_Zq Bundle.tN "SUPPRESSED_SENTINEL" Bundle.listD A s' s'.heap := by rw [hhp]; exact vx_Zq.moved hW0.alike (hN.kept hS.2.1)
  have h : ∀ w ∈ Bundle.ownAtoms0 own ic cls names, w.before args s' = true := vx_own hat' (vx_isRefq hU'.1) (vx_isRefq hN'.1) hU'.2.word hN'.2.word
  have hown' : s'.vm.findClass own = some m.cls := by rw [hvm]; exact hown
  have hins : (Cond.instantiable cls 6).before args s' = true := h _ (by simp [Bundle.ownAtoms0])
  obtain ⟨vm₁, cX, kX, hfX, hkX, -, -, X₁, st1⟩ := Y.newCold hexec (own := own) (C := cls) (index := ik) (n := 6) hown' hk' hins hini'
    (g := F0 m pc ls rest) rfl (by rw [hb]; exact d0) (Nat.le_refl _) (Nat.le_refl _)
  generalize hT1 : (T.setVm vm₁).pushCell { cls := cX, slots := kX.instanceTypes.map defaultValue, vm := .none } = T1 at X₁ st1
  have hcat : (Value.ref T.heap.size).category = 1 := rfl
  have hcellA : T1.heap[T.heap.size]? = some (freshCell cX kX) := by rw [← hT1]; exact State.heap_pushCell_size _ _
  have d3' : decode c.code (pc + 3) = .ok (.dup, 1) := by rw [hb]; exact d3
  obtain ⟨U, hsteps, hrun, hend, hW, hsame, ce, hce, hO⟩ := X₁.ctorThrow0 hexec htr (own := own) (cls := cls) (names := names) (ic := ic) hown' hcls hnames h (fun x hx => nomatch hx) hfX hkX hcellA (by rw [hhp, hT]; exact Nat.le_refl _)
    (g := { method := m, pc := pc + 4, locals := ls, stack := .ref T.heap.size :: .ref T.heap.size :: rest, locked := none }) rfl hsize rfl rfl (rest := rest) rfl
    (by rw [hb]; exact d4) (by rw [hb]; exact d7) hout hRframes (by simp only [List.map_cons, List.sum_cons, hcat]; omega) hlocks
  obtain ⟨f1, f2⟩ := vx_frame hsame
  rw [hhp] at f1 f2
  have hWs : s.WarmedH U.vm := State.WarmedH.trans hW0 hW
  have hcl : s.vm.findClass cls = some ce.cls := by
    have h9 := hO.cls
    rw [hvm] at h9
    exact h9
  have hall : s.sameButNew ({ U with vm := s.vm } : State) locs mc ms := by
    subst hA
    obtain ⟨e1, e2⟩ := hsame
    rw [State.setFrames_setFrames] at e1
    have h2 : (T.setVm s.vm).sameButNew ({ U with vm := s.vm } : State) [] (0 + 1) (0 + 6) := ⟨e1, e2⟩
    have h3 := X.same.trans h2
    rw [List.append_nil] at h3
    exact h3.mono hc hs
  refine ⟨U, ?_, .threw T.heap.size, hrun, hend, Or.inr ⟨T.heap.size, rfl, cls, ce, locs, hx U hWs.alike f1 (fun q hq => f2 q hq (fun z hz => nomatch hz)), hce, hO.vm, hcl, hWs, hall, hf⟩⟩
  refine st1 _ ?_
  show Steps p.tables e below (T1.setTop { method := m, pc := pc + 3, locals := ls, stack := .ref T.heap.size :: rest, locked := none }) _
  jvm_step X₁.here [X₁.here.top, hexec, d3', Value.category]
  exact hsteps
/-- 'throw new E("text")': new; dup; ldc; invokespecial; athrow -/
theorem vx_throwS {cc : ByteArray} {pc : Nat} (hexec : p.tables.exec = Jvm.exec) (hb : c.code = cc) (hl : l.stackTraces = false) {own cls text : String} {names : List String} {ik is ic mc ms sa : Nat} {A : Nat → Prop}
    (hown : s.vm.findClass own = some m.cls) (hcls : Bundle.fit cls = true) (hnames : ∀ n ∈ names, Bundle.fit n = true)
    (hk : (Cond.classLink own ik cls).before args s = true) (hini : (Cond.initialized cls).before args s = true) (hstr : vk_R own is text sa s) (hat : ∀ w ∈ vx_atS own ic cls names, w.before args s = true)
    (hgood : ∀ w ∈ Cond.classLink own ik cls :: Cond.initialized cls :: vx_atS own ic cls names, vx_ot w = true)
    (hU : vx_Zq Bundle.tN "UNASSIGNED_STACK" Bundle.steD A s s.heap) (hN : vx_Zq Bundle.tN "SUPPRESSED_SENTINEL" Bundle.listD A s s.heap) (hS : va_S A s.heap H locs) (hsize : ls.size = c.maxLocals)
    (d0 : decode cc pc = .ok (.new ik, 3)) (d3 : decode cc (pc + 3) = .ok (.dup, 1)) (d4 : decode cc (pc + 4) = .ok (.ldc is, 2)) (d6 : decode cc (pc + 6) = .ok (.invokespecial ic, 3)) (d9 : decode cc (pc + 9) = .ok (.athrow, 1))
    (hout : ∀ x ∈ c.exceptionTable.toList, covers x (pc + 9) = false)
    (hRframes : names.length + 3 < R.frames) (hRlocals : (rest.map fun v => v.category).sum + (13 * (names.length + 1) + 43) ≤ R.locals) (hRcells : cells + 1 ≤ R.cells) (hRslots : slots + 6 ≤ R.slots) (hlocks : meth.locks = false)
    (hx : ∀ t : State, s.vm.Alike t.vm → H.size ≤ t.heap.size → (∀ q : Nat, q < H.size → t.heap[q]? = H[q]?) → XC cls s t)
    (hf : ∀ z ∈ locs, free z.base) (hc : cells + 1 ≤ mc) (hs : slots + 6 ≤ ms) :
    W p l e R s m args below meth c H locs cells slots (vx_MQ below Qc XC args s mc ms free) (F0 m pc ls rest) := by
  intro T hT X
  have htr : e.platform.stackTraces = false := (show e.platform.stackTraces = l.stackTraces by rw [X.admits.platform]).trans hl
  have Y := vx_rebase X (R' := { frames := R.frames, locals := R.locals, cells := 1, slots := 6 }) (Nat.le_refl _) (Nat.le_refl _) hRcells hRslots
  obtain ⟨s', hA⟩ : ∃ z, z = (T.setVm s.vm).setFrames (.invoking m args :: below) := ⟨_, rfl⟩
  rw [← hA] at Y
  have hvm : s'.vm = s.vm := by rw [hA]; rfl
  have hhp : s'.heap = H := by rw [hA]; exact hT
  have hW0 : s.WarmedH s'.vm := by rw [hvm]; exact State.WarmedH.refl s
  have hat' : ∀ w ∈ vx_atS own ic cls names, w.before args s' = true := fun w hw => vx_ot_at hW0 hvm.symm (hgood w (List.mem_cons_of_mem _ (List.mem_cons_of_mem _ hw))) (hat w hw)
  have hk' : (Cond.classLink own ik cls).before args s' = true := vx_ot_at hW0 hvm.symm (hgood _ List.mem_cons_self) hk
  have hini' : (Cond.initialized cls).before args s' = true := vx_ot_at hW0 hvm.symm (hgood _ (List.mem_cons_of_mem _ List.mem_cons_self)) hini
  have hU' : vx_Zq Bundle.tN "UNASSIGNED_STACK" Bundle.steD A s' s'.heap := by rw [hhp]; exact vx_Zq.moved hW0.alike (hU.kept hS.2.1)
  have hN' : vx_Zq Bundle.tN "SUPPRESSED_SENTINEL" Bundle.listD A s' s'.heap := by rw [hhp]; exact vx_Zq.moved hW0.alike (hN.kept hS.2.1)
  have h : ∀ w ∈ Bundle.ownAtoms own ic cls names, w.before args s' = true := vx_own hat' (vx_isRefq hU'.1) (vx_isRefq hN'.1) hU'.2.word hN'.2.word
  have hown' : s'.vm.findClass own = some m.cls := by rw [hvm]; exact hown
  have hins : (Cond.instantiable cls 6).before args s' = true := h _ (by simp [Bundle.ownAtoms])
  obtain ⟨vm₁, cX, kX, hfX, hkX, -, -, X₁, st1⟩ := Y.newCold hexec (own := own) (C := cls) (index := ik) (n := 6) hown' hk' hins hini'
    (g := F0 m pc ls rest) rfl (by rw [hb]; exact d0) (Nat.le_refl _) (Nat.le_refl _)
  generalize hT1 : (T.setVm vm₁).pushCell { cls := cX, slots := kX.instanceTypes.map defaultValue, vm := .none } = T1 at X₁ st1
  have hcat : (Value.ref T.heap.size).category = 1 := rfl
  have hcellA : T1.heap[T.heap.size]? = some (freshCell cX kX) := by rw [← hT1]; exact State.heap_pushCell_size _ _
  have d3' : decode c.code (pc + 3) = .ok (.dup, 1) := by rw [hb]; exact d3
  have d4' : decode c.code (pc + 4) = .ok (.ldc is, 2) := by rw [hb]; exact d4
  have hstr' : vk_R own is text sa s' := vk_R.warm hW0 hstr
  obtain ⟨U, hsteps, hrun, hend, hW, hsame, ce, hce, hO⟩ := X₁.ctorThrowS hexec htr (own := own) (cls := cls) (names := names) (ic := ic) hown' hcls hnames h (fun x hx => nomatch hx) hfX hkX hcellA (by rw [hhp, hT]; exact Nat.le_refl _) (msg := .ref sa) rfl
    (g := { method := m, pc := pc + 6, locals := ls, stack := .ref sa :: .ref T.heap.size :: .ref T.heap.size :: rest, locked := none }) rfl hsize rfl rfl (rest := rest) rfl
    (by rw [hb]; exact d6) (by rw [hb]; exact d9) hout hRframes (by simp only [List.map_cons, List.sum_cons, hcat]; omega) hlocks
  obtain ⟨f1, f2⟩ := vx_frame hsame
  rw [hhp] at f1 f2
  have hWs : s.WarmedH U.vm := State.WarmedH.trans hW0 hW
  have hcl : s.vm.findClass cls = some ce.cls := by
    have h9 := hO.cls
    rw [hvm] at h9
    exact h9
  have hall : s.sameButNew ({ U with vm := s.vm } : State) locs mc ms := by
    subst hA
    obtain ⟨e1, e2⟩ := hsame
    rw [State.setFrames_setFrames] at e1
    have h2 : (T.setVm s.vm).sameButNew ({ U with vm := s.vm } : State) [] (0 + 1) (0 + 6) := ⟨e1, e2⟩
    have h3 := X.same.trans h2
    rw [List.append_nil] at h3
    exact h3.mono hc hs
  refine ⟨U, ?_, .threw T.heap.size, hrun, hend, Or.inr ⟨T.heap.size, rfl, cls, ce, locs, hx U hWs.alike f1 (fun q hq => f2 q hq (fun z hz => nomatch hz)), hce, hO.vm, hcl, hWs, hall, hf⟩⟩
  refine st1 _ ?_
  show Steps p.tables e below (T1.setTop { method := m, pc := pc + 3, locals := ls, stack := .ref T.heap.size :: rest, locked := none }) _
  jvm_step X₁.here [X₁.here.top, hexec, d3', Value.category]
  exact X₁.ldcString hexec (own := own) (text := text) (index := is) (a := sa) hown' hstr'.1 hstr'.2
    (g := { method := m, pc := pc + 4, locals := ls, stack := .ref T.heap.size :: .ref T.heap.size :: rest, locked := none }) rfl d4' _ hsteps
/-- 'throw new E("text")', the text by a wide index -/
theorem vx_throwSW {cc : ByteArray} {pc : Nat} (hexec : p.tables.exec = Jvm.exec) (hb : c.code = cc) (hl : l.stackTraces = false) {own cls text : String} {names : List String} {ik is ic mc ms sa : Nat} {A : Nat → Prop}
    (hown : s.vm.findClass own = some m.cls) (hcls : Bundle.fit cls = true) (hnames : ∀ n ∈ names, Bundle.fit n = true)
    (hk : (Cond.classLink own ik cls).before args s = true) (hini : (Cond.initialized cls).before args s = true) (hstr : vk_R own is text sa s) (hat : ∀ w ∈ vx_atS own ic cls names, w.before args s = true)
    (hgood : ∀ w ∈ Cond.classLink own ik cls :: Cond.initialized cls :: vx_atS own ic cls names, vx_ot w = true)
    (hU : vx_Zq Bundle.tN "UNASSIGNED_STACK" Bundle.steD A s s.heap) (hN : vx_Zq Bundle.tN "SUPPRESSED_SENTINEL" Bundle.listD A s s.heap) (hS : va_S A s.heap H locs) (hsize : ls.size = c.maxLocals)
    (d0 : decode cc pc = .ok (.new ik, 3)) (d3 : decode cc (pc + 3) = .ok (.dup, 1)) (d4 : decode cc (pc + 4) = .ok (.ldc_w is, 3)) (d7 : decode cc (pc + 7) = .ok (.invokespecial ic, 3)) (d10 : decode cc (pc + 10) = .ok (.athrow, 1))
    (hout : ∀ x ∈ c.exceptionTable.toList, covers x (pc + 10) = false)
    (hRframes : names.length + 3 < R.frames) (hRlocals : (rest.map fun v => v.category).sum + (13 * (names.length + 1) + 43) ≤ R.locals) (hRcells : cells + 1 ≤ R.cells) (hRslots : slots + 6 ≤ R.slots) (hlocks : meth.locks = false)
    (hx : ∀ t : State, s.vm.Alike t.vm → H.size ≤ t.heap.size → (∀ q : Nat, q < H.size → t.heap[q]? = H[q]?) → XC cls s t)
    (hf : ∀ z ∈ locs, free z.base) (hc : cells + 1 ≤ mc) (hs : slots + 6 ≤ ms) :
    W p l e R s m args below meth c H locs cells slots (vx_MQ below Qc XC args s mc ms free) (F0 m pc ls rest) := by
  intro T hT X
  have htr : e.platform.stackTraces = false := (show e.platform.stackTraces = l.stackTraces by rw [X.admits.platform]).trans hl
  have Y := vx_rebase X (R' := { frames := R.frames, locals := R.locals, cells := 1, slots := 6 }) (Nat.le_refl _) (Nat.le_refl _) hRcells hRslots
  obtain ⟨s', hA⟩ : ∃ z, z = (T.setVm s.vm).setFrames (.invoking m args :: below) := ⟨_, rfl⟩
  rw [← hA] at Y
  have hvm : s'.vm = s.vm := by rw [hA]; rfl
  have hhp : s'.heap = H := by rw [hA]; exact hT
  have hW0 : s.WarmedH s'.vm := by rw [hvm]; exact State.WarmedH.refl s
  have hat' : ∀ w ∈ vx_atS own ic cls names, w.before args s' = true := fun w hw => vx_ot_at hW0 hvm.symm (hgood w (List.mem_cons_of_mem _ (List.mem_cons_of_mem _ hw))) (hat w hw)
  have hk' : (Cond.classLink own ik cls).before args s' = true := vx_ot_at hW0 hvm.symm (hgood _ List.mem_cons_self) hk
  have hini' : (Cond.initialized cls).before args s' = true := vx_ot_at hW0 hvm.symm (hgood _ (List.mem_cons_of_mem _ List.mem_cons_self)) hini
  have hU' : vx_Zq Bundle.tN "UNASSIGNED_STACK" Bundle.steD A s' s'.heap := by rw [hhp]; exact vx_Zq.moved hW0.alike (hU.kept hS.2.1)
  have hN' : vx_Zq Bundle.tN "SUPPRESSED_SENTINEL" Bundle.listD A s' s'.heap := by rw [hhp]; exact vx_Zq.moved hW0.alike (hN.kept hS.2.1)
  have h : ∀ w ∈ Bundle.ownAtoms own ic cls names, w.before args s' = true := vx_own hat' (vx_isRefq hU'.1) (vx_isRefq hN'.1) hU'.2.word hN'.2.word
  have hown' : s'.vm.findClass own = some m.cls := by rw [hvm]; exact hown
  have hins : (Cond.instantiable cls 6).before args s' = true := h _ (by simp [Bundle.ownAtoms])
  obtain ⟨vm₁, cX, kX, hfX, hkX, -, -, X₁, st1⟩ := Y.newCold hexec (own := own) (C := cls) (index := ik) (n := 6) hown' hk' hins hini'
    (g := F0 m pc ls rest) rfl (by rw [hb]; exact d0) (Nat.le_refl _) (Nat.le_refl _)
  generalize hT1 : (T.setVm vm₁).pushCell { cls := cX, slots := kX.instanceTypes.map defaultValue, vm := .none } = T1 at X₁ st1
  have hcat : (Value.ref T.heap.size).category = 1 := rfl
  have hcellA : T1.heap[T.heap.size]? = some (freshCell cX kX) := by rw [← hT1]; exact State.heap_pushCell_size _ _
  have d3' : decode c.code (pc + 3) = .ok (.dup, 1) := by rw [hb]; exact d3
  have d4' : decode c.code (pc + 4) = .ok (.ldc_w is, 3) := by rw [hb]; exact d4
  have hstr' : vk_R own is text sa s' := vk_R.warm hW0 hstr
  obtain ⟨U, hsteps, hrun, hend, hW, hsame, ce, hce, hO⟩ := X₁.ctorThrowS hexec htr (own := own) (cls := cls) (names := names) (ic := ic) hown' hcls hnames h (fun x hx => nomatch hx) hfX hkX hcellA (by rw [hhp, hT]; exact Nat.le_refl _) (msg := .ref sa) rfl
    (g := { method := m, pc := pc + 7, locals := ls, stack := .ref sa :: .ref T.heap.size :: .ref T.heap.size :: rest, locked := none }) rfl hsize rfl rfl (rest := rest) rfl
    (by rw [hb]; exact d7) (by rw [hb]; exact d10) hout hRframes (by simp only [List.map_cons, List.sum_cons, hcat]; omega) hlocks
  obtain ⟨f1, f2⟩ := vx_frame hsame
  rw [hhp] at f1 f2
  have hWs : s.WarmedH U.vm := State.WarmedH.trans hW0 hW
  have hcl : s.vm.findClass cls = some ce.cls := by
    have h9 := hO.cls
    rw [hvm] at h9
    exact h9
  have hall : s.sameButNew ({ U with vm := s.vm } : State) locs mc ms := by
    subst hA
    obtain ⟨e1, e2⟩ := hsame
    rw [State.setFrames_setFrames] at e1
    have h2 : (T.setVm s.vm).sameButNew ({ U with vm := s.vm } : State) [] (0 + 1) (0 + 6) := ⟨e1, e2⟩
    have h3 := X.same.trans h2
    rw [List.append_nil] at h3
    exact h3.mono hc hs
  refine ⟨U, ?_, .threw T.heap.size, hrun, hend, Or.inr ⟨T.heap.size, rfl, cls, ce, locs, hx U hWs.alike f1 (fun q hq => f2 q hq (fun z hz => nomatch hz)), hce, hO.vm, hcl, hWs, hall, hf⟩⟩
  refine st1 _ ?_
  show Steps p.tables e below (T1.setTop { method := m, pc := pc + 3, locals := ls, stack := .ref T.heap.size :: rest, locked := none }) _
  jvm_step X₁.here [X₁.here.top, hexec, d3', Value.category]
  exact X₁.ldcStringW hexec (own := own) (text := text) (index := is) (a := sa) hown' hstr'.1 hstr'.2
    (g := { method := m, pc := pc + 4, locals := ls, stack := .ref T.heap.size :: .ref T.heap.size :: rest, locked := none }) rfl d4' _ hsteps
end Ends
section Bodies
variable {l : Launch}
theorem vx_ofW {y : MethodName} {ws ws' : List Cond} {rm : Room} {Pc : Array Value → State → Prop} {Qc : Array Value → State → Outcome → State → Prop} {XC : String → State → State → Prop} {mc ms : Nat} {free : Addr → Prop} {cc : ByteArray} {maxL : Nat} {ret : Option FieldType}
    (hy : plainName y.cls = true) (hw : ws = Cond.code y cc maxL ret :: ws')
    (body : ∀ p e s m args below meth c s₁, BodyLoose p l y (headSpec ws rm) cc maxL ret e s m args below meth c s₁ → c.maxLocals = maxL → (∀ x ∈ c.exceptionTable.toList, False) → Pc args s →
      W p l e (headSpec ws rm).room s m args below meth c s.heap [] 0 0 (vx_MQ below Qc XC args s mc ms free) (entryFrame m args maxL)) : vx_Met l y ws rm Pc Qc XC mc ms free := by
  refine MetFree.of_bodyS (code := cc) (maxLocals := maxL) (ret := ret) hy ?_ ?_
  · intro args s m h hn
    obtain ⟨meth, c, h1, h2, h3, h4, h5, h6, -, -⟩ := Cond.code_spec hn (atoms_spec (ws := ws) h _ (by rw [hw]; exact List.mem_cons_self))
    exact ⟨meth, c, h1, h2, h3, h4, h5, h6⟩
  · intro p e s m args below meth c s₁ B hml hP _
    have hh0 : s₁.heap = s.heap := by rw [B.state]; rfl
    have ht : ∀ x ∈ c.exceptionTable.toList, False := by
      obtain ⟨meth9, c9, h1, h2, -, -, -, -, h7, -⟩ := Cond.code_spec B.named (atoms_spec (ws := ws) B.pre _ (by rw [hw]; exact List.mem_cons_self))
      cases Option.some.inj (h1.symm.trans B.method)
      cases Option.some.inj (h2.symm.trans (Stand.of_body B).code)
      intro x hx
      rw [Array.isEmpty_iff.mp h7] at hx
      cases hx
    obtain ⟨t, a1, o, b1, b2, b3⟩ := body p e s m args below meth c s₁ B hml ht hP s₁ hh0 (Stand.of_body B)
    exact ⟨t, o, a1, b1, b2, b3⟩
/-- the table of a body with handlers -/
theorem vx_table {p : Program} {x y : MethodName} {S : Spec} {cc bytes : ByteArray} {maxL maxL' : Nat} {ret ret' : Option FieldType} {e : Env} {s s₁ : State} {m : MethodId} {args : Array Value} {below : List Frame} {meth : Method} {c : Code} {hh : List (Nat × Nat × Nat × Nat)}
    (B : BodyLoose p l y S cc maxL ret e s m args below meth c s₁) (h : (Cond.codeWith y bytes maxL' ret' hh).before args s = true) : c.exceptionTable.toList = tableOf hh := by
  obtain ⟨m9, meth9, c9, hn9, h1, h2, -, -, h6, -⟩ := Cond.codeWith_spec h
  cases Option.some.inj (hn9.symm.trans B.named)
  cases Option.some.inj (h1.symm.trans B.method)
  cases Option.some.inj (h2.symm.trans (Stand.of_body B).code)
  rw [← h6, table_eq]
end Bodies
end VXA
/-! ===== END ===== -/
/-! ===== BEGIN a static call of a method with an exception table ===== -/
section VXS
variable {p : Program} {l : Launch} {e : Env} {R : Room} {s : State} {m : MethodId} {args : Array Value} {below : List Frame} {meth : Method} {c : Code} {T : State} {H : Heap} {locs : List Loc} {cells slots : Nat}
abbrev vx_CSW (R : Room) (s : State) (args : Array Value) (own : String) (index : Nat) (y : MethodName) (bytes : ByteArray) (maxL : Nat) (ret : Option FieldType) (hh : List (Nat × Nat × Nat × Nat)) (ws : List Cond) (rm : Room) (mc ms n : Nat) : Prop :=
  (rm.cells = mc ∧ rm.slots = ms ∧ rm.frames + 1 ≤ R.frames ∧ 8 + (maxL + 11) + rm.locals ≤ R.locals ∧ (∀ w ∈ ws, ∀ (a' : Array Value) (U : State), s.WarmedH U.vm → w.before a' U = true) ∧ Cond.codeWith y bytes maxL ret hh ∈ ws) ∧
  (Cond.codeWith y bytes maxL ret hh).before args s = true ∧ (Cond.initialized y.cls).before args s = true ∧ (y.cls ≠ "java/lang/invoke/MethodHandle" ∧ y.cls ≠ "java/lang/invoke/VarHandle") ∧
  (∀ sig, parseMethodDescriptor y.desc = some sig → n = sig.parameters.length) ∧ (Cond.methodLink own index y).before args s = true ∧ (Cond.static y).before args s = true
theorem vx_cwSW {own : String} {index maxL mc ms : Nat} {y : MethodName} {bytes : ByteArray} {ret : Option FieldType} {hh : List (Nat × Nat × Nat × Nat)} {Ts ws ws' : List Cond} {rm : Room} (n : Nat) (ht : ∀ w ∈ Ts, w.before args s = true) (hT : GoodIn Ts (va_wsS own index y ws)) (hw : ws = Cond.codeWith y bytes maxL ret hh :: ws') (hrc : rm.cells = mc) (hrs : rm.slots = ms)
    (hd : y.cls ≠ "java/lang/invoke/MethodHandle" ∧ y.cls ≠ "java/lang/invoke/VarHandle" ∧ (parseMethodDescriptor y.desc).map (fun d => d.parameters.length) = some n) (hR : rm.frames + 1 ≤ R.frames ∧ 8 + (maxL + 11) + rm.locals ≤ R.locals) :
    vx_CSW R s args own index y bytes maxL ret hh ws rm mc ms n := by
  have ok : ∀ w ∈ va_wsS own index y ws, w.before args s = true := fun w h => ht w (hT w h).1
  have hG : GoodIn Ts ws := fun w h => hT w (by unfold va_wsS; exact List.mem_append_right _ h)
  have hc : Cond.codeWith y bytes maxL ret hh ∈ ws := by rw [hw]; exact List.mem_cons_self
  refine ⟨⟨hrc, hrs, hR.1, hR.2, pay_in ht hG, hc⟩, ht _ (hG _ hc).1, ok _ (by simp [va_wsS]), ⟨hd.1, hd.2.1⟩, fun sig h => ?_, ok _ (by simp [va_wsS]), ok _ (by simp [va_wsS])⟩
  have h2 := hd.2.2
  rw [h] at h2
  exact (Option.some.inj h2).symm
theorem vx_callSW (X : Stand p l e R s m args below meth c T locs cells slots) (hexec : p.tables.exec = Jvm.exec) {own : String} {index : Nat} {y : MethodName} {bytes : ByteArray} {maxL : Nat} {ret : Option FieldType} {hh : List (Nat × Nat × Nat × Nat)}
    (hown : s.vm.findClass own = some m.cls) (hlink : (Cond.methodLink own index y).before args s = true) (hstat : (Cond.static y).before args s = true) (hinit : (Cond.initialized y.cls).before args s = true)
    (hcode : (Cond.codeWith y bytes maxL ret hh).before args s = true) (hy : y.cls ≠ "java/lang/invoke/MethodHandle" ∧ y.cls ≠ "java/lang/invoke/VarHandle")
    {W9 : Nat} {Pre : Pt → Array Value → Prop} {Post : Pt → Array Value → Option Value → Pt → Prop} (hK : Back l R p e below s args y 3 W9 Pre Post)
    {g : JFrame} (hg : g.method = m) (hsize : g.locals.size = c.maxLocals) {argsL rest : List Value} (hlen : ∀ sig, parseMethodDescriptor y.desc = some sig → argsL.length = sig.parameters.length)
    (hstack : g.stack = argsL.reverse ++ rest) (hW : 2 * g.monitorRoom + (rest.map fun v => v.category).sum ≤ W9) (hdg : decode c.code g.pc = .ok (.invokestatic index, 3))
    (hpre : ∀ vm₁, s.WarmedH vm₁ → Pre ⟨T.setVm vm₁, locs, cells, slots⟩ argsL.toArray) :
    ∃ (v : Option Value) (vm₁ : Vm) (B : Pt), s.WarmedH vm₁ ∧ Stand p l e R s m args below meth c B.U B.locs B.cells B.slots ∧ Post ⟨T.setVm vm₁, locs, cells, slots⟩ argsL.toArray v B ∧
      ∀ target, Steps p.tables e below (B.U.setTop { g with pc := g.pc + 3, stack := v.toList ++ rest }) target → Steps p.tables e below (T.setTop g) target := by
  obtain ⟨mk, methM, cM, hnamed, hmethM, -, -, -, -, -, -, hsigM⟩ := Cond.codeWith_spec hcode
  have hstatic : methM.isStatic = true := Cond.static_spec hnamed hmethM hstat
  obtain ⟨kP, hkP, -⟩ := className_of_methodNamed hnamed
  have hinitP : kP.init = .initialized := Cond.initialized_spec (findClass_of_methodNamed hnamed) hkP hinit
  obtain ⟨vm₁, X₁, hstep₁⟩ := X.invokestatic hexec hown hlink hnamed hmethM hstatic hkP hinitP hy (g := g) hg (argsL := argsL) (rest := rest) (hlen _ hsigM) hstack hdg
  obtain ⟨v, B, X', hpost, hsteps⟩ := hK m meth c ⟨T.setVm vm₁, locs, cells, slots⟩ { g with stack := rest } (.invokestatic index) mk argsL.toArray X₁ hg hsize hdg hW (X₁.named hnamed) (hpre vm₁ X₁.warmed)
  exact ⟨v, vm₁, B, X₁.warmed, X', hpost, fun target h => hstep₁ _ fun acts => by rw [doInvoke_state]; exact hsteps.trans h⟩
theorem vx_runSW {y : MethodName} {bytes cc : ByteArray} {maxL nL mc ms n index : Nat} {ret : Option FieldType} {hh : List (Nat × Nat × Nat × Nat)} {ws : List Cond} {rm : Room} {Pc : Array Value → State → Prop} {Qc : Array Value → State → Outcome → State → Prop} {free : Addr → Prop} {Ts : List Cond} {own : String} {As rest : List Value} {g : JFrame}
    (S : CallFix p m c cc nL s args Ts own) (hM : Met l y ws rm Pc Qc mc ms free) (cw : vx_CSW R s args own index y bytes maxL ret hh ws rm mc ms n) (hp : PreS s H Pc As)
    (hg : g.method = m) (hn : As.length = n) (hsize : g.locals.size = nL) (hstack : g.stack = As.reverse ++ rest) (hW : 2 * g.monitorRoom + (rest.map fun v => v.category).sum ≤ 8) (hdg : decode cc g.pc = .ok (.invokestatic index, 3)) (hf : cells + mc ≤ R.cells ∧ slots + ms ≤ R.slots) :
    va_Run p l e R s m args below meth c H locs cells slots mc ms g rest (Qc As.toArray) (free) := by
  obtain ⟨⟨hrc, hrs, hfr, hlo, hws, hcw⟩, hcode, hini, hy, hlen, hl, hstt⟩ := cw
  have hK : Back l R p e below s args y 3 8 (PreOf R mc ms Pc) (PostOf Qc mc ms free) := va_backW (hh := hh) (bytes := bytes) (maxL := maxL) (ret := ret) hM hp.1 hrc hrs hfr hlo hws hcw (fun a' U hW => word_at hW (Or.inl (by first | rfl | simp [Cond.onTables, Cond.keeps, Cond.steady])) hini)
  obtain ⟨hx, hb, hml, ho, -⟩ := S
  intro T hT X
  obtain ⟨v, vm₁, ⟨U', l2, c2, s2⟩, hW₁, X', ⟨g', mk, t, L, e1, e2, hq, h1, hL, h2, h3⟩, st⟩ := vx_callSW X hx (hh := hh) (bytes := bytes) (maxL := maxL) (ret := ret) ho hl hstt hini hcode hy hK hg (hsize.trans hml.symm) (argsL := As) (rest := rest) (fun sig h => hn.trans (hlen sig h)) hstack hW (by rw [hb]; exact hdg)
    (fun vm₁ hW₁ => ⟨hf.1, hf.2, hp.2 (T.setVm vm₁) hT hW₁⟩)
  dsimp only [Pt.U, Pt.locs, Pt.cells, Pt.slots] at X' e1 e2 h1 h2 h3 st
  subst h1; subst h2; subst h3
  exact ⟨v, (T.setVm vm₁).calling g' mk As.toArray, t, U', L, hT, X', hL, e1, e2, hq, st⟩
/-- not caught here, past rows that name other classes: it goes on to the caller -/
theorem vx_outP {p : Program} {l : Launch} {e : Env} {R : Room} {s : State} {m : MethodId} {args : Array Value} {below : List Frame} {meth : Method} {c : Code} {H : Heap} {locs : List Loc} {cells slots : Nat} {free : Addr → Prop} {ls : Array Slot} {rest : List Value} {Qc : Array Value → State → Outcome → State → Prop} {XC : String → State → State → Prop}
    {pc : Nat} {own E : String} {ce : Cell} {q : Addr} {mc ms : Nat} (hown : s.vm.findClass own = some m.cls) (hlocks : meth.locks = false)
    (hpass : ∀ z ∈ c.exceptionTable.toList, covers z pc = false ∨ (z.catchType ≠ 0 ∧ ∃ nm : String, (Cond.classLink own z.catchType nm).before args s = true ∧ va_Nc E nm s)) (hcell : H[q]? = some ce) (hv : ce.vm = .none) (hcl : s.vm.findClass E = some ce.cls)
    (hx : ∀ t : State, t.heap = H → s.vm.Alike t.vm → XC E s t) (hf : ∀ z ∈ locs, free z.base) (hc : cells ≤ mc) (hs : slots ≤ ms) :
    vx_W p l e R s m args below meth c H locs cells slots (vx_MQ below Qc XC args s mc ms free) (F0 m pc ls rest) q := by
  intro T hT X
  have hpl : e.platform.magicAccessors = ({} : Platform).magicAccessors := by rw [X.admits.platform]
  obtain ⟨vm', hW', X', st⟩ := X.outThrough hlocks q (g := F0 m pc ls rest) rfl rfl rfl (cell := ce) (by rw [hT]; exact hcell) (by rw [hv]; rfl)
    (by obtain ⟨k9, h9, -⟩ := Vm.findClass_spec hcl; exact ⟨k9, h9⟩) (fun z hz => by
      rcases hpass z hz with h | ⟨hz0, nm, hl1, hn1⟩
      · exact Or.inl h
      · obtain ⟨c6, hc6, hcl6⟩ := Cond.classLink_spec hown hl1 e.platform hpl
        obtain ⟨a8, b8, h1, h2, h3⟩ := hn1
        cases Option.some.inj (h1.symm.trans hcl)
        cases Option.some.inj (h2.symm.trans hc6)
        exact Or.inr ⟨hz0, _, hcl6, h3⟩)
  obtain ⟨g₀, hfr⟩ := X'.frames_eq
  have hcell9 : ((T.setVm vm').setFrames (.throwing q :: below)).heap[q]? = some ce := by
    show T.heap[q]? = some ce
    rw [hT]; exact hcell
  have hend : Ended ((T.setVm vm').setFrames (.throwing q :: below)) below (.threw q) := State.frames_setFrames _ (State.cur_lt_of_frames hfr)
  refine ⟨(T.setVm vm').setFrames (.throwing q :: below), ?_, .threw q, X'.here.running, hend, Or.inr ⟨q, rfl, E, ce, locs, hx _ hT (X'.ends _).1.alike, hcell9, hv, hcl, (X'.ends _).1, (X'.ends _).2.mono hc hs, hf⟩⟩
  rw [X.pushThrowing_eq]
  exact st
/-- a thing of a world lies in the heap -/
theorem vx_lt {D : va_G} {cl : List vw_C} {ws : va_W} {H1 : Heap} (h : va_P D cl ws H1) {k : Nat} {q : Nat × va_E} (hk : ws[k]? = some q) : q.1 < H1.size := (h k q hk).lt
end VXS
/-! ===== END ===== -/
/-! ===== BEGIN methods with a table of their own: called by a name, returning or throwing ===== -/
section VXH
/-! vx_backW, vx_callVX, vx_callSX, vx_callVW, vx_runVW, vx_runVX, vx_runSX, vx_ofWH follow the same proofs as their sisters above (Free/Laws.lean, Shelf42/LK1.lean); vx_outP calls Shelf42/NT130.lean (outThrough). -/
section
variable {l : Launch} {R : Room} {p : Program} {e : Env} {below : List Frame} {s : State} {sargs : Array Value} {y : MethodName} {len W9 : Nat}
theorem vx_backW {ws : List Cond} {rm : Room} {Pc : Array Value → State → Prop} {Qc : Array Value → State → Outcome → State → Prop} {XC : String → State → State → Prop} {mc ms : Nat} {free : Addr → Prop} {bytes : ByteArray} {maxL : Nat} {ret : Option FieldType} {hh : List (Nat × Nat × Nat × Nat)}
    (hM : vx_Met l y ws rm Pc Qc XC mc ms free) (hblind : FrameBlind Pc) (hrc : rm.cells = mc) (hrs : rm.slots = ms)
    (hframes : rm.frames + 1 ≤ R.frames) (hlocals : W9 + (maxL + 11) + rm.locals ≤ R.locals)
    (hws : ∀ w ∈ ws, ∀ a' U, s.WarmedH U.vm → w.before a' U = true) (hcode : Cond.codeWith y bytes maxL ret hh ∈ ws) (hinit : ∀ a' U, s.WarmedH U.vm → (Cond.initialized y.cls).before a' U = true) :
    vx_Back l R p e below s sargs y len W9 (PreOf R mc ms Pc) (PostOf Qc mc ms free) (vx_Post XC mc ms free) := by
  intro m meth c A g ig mk a X hg hsize hdg hW hn hp
  have h1 : (headSpec ws rm).pre.before a A.U = true := atoms_intro fun w hw => hws w hw _ _ X.warmed
  have h2 : (Cond.codeWith y bytes maxL ret hh).before a A.U = true := hws _ hcode _ _ X.warmed
  have h3 : (Cond.initialized y.cls).before a A.U = true := hinit _ _ X.warmed
  have h4 : A.cells + (headSpec ws rm).room.cells ≤ R.cells := by rw [show (headSpec ws rm).room.cells = mc from hrc]; exact hp.1
  have h5 : A.slots + (headSpec ws rm).room.slots ≤ R.slots := by rw [show (headSpec ws rm).room.slots = ms from hrs]; exact hp.2.1
  have hPc : Pc a (A.U.calling g mk a) := hblind _ _ _ _ hp.2.2
  obtain ⟨U, Ls, c0, s0⟩ := A
  dsimp only [Pt.U, Pt.locs, Pt.cells, Pt.slots] at h1 h2 h3 h4 h5 X hn hPc ⊢
  obtain ⟨m9, methY, cY, hn9, hmY, hcY, -, hlY, -⟩ := Cond.codeWith_spec h2
  cases Option.some.inj (hn9.symm.trans hn)
  obtain ⟨kY, hkY, -⟩ := className_of_methodNamed hn
  have hinitY : kY.init = .initialized := Cond.initialized_spec (findClass_of_methodNamed hn) hkY h3
  have h : At U g.method c below := by rw [hg]; exact X.here
  have hlocals9 : W9 + (maxL + 11) + (headSpec ws rm).room.locals ≤ R.locals := hlocals
  have happ : (headSpec ws rm).appliesLoose y e.platform (U.calling g mk a) = true :=
    Spec.appliesLoose_calling (g := g) h hdg hn hkY hinitY
      (X.room_calling (g := g) (R' := (headSpec ws rm).room) hsize hmY hcY hframes (by rw [hlY]; omega) h4 h5) h1
  obtain ⟨mid, hmid⟩ := h.above
  have hfr : (U.setTop g).frames = (.java g :: mid) ++ below := by rw [State.frames_setTop' g h.top, hmid]; rfl
  obtain ⟨o, s₂, hsteps, -, hend, hq⟩ := Steps.callFree hM p X.admits X.cas X.clock (acts := []) hfr happ hPc trivial
  have hq' : vx_Q Qc XC mc ms free a (U.calling g mk a) o s₂ := hq
  rw [State.frames_setTop' g h.top] at hend
  obtain ⟨g₀, hg0⟩ := Option.isSome_iff_exists.mp h.top
  obtain ⟨r, hr⟩ := State.topJava?_eq_some.mp hg0
  have hr' : (({ U with heap := s₂.heap, slotsUsed := s₂.slotsUsed } : State).setVm s₂.vm).frames = .java g₀ :: r := hr
  rcases hq' with ⟨hqc, L, hfe, hL⟩ | ⟨q, rfl, E, ce, L, hx, hce, hcv, hcl, hW₂, hsm, hL⟩
  · obtain ⟨⟨v, rfl⟩, hW₂, e2, q2, q3, q4, q5, q6⟩ := id hfe
    have e3 : s₂ = ({ (U.calling g mk a).setFrames s₂.frames with heap := s₂.heap, slotsUsed := s₂.slotsUsed } : State).setVm s₂.vm := by
      have : s₂ = ({ s₂ with vm := (U.calling g mk a).vm } : State).setVm s₂.vm := rfl
      rw [e2] at this
      exact this
    obtain ⟨c₂, i₂, len₂, hc₂, hd₂, hf₂⟩ := hend
    have hW' : U.WarmedH s₂.vm := hW₂
    have hcc : c₂ = c := by
      have h1 : s₂.code? g.method = U.code? g.method := by
        rw [State.code?_eq, State.code?_eq, hW'.alike.method?]
      exact Option.some.inj (hc₂.symm.trans (h1.trans h.code))
    subst hcc
    have hlen : len₂ = len := by rw [hdg] at hd₂; cases hd₂; rfl
    subst hlen
    have hs₂ : s₂ = (({ U with heap := s₂.heap, slotsUsed := s₂.slotsUsed } : State).setVm s₂.vm).setTop { g with pc := g.pc + len₂, stack := v.toList ++ g.stack } := by
      refine e3.trans ?_
      rw [hf₂, State.calling_eq h.top, State.setFrames_setFrames, State.setTop_of_frames _ hr', hr]
      rfl
    have hsame : U.sameButNew ({ U with heap := s₂.heap, slotsUsed := s₂.slotsUsed } : State) L mc ms := by
      refine ⟨?_, q2, q3, q4, q5, q6⟩
      obtain ⟨t, ht, -⟩ := State.frames_cons hr
      show ({ U with heap := s₂.heap, slotsUsed := s₂.slotsUsed } : State) = { U.setFrames U.frames with heap := s₂.heap, slotsUsed := s₂.slotsUsed }
      rw [State.setFrames_self ht]
    subst hg
    refine Or.inl ⟨v, ⟨(({ U with heap := s₂.heap, slotsUsed := s₂.slotsUsed } : State).setVm s₂.vm), Ls ++ L, c0 + mc, s0 + ms⟩,
      ⟨X.admits, X.cas, X.clock, X.frames, X.room, X.hears, X.method, X.code, (X.here.setHeapUsed s₂.heap s₂.slotsUsed).setVm hW'.alike, X.tail, State.WarmedH.trans X.warmed hW', X.limits, X.bytes, X.same.trans (hsame.setVm s.vm)⟩,
      ⟨g, mk, s₂, L, rfl, rfl, hqc, rfl, hL, rfl, rfl⟩, ?_⟩
    show Steps p.tables e below _ ((({ U with heap := s₂.heap, slotsUsed := s₂.slotsUsed } : State).setVm s₂.vm).setTop { g with pc := g.pc + len₂, stack := v.toList ++ g.stack })
    rw [← hs₂]
    exact hsteps
  · obtain ⟨e2, q2, q3, q4, q5, q6⟩ := id hsm
    have e3 : s₂ = ({ (U.calling g mk a).setFrames s₂.frames with heap := s₂.heap, slotsUsed := s₂.slotsUsed } : State).setVm s₂.vm := by
      have : s₂ = ({ s₂ with vm := (U.calling g mk a).vm } : State).setVm s₂.vm := rfl
      rw [e2] at this
      exact this
    have hf₂ : s₂.frames = .throwing q :: .java g :: U.frames.tail := hend
    have hW' : U.WarmedH s₂.vm := hW₂
    have hs₂ : s₂ = ((({ U with heap := s₂.heap, slotsUsed := s₂.slotsUsed } : State).setVm s₂.vm).setTop g).pushFrame (.throwing q) := by
      refine e3.trans ?_
      rw [hf₂, State.calling_eq h.top, State.setFrames_setFrames, State.pushFrame, State.frames_setTop _ hr', State.setTop_of_frames _ hr', State.setFrames_setFrames, hr]
      rfl
    have hsame : U.sameButNew ({ U with heap := s₂.heap, slotsUsed := s₂.slotsUsed } : State) L mc ms := by
      refine ⟨?_, q2, q3, q4, q5, q6⟩
      obtain ⟨t, ht, -⟩ := State.frames_cons hr
      show ({ U with heap := s₂.heap, slotsUsed := s₂.slotsUsed } : State) = { U.setFrames U.frames with heap := s₂.heap, slotsUsed := s₂.slotsUsed }
      rw [State.setFrames_self ht]
    subst hg
    refine Or.inr ⟨q, ⟨(({ U with heap := s₂.heap, slotsUsed := s₂.slotsUsed } : State).setVm s₂.vm), Ls ++ L, c0 + mc, s0 + ms⟩,
      ⟨X.admits, X.cas, X.clock, X.frames, X.room, X.hears, X.method, X.code, (X.here.setHeapUsed s₂.heap s₂.slotsUsed).setVm hW'.alike, X.tail, State.WarmedH.trans X.warmed hW', X.limits, X.bytes, X.same.trans (hsame.setVm s.vm)⟩,
      ⟨g, mk, s₂, L, E, ce, rfl, rfl, hx, hce, hcv, hcl, rfl, hL, rfl, rfl⟩, ?_⟩
    show Steps p.tables e below _ (((({ U with heap := s₂.heap, slotsUsed := s₂.slotsUsed } : State).setVm s₂.vm).setTop g).pushFrame (.throwing q))
    rw [← hs₂]
    exact hsteps
end
variable {p : Program} {l : Launch} {e : Env} {R : Room} {s : State} {m : MethodId} {args : Array Value} {below : List Frame} {meth : Method} {c : Code} {T : State} {H : Heap} {locs : List Loc} {cells slots : Nat}
theorem vx_callVX (X : Stand p l e R s m args below meth c T locs cells slots) (hexec : p.tables.exec = Jvm.exec) {own C : String} {index : Nat} {y : MethodName} {bytes : ByteArray} {maxL : Nat} {ret : Option FieldType} {hh : List (Nat × Nat × Nat × Nat)}
    (hown : s.vm.findClass own = some m.cls) (hlink : (Cond.methodLink own index y).before args s = true) (hinst : (Cond.instanceMethod y).before args s = true) (hsel : (Cond.selects C y y).before args s = true)
    (hcode : (Cond.codeWith y bytes maxL ret hh).before args s = true) (hy : y.cls ≠ "java/lang/invoke/MethodHandle" ∧ y.cls ≠ "java/lang/invoke/VarHandle")
    {W9 : Nat} {Pre : Pt → Array Value → Prop} {Post : Pt → Array Value → Option Value → Pt → Prop} {PostX : Pt → Array Value → Addr → Pt → Prop} (hK : vx_Back l R p e below s args y 3 W9 Pre Post PostX)
    {b : Addr} {cellB : Cell} (hcell : T.heap[b]? = some cellB) (hobj : cellB.vm.isStatics = false) (hcls : s.vm.findClass C = some cellB.cls)
    {g : JFrame} (hg : g.method = m) (hsize : g.locals.size = c.maxLocals) {argsL rest : List Value} (hlen : ∀ sig, parseMethodDescriptor y.desc = some sig → argsL.length = sig.parameters.length)
    (hstack : g.stack = argsL.reverse ++ .ref b :: rest) (hW : 2 * g.monitorRoom + (rest.map fun v => v.category).sum ≤ W9) (hdg : decode c.code g.pc = .ok (.invokevirtual index, 3))
    (hpre : ∀ vm₁, s.WarmedH vm₁ → Pre ⟨T.setVm vm₁, locs, cells, slots⟩ (Value.ref b :: argsL).toArray) :
    (∃ (v : Option Value) (vm₁ : Vm) (B : Pt), s.WarmedH vm₁ ∧ Stand p l e R s m args below meth c B.U B.locs B.cells B.slots ∧ Post ⟨T.setVm vm₁, locs, cells, slots⟩ (Value.ref b :: argsL).toArray v B ∧
      ∀ target, Steps p.tables e below (B.U.setTop { g with pc := g.pc + 3, stack := v.toList ++ rest }) target → Steps p.tables e below (T.setTop g) target) ∨
    (∃ (q : Addr) (vm₁ : Vm) (B : Pt), s.WarmedH vm₁ ∧ Stand p l e R s m args below meth c B.U B.locs B.cells B.slots ∧ PostX ⟨T.setVm vm₁, locs, cells, slots⟩ (Value.ref b :: argsL).toArray q B ∧
      Steps p.tables e below (T.setTop g) ((B.U.setTop { g with stack := rest }).pushFrame (.throwing q))) := by
  obtain ⟨mk, methM, hnamed, hmethM, hstM, habM⟩ := Cond.instanceMethod_spec hinst
  obtain ⟨m8, methM', cM, hn8, hmethM', -, -, -, -, -, -, hsigM⟩ := Cond.codeWith_spec hcode
  cases Option.some.inj (hn8.symm.trans hnamed)
  cases hmethM.symm.trans hmethM'
  obtain ⟨c2, r2, m2, q1, q2, q3, q4, kP, hkP, hkPi⟩ := Cond.selects_spec hsel
  cases hcls.symm.trans q1
  cases (State.methodFound?_of_named hnamed hy).symm.trans q2
  cases hnamed.symm.trans q3
  have hselP : selectMethod e.platform s.vm cellB.cls mk = .method mk := by rw [Launch.admits_selectMethod X.admits]; exact q4
  obtain ⟨vm₁, X₁, hstep₁⟩ := X.invokevirtual hexec hown hlink hnamed hmethM hstM hkP hkPi hy (a := b) (cell := cellB) hcell
    (fun z h => by rw [h] at hobj; cases hobj) hselP hmethM habM hkP hkPi (g := g) hg (argsL := argsL) (rest := rest) (hlen _ hsigM) hstack hdg
  rcases hK m meth c ⟨T.setVm vm₁, locs, cells, slots⟩ { g with stack := rest } (.invokevirtual index) mk (Value.ref b :: argsL).toArray X₁ hg hsize hdg hW (X₁.named hnamed) (hpre vm₁ X₁.warmed) with ⟨v, B, X', hpost, hsteps⟩ | ⟨q, B, X', hpost, hsteps⟩
  · exact Or.inl ⟨v, vm₁, B, X₁.warmed, X', hpost, fun target h => hstep₁ _ fun acts => by rw [doInvoke_state]; exact hsteps.trans h⟩
  · exact Or.inr ⟨q, vm₁, B, X₁.warmed, X', hpost, hstep₁ _ fun acts => by rw [doInvoke_state]; exact hsteps⟩
theorem vx_callSX (X : Stand p l e R s m args below meth c T locs cells slots) (hexec : p.tables.exec = Jvm.exec) {own : String} {index : Nat} {y : MethodName} {bytes : ByteArray} {maxL : Nat} {ret : Option FieldType} {hh : List (Nat × Nat × Nat × Nat)}
    (hown : s.vm.findClass own = some m.cls) (hlink : (Cond.methodLink own index y).before args s = true) (hstat : (Cond.static y).before args s = true) (hinit : (Cond.initialized y.cls).before args s = true)
    (hcode : (Cond.codeWith y bytes maxL ret hh).before args s = true) (hy : y.cls ≠ "java/lang/invoke/MethodHandle" ∧ y.cls ≠ "java/lang/invoke/VarHandle")
    {W9 : Nat} {Pre : Pt → Array Value → Prop} {Post : Pt → Array Value → Option Value → Pt → Prop} {PostX : Pt → Array Value → Addr → Pt → Prop} (hK : vx_Back l R p e below s args y 3 W9 Pre Post PostX)
    {g : JFrame} (hg : g.method = m) (hsize : g.locals.size = c.maxLocals) {argsL rest : List Value} (hlen : ∀ sig, parseMethodDescriptor y.desc = some sig → argsL.length = sig.parameters.length)
    (hstack : g.stack = argsL.reverse ++ rest) (hW : 2 * g.monitorRoom + (rest.map fun v => v.category).sum ≤ W9) (hdg : decode c.code g.pc = .ok (.invokestatic index, 3))
    (hpre : ∀ vm₁, s.WarmedH vm₁ → Pre ⟨T.setVm vm₁, locs, cells, slots⟩ argsL.toArray) :
    (∃ (v : Option Value) (vm₁ : Vm) (B : Pt), s.WarmedH vm₁ ∧ Stand p l e R s m args below meth c B.U B.locs B.cells B.slots ∧ Post ⟨T.setVm vm₁, locs, cells, slots⟩ argsL.toArray v B ∧
      ∀ target, Steps p.tables e below (B.U.setTop { g with pc := g.pc + 3, stack := v.toList ++ rest }) target → Steps p.tables e below (T.setTop g) target) ∨
    (∃ (q : Addr) (vm₁ : Vm) (B : Pt), s.WarmedH vm₁ ∧ Stand p l e R s m args below meth c B.U B.locs B.cells B.slots ∧ PostX ⟨T.setVm vm₁, locs, cells, slots⟩ argsL.toArray q B ∧
      Steps p.tables e below (T.setTop g) ((B.U.setTop { g with stack := rest }).pushFrame (.throwing q))) := by
  obtain ⟨mk, methM, cM, hnamed, hmethM, -, -, -, -, -, -, hsigM⟩ := Cond.codeWith_spec hcode
  have hstatic : methM.isStatic = true := Cond.static_spec hnamed hmethM hstat
  obtain ⟨kP, hkP, -⟩ := className_of_methodNamed hnamed
  have hinitP : kP.init = .initialized := Cond.initialized_spec (findClass_of_methodNamed hnamed) hkP hinit
  obtain ⟨vm₁, X₁, hstep₁⟩ := X.invokestatic hexec hown hlink hnamed hmethM hstatic hkP hinitP hy (g := g) hg (argsL := argsL) (rest := rest) (hlen _ hsigM) hstack hdg
  rcases hK m meth c ⟨T.setVm vm₁, locs, cells, slots⟩ { g with stack := rest } (.invokestatic index) mk argsL.toArray X₁ hg hsize hdg hW (X₁.named hnamed) (hpre vm₁ X₁.warmed) with ⟨v, B, X', hpost, hsteps⟩ | ⟨q, B, X', hpost, hsteps⟩
  · exact Or.inl ⟨v, vm₁, B, X₁.warmed, X', hpost, fun target h => hstep₁ _ fun acts => by rw [doInvoke_state]; exact hsteps.trans h⟩
  · exact Or.inr ⟨q, vm₁, B, X₁.warmed, X', hpost, hstep₁ _ fun acts => by rw [doInvoke_state]; exact hsteps⟩
theorem vx_callVW (X : Stand p l e R s m args below meth c T locs cells slots) (hexec : p.tables.exec = Jvm.exec) {own C : String} {index : Nat} {y : MethodName} {bytes : ByteArray} {maxL : Nat} {ret : Option FieldType} {hh : List (Nat × Nat × Nat × Nat)}
    (hown : s.vm.findClass own = some m.cls) (hlink : (Cond.methodLink own index y).before args s = true) (hinst : (Cond.instanceMethod y).before args s = true) (hsel : (Cond.selects C y y).before args s = true)
    (hcode : (Cond.codeWith y bytes maxL ret hh).before args s = true) (hy : y.cls ≠ "java/lang/invoke/MethodHandle" ∧ y.cls ≠ "java/lang/invoke/VarHandle")
    {W9 : Nat} {Pre : Pt → Array Value → Prop} {Post : Pt → Array Value → Option Value → Pt → Prop} (hK : Back l R p e below s args y 3 W9 Pre Post)
    {b : Addr} {cellB : Cell} (hcell : T.heap[b]? = some cellB) (hobj : cellB.vm.isStatics = false) (hcls : s.vm.findClass C = some cellB.cls)
    {g : JFrame} (hg : g.method = m) (hsize : g.locals.size = c.maxLocals) {argsL rest : List Value} (hlen : ∀ sig, parseMethodDescriptor y.desc = some sig → argsL.length = sig.parameters.length)
    (hstack : g.stack = argsL.reverse ++ .ref b :: rest) (hW : 2 * g.monitorRoom + (rest.map fun v => v.category).sum ≤ W9) (hdg : decode c.code g.pc = .ok (.invokevirtual index, 3))
    (hpre : ∀ vm₁, s.WarmedH vm₁ → Pre ⟨T.setVm vm₁, locs, cells, slots⟩ (Value.ref b :: argsL).toArray) :
    ∃ (v : Option Value) (vm₁ : Vm) (B : Pt), s.WarmedH vm₁ ∧ Stand p l e R s m args below meth c B.U B.locs B.cells B.slots ∧ Post ⟨T.setVm vm₁, locs, cells, slots⟩ (Value.ref b :: argsL).toArray v B ∧
      ∀ target, Steps p.tables e below (B.U.setTop { g with pc := g.pc + 3, stack := v.toList ++ rest }) target → Steps p.tables e below (T.setTop g) target := by
  obtain ⟨mk, methM, hnamed, hmethM, hstM, habM⟩ := Cond.instanceMethod_spec hinst
  obtain ⟨m8, methM', cM, hn8, hmethM', -, -, -, -, -, -, hsigM⟩ := Cond.codeWith_spec hcode
  cases Option.some.inj (hn8.symm.trans hnamed)
  cases hmethM.symm.trans hmethM'
  obtain ⟨c2, r2, m2, q1, q2, q3, q4, kP, hkP, hkPi⟩ := Cond.selects_spec hsel
  cases hcls.symm.trans q1
  cases (State.methodFound?_of_named hnamed hy).symm.trans q2
  cases hnamed.symm.trans q3
  have hselP : selectMethod e.platform s.vm cellB.cls mk = .method mk := by rw [Launch.admits_selectMethod X.admits]; exact q4
  obtain ⟨vm₁, X₁, hstep₁⟩ := X.invokevirtual hexec hown hlink hnamed hmethM hstM hkP hkPi hy (a := b) (cell := cellB) hcell
    (fun z h => by rw [h] at hobj; cases hobj) hselP hmethM habM hkP hkPi (g := g) hg (argsL := argsL) (rest := rest) (hlen _ hsigM) hstack hdg
  obtain ⟨v, B, X', hpost, hsteps⟩ := hK m meth c ⟨T.setVm vm₁, locs, cells, slots⟩ { g with stack := rest } (.invokevirtual index) mk (Value.ref b :: argsL).toArray X₁ hg hsize hdg hW (X₁.named hnamed) (hpre vm₁ X₁.warmed)
  exact ⟨v, vm₁, B, X₁.warmed, X', hpost, fun target h => hstep₁ _ fun acts => by rw [doInvoke_state]; exact hsteps.trans h⟩
abbrev vx_CVW (R : Room) (s : State) (args : Array Value) (own C : String) (index : Nat) (y : MethodName) (bytes : ByteArray) (maxL : Nat) (ret : Option FieldType) (hh : List (Nat × Nat × Nat × Nat)) (ws : List Cond) (rm : Room) (mc ms n : Nat) : Prop :=
  (rm.cells = mc ∧ rm.slots = ms ∧ rm.frames + 1 ≤ R.frames ∧ 8 + (maxL + 11) + rm.locals ≤ R.locals ∧ (∀ w ∈ ws, ∀ (a' : Array Value) (U : State), s.WarmedH U.vm → w.before a' U = true) ∧ Cond.codeWith y bytes maxL ret hh ∈ ws) ∧
  (Cond.codeWith y bytes maxL ret hh).before args s = true ∧ (Cond.initialized y.cls).before args s = true ∧ (y.cls ≠ "java/lang/invoke/MethodHandle" ∧ y.cls ≠ "java/lang/invoke/VarHandle") ∧
  (∀ sig, parseMethodDescriptor y.desc = some sig → n = sig.parameters.length) ∧ (Cond.methodLink own index y).before args s = true ∧ (Cond.instanceMethod y).before args s = true ∧ (Cond.selects C y y).before args s = true
theorem vx_cwVW {own C : String} {index maxL mc ms : Nat} {y : MethodName} {bytes : ByteArray} {ret : Option FieldType} {hh : List (Nat × Nat × Nat × Nat)} {Ts ws ws' : List Cond} {rm : Room} (n : Nat) (ht : ∀ w ∈ Ts, w.before args s = true) (hT : GoodIn Ts (wsV own index C y ws)) (hw : ws = Cond.codeWith y bytes maxL ret hh :: ws') (hrc : rm.cells = mc) (hrs : rm.slots = ms)
    (hd : y.cls = C ∧ y.cls ≠ "java/lang/invoke/MethodHandle" ∧ y.cls ≠ "java/lang/invoke/VarHandle" ∧ (parseMethodDescriptor y.desc).map (fun d => d.parameters.length) = some n) (hR : rm.frames + 1 ≤ R.frames ∧ 8 + (maxL + 11) + rm.locals ≤ R.locals) :
    vx_CVW R s args own C index y bytes maxL ret hh ws rm mc ms n := by
  obtain ⟨hC, hd⟩ := hd
  subst hC
  have ok : ∀ w ∈ wsV own index y.cls y ws, w.before args s = true := fun w h => ht w (hT w h).1
  have hG : GoodIn Ts ws := fun w h => hT w (by unfold wsV; exact List.mem_append_right _ h)
  have hc : Cond.codeWith y bytes maxL ret hh ∈ ws := by rw [hw]; exact List.mem_cons_self
  refine ⟨⟨hrc, hrs, hR.1, hR.2, pay_in ht hG, hc⟩, ht _ (hG _ hc).1, ok _ (by simp [wsV]), ⟨hd.1, hd.2.1⟩, fun sig h => ?_, ok _ (by simp [wsV]), ok _ (by simp [wsV]), ok _ (by simp [wsV])⟩
  have h2 := hd.2.2
  rw [h] at h2
  exact (Option.some.inj h2).symm
theorem vx_runVW {y : MethodName} {bytes cc : ByteArray} {maxL nL mc ms n index : Nat} {ret : Option FieldType} {hh : List (Nat × Nat × Nat × Nat)} {ws : List Cond} {rm : Room} {Pc : Array Value → State → Prop} {Qc : Array Value → State → Outcome → State → Prop} {free : Addr → Prop} {Ts : List Cond} {own C : String} {b : Addr} {As rest : List Value} {g : JFrame}
    (S : CallFix p m c cc nL s args Ts own) (hM : Met l y ws rm Pc Qc mc ms free) (cw : vx_CVW R s args own C index y bytes maxL ret hh ws rm mc ms n) (hp : PreV s H C b Pc As)
    (hg : g.method = m) (hn : As.length = n) (hsize : g.locals.size = nL) (hstack : g.stack = As.reverse ++ .ref b :: rest) (hW : 2 * g.monitorRoom + (rest.map fun v => v.category).sum ≤ 8) (hdg : decode cc g.pc = .ok (.invokevirtual index, 3)) (hf : cells + mc ≤ R.cells ∧ slots + ms ≤ R.slots) :
    va_Run p l e R s m args below meth c H locs cells slots mc ms g rest (Qc (Value.ref b :: As).toArray) free := by
  obtain ⟨⟨hrc, hrs, hfr, hlo, hws, hcw⟩, hcode, hini, hy, hlen, hl, hin, hse⟩ := cw
  have hK : Back l R p e below s args y 3 8 (PreOf R mc ms Pc) (PostOf Qc mc ms free) := va_backW (hh := hh) (bytes := bytes) (maxL := maxL) (ret := ret) hM hp.1 hrc hrs hfr hlo hws hcw (fun a' U hW => word_at hW (Or.inl (by first | rfl | simp [Cond.onTables, Cond.keeps, Cond.steady])) hini)
  obtain ⟨hx, hb, hml, ho, -⟩ := S
  obtain ⟨-, ⟨cellB, hcB, hoB, hclB⟩, hPc⟩ := hp
  intro T hT X
  obtain ⟨v, vm₁, ⟨U', l2, c2, s2⟩, hW₁, X', ⟨g', mk, t, L, e1, e2, hq, h1, hL, h2, h3⟩, st⟩ := vx_callVW X hx (C := C) (hh := hh) (bytes := bytes) (maxL := maxL) (ret := ret) ho hl hin hse hcode hy hK (by rw [hT]; exact hcB) hoB hclB hg (hsize.trans hml.symm) (argsL := As) (rest := rest) (fun sig h => hn.trans (hlen sig h)) hstack hW (by rw [hb]; exact hdg)
    (fun vm₁ hW₁ => ⟨hf.1, hf.2, hPc (T.setVm vm₁) hT hW₁⟩)
  dsimp only [Pt.U, Pt.locs, Pt.cells, Pt.slots] at X' e1 e2 h1 h2 h3 st
  subst h1; subst h2; subst h3
  exact ⟨v, (T.setVm vm₁).calling g' mk (Value.ref b :: As).toArray, t, U', L, hT, X', hL, e1, e2, hq, st⟩
section
variable {y : MethodName} {bytes cc : ByteArray} {maxL nL mc ms n index : Nat} {ret : Option FieldType} {ws : List Cond} {rm : Room} {Pc : Array Value → State → Prop} {Qc : Array Value → State → Outcome → State → Prop} {XC : String → State → State → Prop} {free : Addr → Prop} {Ts : List Cond} {own C : String} {b : Addr} {As rest : List Value} {g : JFrame}
theorem vx_runVX {hh : List (Nat × Nat × Nat × Nat)} (S : CallFix p m c cc nL s args Ts own) (hM : vx_Met l y ws rm Pc Qc XC mc ms free) (cw : vx_CVW R s args own C index y bytes maxL ret hh ws rm mc ms n) (hp : PreV s H C b Pc As)
    (hg : g.method = m) (hn : As.length = n) (hsize : g.locals.size = nL) (hstack : g.stack = As.reverse ++ .ref b :: rest) (hW : 2 * g.monitorRoom + (rest.map fun v => v.category).sum ≤ 8) (hdg : decode cc g.pc = .ok (.invokevirtual index, 3)) (hf : cells + mc ≤ R.cells ∧ slots + ms ≤ R.slots) :
    vx_Run p l e R s m args below meth c H locs cells slots mc ms g rest (Qc (Value.ref b :: As).toArray) XC free := by
  obtain ⟨⟨hrc, hrs, hfr, hlo, hws, hcw⟩, hcode, hini, hy, hlen, hl, hin, hse⟩ := cw
  have hK : vx_Back l R p e below s args y 3 8 (PreOf R mc ms Pc) (PostOf Qc mc ms free) (vx_Post XC mc ms free) := vx_backW (hh := hh) (bytes := bytes) (maxL := maxL) (ret := ret) hM hp.1 hrc hrs hfr hlo hws hcw (fun a' U hW => word_at hW (Or.inl (by first | rfl | simp [Cond.onTables, Cond.keeps, Cond.steady])) hini)
  obtain ⟨hx, hb, hml, ho, -⟩ := S
  obtain ⟨-, ⟨cellB, hcB, hoB, hclB⟩, hPc⟩ := hp
  intro T hT X
  rcases vx_callVX X hx (C := C) (hh := hh) (bytes := bytes) (maxL := maxL) (ret := ret) ho hl hin hse hcode hy hK (by rw [hT]; exact hcB) hoB hclB hg (hsize.trans hml.symm) (argsL := As) (rest := rest) (fun sig h => hn.trans (hlen sig h)) hstack hW (by rw [hb]; exact hdg)
    (fun vm₁ hW₁ => ⟨hf.1, hf.2, hPc (T.setVm vm₁) hT hW₁⟩) with ⟨v, vm₁, ⟨U', l2, c2, s2⟩, hW₁, X', ⟨g', mk, t, L, e1, e2, hq, h1, hL, h2, h3⟩, st⟩ | ⟨q, vm₁, ⟨U', l2, c2, s2⟩, hW₁, X', ⟨g', mk, t, L, E, ce, e1, e2, hq, hce, hcv, hcl, h1, hL, h2, h3⟩, st⟩
  · dsimp only [Pt.U, Pt.locs, Pt.cells, Pt.slots] at X' e1 e2 h1 h2 h3 st
    subst h1; subst h2; subst h3
    exact Or.inl ⟨v, (T.setVm vm₁).calling g' mk (Value.ref b :: As).toArray, t, U', L, hT, X', hL, e1, e2, hq, st⟩
  · dsimp only [Pt.U, Pt.locs, Pt.cells, Pt.slots] at X' e1 e2 h1 h2 h3 st hcl
    subst h1; subst h2; subst h3
    exact Or.inr ⟨q, (T.setVm vm₁).calling g' mk (Value.ref b :: As).toArray, t, U', L, E, ce, hT, X', hL, e1, e2, hq, hce, hcv, vx_cls hW₁ hcl, st⟩
theorem vx_runSX {hh : List (Nat × Nat × Nat × Nat)} (S : CallFix p m c cc nL s args Ts own) (hM : vx_Met l y ws rm Pc Qc XC mc ms free) (cw : vx_CSW R s args own index y bytes maxL ret hh ws rm mc ms n) (hp : PreS s H Pc As)
    (hg : g.method = m) (hn : As.length = n) (hsize : g.locals.size = nL) (hstack : g.stack = As.reverse ++ rest) (hW : 2 * g.monitorRoom + (rest.map fun v => v.category).sum ≤ 8) (hdg : decode cc g.pc = .ok (.invokestatic index, 3)) (hf : cells + mc ≤ R.cells ∧ slots + ms ≤ R.slots) :
    vx_Run p l e R s m args below meth c H locs cells slots mc ms g rest (Qc As.toArray) XC free := by
  obtain ⟨⟨hrc, hrs, hfr, hlo, hws, hcw⟩, hcode, hini, hy, hlen, hl, hstt⟩ := cw
  have hK : vx_Back l R p e below s args y 3 8 (PreOf R mc ms Pc) (PostOf Qc mc ms free) (vx_Post XC mc ms free) := vx_backW (hh := hh) (bytes := bytes) (maxL := maxL) (ret := ret) hM hp.1 hrc hrs hfr hlo hws hcw (fun a' U hW => word_at hW (Or.inl (by first | rfl | simp [Cond.onTables, Cond.keeps, Cond.steady])) hini)
  obtain ⟨hx, hb, hml, ho, -⟩ := S
  intro T hT X
  rcases vx_callSX X hx (hh := hh) (bytes := bytes) (maxL := maxL) (ret := ret) ho hl hstt hini hcode hy hK hg (hsize.trans hml.symm) (argsL := As) (rest := rest) (fun sig h => hn.trans (hlen sig h)) hstack hW (by rw [hb]; exact hdg)
    (fun vm₁ hW₁ => ⟨hf.1, hf.2, hp.2 (T.setVm vm₁) hT hW₁⟩) with ⟨v, vm₁, ⟨U', l2, c2, s2⟩, hW₁, X', ⟨g', mk, t, L, e1, e2, hq, h1, hL, h2, h3⟩, st⟩ | ⟨q, vm₁, ⟨U', l2, c2, s2⟩, hW₁, X', ⟨g', mk, t, L, E, ce, e1, e2, hq, hce, hcv, hcl, h1, hL, h2, h3⟩, st⟩
  · dsimp only [Pt.U, Pt.locs, Pt.cells, Pt.slots] at X' e1 e2 h1 h2 h3 st
    subst h1; subst h2; subst h3
    exact Or.inl ⟨v, (T.setVm vm₁).calling g' mk As.toArray, t, U', L, hT, X', hL, e1, e2, hq, st⟩
  · dsimp only [Pt.U, Pt.locs, Pt.cells, Pt.slots] at X' e1 e2 h1 h2 h3 st hcl
    subst h1; subst h2; subst h3
    exact Or.inr ⟨q, (T.setVm vm₁).calling g' mk As.toArray, t, U', L, E, ce, hT, X', hL, e1, e2, hq, hce, hcv, vx_cls hW₁ hcl, st⟩
end
end VXH
theorem vx_ofWH {l : Launch} {y : MethodName} {ws ws' : List Cond} {rm : Room} {Pc : Array Value → State → Prop} {Qc : Array Value → State → Outcome → State → Prop} {XC : String → State → State → Prop} {mc ms : Nat} {free : Addr → Prop} {cc : ByteArray} {maxL : Nat} {ret : Option FieldType} {hh : List (Nat × Nat × Nat × Nat)}
    (hy : plainName y.cls = true) (hw : ws = Cond.codeWith y cc maxL ret hh :: ws')
    (body : ∀ p e s m args below meth c s₁, BodyLoose p l y (headSpec ws rm) cc maxL ret e s m args below meth c s₁ → c.maxLocals = maxL → Pc args s →
      W p l e (headSpec ws rm).room s m args below meth c s.heap [] 0 0 (vx_MQ below Qc XC args s mc ms free) (entryFrame m args maxL)) : vx_Met l y ws rm Pc Qc XC mc ms free := by
  refine MetFree.of_bodyS (code := cc) (maxLocals := maxL) (ret := ret) hy ?_ ?_
  · intro args s m h hn
    obtain ⟨m9, meth, c, hn9, h1, h2, h3, h4, -, h5, h6, -⟩ := Cond.codeWith_spec (atoms_spec (ws := ws) h _ (by rw [hw]; exact List.mem_cons_self))
    cases hn.symm.trans hn9
    exact ⟨meth, c, h1, h2, h3, h4, h5, h6⟩
  · intro p e s m args below meth c s₁ B hml hP _
    have hh0 : s₁.heap = s.heap := by rw [B.state]; rfl
    obtain ⟨t, a1, o, b1, b2, b3⟩ := body p e s m args below meth c s₁ B hml hP s₁ hh0 (Stand.of_body B)
    exact ⟨t, o, a1, b1, b2, b3⟩
/-! ===== END ===== -/

/-! ===== BEGIN a private method of a nest mate that may throw (follows va_callVN, va_callSN, va_runVN, va_runSN) ===== -/
section
variable {p : Program} {l : Launch} {e : Env} {R : Room} {s : State} {m : MethodId} {args : Array Value} {below : List Frame} {meth : Method} {c : Code} {H : Heap} {locs : List Loc} {cells slots : Nat}
variable {T : State}
theorem vx_callVN (X : Stand p l e R s m args below meth c T locs cells slots) (hexec : p.tables.exec = Jvm.exec) {own C : String} {index : Nat} {host : String} {y : MethodName} {bytes : ByteArray} {maxL : Nat} {ret : Option FieldType}
    (hown : s.vm.findClass own = some m.cls) (hlink : (Cond.methodLinkNest own index y host).before args s = true) (hinst : (Cond.instanceMethod y).before args s = true) (hsel : (Cond.selects C y y).before args s = true)
    (hcode : (Cond.code y bytes maxL ret).before args s = true) (hy : y.cls ≠ "java/lang/invoke/MethodHandle" ∧ y.cls ≠ "java/lang/invoke/VarHandle")
    {W : Nat} {Pre : Pt → Array Value → Prop} {Post : Pt → Array Value → Option Value → Pt → Prop} {PostX : Pt → Array Value → Addr → Pt → Prop} (hK : vx_Back l R p e below s args y 3 W Pre Post PostX)
    {b : Addr} {cellB : Cell} (hcell : T.heap[b]? = some cellB) (hobj : cellB.vm.isStatics = false) (hcls : s.vm.findClass C = some cellB.cls)
    {g : JFrame} (hg : g.method = m) (hsize : g.locals.size = c.maxLocals) {argsL rest : List Value} (hlen : ∀ sig, parseMethodDescriptor y.desc = some sig → argsL.length = sig.parameters.length)
    (hstack : g.stack = argsL.reverse ++ .ref b :: rest) (hW : 2 * g.monitorRoom + (rest.map fun v => v.category).sum ≤ W) (hdg : decode c.code g.pc = .ok (.invokevirtual index, 3))
    (hpre : ∀ vm₁, s.WarmedH vm₁ → Pre ⟨T.setVm vm₁, locs, cells, slots⟩ (Value.ref b :: argsL).toArray) :
    (∃ (v : Option Value) (vm₁ : Vm) (B : Pt), s.WarmedH vm₁ ∧ Stand p l e R s m args below meth c B.U B.locs B.cells B.slots ∧ Post ⟨T.setVm vm₁, locs, cells, slots⟩ (Value.ref b :: argsL).toArray v B ∧
      ∀ target, Steps p.tables e below (B.U.setTop { g with pc := g.pc + 3, stack := v.toList ++ rest }) target → Steps p.tables e below (T.setTop g) target) ∨
    (∃ (q : Addr) (vm₁ : Vm) (B : Pt), s.WarmedH vm₁ ∧ Stand p l e R s m args below meth c B.U B.locs B.cells B.slots ∧ PostX ⟨T.setVm vm₁, locs, cells, slots⟩ (Value.ref b :: argsL).toArray q B ∧
      Steps p.tables e below (T.setTop g) ((B.U.setTop { g with stack := rest }).pushFrame (.throwing q))) := by
  obtain ⟨mk, methM, hnamed, hmethM, hstM, habM⟩ := Cond.instanceMethod_spec hinst
  obtain ⟨methM', cM, hmethM', -, -, -, -, -, -, hsigM⟩ := Cond.code_spec hnamed hcode
  cases hmethM.symm.trans hmethM'
  obtain ⟨c2, r2, m2, q1, q2, q3, q4, kP, hkP, hkPi⟩ := Cond.selects_spec hsel
  cases hcls.symm.trans q1
  cases (State.methodFound?_of_named hnamed hy).symm.trans q2
  cases hnamed.symm.trans q3
  have hselP : selectMethod e.platform s.vm cellB.cls mk = .method mk := by rw [Launch.admits_selectMethod X.admits]; exact q4
  obtain ⟨vm₁, X₁, hstep₁⟩ := X.invokevirtualNest hexec hown hlink hnamed hmethM hstM hkP hkPi hy (a := b) (cell := cellB) hcell
    (fun z h => by rw [h] at hobj; cases hobj) hselP hmethM habM hkP hkPi (g := g) hg (argsL := argsL) (rest := rest) (hlen _ hsigM) hstack hdg
  rcases hK m meth c ⟨T.setVm vm₁, locs, cells, slots⟩ { g with stack := rest } (.invokevirtual index) mk (Value.ref b :: argsL).toArray X₁ hg hsize hdg hW (X₁.named hnamed) (hpre vm₁ X₁.warmed) with ⟨v, B, X', hpost, hsteps⟩ | ⟨q, B, X', hpost, hsteps⟩
  · exact Or.inl ⟨v, vm₁, B, X₁.warmed, X', hpost, fun target h => hstep₁ _ fun acts => by rw [doInvoke_state]; exact hsteps.trans h⟩
  · exact Or.inr ⟨q, vm₁, B, X₁.warmed, X', hpost, hstep₁ _ fun acts => by rw [doInvoke_state]; exact hsteps⟩
theorem vx_callSN (X : Stand p l e R s m args below meth c T locs cells slots) (hexec : p.tables.exec = Jvm.exec) {own : String} {index : Nat} {host : String} {y : MethodName} {bytes : ByteArray} {maxL : Nat} {ret : Option FieldType}
    (hown : s.vm.findClass own = some m.cls) (hlink : (Cond.methodLinkNest own index y host).before args s = true) (hstat : (Cond.static y).before args s = true) (hinit : (Cond.initialized y.cls).before args s = true)
    (hcode : (Cond.code y bytes maxL ret).before args s = true) (hy : y.cls ≠ "java/lang/invoke/MethodHandle" ∧ y.cls ≠ "java/lang/invoke/VarHandle")
    {W : Nat} {Pre : Pt → Array Value → Prop} {Post : Pt → Array Value → Option Value → Pt → Prop} {PostX : Pt → Array Value → Addr → Pt → Prop} (hK : vx_Back l R p e below s args y 3 W Pre Post PostX)
    {g : JFrame} (hg : g.method = m) (hsize : g.locals.size = c.maxLocals) {argsL rest : List Value} (hlen : ∀ sig, parseMethodDescriptor y.desc = some sig → argsL.length = sig.parameters.length)
    (hstack : g.stack = argsL.reverse ++ rest) (hW : 2 * g.monitorRoom + (rest.map fun v => v.category).sum ≤ W) (hdg : decode c.code g.pc = .ok (.invokestatic index, 3))
    (hpre : ∀ vm₁, s.WarmedH vm₁ → Pre ⟨T.setVm vm₁, locs, cells, slots⟩ argsL.toArray) :
    (∃ (v : Option Value) (vm₁ : Vm) (B : Pt), s.WarmedH vm₁ ∧ Stand p l e R s m args below meth c B.U B.locs B.cells B.slots ∧ Post ⟨T.setVm vm₁, locs, cells, slots⟩ argsL.toArray v B ∧
      ∀ target, Steps p.tables e below (B.U.setTop { g with pc := g.pc + 3, stack := v.toList ++ rest }) target → Steps p.tables e below (T.setTop g) target) ∨
    (∃ (q : Addr) (vm₁ : Vm) (B : Pt), s.WarmedH vm₁ ∧ Stand p l e R s m args below meth c B.U B.locs B.cells B.slots ∧ PostX ⟨T.setVm vm₁, locs, cells, slots⟩ argsL.toArray q B ∧
      Steps p.tables e below (T.setTop g) ((B.U.setTop { g with stack := rest }).pushFrame (.throwing q))) := by
  obtain ⟨mk, hnamed⟩ := Cond.code_named hcode
  obtain ⟨methM, cM, hmethM, -, -, -, -, -, -, hsigM⟩ := Cond.code_spec hnamed hcode
  have hstatic : methM.isStatic = true := Cond.static_spec hnamed hmethM hstat
  obtain ⟨kP, hkP, -⟩ := className_of_methodNamed hnamed
  have hinitP : kP.init = .initialized := Cond.initialized_spec (findClass_of_methodNamed hnamed) hkP hinit
  obtain ⟨vm₁, X₁, hstep₁⟩ := X.invokestaticNest hexec hown hlink hnamed hmethM hstatic hkP hinitP hy (g := g) hg (argsL := argsL) (rest := rest) (hlen _ hsigM) hstack hdg
  rcases hK m meth c ⟨T.setVm vm₁, locs, cells, slots⟩ { g with stack := rest } (.invokestatic index) mk argsL.toArray X₁ hg hsize hdg hW (X₁.named hnamed) (hpre vm₁ X₁.warmed) with ⟨v, B, X', hpost, hsteps⟩ | ⟨q, B, X', hpost, hsteps⟩
  · exact Or.inl ⟨v, vm₁, B, X₁.warmed, X', hpost, fun target h => hstep₁ _ fun acts => by rw [doInvoke_state]; exact hsteps.trans h⟩
  · exact Or.inr ⟨q, vm₁, B, X₁.warmed, X', hpost, hstep₁ _ fun acts => by rw [doInvoke_state]; exact hsteps⟩
theorem vx_runVN {y : MethodName} {bytes cc : ByteArray} {maxL nL mc ms n index : Nat} {ret : Option FieldType} {ws : List Cond} {rm : Room} {Pc : Array Value → State → Prop} {Qc : Array Value → State → Outcome → State → Prop} {XC : String → State → State → Prop} {free : Addr → Prop} {Ts : List Cond} {own C host : String} {b : Addr} {As rest : List Value} {g : JFrame}
    (S : CallFix p m c cc nL s args Ts own) (hM : vx_Met l y ws rm Pc Qc XC mc ms free) (cw : va_CN R s args own index y host bytes maxL ret ws rm mc ms n ∧ (Cond.instanceMethod y).before args s = true ∧ (Cond.selects C y y).before args s = true) (hp : PreV s H C b Pc As)
    (hg : g.method = m) (hn : As.length = n) (hsize : g.locals.size = nL) (hstack : g.stack = As.reverse ++ .ref b :: rest) (hW : 2 * g.monitorRoom + (rest.map fun v => v.category).sum ≤ 8) (hdg : decode cc g.pc = .ok (.invokevirtual index, 3)) (hf : cells + mc ≤ R.cells ∧ slots + ms ≤ R.slots) :
    vx_Run p l e R s m args below meth c H locs cells slots mc ms g rest (Qc (Value.ref b :: As).toArray) XC free := by
  obtain ⟨⟨⟨hrc, hrs, hfr, hlo, hws, hcw⟩, hcode, hini, hy, hlen, hl⟩, hx1, hx2⟩ := cw
  have hK : vx_Back l R p e below s args y 3 8 (PreOf R mc ms Pc) (PostOf Qc mc ms free) (vx_Post XC mc ms free) := vx_back (bytes := bytes) (maxL := maxL) (ret := ret) hM hp.1 hrc hrs hfr hlo hws hcw (fun a' U hW => word_at hW (Or.inl (by first | rfl | simp [Cond.onTables, Cond.keeps, Cond.steady])) hini)
  obtain ⟨hx, hb, hml, ho, -⟩ := S
  obtain ⟨-, ⟨cellB, hcB, hoB, hclB⟩, hPc⟩ := hp
  intro T hT X
  rcases vx_callVN X hx (C := C) (bytes := bytes) (maxL := maxL) (ret := ret) ho hl hx1 hx2 hcode hy hK (by rw [hT]; exact hcB) hoB hclB hg (hsize.trans hml.symm) (argsL := As) (rest := rest) (fun sig h => hn.trans (hlen sig h)) hstack hW (by rw [hb]; exact hdg)
    (fun vm₁ hW₁ => ⟨hf.1, hf.2, hPc (T.setVm vm₁) hT hW₁⟩) with ⟨v, vm₁, ⟨U', l2, c2, s2⟩, hW₁, X', ⟨g', mk, t, L, e1, e2, hq, h1, hL, h2, h3⟩, st⟩ | ⟨q, vm₁, ⟨U', l2, c2, s2⟩, hW₁, X', ⟨g', mk, t, L, E, ce, e1, e2, hq, hce, hcv, hcl, h1, hL, h2, h3⟩, st⟩
  · dsimp only [Pt.U, Pt.locs, Pt.cells, Pt.slots] at X' e1 e2 h1 h2 h3 st
    subst h1; subst h2; subst h3
    exact Or.inl ⟨v, (T.setVm vm₁).calling g' mk (Value.ref b :: As).toArray, t, U', L, hT, X', hL, e1, e2, hq, st⟩
  · dsimp only [Pt.U, Pt.locs, Pt.cells, Pt.slots] at X' e1 e2 h1 h2 h3 st hcl
    subst h1; subst h2; subst h3
    exact Or.inr ⟨q, (T.setVm vm₁).calling g' mk (Value.ref b :: As).toArray, t, U', L, E, ce, hT, X', hL, e1, e2, hq, hce, hcv, vx_cls hW₁ hcl, st⟩
theorem vx_runSN {y : MethodName} {bytes cc : ByteArray} {maxL nL mc ms n index : Nat} {ret : Option FieldType} {ws : List Cond} {rm : Room} {Pc : Array Value → State → Prop} {Qc : Array Value → State → Outcome → State → Prop} {XC : String → State → State → Prop} {free : Addr → Prop} {Ts : List Cond} {own host : String} {As rest : List Value} {g : JFrame}
    (S : CallFix p m c cc nL s args Ts own) (hM : vx_Met l y ws rm Pc Qc XC mc ms free) (cw : va_CN R s args own index y host bytes maxL ret ws rm mc ms n ∧ (Cond.static y).before args s = true ∧ True) (hp : PreS s H Pc As)
    (hg : g.method = m) (hn : As.length = n) (hsize : g.locals.size = nL) (hstack : g.stack = As.reverse ++ rest) (hW : 2 * g.monitorRoom + (rest.map fun v => v.category).sum ≤ 8) (hdg : decode cc g.pc = .ok (.invokestatic index, 3)) (hf : cells + mc ≤ R.cells ∧ slots + ms ≤ R.slots) :
    vx_Run p l e R s m args below meth c H locs cells slots mc ms g rest (Qc As.toArray) XC free := by
  obtain ⟨⟨⟨hrc, hrs, hfr, hlo, hws, hcw⟩, hcode, hini, hy, hlen, hl⟩, hx1, hx2⟩ := cw
  have hK : vx_Back l R p e below s args y 3 8 (PreOf R mc ms Pc) (PostOf Qc mc ms free) (vx_Post XC mc ms free) := vx_back (bytes := bytes) (maxL := maxL) (ret := ret) hM hp.1 hrc hrs hfr hlo hws hcw (fun a' U hW => word_at hW (Or.inl (by first | rfl | simp [Cond.onTables, Cond.keeps, Cond.steady])) hini)
  obtain ⟨hx, hb, hml, ho, -⟩ := S
  have hPc := hp.2
  intro T hT X
  rcases vx_callSN X hx (bytes := bytes) (maxL := maxL) (ret := ret) ho hl hx1 hini hcode hy hK hg (hsize.trans hml.symm) (argsL := As) (rest := rest) (fun sig h => hn.trans (hlen sig h)) hstack hW (by rw [hb]; exact hdg)
    (fun vm₁ hW₁ => ⟨hf.1, hf.2, hPc (T.setVm vm₁) hT hW₁⟩) with ⟨v, vm₁, ⟨U', l2, c2, s2⟩, hW₁, X', ⟨g', mk, t, L, e1, e2, hq, h1, hL, h2, h3⟩, st⟩ | ⟨q, vm₁, ⟨U', l2, c2, s2⟩, hW₁, X', ⟨g', mk, t, L, E, ce, e1, e2, hq, hce, hcv, hcl, h1, hL, h2, h3⟩, st⟩
  · dsimp only [Pt.U, Pt.locs, Pt.cells, Pt.slots] at X' e1 e2 h1 h2 h3 st
    subst h1; subst h2; subst h3
    exact Or.inl ⟨v, (T.setVm vm₁).calling g' mk As.toArray, t, U', L, hT, X', hL, e1, e2, hq, st⟩
  · dsimp only [Pt.U, Pt.locs, Pt.cells, Pt.slots] at X' e1 e2 h1 h2 h3 st hcl
    subst h1; subst h2; subst h3
    exact Or.inr ⟨q, (T.setVm vm₁).calling g' mk As.toArray, t, U', L, E, ce, hT, X', hL, e1, e2, hq, hce, hcv, vx_cls hW₁ hcl, st⟩
end
/-! ===== END ===== -/
end
section
def RX0 : String := "HiveKeys$Cells"
def TX0 : u_T := fun k => match k with
  | 0 => ("HiveKeys$Cells", "file", "LHiveKeys$Image;", true)
  | 1 => ("HiveKeys$Cells", "wantedSizes", "[I", true)
  | 2 => ("HiveKeys$Cells", "gotPlaces", "[I", true)
  | 3 => ("HiveKeys$Cells", "sizesBefore", "[I", true)
  | 4 => ("HiveKeys$Cells", "wantedCount", "I", false)
  | _ => ("HiveKeys$Cells", "dirtySectors", "J", false)
def tyX0 : Nat → FieldType := fun k => match k with
  | 0 => .object "HiveKeys$Image"
  | 1 => .array .int
  | 2 => .array .int
  | 3 => .array .int
  | 4 => .int
  | _ => .long
abbrev wsX00 : List Cond := u_ws RX0 TX0 6
theorem nmX0 : ∀ a, a < 6 → ∀ b, b < 6 → a ≠ b → (TX0 a).2.1 ≠ (TX0 b).2.1 := by decide +kernel
theorem tyX0_ok : ∀ k, k < 6 → parseFieldDescriptor (TX0 k).2.2.1 = some (tyX0 k) := by decide +kernel
abbrev cX0_init : ByteArray := prog_2_method_1_code
def yX0_init : MethodName := ⟨RX0, "<init>", "(LHiveKeys$Image;)V"⟩
abbrev cX0_wantNothing : ByteArray := prog_2_method_2_code
def yX0_wantNothing : MethodName := ⟨RX0, "wantNothing", "()V"⟩
abbrev cX0_want : ByteArray := prog_2_method_3_code
def yX0_want : MethodName := ⟨RX0, "want", "(I)V"⟩
abbrev cX0_getAllWanted : ByteArray := prog_2_method_4_code
def yX0_getAllWanted : MethodName := ⟨RX0, "getAllWanted", "()Z"⟩
abbrev cX0_got : ByteArray := prog_2_method_5_code
def yX0_got : MethodName := ⟨RX0, "got", "(I)I"⟩
abbrev cX0_giveBack : ByteArray := prog_2_method_6_code
def yX0_giveBack : MethodName := ⟨RX0, "giveBack", "(I)I"⟩
abbrev cX0_markWritten : ByteArray := prog_2_method_7_code
def yX0_markWritten : MethodName := ⟨RX0, "markWritten", "(I)V"⟩
abbrev cX0_forgetDirty : ByteArray := prog_2_method_8_code
def yX0_forgetDirty : MethodName := ⟨RX0, "forgetDirty", "()V"⟩
abbrev cX0_unitsInUse : ByteArray := prog_2_method_9_code
def yX0_unitsInUse : MethodName := ⟨RX0, "unitsInUse", "()I"⟩
abbrev cX0_getCell : ByteArray := prog_2_method_10_code
def yX0_getCell : MethodName := ⟨RX0, "getCell", "(I)I"⟩
abbrev cX0_firstFreeFor : ByteArray := prog_2_method_11_code
def yX0_firstFreeFor : MethodName := ⟨RX0, "firstFreeFor", "(I)I"⟩
abbrev cX0_addSector : ByteArray := prog_2_method_12_code
def yX0_addSector : MethodName := ⟨RX0, "addSector", "()V"⟩
abbrev cX0_cellAhead : ByteArray := prog_2_method_13_code
def yX0_cellAhead : MethodName := ⟨RX0, "cellAhead", "(I)I"⟩
def RX1 : String := "HiveKeys$Flushes"
def TX1 : u_T := fun k => match k with
  | 0 => ("HiveKeys$Flushes", "whole", "LHiveKeys$Image;", true)
  | 1 => ("HiveKeys$Flushes", "begun", "LHiveKeys$Image;", true)
  | 2 => ("HiveKeys$Flushes", "logs", "[I", true)
  | 3 => ("HiveKeys$Flushes", "sectorsToWrite", "I", false)
  | 4 => ("HiveKeys$Flushes", "writesDone", "I", false)
  | 5 => ("HiveKeys$Flushes", "wholeNumber", "I", false)
  | _ => ("HiveKeys$Flushes", "isRunning", "Z", false)
def tyX1 : Nat → FieldType := fun k => match k with
  | 0 => .object "HiveKeys$Image"
  | 1 => .object "HiveKeys$Image"
  | 2 => .array .int
  | 3 => .int
  | 4 => .int
  | 5 => .int
  | _ => .boolean
abbrev wsX10 : List Cond := u_ws RX1 TX1 7
theorem nmX1 : ∀ a, a < 7 → ∀ b, b < 7 → a ≠ b → (TX1 a).2.1 ≠ (TX1 b).2.1 := by decide +kernel
theorem tyX1_ok : ∀ k, k < 7 → parseFieldDescriptor (TX1 k).2.2.1 = some (tyX1 k) := by decide +kernel
abbrev cX1_init : ByteArray := prog_3_method_1_code
def yX1_init : MethodName := ⟨RX1, "<init>", "()V"⟩
abbrev cX1_keepAsWhole : ByteArray := prog_3_method_2_code
def yX1_keepAsWhole : MethodName := ⟨RX1, "keepAsWhole", "(LHiveKeys$Image;)V"⟩
abbrev cX1_begin : ByteArray := prog_3_method_3_code
def yX1_begin : MethodName := ⟨RX1, "begin", "(LHiveKeys$Image;I)V"⟩
abbrev cX1_writesLeft : ByteArray := prog_3_method_4_code
def yX1_writesLeft : MethodName := ⟨RX1, "writesLeft", "()I"⟩
abbrev cX1_advance : ByteArray := prog_3_method_5_code
def yX1_advance : MethodName := ⟨RX1, "advance", "(I)V"⟩
abbrev cX1_heldByLog : ByteArray := prog_3_method_6_code
def yX1_heldByLog : MethodName := ⟨RX1, "heldByLog", "(I)I"⟩
abbrev cX1_breakOff : ByteArray := prog_3_method_7_code
def yX1_breakOff : MethodName := ⟨RX1, "breakOff", "()V"⟩
abbrev cX1_restoreWhole : ByteArray := prog_3_method_8_code
def yX1_restoreWhole : MethodName := ⟨RX1, "restoreWhole", "(LHiveKeys$Image;)V"⟩
abbrev cX1_isSealed : ByteArray := prog_3_method_9_code
def yX1_isSealed : MethodName := ⟨RX1, "isSealed", "()Z"⟩
abbrev cX1_endWhole : ByteArray := prog_3_method_10_code
def yX1_endWhole : MethodName := ⟨RX1, "endWhole", "()V"⟩
def RX2 : String := "HiveKeys$Image"
def TX2 : u_T := fun k => match k with
  | 0 => ("HiveKeys$Image", "sizes", "[I", true)
  | 1 => ("HiveKeys$Image", "units", "[I", true)
  | 2 => ("HiveKeys$Image", "keyPlaces", "[I", true)
  | 3 => ("HiveKeys$Image", "rightsPlaces", "[I", true)
  | 4 => ("HiveKeys$Image", "sectorCount", "I", false)
  | _ => ("HiveKeys$Image", "nextKey", "I", false)
def tyX2 : Nat → FieldType := fun k => match k with
  | 0 => .array .int
  | 1 => .array .int
  | 2 => .array .int
  | 3 => .array .int
  | 4 => .int
  | _ => .int
abbrev wsX20 : List Cond := u_ws RX2 TX2 6
theorem nmX2 : ∀ a, a < 6 → ∀ b, b < 6 → a ≠ b → (TX2 a).2.1 ≠ (TX2 b).2.1 := by decide +kernel
theorem tyX2_ok : ∀ k, k < 6 → parseFieldDescriptor (TX2 k).2.2.1 = some (tyX2 k) := by decide +kernel
abbrev cX2_init : ByteArray := prog_4_method_1_code
def yX2_init : MethodName := ⟨RX2, "<init>", "()V"⟩
abbrev cX2_copyFrom : ByteArray := prog_4_method_2_code
def yX2_copyFrom : MethodName := ⟨RX2, "copyFrom", "(LHiveKeys$Image;)V"⟩
abbrev cX2_end : ByteArray := prog_4_method_3_code
def yX2_end : MethodName := ⟨RX2, "end", "()I"⟩
abbrev cX2_sizeAt : ByteArray := prog_4_method_4_code
def yX2_sizeAt : MethodName := ⟨RX2, "sizeAt", "(I)I"⟩
abbrev cX2_unitAt : ByteArray := prog_4_method_5_code
def yX2_unitAt : MethodName := ⟨RX2, "unitAt", "(I)I"⟩
abbrev cX2_putUnit : ByteArray := prog_4_method_6_code
def yX2_putUnit : MethodName := ⟨RX2, "putUnit", "(II)V"⟩
abbrev cX2_placeOfKey : ByteArray := prog_4_method_7_code
def yX2_placeOfKey : MethodName := ⟨RX2, "placeOfKey", "(I)I"⟩
abbrev cX2_setPlaceOfKey : ByteArray := prog_4_method_8_code
def yX2_setPlaceOfKey : MethodName := ⟨RX2, "setPlaceOfKey", "(II)V"⟩
abbrev cX2_placeOfRights : ByteArray := prog_4_method_9_code
def yX2_placeOfRights : MethodName := ⟨RX2, "placeOfRights", "(I)I"⟩
abbrev cX2_setPlaceOfRights : ByteArray := prog_4_method_10_code
def yX2_setPlaceOfRights : MethodName := ⟨RX2, "setPlaceOfRights", "(II)V"⟩
abbrev cX2_itemCount : ByteArray := prog_4_method_11_code
def yX2_itemCount : MethodName := ⟨RX2, "itemCount", "(I)I"⟩
abbrev cX2_item : ByteArray := prog_4_method_12_code
def yX2_item : MethodName := ⟨RX2, "item", "(II)I"⟩
abbrev cX2_insertItem : ByteArray := prog_4_method_13_code
def yX2_insertItem : MethodName := ⟨RX2, "insertItem", "(III)V"⟩
abbrev cX2_removeItem : ByteArray := prog_4_method_14_code
def yX2_removeItem : MethodName := ⟨RX2, "removeItem", "(II)V"⟩
abbrev cX2_moveItems : ByteArray := prog_4_method_15_code
def yX2_moveItems : MethodName := ⟨RX2, "moveItems", "(III)V"⟩
abbrev cX2_numberOfItem : ByteArray := prog_4_method_16_code
def yX2_numberOfItem : MethodName := ⟨RX2, "numberOfItem", "(II)I"⟩
def RX3 : String := "HiveKeys$Lists"
def TX3 : u_T := fun k => match k with
  | 0 => ("HiveKeys$Lists", "file", "LHiveKeys$Image;", true)
  | _ => ("HiveKeys$Lists", "cells", "LHiveKeys$Cells;", true)
def tyX3 : Nat → FieldType := fun k => match k with
  | 0 => .object "HiveKeys$Image"
  | _ => .object "HiveKeys$Cells"
abbrev wsX30 : List Cond := u_ws RX3 TX3 2
theorem nmX3 : ∀ a, a < 2 → ∀ b, b < 2 → a ≠ b → (TX3 a).2.1 ≠ (TX3 b).2.1 := by decide +kernel
theorem tyX3_ok : ∀ k, k < 2 → parseFieldDescriptor (TX3 k).2.2.1 = some (tyX3 k) := by decide +kernel
abbrev cX3_init : ByteArray := prog_5_method_1_code
def yX3_init : MethodName := ⟨RX3, "<init>", "(LHiveKeys$Image;LHiveKeys$Cells;)V"⟩
abbrev cX3_entryOf : ByteArray := prog_5_method_2_code
def yX3_entryOf : MethodName := ⟨RX3, "entryOf", "(II)I"⟩
abbrev cX3_leafCount : ByteArray := prog_5_method_3_code
def yX3_leafCount : MethodName := ⟨RX3, "leafCount", "(I)I"⟩
abbrev cX3_entryCount : ByteArray := prog_5_method_4_code
def yX3_entryCount : MethodName := ⟨RX3, "entryCount", "(I)I"⟩
abbrev cX3_subkeyNamed : ByteArray := prog_5_method_5_code
def yX3_subkeyNamed : MethodName := ⟨RX3, "subkeyNamed", "(II)I"⟩
abbrev cX3_subkeyNumbered : ByteArray := prog_5_method_6_code
def yX3_subkeyNumbered : MethodName := ⟨RX3, "subkeyNumbered", "(II)I"⟩
abbrev cX3_unitsOf : ByteArray := prog_5_method_7_code
def yX3_unitsOf : MethodName := ⟨RX3, "unitsOf", "(I)I"⟩
abbrev cX3_wantFor : ByteArray := prog_5_method_8_code
def yX3_wantFor : MethodName := ⟨RX3, "wantFor", "(II)Z"⟩
abbrev cX3_putIn : ByteArray := prog_5_method_9_code
def yX3_putIn : MethodName := ⟨RX3, "putIn", "(III)V"⟩
abbrev cX3_takeOut : ByteArray := prog_5_method_10_code
def yX3_takeOut : MethodName := ⟨RX3, "takeOut", "(II)I"⟩
abbrev cX3_rankOf : ByteArray := prog_5_method_11_code
def yX3_rankOf : MethodName := ⟨RX3, "rankOf", "(I)I"⟩
abbrev cX3_keyInLeaf : ByteArray := prog_5_method_12_code
def yX3_keyInLeaf : MethodName := ⟨RX3, "keyInLeaf", "(II)I"⟩
abbrev cX3_isIndex : ByteArray := prog_5_method_13_code
def yX3_isIndex : MethodName := ⟨RX3, "isIndex", "(I)Z"⟩
abbrev cX3_leafNumbered : ByteArray := prog_5_method_14_code
def yX3_leafNumbered : MethodName := ⟨RX3, "leafNumbered", "(II)I"⟩
abbrev cX3_leafNumberFor : ByteArray := prog_5_method_15_code
def yX3_leafNumberFor : MethodName := ⟨RX3, "leafNumberFor", "(II)I"⟩
abbrev cX3_entriesAhead : ByteArray := prog_5_method_16_code
def yX3_entriesAhead : MethodName := ⟨RX3, "entriesAhead", "(II)I"⟩
abbrev cX3_insertLeafBehind : ByteArray := prog_5_method_17_code
def yX3_insertLeafBehind : MethodName := ⟨RX3, "insertLeafBehind", "(III)I"⟩
abbrev cX3_splitLeaf : ByteArray := prog_5_method_18_code
def yX3_splitLeaf : MethodName := ⟨RX3, "splitLeaf", "(III)V"⟩
abbrev cX3_removeLeaf : ByteArray := prog_5_method_19_code
def yX3_removeLeaf : MethodName := ⟨RX3, "removeLeaf", "(II)I"⟩
def RX4 : String := "HiveKeys$Sharing"
def TX4 : u_T := fun k => match k with
  | 0 => ("HiveKeys$Sharing", "file", "LHiveKeys$Image;", true)
  | 1 => ("HiveKeys$Sharing", "cells", "LHiveKeys$Cells;", true)
  | _ => ("HiveKeys$Sharing", "isCounted", "[I", true)
def tyX4 : Nat → FieldType := fun k => match k with
  | 0 => .object "HiveKeys$Image"
  | 1 => .object "HiveKeys$Cells"
  | _ => .array .int
abbrev wsX40 : List Cond := u_ws RX4 TX4 3
theorem nmX4 : ∀ a, a < 3 → ∀ b, b < 3 → a ≠ b → (TX4 a).2.1 ≠ (TX4 b).2.1 := by decide +kernel
theorem tyX4_ok : ∀ k, k < 3 → parseFieldDescriptor (TX4 k).2.2.1 = some (tyX4 k) := by decide +kernel
abbrev cX4_init : ByteArray := prog_6_method_1_code
def yX4_init : MethodName := ⟨RX4, "<init>", "(LHiveKeys$Image;LHiveKeys$Cells;)V"⟩
abbrev cX4_keysWith : ByteArray := prog_6_method_2_code
def yX4_keysWith : MethodName := ⟨RX4, "keysWith", "(I)I"⟩
abbrev cX4_changeCount : ByteArray := prog_6_method_3_code
def yX4_changeCount : MethodName := ⟨RX4, "changeCount", "(II)V"⟩
abbrev cX4_join : ByteArray := prog_6_method_4_code
def yX4_join : MethodName := ⟨RX4, "join", "(I)Z"⟩
abbrev cX4_leave : ByteArray := prog_6_method_5_code
def yX4_leave : MethodName := ⟨RX4, "leave", "(I)I"⟩
abbrev cX4_startCounting : ByteArray := prog_6_method_6_code
def yX4_startCounting : MethodName := ⟨RX4, "startCounting", "()V"⟩
abbrev cX4_unitsNotYetCounted : ByteArray := prog_6_method_7_code
def yX4_unitsNotYetCounted : MethodName := ⟨RX4, "unitsNotYetCounted", "(I)I"⟩
def RX5 : String := "HiveKeys$Values"
def TX5 : u_T := fun k => match k with
  | 0 => ("HiveKeys$Values", "file", "LHiveKeys$Image;", true)
  | _ => ("HiveKeys$Values", "cells", "LHiveKeys$Cells;", true)
def tyX5 : Nat → FieldType := fun k => match k with
  | 0 => .object "HiveKeys$Image"
  | _ => .object "HiveKeys$Cells"
abbrev wsX50 : List Cond := u_ws RX5 TX5 2
theorem nmX5 : ∀ a, a < 2 → ∀ b, b < 2 → a ≠ b → (TX5 a).2.1 ≠ (TX5 b).2.1 := by decide +kernel
theorem tyX5_ok : ∀ k, k < 2 → parseFieldDescriptor (TX5 k).2.2.1 = some (tyX5 k) := by decide +kernel
abbrev cX5_init : ByteArray := prog_7_method_1_code
def yX5_init : MethodName := ⟨RX5, "<init>", "(LHiveKeys$Image;LHiveKeys$Cells;)V"⟩
abbrev cX5_valueCount : ByteArray := prog_7_method_2_code
def yX5_valueCount : MethodName := ⟨RX5, "valueCount", "(I)I"⟩
abbrev cX5_cellNamed : ByteArray := prog_7_method_3_code
def yX5_cellNamed : MethodName := ⟨RX5, "cellNamed", "(II)I"⟩
abbrev cX5_lengthOf : ByteArray := prog_7_method_4_code
def yX5_lengthOf : MethodName := ⟨RX5, "lengthOf", "(I)I"⟩
abbrev cX5_seedOf : ByteArray := prog_7_method_5_code
def yX5_seedOf : MethodName := ⟨RX5, "seedOf", "(I)I"⟩
abbrev cX5_unitsOf : ByteArray := prog_7_method_6_code
def yX5_unitsOf : MethodName := ⟨RX5, "unitsOf", "(I)I"⟩
abbrev cX5_canHold : ByteArray := prog_7_method_7_code
def yX5_canHold : MethodName := ⟨RX5, "canHold", "(II)Z"⟩
abbrev cX5_assign : ByteArray := prog_7_method_8_code
def yX5_assign : MethodName := ⟨RX5, "assign", "(IIII)Z"⟩
abbrev cX5_changeLength : ByteArray := prog_7_method_9_code
def yX5_changeLength : MethodName := ⟨RX5, "changeLength", "(III)Z"⟩
abbrev cX5_drop : ByteArray := prog_7_method_10_code
def yX5_drop : MethodName := ⟨RX5, "drop", "(II)I"⟩
abbrev cX5_dropAll : ByteArray := prog_7_method_11_code
def yX5_dropAll : MethodName := ⟨RX5, "dropAll", "(I)I"⟩
abbrev cX5_cellNumbered : ByteArray := prog_7_method_12_code
def yX5_cellNumbered : MethodName := ⟨RX5, "cellNumbered", "(II)I"⟩
abbrev cX5_putHead : ByteArray := prog_7_method_13_code
def yX5_putHead : MethodName := ⟨RX5, "putHead", "(III)V"⟩
abbrev cX5_pieceCount : ByteArray := prog_7_method_14_code
def yX5_pieceCount : MethodName := ⟨RX5, "pieceCount", "(I)I"⟩
abbrev cX5_unitsInPiece : ByteArray := prog_7_method_15_code
def yX5_unitsInPiece : MethodName := ⟨RX5, "unitsInPiece", "(II)I"⟩
abbrev cX5_piecesAlike : ByteArray := prog_7_method_16_code
def yX5_piecesAlike : MethodName := ⟨RX5, "piecesAlike", "(II)I"⟩
abbrev cX5_wantPieces : ByteArray := prog_7_method_17_code
def yX5_wantPieces : MethodName := ⟨RX5, "wantPieces", "(II)V"⟩
abbrev cX5_chainPieces : ByteArray := prog_7_method_18_code
def yX5_chainPieces : MethodName := ⟨RX5, "chainPieces", "(II)V"⟩
abbrev cX5_giveBackPieces : ByteArray := prog_7_method_19_code
def yX5_giveBackPieces : MethodName := ⟨RX5, "giveBackPieces", "(I)I"⟩
abbrev cX5_giveBackValue : ByteArray := prog_7_method_20_code
def yX5_giveBackValue : MethodName := ⟨RX5, "giveBackValue", "(I)I"⟩
abbrev cX5_needsListForOneMore : ByteArray := prog_7_method_21_code
def yX5_needsListForOneMore : MethodName := ⟨RX5, "needsListForOneMore", "(I)Z"⟩
abbrev cX5_wantListForOneMore : ByteArray := prog_7_method_22_code
def yX5_wantListForOneMore : MethodName := ⟨RX5, "wantListForOneMore", "(I)V"⟩
abbrev cX5_addToList : ByteArray := prog_7_method_23_code
def yX5_addToList : MethodName := ⟨RX5, "addToList", "(III)V"⟩
abbrev cX5_giveBackList : ByteArray := prog_7_method_24_code
def yX5_giveBackList : MethodName := ⟨RX5, "giveBackList", "(I)I"⟩
def RX6 : String := "HiveKeys$Watches"
def TX6 : u_T := fun k => match k with
  | 0 => ("HiveKeys$Watches", "kindsWatched", "[I", true)
  | 1 => ("HiveKeys$Watches", "isDeep", "[I", true)
  | 2 => ("HiveKeys$Watches", "kindTold", "[I", true)
  | 3 => ("HiveKeys$Watches", "noticeTime", "[I", true)
  | _ => ("HiveKeys$Watches", "lastTime", "I", false)
def tyX6 : Nat → FieldType := fun k => match k with
  | 0 => .array .int
  | 1 => .array .int
  | 2 => .array .int
  | 3 => .array .int
  | _ => .int
abbrev wsX60 : List Cond := u_ws RX6 TX6 5
theorem nmX6 : ∀ a, a < 5 → ∀ b, b < 5 → a ≠ b → (TX6 a).2.1 ≠ (TX6 b).2.1 := by decide +kernel
theorem tyX6_ok : ∀ k, k < 5 → parseFieldDescriptor (TX6 k).2.2.1 = some (tyX6 k) := by decide +kernel
abbrev cX6_init : ByteArray := prog_8_method_1_code
def yX6_init : MethodName := ⟨RX6, "<init>", "()V"⟩
abbrev cX6_isWatched : ByteArray := prog_8_method_2_code
def yX6_isWatched : MethodName := ⟨RX6, "isWatched", "(I)Z"⟩
abbrev cX6_start : ByteArray := prog_8_method_3_code
def yX6_start : MethodName := ⟨RX6, "start", "(IIZ)V"⟩
abbrev cX6_end : ByteArray := prog_8_method_4_code
def yX6_end : MethodName := ⟨RX6, "end", "(I)V"⟩
abbrev cX6_endAll : ByteArray := prog_8_method_5_code
def yX6_endAll : MethodName := ⟨RX6, "endAll", "()V"⟩
abbrev cX6_tell : ByteArray := prog_8_method_6_code
def yX6_tell : MethodName := ⟨RX6, "tell", "(IIZ)V"⟩
abbrev cX6_keyToldFirst : ByteArray := prog_8_method_7_code
def yX6_keyToldFirst : MethodName := ⟨RX6, "keyToldFirst", "()I"⟩
abbrev cX6_takeKindTold : ByteArray := prog_8_method_8_code
def yX6_takeKindTold : MethodName := ⟨RX6, "takeKindTold", "(I)I"⟩
def RX7 : String := "HiveKeys"
def TX7 : u_T := fun k => match k with
  | 0 => ("HiveKeys", "file", "LHiveKeys$Image;", true)
  | 1 => ("HiveKeys", "cells", "LHiveKeys$Cells;", true)
  | 2 => ("HiveKeys", "lists", "LHiveKeys$Lists;", true)
  | 3 => ("HiveKeys", "values", "LHiveKeys$Values;", true)
  | 4 => ("HiveKeys", "sharing", "LHiveKeys$Sharing;", true)
  | 5 => ("HiveKeys", "watches", "LHiveKeys$Watches;", true)
  | 6 => ("HiveKeys", "flushes", "LHiveKeys$Flushes;", true)
  | _ => ("HiveKeys", "walk", "[I", true)
def tyX7 : Nat → FieldType := fun k => match k with
  | 0 => .object "HiveKeys$Image"
  | 1 => .object "HiveKeys$Cells"
  | 2 => .object "HiveKeys$Lists"
  | 3 => .object "HiveKeys$Values"
  | 4 => .object "HiveKeys$Sharing"
  | 5 => .object "HiveKeys$Watches"
  | 6 => .object "HiveKeys$Flushes"
  | _ => .array .int
abbrev wsX70 : List Cond := u_ws RX7 TX7 8
theorem nmX7 : ∀ a, a < 8 → ∀ b, b < 8 → a ≠ b → (TX7 a).2.1 ≠ (TX7 b).2.1 := by decide +kernel
theorem tyX7_ok : ∀ k, k < 8 → parseFieldDescriptor (TX7 k).2.2.1 = some (tyX7 k) := by decide +kernel
abbrev cX7_init : ByteArray := prog_1_method_1_code
def yX7_init : MethodName := ⟨RX7, "<init>", "()V"⟩
abbrev cX7_make : ByteArray := prog_1_method_2_code
def yX7_make : MethodName := ⟨RX7, "make", "(II)I"⟩
abbrev cX7_makeLink : ByteArray := prog_1_method_3_code
def yX7_makeLink : MethodName := ⟨RX7, "makeLink", "(III)I"⟩
abbrev cX7_rename : ByteArray := prog_1_method_4_code
def yX7_rename : MethodName := ⟨RX7, "rename", "(II)I"⟩
abbrev cX7_delete : ByteArray := prog_1_method_5_code
def yX7_delete : MethodName := ⟨RX7, "delete", "(I)I"⟩
abbrev cX7_find : ByteArray := prog_1_method_6_code
def yX7_find : MethodName := ⟨RX7, "find", "(II)I"⟩
abbrev cX7_subkeyAt : ByteArray := prog_1_method_7_code
def yX7_subkeyAt : MethodName := ⟨RX7, "subkeyAt", "(II)I"⟩
abbrev cX7_list : ByteArray := prog_1_method_8_code
def yX7_list : MethodName := ⟨RX7, "list", "(I)I"⟩
abbrev cX7_follow : ByteArray := prog_1_method_9_code
def yX7_follow : MethodName := ⟨RX7, "follow", "(I)I"⟩
abbrev cX7_setValue : ByteArray := prog_1_method_10_code
def yX7_setValue : MethodName := ⟨RX7, "setValue", "(IIII)I"⟩
abbrev cX7_resize : ByteArray := prog_1_method_11_code
def yX7_resize : MethodName := ⟨RX7, "resize", "(III)I"⟩
abbrev cX7_dropValue : ByteArray := prog_1_method_12_code
def yX7_dropValue : MethodName := ⟨RX7, "dropValue", "(II)I"⟩
abbrev cX7_unit : ByteArray := prog_1_method_13_code
def yX7_unit : MethodName := ⟨RX7, "unit", "(III)I"⟩
abbrev cX7_setRights : ByteArray := prog_1_method_14_code
def yX7_setRights : MethodName := ⟨RX7, "setRights", "(II)I"⟩
abbrev cX7_sharers : ByteArray := prog_1_method_15_code
def yX7_sharers : MethodName := ⟨RX7, "sharers", "(I)I"⟩
abbrev cX7_sectors : ByteArray := prog_1_method_16_code
def yX7_sectors : MethodName := ⟨RX7, "sectors", "()I"⟩
abbrev cX7_cell : ByteArray := prog_1_method_17_code
def yX7_cell : MethodName := ⟨RX7, "cell", "(I)I"⟩
abbrev cX7_place : ByteArray := prog_1_method_18_code
def yX7_place : MethodName := ⟨RX7, "place", "(I)I"⟩
abbrev cX7_used : ByteArray := prog_1_method_19_code
def yX7_used : MethodName := ⟨RX7, "used", "()I"⟩
abbrev cX7_usedByTree : ByteArray := prog_1_method_20_code
def yX7_usedByTree : MethodName := ⟨RX7, "usedByTree", "()I"⟩
abbrev cX7_watch : ByteArray := prog_1_method_21_code
def yX7_watch : MethodName := ⟨RX7, "watch", "(IIZ)Z"⟩
abbrev cX7_takeNotice : ByteArray := prog_1_method_22_code
def yX7_takeNotice : MethodName := ⟨RX7, "takeNotice", "()I"⟩
abbrev cX7_dirty : ByteArray := prog_1_method_23_code
def yX7_dirty : MethodName := ⟨RX7, "dirty", "()J"⟩
abbrev cX7_flush : ByteArray := prog_1_method_24_code
def yX7_flush : MethodName := ⟨RX7, "flush", "()I"⟩
abbrev cX7_write : ByteArray := prog_1_method_25_code
def yX7_write : MethodName := ⟨RX7, "write", "(I)I"⟩
abbrev cX7_log : ByteArray := prog_1_method_26_code
def yX7_log : MethodName := ⟨RX7, "log", "(I)I"⟩
abbrev cX7_crash : ByteArray := prog_1_method_27_code
def yX7_crash : MethodName := ⟨RX7, "crash", "()I"⟩
abbrev cX7_requireKey : ByteArray := prog_1_method_28_code
def yX7_requireKey : MethodName := ⟨RX7, "requireKey", "(I)V"⟩
abbrev cX7_requireValue : ByteArray := prog_1_method_29_code
def yX7_requireValue : MethodName := ⟨RX7, "requireValue", "(I)V"⟩
abbrev cX7_requireName : ByteArray := prog_1_method_30_code
def yX7_requireName : MethodName := ⟨RX7, "requireName", "(I)V"⟩
abbrev cX7_requireValueName : ByteArray := prog_1_method_31_code
def yX7_requireValueName : MethodName := ⟨RX7, "requireValueName", "(I)V"⟩
abbrev cX7_requireLength : ByteArray := prog_1_method_32_code
def yX7_requireLength : MethodName := ⟨RX7, "requireLength", "(I)V"⟩
abbrev cX7_requireRights : ByteArray := prog_1_method_33_code
def yX7_requireRights : MethodName := ⟨RX7, "requireRights", "(I)V"⟩
abbrev cX7_requireNotRoot : ByteArray := prog_1_method_34_code
def yX7_requireNotRoot : MethodName := ⟨RX7, "requireNotRoot", "(I)V"⟩
abbrev cX7_requireNoSubkeys : ByteArray := prog_1_method_35_code
def yX7_requireNoSubkeys : MethodName := ⟨RX7, "requireNoSubkeys", "(I)V"⟩
abbrev cX7_requireNoLink : ByteArray := prog_1_method_36_code
def yX7_requireNoLink : MethodName := ⟨RX7, "requireNoLink", "(I)V"⟩
abbrev cX7_requireNameFree : ByteArray := prog_1_method_37_code
def yX7_requireNameFree : MethodName := ⟨RX7, "requireNameFree", "(II)V"⟩
abbrev cX7_requireListNotFull : ByteArray := prog_1_method_38_code
def yX7_requireListNotFull : MethodName := ⟨RX7, "requireListNotFull", "(Z)V"⟩
abbrev cX7_requireRoom : ByteArray := prog_1_method_39_code
def yX7_requireRoom : MethodName := ⟨RX7, "requireRoom", "(Z)V"⟩
abbrev cX7_hasKey : ByteArray := prog_1_method_40_code
def yX7_hasKey : MethodName := ⟨RX7, "hasKey", "(I)Z"⟩
abbrev cX7_isLink : ByteArray := prog_1_method_41_code
def yX7_isLink : MethodName := ⟨RX7, "isLink", "(I)Z"⟩
abbrev cX7_makeSubkey : ByteArray := prog_1_method_42_code
def yX7_makeSubkey : MethodName := ⟨RX7, "makeSubkey", "(III)I"⟩
abbrev cX7_enterKey : ByteArray := prog_1_method_43_code
def yX7_enterKey : MethodName := ⟨RX7, "enterKey", "(IIII)V"⟩
abbrev cX7_tellUpwards : ByteArray := prog_1_method_44_code
def yX7_tellUpwards : MethodName := ⟨RX7, "tellUpwards", "(II)V"⟩
abbrev cX7_addSubkeysToWalk : ByteArray := prog_1_method_45_code
def yX7_addSubkeysToWalk : MethodName := ⟨RX7, "addSubkeysToWalk", "(II)I"⟩
abbrev cX7_read : ByteArray := prog_1_method_46_code
def yX7_read : MethodName := ⟨RX7, "read", "([II)I"⟩
abbrev cX7_store : ByteArray := prog_1_method_47_code
def yX7_store : MethodName := ⟨RX7, "store", "([III)V"⟩
def RX8 : String := "HiveKeysModel"
def TX8 : u_T := fun k => match k with
  | 0 => ("HiveKeysModel", "cell", "[I", true)
  | 1 => ("HiveKeysModel", "sectors", "[I", true)
  | 2 => ("HiveKeysModel", "made", "[I", true)
  | 3 => ("HiveKeysModel", "isThere", "[Z", true)
  | 4 => ("HiveKeysModel", "parent", "[I", true)
  | 5 => ("HiveKeysModel", "name", "[I", true)
  | 6 => ("HiveKeysModel", "target", "[I", true)
  | 7 => ("HiveKeysModel", "place", "[I", true)
  | 8 => ("HiveKeysModel", "rights", "[I", true)
  | 9 => ("HiveKeysModel", "leaves", "[I", true)
  | 10 => ("HiveKeysModel", "index", "[I", true)
  | 11 => ("HiveKeysModel", "leafPlace", "[I", true)
  | 12 => ("HiveKeysModel", "leafCount", "[I", true)
  | 13 => ("HiveKeysModel", "entry", "[I", true)
  | 14 => ("HiveKeysModel", "entryName", "[I", true)
  | 15 => ("HiveKeysModel", "values", "[I", true)
  | 16 => ("HiveKeysModel", "listPlace", "[I", true)
  | 17 => ("HiveKeysModel", "listSize", "[I", true)
  | 18 => ("HiveKeysModel", "valueName", "[I", true)
  | 19 => ("HiveKeysModel", "seed", "[I", true)
  | 20 => ("HiveKeysModel", "length", "[I", true)
  | 21 => ("HiveKeysModel", "valuePlace", "[I", true)
  | 22 => ("HiveKeysModel", "piece", "[I", true)
  | 23 => ("HiveKeysModel", "rightsPlace", "[I", true)
  | 24 => ("HiveKeysModel", "sharers", "[I", true)
  | 25 => ("HiveKeysModel", "isDirty", "[Z", true)
  | 26 => ("HiveKeysModel", "kinds", "[I", true)
  | 27 => ("HiveKeysModel", "isDeep", "[Z", true)
  | 28 => ("HiveKeysModel", "wasTold", "[Z", true)
  | 29 => ("HiveKeysModel", "notices", "I", false)
  | 30 => ("HiveKeysModel", "noticed", "[I", true)
  | 31 => ("HiveKeysModel", "noticedKind", "[I", true)
  | 32 => ("HiveKeysModel", "isRunning", "Z", false)
  | 33 => ("HiveKeysModel", "whole", "I", false)
  | 34 => ("HiveKeysModel", "writes", "I", false)
  | 35 => ("HiveKeysModel", "dirtyThen", "I", false)
  | 36 => ("HiveKeysModel", "log", "[I", true)
  | 37 => ("HiveKeysModel", "needs", "I", false)
  | 38 => ("HiveKeysModel", "need", "[I", true)
  | 39 => ("HiveKeysModel", "got", "[I", true)
  | 40 => ("HiveKeysModel", "kept", "[I", true)
  | 41 => ("HiveKeysModel", "back", "I", false)
  | _ => ("HiveKeysModel", "thrown", "I", false)
def tyX8 : Nat → FieldType := fun k => match k with
  | 0 => .array .int
  | 1 => .array .int
  | 2 => .array .int
  | 3 => .array .boolean
  | 4 => .array .int
  | 5 => .array .int
  | 6 => .array .int
  | 7 => .array .int
  | 8 => .array .int
  | 9 => .array .int
  | 10 => .array .int
  | 11 => .array .int
  | 12 => .array .int
  | 13 => .array .int
  | 14 => .array .int
  | 15 => .array .int
  | 16 => .array .int
  | 17 => .array .int
  | 18 => .array .int
  | 19 => .array .int
  | 20 => .array .int
  | 21 => .array .int
  | 22 => .array .int
  | 23 => .array .int
  | 24 => .array .int
  | 25 => .array .boolean
  | 26 => .array .int
  | 27 => .array .boolean
  | 28 => .array .boolean
  | 29 => .int
  | 30 => .array .int
  | 31 => .array .int
  | 32 => .boolean
  | 33 => .int
  | 34 => .int
  | 35 => .int
  | 36 => .array .int
  | 37 => .int
  | 38 => .array .int
  | 39 => .array .int
  | 40 => .array .int
  | 41 => .int
  | _ => .int
abbrev wsX80 : List Cond := u_ws RX8 TX8 43
theorem nmX8 : ∀ a, a < 43 → ∀ b, b < 43 → a ≠ b → (TX8 a).2.1 ≠ (TX8 b).2.1 := by decide +kernel
theorem tyX8_ok : ∀ k, k < 43 → parseFieldDescriptor (TX8 k).2.2.1 = some (tyX8 k) := by decide +kernel
abbrev cX8_init : ByteArray := prog_10_method_1_code
def yX8_init : MethodName := ⟨RX8, "<init>", "()V"⟩
abbrev cX8_thrown : ByteArray := prog_10_method_2_code
def yX8_thrown : MethodName := ⟨RX8, "thrown", "()I"⟩
abbrev cX8_fails : ByteArray := prog_10_method_3_code
def yX8_fails : MethodName := ⟨RX8, "fails", "(I)Z"⟩
abbrev cX8_isIn : ByteArray := prog_10_method_4_code
def yX8_isIn : MethodName := ⟨RX8, "isIn", "(III)Z"⟩
abbrev cX8_isKey : ByteArray := prog_10_method_5_code
def yX8_isKey : MethodName := ⟨RX8, "isKey", "(I)Z"⟩
abbrev cX8_isName : ByteArray := prog_10_method_6_code
def yX8_isName : MethodName := ⟨RX8, "isName", "(I)Z"⟩
abbrev cX8_row : ByteArray := prog_10_method_7_code
def yX8_row : MethodName := ⟨RX8, "row", "([IIII)V"⟩
abbrev cX8_copies : ByteArray := prog_10_method_8_code
def yX8_copies : MethodName := ⟨RX8, "copies", "(II)V"⟩
abbrev cX8_units : ByteArray := prog_10_method_9_code
def yX8_units : MethodName := ⟨RX8, "units", "()I"⟩
abbrev cX8_writes : ByteArray := prog_10_method_10_code
def yX8_writes : MethodName := ⟨RX8, "writes", "(I)V"⟩
abbrev cX8_freeAhead : ByteArray := prog_10_method_11_code
def yX8_freeAhead : MethodName := ⟨RX8, "freeAhead", "(I)I"⟩
abbrev cX8_grows : ByteArray := prog_10_method_12_code
def yX8_grows : MethodName := ⟨RX8, "grows", "()V"⟩
abbrev cX8_freeFor : ByteArray := prog_10_method_13_code
def yX8_freeFor : MethodName := ⟨RX8, "freeFor", "(I)I"⟩
abbrev cX8_takes : ByteArray := prog_10_method_14_code
def yX8_takes : MethodName := ⟨RX8, "takes", "(I)I"⟩
abbrev cX8_gets : ByteArray := prog_10_method_15_code
def yX8_gets : MethodName := ⟨RX8, "gets", "()Z"⟩
abbrev cX8_writesGot : ByteArray := prog_10_method_16_code
def yX8_writesGot : MethodName := ⟨RX8, "writesGot", "()V"⟩
abbrev cX8_wants : ByteArray := prog_10_method_17_code
def yX8_wants : MethodName := ⟨RX8, "wants", "(I)V"⟩
abbrev cX8_gives : ByteArray := prog_10_method_18_code
def yX8_gives : MethodName := ⟨RX8, "gives", "(I)V"⟩
abbrev cX8_rank : ByteArray := prog_10_method_19_code
def yX8_rank : MethodName := ⟨RX8, "rank", "(I)I"⟩
abbrev cX8_start : ByteArray := prog_10_method_20_code
def yX8_start : MethodName := ⟨RX8, "start", "(II)I"⟩
abbrev cX8_entries : ByteArray := prog_10_method_21_code
def yX8_entries : MethodName := ⟨RX8, "entries", "(I)I"⟩
abbrev cX8_entryOf : ByteArray := prog_10_method_22_code
def yX8_entryOf : MethodName := ⟨RX8, "entryOf", "(II)I"⟩
abbrev cX8_leafFor : ByteArray := prog_10_method_23_code
def yX8_leafFor : MethodName := ⟨RX8, "leafFor", "(II)I"⟩
abbrev cX8_isSplit : ByteArray := prog_10_method_24_code
def yX8_isSplit : MethodName := ⟨RX8, "isSplit", "(II)Z"⟩
abbrev cX8_isFull : ByteArray := prog_10_method_25_code
def yX8_isFull : MethodName := ⟨RX8, "isFull", "(II)Z"⟩
abbrev cX8_wantsEntry : ByteArray := prog_10_method_26_code
def yX8_wantsEntry : MethodName := ⟨RX8, "wantsEntry", "(II)V"⟩
abbrev cX8_enters : ByteArray := prog_10_method_27_code
def yX8_enters : MethodName := ⟨RX8, "enters", "(IIII)V"⟩
abbrev cX8_goes : ByteArray := prog_10_method_28_code
def yX8_goes : MethodName := ⟨RX8, "goes", "(II)V"⟩
abbrev cX8_tells : ByteArray := prog_10_method_29_code
def yX8_tells : MethodName := ⟨RX8, "tells", "(II)V"⟩
abbrev cX8_changes : ByteArray := prog_10_method_30_code
def yX8_changes : MethodName := ⟨RX8, "changes", "(II)V"⟩
abbrev cX8_forgets : ByteArray := prog_10_method_31_code
def yX8_forgets : MethodName := ⟨RX8, "forgets", "(I)V"⟩
abbrev cX8_watch : ByteArray := prog_10_method_32_code
def yX8_watch : MethodName := ⟨RX8, "watch", "(IIZ)Z"⟩
abbrev cX8_takeNotice : ByteArray := prog_10_method_33_code
def yX8_takeNotice : MethodName := ⟨RX8, "takeNotice", "()I"⟩
abbrev cX8_cannotMake : ByteArray := prog_10_method_34_code
def yX8_cannotMake : MethodName := ⟨RX8, "cannotMake", "(II)Z"⟩
abbrev cX8_makes : ByteArray := prog_10_method_35_code
def yX8_makes : MethodName := ⟨RX8, "makes", "(III)I"⟩
abbrev cX8_make : ByteArray := prog_10_method_36_code
def yX8_make : MethodName := ⟨RX8, "make", "(II)I"⟩
abbrev cX8_makeLink : ByteArray := prog_10_method_37_code
def yX8_makeLink : MethodName := ⟨RX8, "makeLink", "(III)I"⟩
abbrev cX8_cannotRename : ByteArray := prog_10_method_38_code
def yX8_cannotRename : MethodName := ⟨RX8, "cannotRename", "(II)Z"⟩
abbrev cX8_rename : ByteArray := prog_10_method_39_code
def yX8_rename : MethodName := ⟨RX8, "rename", "(II)I"⟩
abbrev cX8_leavesRights : ByteArray := prog_10_method_40_code
def yX8_leavesRights : MethodName := ⟨RX8, "leavesRights", "(I)V"⟩
abbrev cX8_piecesFor : ByteArray := prog_10_method_41_code
def yX8_piecesFor : MethodName := ⟨RX8, "piecesFor", "(I)I"⟩
abbrev cX8_unitsIn : ByteArray := prog_10_method_42_code
def yX8_unitsIn : MethodName := ⟨RX8, "unitsIn", "(II)I"⟩
abbrev cX8_givesPieces : ByteArray := prog_10_method_43_code
def yX8_givesPieces : MethodName := ⟨RX8, "givesPieces", "(II)V"⟩
abbrev cX8_delete : ByteArray := prog_10_method_44_code
def yX8_delete : MethodName := ⟨RX8, "delete", "(I)I"⟩
abbrev cX8_find : ByteArray := prog_10_method_45_code
def yX8_find : MethodName := ⟨RX8, "find", "(II)I"⟩
abbrev cX8_subkeyAt : ByteArray := prog_10_method_46_code
def yX8_subkeyAt : MethodName := ⟨RX8, "subkeyAt", "(II)I"⟩
abbrev cX8_list : ByteArray := prog_10_method_47_code
def yX8_list : MethodName := ⟨RX8, "list", "(I)I"⟩
abbrev cX8_follow : ByteArray := prog_10_method_48_code
def yX8_follow : MethodName := ⟨RX8, "follow", "(I)I"⟩
abbrev cX8_valueOf : ByteArray := prog_10_method_49_code
def yX8_valueOf : MethodName := ⟨RX8, "valueOf", "(II)I"⟩
abbrev cX8_listFor : ByteArray := prog_10_method_50_code
def yX8_listFor : MethodName := ⟨RX8, "listFor", "(I)I"⟩
abbrev cX8_cannotSet : ByteArray := prog_10_method_51_code
def yX8_cannotSet : MethodName := ⟨RX8, "cannotSet", "(III)Z"⟩
abbrev cX8_setValue : ByteArray := prog_10_method_52_code
def yX8_setValue : MethodName := ⟨RX8, "setValue", "(IIII)I"⟩
abbrev cX8_stays : ByteArray := prog_10_method_53_code
def yX8_stays : MethodName := ⟨RX8, "stays", "(II)I"⟩
abbrev cX8_cannotResize : ByteArray := prog_10_method_54_code
def yX8_cannotResize : MethodName := ⟨RX8, "cannotResize", "(II)Z"⟩
abbrev cX8_resize : ByteArray := prog_10_method_55_code
def yX8_resize : MethodName := ⟨RX8, "resize", "(III)I"⟩
abbrev cX8_moves : ByteArray := prog_10_method_56_code
def yX8_moves : MethodName := ⟨RX8, "moves", "(II)V"⟩
abbrev cX8_dropValue : ByteArray := prog_10_method_57_code
def yX8_dropValue : MethodName := ⟨RX8, "dropValue", "(II)I"⟩
abbrev cX8_unit : ByteArray := prog_10_method_58_code
def yX8_unit : MethodName := ⟨RX8, "unit", "(III)I"⟩
abbrev cX8_cannotHave : ByteArray := prog_10_method_59_code
def yX8_cannotHave : MethodName := ⟨RX8, "cannotHave", "(I)Z"⟩
abbrev cX8_setRights : ByteArray := prog_10_method_60_code
def yX8_setRights : MethodName := ⟨RX8, "setRights", "(II)I"⟩
abbrev cX8_sharers : ByteArray := prog_10_method_61_code
def yX8_sharers : MethodName := ⟨RX8, "sharers", "(I)I"⟩
abbrev cX8_sectors : ByteArray := prog_10_method_62_code
def yX8_sectors : MethodName := ⟨RX8, "sectors", "()I"⟩
abbrev cX8_cell : ByteArray := prog_10_method_63_code
def yX8_cell : MethodName := ⟨RX8, "cell", "(I)I"⟩
abbrev cX8_place : ByteArray := prog_10_method_64_code
def yX8_place : MethodName := ⟨RX8, "place", "(I)I"⟩
abbrev cX8_used : ByteArray := prog_10_method_65_code
def yX8_used : MethodName := ⟨RX8, "used", "()I"⟩
abbrev cX8_usedByTree : ByteArray := prog_10_method_66_code
def yX8_usedByTree : MethodName := ⟨RX8, "usedByTree", "()I"⟩
abbrev cX8_dirty : ByteArray := prog_10_method_67_code
def yX8_dirty : MethodName := ⟨RX8, "dirty", "()J"⟩
abbrev cX8_dirtyOnes : ByteArray := prog_10_method_68_code
def yX8_dirtyOnes : MethodName := ⟨RX8, "dirtyOnes", "()I"⟩
abbrev cX8_cleans : ByteArray := prog_10_method_69_code
def yX8_cleans : MethodName := ⟨RX8, "cleans", "()V"⟩
abbrev cX8_flush : ByteArray := prog_10_method_70_code
def yX8_flush : MethodName := ⟨RX8, "flush", "()I"⟩
abbrev cX8_ends : ByteArray := prog_10_method_71_code
def yX8_ends : MethodName := ⟨RX8, "ends", "()V"⟩
abbrev cX8_write : ByteArray := prog_10_method_72_code
def yX8_write : MethodName := ⟨RX8, "write", "(I)I"⟩
abbrev cX8_log : ByteArray := prog_10_method_73_code
def yX8_log : MethodName := ⟨RX8, "log", "(I)I"⟩
abbrev cX8_crash : ByteArray := prog_10_method_74_code
def yX8_crash : MethodName := ⟨RX8, "crash", "()I"⟩
def RJ13 : String := "java/lang/Long"
abbrev cJ13_bitCount_95d88 : ByteArray := prog_15_method_50_code
def yJ13_bitCount_95d88 : MethodName := ⟨RJ13, "bitCount", "(J)I"⟩
def RJ9 : String := "java/lang/Math"
abbrev cJ9_abs_0f7a4 : ByteArray := prog_16_method_59_code
def yJ9_abs_0f7a4 : MethodName := ⟨RJ9, "abs", "(I)I"⟩
abbrev cJ9_max_7cf53 : ByteArray := prog_16_method_65_code
def yJ9_max_7cf53 : MethodName := ⟨RJ9, "max", "(II)I"⟩
abbrev cJ9_min_7cf53 : ByteArray := prog_16_method_69_code
def yJ9_min_7cf53 : MethodName := ⟨RJ9, "min", "(II)I"⟩
def RJ10 : String := "java/lang/System"
def RJ7 : String := "java/util/Arrays"
abbrev cJ7_fill_53178 : ByteArray := prog_21_method_103_code
def yJ7_fill_53178 : MethodName := ⟨RJ7, "fill", "([II)V"⟩
def RL : String := "HiveKeysLaw"
abbrev cL_make : ByteArray := method_3_code
def yL_make : MethodName := ⟨RL, "make", "(LHiveKeys;II[J)I"⟩
abbrev cL_makeLink : ByteArray := method_4_code
def yL_makeLink : MethodName := ⟨RL, "makeLink", "(LHiveKeys;III[J)I"⟩
abbrev cL_rename : ByteArray := method_5_code
def yL_rename : MethodName := ⟨RL, "rename", "(LHiveKeys;II[J)I"⟩
abbrev cL_delete : ByteArray := method_6_code
def yL_delete : MethodName := ⟨RL, "delete", "(LHiveKeys;I[J)I"⟩
abbrev cL_find : ByteArray := method_7_code
def yL_find : MethodName := ⟨RL, "find", "(LHiveKeys;II[J)I"⟩
abbrev cL_subkeyAt : ByteArray := method_8_code
def yL_subkeyAt : MethodName := ⟨RL, "subkeyAt", "(LHiveKeys;II[J)I"⟩
abbrev cL_list : ByteArray := method_9_code
def yL_list : MethodName := ⟨RL, "list", "(LHiveKeys;I[J)I"⟩
abbrev cL_follow : ByteArray := method_10_code
def yL_follow : MethodName := ⟨RL, "follow", "(LHiveKeys;I[J)I"⟩
abbrev cL_setValue : ByteArray := method_11_code
def yL_setValue : MethodName := ⟨RL, "setValue", "(LHiveKeys;IIII[J)I"⟩
abbrev cL_resize : ByteArray := method_12_code
def yL_resize : MethodName := ⟨RL, "resize", "(LHiveKeys;III[J)I"⟩
abbrev cL_dropValue : ByteArray := method_13_code
def yL_dropValue : MethodName := ⟨RL, "dropValue", "(LHiveKeys;II[J)I"⟩
abbrev cL_unit : ByteArray := method_14_code
def yL_unit : MethodName := ⟨RL, "unit", "(LHiveKeys;III[J)I"⟩
abbrev cL_setRights : ByteArray := method_15_code
def yL_setRights : MethodName := ⟨RL, "setRights", "(LHiveKeys;II[J)I"⟩
abbrev cL_sharers : ByteArray := method_16_code
def yL_sharers : MethodName := ⟨RL, "sharers", "(LHiveKeys;I[J)I"⟩
abbrev cL_cell : ByteArray := method_17_code
def yL_cell : MethodName := ⟨RL, "cell", "(LHiveKeys;I[J)I"⟩
abbrev cL_place : ByteArray := method_18_code
def yL_place : MethodName := ⟨RL, "place", "(LHiveKeys;I[J)I"⟩
abbrev cL_watch : ByteArray := method_19_code
def yL_watch : MethodName := ⟨RL, "watch", "(LHiveKeys;IIZ[J)I"⟩
abbrev cL_flush : ByteArray := method_20_code
def yL_flush : MethodName := ⟨RL, "flush", "(LHiveKeys;[J)I"⟩
abbrev cL_write : ByteArray := method_21_code
def yL_write : MethodName := ⟨RL, "write", "(LHiveKeys;I[J)I"⟩
abbrev cL_log : ByteArray := method_22_code
def yL_log : MethodName := ⟨RL, "log", "(LHiveKeys;I[J)I"⟩
abbrev cL_law : ByteArray := code
def yL_law : MethodName := ⟨RL, "law", "([I)Z"⟩
abbrev vwCl : List vw_C := [(RX0, TX0, 6), (RX1, TX1, 7), (RX2, TX2, 6), (RX3, TX3, 2), (RX4, TX4, 3), (RX5, TX5, 2), (RX6, TX6, 5), (RX7, TX7, 8), (RX8, TX8, 43)]
end
section
/-! the cells that the law makes, in order: kind (0 object, 1 ints, 2 booleans, 3 longs), class or length, fields (0 int, 1 boolean, 2 long, 3 + a: the cell a) -/
def SH : List (Nat × Nat × List Nat) := [
(0, 7, [5, 10, 14, 15, 16, 18, 23, 4]),
  (1, 80, []),
  (0, 2, [6, 7, 8, 9, 0, 0]),
  (1, 1024, []),
  (1, 1024, []),
  (1, 80, []),
  (1, 256, []),
  (0, 0, [5, 11, 12, 13, 0, 2]),
  (1, 6, []),
  (1, 6, []),
  (1, 1024, []),
  (0, 3, [5, 10]),
  (0, 5, [5, 10]),
  (0, 4, [5, 10, 17]),
  (1, 256, []),
  (0, 6, [19, 20, 21, 22, 0]),
  (1, 80, []),
  (1, 80, []),
  (1, 80, []),
  (1, 80, []),
  (0, 1, [24, 29, 34, 0, 0, 0, 1]),
  (0, 2, [25, 26, 27, 28, 0, 0]),
  (1, 1024, []),
  (1, 1024, []),
  (1, 80, []),
  (1, 256, []),
  (0, 2, [30, 31, 32, 33, 0, 0]),
  (1, 1024, []),
  (1, 1024, []),
  (1, 80, []),
  (1, 256, []),
  (1, 2, []),
  (0, 8, [36, 37, 38, 39, 40, 41, 42, 43, 44, 45, 46, 47, 48, 49, 50, 51, 52, 53, 54, 55, 56, 57, 58, 59, 60, 61, 62, 63, 64, 0, 65, 66, 1, 0, 0, 0, 67, 0, 68, 69, 70, 0, 0]),
  (1, 3072, []),
  (1, 3, []),
  (1, 3, []),
  (2, 240, []),
  (1, 240, []),
  (1, 240, []),
  (1, 240, []),
  (1, 240, []),
  (1, 240, []),
  (1, 240, []),
  (1, 240, []),
  (1, 1920, []),
  (1, 1920, []),
  (1, 7680, []),
  (1, 7680, []),
  (1, 240, []),
  (1, 240, []),
  (1, 240, []),
  (1, 1920, []),
  (1, 1920, []),
  (1, 1920, []),
  (1, 1920, []),
  (1, 7680, []),
  (1, 768, []),
  (1, 768, []),
  (2, 64, []),
  (1, 80, []),
  (2, 80, []),
  (2, 80, []),
  (1, 80, []),
  (1, 80, []),
  (1, 2, []),
  (1, 8, []),
  (1, 8, []),
  (1, 1024, []),
  (3, 1, [])]
abbrev NA : Nat := 69
def rg0 : Nat → Bool := fun a => Nat.blt a 32
def rg1 : Nat → Bool := fun a => Nat.ble 32 a && Nat.blt a 68
def rg2 : Nat → Bool := fun a => Nat.blt a 69
def strT : List (String × Nat × String) := [("HiveKeys", 346, "there is no such key"), ("HiveKeys", 350, "the name of a key is out of range"), ("HiveKeys", 362, "the key is a link"), ("HiveKeys", 364, "there is a subkey with this name"), ("HiveKeys", 373, "all keys were made"), ("HiveKeys", 366, "the list of subkeys is full"), ("HiveKeys", 368, "there is no room"), ("HiveKeys", 358, "the root stays as it is"), ("HiveKeys", 360, "the key has subkeys"), ("HiveKeys", 175, "there is no such subkey"), ("HiveKeys", 352, "the name of a value is out of range"), ("HiveKeys", 354, "the length is out of range"), ("HiveKeys", 206, "the key has as many values as it can have"), ("HiveKeys", 348, "there is no such value"), ("HiveKeys", 232, "there is no such unit of the value"), ("HiveKeys", 356, "the rights are out of range"), ("HiveKeys", 250, "there is no such unit of the file"), ("HiveKeys", 281, "the kinds are out of range"), ("HiveKeys", 305, "a flush is running"), ("HiveKeys", 307, "no sector is dirty"), ("HiveKeys", 322, "the number of writes is out of range"), ("HiveKeys", 324, "no flush is running"), ("HiveKeys", 329, "there are the logs 0 and 1 only")]
end
section
/-! THE METHODS' RUNS over numbers: every value is a tag with an Int (0 int, 1 long, 3 null, 4 a caught exception, 5 nothing known, 7 the script, 8 + a the cell a), the heap is D: cell, place, number.
Run Γ rg κ y pc ls st D Φ: from y's instruction pc with these locals, stack and cells, y comes to an end with Φ; rg: which cells are there; κ: how many exceptions may be made. -/
abbrev PV : Type := Nat × Int
abbrev DD : Type := Nat → Nat → Int
abbrev OT : Type := Option PV ⊕ Nat
abbrev YT : Type := ByteArray × Nat × Option FieldType × MethodName × List (Nat × Nat × Nat × Nat) × Nat
abbrev GG : Type := Launch × (Nat × Nat × Nat × (Nat → Int32)) × (va_G × ClassId × ClassId × ClassId)
abbrev gB (Γ : GG) : Nat := Γ.2.1.1
abbrev gb (Γ : GG) : Nat := Γ.2.1.2.1
abbrev gL (Γ : GG) : Nat := Γ.2.1.2.2.1
abbrev gX (Γ : GG) : Nat → Int32 := Γ.2.1.2.2.2
abbrev gG (Γ : GG) : va_G := Γ.2.2.1
abbrev gI (Γ : GG) : ClassId := Γ.2.2.2.1
abbrev gZ (Γ : GG) : ClassId := Γ.2.2.2.2.1
abbrev gJ (Γ : GG) : ClassId := Γ.2.2.2.2.2
abbrev yB (y : YT) : ByteArray := y.1
abbrev yL (y : YT) : Nat := y.2.1
abbrev yR (y : YT) : Option FieldType := y.2.2.1
abbrev yN (y : YT) : MethodName := y.2.2.2.1
abbrev yH (y : YT) : List (Nat × Nat × Nat × Nat) := y.2.2.2.2.1
abbrev yK (y : YT) : Nat := y.2.2.2.2.2
def inR (z : Int) : Prop := -2147483648 ≤ z ∧ z ≤ 2147483647
def inJ (z : Int) : Prop := -9223372036854775808 ≤ z ∧ z ≤ 9223372036854775807
def kk : Cond → Bool
  | .methodLinkNest .. => true
  | .privateMethod _ => true
  | .castable .. => true
  | .declares _ => true
  | w => w.onTables && w.keeps
def KW (w : Cond) : Prop := w ∈ lw_tbl ∧ kk w = true
theorem KW.at {i : Nat} {w : Cond} (h : lw_tbl[i]? = some w) (hk : kk w = true) : KW w := ⟨List.mem_of_getElem? h, hk⟩
theorem kk_on {w : Cond} (hk : kk w = true) : w.onTables = true := by
  cases w <;> first | rfl | (simp only [kk, Bool.and_eq_true] at hk; exact hk.1)
theorem kk_warm {w : Cond} {s U : State} (hk : kk w = true) (hW : s.WarmedH U.vm) (h : va_Nw w s) : va_Nw w U := by
  by_cases g : (w.onTables && w.keeps) = true
  · exact word_at hW (Or.inl g) h
  · cases w <;> first | exact va_Nw.warmM hW h | exact va_Nw.warmC hW h | exact va_Nw.warmD hW h | exact Cond.privateMethod_warm hW h | exact absurd hk g
def Ab (Γ : GG) : Nat → Prop := fun q => gB Γ ≤ q
def exn : Nat → String
  | 0 => "java/lang/IndexOutOfBoundsException"
  | 1 => "java/lang/IllegalArgumentException"
  | _ => "java/lang/IllegalStateException"
def ncT : List (String × String) := [(exn 1, exn 0), (exn 2, exn 0), (exn 2, exn 1)]
def EV (Γ : GG) (s : State) : Prop := Γ.1.stackTraces = false ∧ (∀ w, KW w → va_Nw w s) ∧ va_K (gG Γ) vwCl [(gI Γ, .int), (gZ Γ, .boolean), (gJ Γ, .long)] s ∧
  vx_Zq Bundle.tN "UNASSIGNED_STACK" Bundle.steD (Ab Γ) s s.heap ∧ vx_Zq Bundle.tN "SUPPRESSED_SENTINEL" Bundle.listD (Ab Γ) s s.heap ∧
  (∀ r ∈ strT, ∃ a, vk_R r.1 r.2.1 r.2.2 a s) ∧ (∀ r ∈ ncT, va_Nc r.1 r.2 s) ∧ va_X (gb Γ) (gL Γ) (gX Γ) s s.heap ∧ gb Γ < gB Γ ∧ gB Γ ≤ s.heap.size
theorem EV.move {Γ : GG} {s U : State} {H : Heap} {locs : List Loc} (h : EV Γ s) (hU : U.heap = H) (hS : va_S (Ab Γ) s.heap H locs) (hW : s.WarmedH U.vm) : EV Γ U := by
  subst hU
  obtain ⟨h1, h2, h3, h4, h5, h6, h7, h8, h9, h10⟩ := h
  refine ⟨h1, fun w hw => kk_warm hw.2 hW (h2 w hw), va_K.moved hW.alike h3, (h4.kept hS.2.1).moved hW.alike, (h5.kept hS.2.1).moved hW.alike, fun r hr => ?_, fun r hr => va_Nc.moved hW.alike (h7 r hr), va_X.moved hW.alike (h8.kept (hS.2.1 _ (Nat.lt_of_lt_of_le h9 h10) (Nat.not_le.mpr h9))), h9, Nat.le_trans h10 hS.1⟩
  obtain ⟨a, ha⟩ := h6 r hr
  exact ⟨a, vk_R.warm hW ha⟩
theorem EV.calling {Γ : GG} {U : State} (g : JFrame) (mk : MethodId) (a : Array Value) (h : EV Γ U) : EV Γ (U.calling g mk a) :=
  EV.move (s := U) (H := U.heap) (locs := []) h rfl va_S.rf (State.WarmedH.refl U)
/-- values -/
def mv (Γ : GG) (q : Nat) : PV → Value
  | (0, z) => .int (Int32.ofInt z)
  | (1, z) => .long (Int64.ofInt z)
  | (3, _) => .null
  | (7, _) => .ref (gb Γ)
  | (a + 8, _) => .ref (gB Γ + a)
  | _ => .ref q
theorem mv_cat (Γ : GG) (q : Nat) (v : PV) : (mv Γ q v).category = if v.1 = 1 then 2 else 1 := by
  unfold mv
  split <;> first | rfl | (rename_i h1 h2 h3 h4 h5; simp [Value.category]; intro h; exact h2 _ (Prod.ext h rfl))
theorem mv_cat1 {Γ : GG} {q : Nat} {v : PV} (h : v.1 ≠ 1) : (mv Γ q v).category = 1 := by rw [mv_cat, if_neg h]
theorem mv_ref {Γ : GG} {q : Nat} {v : PV} (h : 4 ≤ v.1) : ∃ x : Nat, mv Γ q v = .ref x := by
  obtain ⟨t, z⟩ := v
  unfold mv
  split <;> first | exact ⟨_, rfl⟩ | (rename_i e; cases e; omega)
theorem mv_q {Γ : GG} {q q' : Nat} {v : PV} (h : v.1 ≠ 4) (h5 : v.1 ≠ 5) (h6 : v.1 ≠ 6) (h2 : v.1 ≠ 2) : mv Γ q v = mv Γ q' v := by
  obtain ⟨t, z⟩ := v
  match t, h, h5, h6, h2 with
  | 0, _, _, _, _ => rfl
  | 1, _, _, _, _ => rfl
  | 3, _, _, _, _ => rfl
  | 7, _, _, _, _ => rfl
  | a + 8, _, _, _, _ => rfl
/-- the heap -/
def fvz (Γ : GG) (c : Nat) (z : Int) : Value := if c ≤ 1 then .int (Int32.ofInt z) else if c = 2 then .long (Int64.ofInt z) else .ref (gB Γ + (c - 3))
def cellOf (Γ : GG) (D : DD) (a : Nat) : va_E := match SH.getD a (9, 0, []) with
  | (0, ci, cs) => .inr (ci, (List.range cs.length).map (fun k => fvz Γ (cs.getD k 0) (D a k)))
  | (1, n, _) => .inl (gI Γ, n, .inl (fun j => Int32.ofInt (D a j)))
  | (2, n, _) => .inl (gZ Γ, n, .inl (fun j => Int32.ofInt (D a j)))
  | (_, n, _) => .inl (gJ Γ, n, .inr (.inl (fun j => Int64.ofInt (D a j))))
def wsi (rg : Nat → Bool) : List Nat := (List.range NA).filter rg
def wsl (Γ : GG) (rg : Nat → Bool) (D : DD) : va_W := (wsi rg).map (fun a => (gB Γ + a, cellOf Γ D a))
def HW (Γ : GG) (rg : Nat → Bool) (D : DD) (H : Heap) : Prop := va_P (gG Γ) vwCl (wsl Γ rg D) H
theorem wsi_nodup (rg : Nat → Bool) : (wsi rg).Nodup := List.Nodup.sublist List.filter_sublist List.nodup_range
theorem cellOf_congr {Γ : GG} {D D' : DD} {a : Nat} (h : D' a = D a) : cellOf Γ D' a = cellOf Γ D a := by unfold cellOf; rw [h]
theorem wsl_at {rg : Nat → Bool} {a : Nat} (ha : a < NA) (hr : rg a = true) : ∃ q0 : Nat, (wsi rg)[q0]? = some a ∧ ∀ (Γ : GG) (D : DD), (wsl Γ rg D)[q0]? = some (gB Γ + a, cellOf Γ D a) ∧
    ∀ D' : DD, (∀ x, x ≠ a → D' x = D x) → (wsl Γ rg D).set q0 (gB Γ + a, cellOf Γ D' a) = wsl Γ rg D' := by
  have hm : a ∈ wsi rg := List.mem_filter.mpr ⟨List.mem_range.mpr ha, hr⟩
  obtain ⟨q0, hq⟩ := List.getElem?_of_mem hm
  refine ⟨q0, hq, fun Γ D => ⟨by rw [wsl, List.getElem?_map, hq]; rfl, fun D' h => ?_⟩⟩
  apply List.ext_getElem?
  intro i
  rw [List.getElem?_set]
  by_cases hi : q0 = i
  · subst hi
    have hl := (List.getElem?_eq_some_iff.mp hq).1
    rw [if_pos rfl, if_pos (by rw [wsl, List.length_map]; exact hl), wsl, List.getElem?_map, hq]
    rfl
  · rw [if_neg hi, wsl, wsl, List.getElem?_map, List.getElem?_map]
    cases hx : (wsi rg)[i]? with
    | none => rfl
    | some x =>
      have hne : x ≠ a := fun e => hi (by
        subst e
        have l1 := (List.getElem?_eq_some_iff.mp hq).1
        have l2 := (List.getElem?_eq_some_iff.mp hx).1
        exact (List.getElem?_inj l1 (wsi_nodup rg)).mp (hq.trans hx.symm))
      simp only [Option.map_some]
      rw [cellOf_congr (h x hne)]
theorem wsl_D (Γ : GG) (rg : Nat → Bool) (D : DD) : va_D (Ab Γ) (wsl Γ rg D) := by
  refine ⟨fun i j p q hi hj hpq => ?_, fun k q hk => ?_⟩
  · rw [wsl, List.getElem?_map] at hi hj
    cases hx : (wsi rg)[i]? with
    | none => rw [hx] at hi; cases hi
    | some x =>
      cases hy : (wsi rg)[j]? with
      | none => rw [hy] at hj; cases hj
      | some y =>
        rw [hx] at hi; rw [hy] at hj
        cases hi; cases hj
        have e : x = y := by simpa using hpq
        subst e
        exact (List.getElem?_inj (List.getElem?_eq_some_iff.mp hx).1 (wsi_nodup rg)).mp (hx.trans hy.symm)
  · rw [wsl, List.getElem?_map] at hk
    cases hx : (wsi rg)[k]? with
    | none => rw [hx] at hk; cases hk
    | some x =>
      rw [hx] at hk
      cases hk
      exact Nat.le_add_right _ _
/-- locals -/
def lvr (Γ : GG) (q n : Nat) (ls : List PV) (lsm : Array Slot) : Prop := lsm.size = n ∧ lv_wf lsm ∧ ∀ (i : Nat) (v : PV), ls[i]? = some v → v.1 ≠ 5 → lsm[i]? = some (.val (mv Γ q v))
def lvl (Γ : GG) (q : Nat) (ls : List PV) : List (Nat × Value) := ((List.range ls.length).filter (fun i => (ls.getD i (5, 0)).1 != 5)).map (fun i => (i, mv Γ q (ls.getD i (5, 0))))
theorem lvl_mem {Γ : GG} {q : Nat} {ls : List PV} {i : Nat} {v : PV} (h : ls[i]? = some v) (h5 : v.1 ≠ 5) : (i, mv Γ q v) ∈ lvl Γ q ls := by
  have hl := (List.getElem?_eq_some_iff.mp h).1
  have hg : ls.getD i (5, 0) = v := by rw [List.getD_eq_getElem?_getD, h]; rfl
  exact List.mem_map.mpr ⟨i, List.mem_filter.mpr ⟨List.mem_range.mpr hl, by rw [hg]; simpa using h5⟩, by rw [hg]⟩
theorem lvr.has {Γ : GG} {q n : Nat} {ls : List PV} {lsm : Array Slot} (h : lvr Γ q n ls lsm) : lv_has lsm n (lvl Γ q ls) := by
  refine ⟨h.1, h.2.1, fun r hr => ?_⟩
  obtain ⟨i, hi, e⟩ := List.mem_map.mp hr
  obtain ⟨h1, h2⟩ := List.mem_filter.mp hi
  have hl := List.mem_range.mp h1
  subst e
  have hg : ls[i]? = some (ls.getD i (5, 0)) := by
    rw [List.getD_eq_getElem?_getD, List.getElem?_eq_getElem hl]; rfl
  exact h.2.2 i _ hg (by simpa using h2)
/-- a store of one slot: the place before holds no long -/
def pok (ls : List PV) (i : Nat) : Bool := i == 0 || (ls.getD (i - 1) (5, 0)).1 != 1
theorem lvr.set1 {Γ : GG} {q n i : Nat} {ls : List PV} {lsm lsm' : Array Slot} {v : PV} (h : lvr Γ q n ls lsm) (hp : pok ls i = true) (hn : lv_has lsm' n ((i, mv Γ q v) :: (lvl Γ q ls).filter (fun r => !(r.1 == i) && !(r.1 + 1 == i && r.2.category == 2)))) : lvr Γ q n (ls.set i v) lsm' := by
  refine ⟨hn.1, hn.2.1, fun j w hj h5 => ?_⟩
  rw [List.getElem?_set] at hj
  by_cases hi : i = j
  · subst hi
    rw [if_pos rfl] at hj
    split at hj
    · cases hj
      exact hn.2.2 (i, mv Γ q v) List.mem_cons_self
    · cases hj
  · rw [if_neg hi] at hj
    refine hn.2.2 (j, mv Γ q w) (List.mem_cons_of_mem _ (List.mem_filter.mpr ⟨lvl_mem hj h5, ?_⟩))
    have e1 : (j == i) = false := by simpa using fun e => hi e.symm
    simp only [e1, Bool.not_false, Bool.true_and, Bool.not_eq_true', Bool.and_eq_false_iff, beq_eq_false_iff_ne]
    by_cases e2 : j + 1 = i
    · right
      subst e2
      have hg : ls.getD j (5, 0) = w := by rw [List.getD_eq_getElem?_getD, hj]; rfl
      simp only [pok, Nat.add_sub_cancel, hg, Bool.or_eq_true, beq_iff_eq, Nat.succ_ne_zero, false_or, bne_iff_ne] at hp
      rw [mv_cat1 (by simpa using hp)]
      decide
    · exact Or.inl e2
def ent (n : Nat) (as : List PV) : List PV := (as.flatMap fun v => if v.1 = 1 then [v, (5, 0)] else [v]) ++ List.replicate (n - (as.flatMap fun v => if v.1 = 1 then [v, (5, 0)] else [v]).length) (5, 0)
theorem ent_len (Γ : GG) (q : Nat) : ∀ as : List PV, (as.flatMap fun v => if v.1 = 1 then [v, ((5, 0) : PV)] else [v]).length = (lg_sl (as.map (mv Γ q))).length
  | [] => rfl
  | v :: as => by
    have ih := ent_len Γ q as
    simp only [lg_sl, List.map_cons, List.flatMap_cons, List.length_append] at ih ⊢
    rw [ih, mv_cat]
    by_cases h : v.1 = 1
    · simp [h]
    · simp [h]
theorem ent_args (Γ : GG) (q : Nat) : ∀ (as : List PV) (o i : Nat) (v : PV), (as.flatMap fun v => if v.1 = 1 then [v, ((5, 0) : PV)] else [v])[i]? = some v → v.1 ≠ 5 → (o + i, mv Γ q v) ∈ lv_args o (as.map (mv Γ q))
  | [], _, i, v, h, _ => by simp at h
  | w :: as, o, i, v, h, h5 => by
    rw [List.flatMap_cons] at h
    simp only [List.map_cons, lv_args, mv_cat]
    by_cases hw : w.1 = 1
    · rw [if_pos hw] at h
      rw [if_pos hw, if_pos rfl]
      match i, h with
      | 0, h => cases h; exact List.mem_cons_self
      | 1, h => cases h; exact absurd rfl h5
      | i + 2, h =>
        have h' : (as.flatMap fun v => if v.1 = 1 then [v, ((5, 0) : PV)] else [v])[i]? = some v := by simpa using h
        have := ent_args Γ q as (o + 2) i v h' h5
        rw [show o + (i + 2) = o + 2 + i by omega]
        exact List.mem_cons_of_mem _ this
    · rw [if_neg hw] at h
      rw [if_neg hw, if_neg (by decide)]
      match i, h with
      | 0, h => cases h; exact List.mem_cons_self
      | i + 1, h =>
        have h' : (as.flatMap fun v => if v.1 = 1 then [v, ((5, 0) : PV)] else [v])[i]? = some v := by simpa using h
        have := ent_args Γ q as (o + 1) i v h' h5
        rw [show o + (i + 1) = o + 1 + i by omega]
        exact List.mem_cons_of_mem _ this
theorem lvr.entry {Γ : GG} {q n : Nat} {as : List PV} (h : (lg_sl (as.map (mv Γ q))).length ≤ n) : lvr Γ q n (ent n as) ((lg_sl (as.map (mv Γ q)) ++ List.replicate (n - (lg_sl (as.map (mv Γ q))).length) Slot.unset).toArray) := by
  have hl := lv_entry (as.map (mv Γ q)) h
  refine ⟨hl.1, hl.2.1, fun i v hi h5 => ?_⟩
  unfold ent at hi
  by_cases hlt : i < (as.flatMap fun v => if v.1 = 1 then [v, ((5, 0) : PV)] else [v]).length
  · rw [List.getElem?_append_left hlt] at hi
    have := ent_args Γ q as 0 i v hi h5
    rw [Nat.zero_add] at this
    exact hl.2.2 (i, mv Γ q v) this
  · rw [List.getElem?_append_right (by omega), List.getElem?_replicate] at hi
    split at hi
    · cases hi; exact absurd rfl h5
    · cases hi
theorem lvr.q {Γ : GG} {q q' n : Nat} {ls : List PV} {lsm : Array Slot} (h : lvr Γ q n ls lsm) (hv : ls.all (fun v => v.1 != 4 && v.1 != 6 && v.1 != 2) = true) : lvr Γ q' n ls lsm := by
  refine ⟨h.1, h.2.1, fun i v hi h5 => ?_⟩
  have h1 := List.all_eq_true.mp hv v (List.mem_of_getElem? hi)
  simp only [Bool.and_eq_true, bne_iff_ne] at h1
  rw [mv_q (q := q') (q' := q) h1.1.1 h5 h1.1.2 h1.2]
  exact h.2.2 i v hi h5
/-- a run's ends -/
def Qcc (Γ : GG) (rg : Nat → Bool) (Φ : OT → DD → Prop) : Array Value → State → Outcome → State → Prop := fun _ st o t =>
  ∃ (v : Option PV) (D' : DD), o = .returned (v.map (mv Γ 0)) ∧ (∀ w, v = some w → w.1 ≤ 1) ∧ Φ (.inl v) D' ∧ HW Γ rg D' t.heap ∧ va_F (Ab Γ) st t
def XCc (Γ : GG) (rg : Nat → Bool) (Φ : OT → DD → Prop) : String → State → State → Prop := fun E st t =>
  ∃ (n : Nat) (D' : DD), n ≤ 2 ∧ E = exn n ∧ Φ (.inr n) D' ∧ HW Γ rg D' t.heap ∧ va_F (Ab Γ) st t
def Cx (Γ : GG) (y : YT) (R : Room) (p : Program) (s : State) (m : MethodId) (meth : Method) (c : Code) : Prop :=
  p.tables.exec = Jvm.exec ∧ c.code = yB y ∧ c.maxLocals = yL y ∧ s.vm.findClass (yN y).cls = some m.cls ∧ meth.locks = false ∧ meth.sig.returnType = yR y ∧ c.exceptionTable.toList = tableOf (yH y) ∧ yK y ≤ R.frames ∧ 36 * yK y ≤ R.locals ∧ EV Γ s
def Run (Γ : GG) (rg : Nat → Bool) (κ : Nat) (y : YT) (pc : Nat) (ls st : List PV) (D : DD) (Φ : OT → DD → Prop) : Prop :=
  ∀ (p : Program) (e : Env) (R : Room) (s : State) (m : MethodId) (args : Array Value) (below : List Frame) (meth : Method) (c : Code) (H : Heap) (locs : List Loc) (lsm : Array Slot) (cells slots q mc ms : Nat),
    Cx Γ y R p s m meth c → HW Γ rg D H → va_S (Ab Γ) s.heap H locs → lvr Γ q (yL y) ls lsm → cells + κ ≤ mc → slots + 6 * κ ≤ ms → mc ≤ R.cells → ms ≤ R.slots →
    W p Γ.1 e R s m args below meth c H locs cells slots (vx_MQ below (Qcc Γ rg Φ) (XCc Γ rg Φ) args s mc ms (Ab Γ)) (F0 m pc lsm (st.map (mv Γ q)))
end
section
/-! a row an instruction -/
theorem inR_toInt {z : Int} (h : inR z) : (Int32.ofInt z).toInt = z := Int32.toInt_ofInt_of_le (by have := h.1; omega) (by have := h.2; omega)
theorem inJ_toInt {z : Int} (h : inJ z) : (Int64.ofInt z).toInt = z := Int64.toInt_ofInt_of_le (by have := h.1; omega) (by have := h.2; omega)
theorem inR_of {x : Int32} : inR x.toInt := ⟨Int32.le_toInt x, Int32.toInt_le x⟩
theorem ofI_le {a b : Int} (ha : inR a) (hb : inR b) : Int32.ofInt a ≤ Int32.ofInt b ↔ a ≤ b := by rw [Int32.le_iff_toInt_le, inR_toInt ha, inR_toInt hb]
theorem ofI_lt {a b : Int} (ha : inR a) (hb : inR b) : Int32.ofInt a < Int32.ofInt b ↔ a < b := by rw [Int32.lt_iff_toInt_lt, inR_toInt ha, inR_toInt hb]
theorem ofI_eq {a b : Int} (ha : inR a) (hb : inR b) : Int32.ofInt a = Int32.ofInt b ↔ a = b := by rw [← Int32.toInt_inj, inR_toInt ha, inR_toInt hb]
theorem ofI_0 : (0 : Int32) = Int32.ofInt 0 := rfl
theorem inR_0 : inR 0 := ⟨by decide, by decide⟩
theorem ofI_clamp {z : Int} (h : inR z) : (Int32.ofInt z).toNatClampNeg = z.toNat := by
  show (Int32.ofInt z).toInt.toNat = z.toNat
  rw [inR_toInt h]
theorem ofI_in {z : Int} {n : Nat} (h0 : 0 ≤ z) (h1 : z < n) (hn : n < 2147483648) : vp_in (Int32.ofInt z) n := by
  have hR : inR z := ⟨by omega, by omega⟩
  unfold vp_in
  rw [ofI_clamp hR, ofI_0, ofI_lt hR inR_0]
  omega
section ROWS
variable {Γ : GG} {rg : Nat → Bool} {κ : Nat} {y : YT} {pc : Nat} {ls st : List PV} {D : DD} {Φ : OT → DD → Prop}
theorem r_iconst {n : Int} (hd : decode (yB y) pc = .ok (.iconst n, 1)) (k : Run Γ rg κ y (pc + 1) ls ((0, n) :: st) D Φ) : Run Γ rg κ y pc ls st D Φ := by
  intro p e R s m args below meth c H locs lsm cells slots q mc ms C hH hS hl h1 h2 h3 h4
  exact lv_iconst C.1 C.2.1 hd rfl (k p e R s m args below meth c H locs lsm cells slots q mc ms C hH hS hl h1 h2 h3 h4)
theorem r_bipush {n : Int} (hd : decode (yB y) pc = .ok (.bipush n, 2)) (hn : -128 ≤ n ∧ n ≤ 127) (k : Run Γ rg κ y (pc + 2) ls ((0, n) :: st) D Φ) : Run Γ rg κ y pc ls st D Φ := by
  intro p e R s m args below meth c H locs lsm cells slots q mc ms C hH hS hl h1 h2 h3 h4
  refine lv_bipush C.1 C.2.1 hd (v := Int32.ofInt n) ?_ (k p e R s m args below meth c H locs lsm cells slots q mc ms C hH hS hl h1 h2 h3 h4)
  rw [← Int32.toInt_inj, Int8.toInt_toInt32, Int8.toInt_ofInt_of_le (by omega) (by omega), inR_toInt ⟨by omega, by omega⟩]
theorem r_sipush {n : Int} (hd : decode (yB y) pc = .ok (.sipush n, 3)) (hn : -32768 ≤ n ∧ n ≤ 32767) (k : Run Γ rg κ y (pc + 3) ls ((0, n) :: st) D Φ) : Run Γ rg κ y pc ls st D Φ := by
  intro p e R s m args below meth c H locs lsm cells slots q mc ms C hH hS hl h1 h2 h3 h4
  refine lv_sipush C.1 C.2.1 hd (v := Int32.ofInt n) ?_ (k p e R s m args below meth c H locs lsm cells slots q mc ms C hH hS hl h1 h2 h3 h4)
  rw [← Int32.toInt_inj, Int16.toInt_toInt32, Int16.toInt_ofInt_of_le (by omega) (by omega), inR_toInt ⟨by omega, by omega⟩]
theorem r_lconst {n : Fin 2} (hd : decode (yB y) pc = .ok (.lconst n, 1)) (k : Run Γ rg κ y (pc + 1) ls ((1, ((n : Nat) : Int)) :: st) D Φ) : Run Γ rg κ y pc ls st D Φ := by
  intro p e R s m args below meth c H locs lsm cells slots q mc ms C hH hS hl h1 h2 h3 h4
  exact lv_lconst C.1 C.2.1 hd (Int64.ofInt_eq_ofNat).symm (k p e R s m args below meth c H locs lsm cells slots q mc ms C hH hS hl h1 h2 h3 h4)
theorem r_iload_n {i : Fin 4} {z : Int} (hd : decode (yB y) pc = .ok (.iload_n i, 1)) (hv : ls[(i : Nat)]? = some (0, z)) (k : Run Γ rg κ y (pc + 1) ls ((0, z) :: st) D Φ) : Run Γ rg κ y pc ls st D Φ := by
  intro p e R s m args below meth c H locs lsm cells slots q mc ms C hH hS hl h1 h2 h3 h4
  exact lv_iload_n C.1 C.2.1 hd rfl (hl.2.2 _ _ hv (by show (0 : Nat) ≠ 5; decide)) (k p e R s m args below meth c H locs lsm cells slots q mc ms C hH hS hl h1 h2 h3 h4)
theorem r_iload {i : Nat} {z : Int} (hd : decode (yB y) pc = .ok (.iload i, 2)) (hv : ls[i]? = some (0, z)) (k : Run Γ rg κ y (pc + 2) ls ((0, z) :: st) D Φ) : Run Γ rg κ y pc ls st D Φ := by
  intro p e R s m args below meth c H locs lsm cells slots q mc ms C hH hS hl h1 h2 h3 h4
  exact lv_iload C.1 C.2.1 hd (hl.2.2 _ _ hv (by show (0 : Nat) ≠ 5; decide)) (k p e R s m args below meth c H locs lsm cells slots q mc ms C hH hS hl h1 h2 h3 h4)
theorem r_lload_n {i : Fin 4} {z : Int} (hd : decode (yB y) pc = .ok (.lload_n i, 1)) (hv : ls[(i : Nat)]? = some (1, z)) (k : Run Γ rg κ y (pc + 1) ls ((1, z) :: st) D Φ) : Run Γ rg κ y pc ls st D Φ := by
  intro p e R s m args below meth c H locs lsm cells slots q mc ms C hH hS hl h1 h2 h3 h4
  exact lv_lload_n C.1 C.2.1 hd rfl (hl.2.2 _ _ hv (by show (1 : Nat) ≠ 5; decide)) (k p e R s m args below meth c H locs lsm cells slots q mc ms C hH hS hl h1 h2 h3 h4)
theorem r_aload_n {i : Fin 4} {v : PV} (hd : decode (yB y) pc = .ok (.aload_n i, 1)) (hv : ls[(i : Nat)]? = some v) (h7 : 7 ≤ v.1) (k : Run Γ rg κ y (pc + 1) ls (v :: st) D Φ) : Run Γ rg κ y pc ls st D Φ := by
  intro p e R s m args below meth c H locs lsm cells slots q mc ms C hH hS hl h1 h2 h3 h4
  have hv' := hl.2.2 _ _ hv (by omega)
  have kk := k p e R s m args below meth c H locs lsm cells slots q mc ms C hH hS hl h1 h2 h3 h4
  rw [List.map_cons] at kk
  obtain ⟨x, hx⟩ := mv_ref (Γ := Γ) (q := q) (v := v) (by omega)
  rw [hx] at hv' kk
  exact lv_aload_n C.1 C.2.1 hd rfl hv' kk
theorem r_aload {i : Nat} {v : PV} (hd : decode (yB y) pc = .ok (.aload i, 2)) (hv : ls[i]? = some v) (h7 : 7 ≤ v.1) (k : Run Γ rg κ y (pc + 2) ls (v :: st) D Φ) : Run Γ rg κ y pc ls st D Φ := by
  intro p e R s m args below meth c H locs lsm cells slots q mc ms C hH hS hl h1 h2 h3 h4
  have hv' := hl.2.2 _ _ hv (by omega)
  have kk := k p e R s m args below meth c H locs lsm cells slots q mc ms C hH hS hl h1 h2 h3 h4
  rw [List.map_cons] at kk
  obtain ⟨x, hx⟩ := mv_ref (Γ := Γ) (q := q) (v := v) (by omega)
  rw [hx] at hv' kk
  exact lv_aload C.1 C.2.1 hd hv' kk
theorem r_istore_n {i : Fin 4} {z : Int} (hd : decode (yB y) pc = .ok (.istore_n i, 1)) (hi : (i : Nat) < yL y) (hp : pok ls i = true) (k : Run Γ rg κ y (pc + 1) (ls.set i (0, z)) st D Φ) : Run Γ rg κ y pc ls ((0, z) :: st) D Φ := by
  intro p e R s m args below meth c H locs lsm cells slots q mc ms C hH hS hl h1 h2 h3 h4
  exact lv_istore_n C.1 C.2.1 hd rfl hl.has hi rfl (fun lsm' hn => k p e R s m args below meth c H locs lsm' cells slots q mc ms C hH hS (hl.set1 (v := (0, z)) hp hn) h1 h2 h3 h4)
theorem r_istore {i : Nat} {z : Int} (hd : decode (yB y) pc = .ok (.istore i, 2)) (hi : i < yL y) (hp : pok ls i = true) (k : Run Γ rg κ y (pc + 2) (ls.set i (0, z)) st D Φ) : Run Γ rg κ y pc ls ((0, z) :: st) D Φ := by
  intro p e R s m args below meth c H locs lsm cells slots q mc ms C hH hS hl h1 h2 h3 h4
  exact lv_istore C.1 C.2.1 hd hl.has hi rfl (fun lsm' hn => k p e R s m args below meth c H locs lsm' cells slots q mc ms C hH hS (hl.set1 (v := (0, z)) hp hn) h1 h2 h3 h4)
theorem r_astore_n {i : Fin 4} {v : PV} (hd : decode (yB y) pc = .ok (.astore_n i, 1)) (hi : (i : Nat) < yL y) (hp : pok ls i = true) (h4' : 4 ≤ v.1) (k : Run Γ rg κ y (pc + 1) (ls.set i v) st D Φ) : Run Γ rg κ y pc ls (v :: st) D Φ := by
  intro p e R s m args below meth c H locs lsm cells slots q mc ms C hH hS hl h1 h2 h3 h4
  obtain ⟨x, hx⟩ := mv_ref (Γ := Γ) (q := q) (v := v) h4'
  rw [List.map_cons, hx]
  exact lv_astore_n C.1 C.2.1 hd rfl hl.has hi rfl (fun lsm' hn => k p e R s m args below meth c H locs lsm' cells slots q mc ms C hH hS (hl.set1 (v := v) hp (by rw [hx]; exact hn)) h1 h2 h3 h4)
theorem r_astore {i : Nat} {v : PV} (hd : decode (yB y) pc = .ok (.astore i, 2)) (hi : i < yL y) (hp : pok ls i = true) (h4' : 4 ≤ v.1) (k : Run Γ rg κ y (pc + 2) (ls.set i v) st D Φ) : Run Γ rg κ y pc ls (v :: st) D Φ := by
  intro p e R s m args below meth c H locs lsm cells slots q mc ms C hH hS hl h1 h2 h3 h4
  obtain ⟨x, hx⟩ := mv_ref (Γ := Γ) (q := q) (v := v) h4'
  rw [List.map_cons, hx]
  exact lv_astore C.1 C.2.1 hd hl.has hi rfl (fun lsm' hn => k p e R s m args below meth c H locs lsm' cells slots q mc ms C hH hS (hl.set1 (v := v) hp (by rw [hx]; exact hn)) h1 h2 h3 h4)
theorem r_iinc {i : Nat} {n z : Int} (hd : decode (yB y) pc = .ok (.iinc i n, 3)) (hv : ls[i]? = some (0, z)) (hi : i < yL y) (hp : pok ls i = true) (k : Run Γ rg κ y (pc + 3) (ls.set i (0, z + n)) st D Φ) : Run Γ rg κ y pc ls st D Φ := by
  intro p e R s m args below meth c H locs lsm cells slots q mc ms C hH hS hl h1 h2 h3 h4
  obtain ⟨j, hj⟩ := List.getElem?_of_mem (lvl_mem (Γ := Γ) (q := q) hv (by show (0 : Nat) ≠ 5; decide))
  exact lv_iinc C.1 C.2.1 hd hl.has hj (by rw [← Int32.ofInt_add]) hi rfl (fun lsm' hn => k p e R s m args below meth c H locs lsm' cells slots q mc ms C hH hS (hl.set1 (v := (0, z + n)) hp hn) h1 h2 h3 h4)
theorem r_iadd {a b : Int} (hd : decode (yB y) pc = .ok (.iadd, 1)) (k : Run Γ rg κ y (pc + 1) ls ((0, a + b) :: st) D Φ) : Run Γ rg κ y pc ls ((0, b) :: (0, a) :: st) D Φ := by
  intro p e R s m args below meth c H locs lsm cells slots q mc ms C hH hS hl h1 h2 h3 h4
  refine lv_iadd C.1 C.2.1 hd ?_
  rw [← Int32.ofInt_add]
  exact k p e R s m args below meth c H locs lsm cells slots q mc ms C hH hS hl h1 h2 h3 h4
theorem r_isub {a b : Int} (hd : decode (yB y) pc = .ok (.isub, 1)) (k : Run Γ rg κ y (pc + 1) ls ((0, a - b) :: st) D Φ) : Run Γ rg κ y pc ls ((0, b) :: (0, a) :: st) D Φ := by
  intro p e R s m args below meth c H locs lsm cells slots q mc ms C hH hS hl h1 h2 h3 h4
  refine lv_isub C.1 C.2.1 hd ?_
  rw [← Int32.ofInt_sub]
  exact k p e R s m args below meth c H locs lsm cells slots q mc ms C hH hS hl h1 h2 h3 h4
theorem r_imul {a b : Int} (hd : decode (yB y) pc = .ok (.imul, 1)) (k : Run Γ rg κ y (pc + 1) ls ((0, a * b) :: st) D Φ) : Run Γ rg κ y pc ls ((0, b) :: (0, a) :: st) D Φ := by
  intro p e R s m args below meth c H locs lsm cells slots q mc ms C hH hS hl h1 h2 h3 h4
  refine lv_imul C.1 C.2.1 hd ?_
  rw [← Int32.ofInt_mul]
  exact k p e R s m args below meth c H locs lsm cells slots q mc ms C hH hS hl h1 h2 h3 h4
theorem r_ineg {a : Int} (hd : decode (yB y) pc = .ok (.ineg, 1)) (k : Run Γ rg κ y (pc + 1) ls ((0, -a) :: st) D Φ) : Run Γ rg κ y pc ls ((0, a) :: st) D Φ := by
  intro p e R s m args below meth c H locs lsm cells slots q mc ms C hH hS hl h1 h2 h3 h4
  refine lv_ineg C.1 C.2.1 hd ?_
  rw [← Int32.ofInt_neg]
  exact k p e R s m args below meth c H locs lsm cells slots q mc ms C hH hS hl h1 h2 h3 h4
theorem r_idiv {a b : Int} (hd : decode (yB y) pc = .ok (.idiv, 1)) (ha : inR a) (hb : inR b) (h0 : b ≠ 0) (k : Run Γ rg κ y (pc + 1) ls ((0, a.tdiv b) :: st) D Φ) : Run Γ rg κ y pc ls ((0, b) :: (0, a) :: st) D Φ := by
  intro p e R s m args below meth c H locs lsm cells slots q mc ms C hH hS hl h1 h2 h3 h4
  refine lv_idiv C.1 C.2.1 hd (by rw [ofI_0, ofI_eq hb inR_0]; exact h0) ?_
  rw [← Int32.ofInt_tdiv (show Int32.minValue.toInt ≤ a from ha.1) (show a ≤ Int32.maxValue.toInt from ha.2) (show Int32.minValue.toInt ≤ b from hb.1) (show b ≤ Int32.maxValue.toInt from hb.2)]
  exact k p e R s m args below meth c H locs lsm cells slots q mc ms C hH hS hl h1 h2 h3 h4
theorem r_irem {a b : Int} (hd : decode (yB y) pc = .ok (.irem, 1)) (ha : inR a) (hb : inR b) (h0 : b ≠ 0) (k : Run Γ rg κ y (pc + 1) ls ((0, a.tmod b) :: st) D Φ) : Run Γ rg κ y pc ls ((0, b) :: (0, a) :: st) D Φ := by
  intro p e R s m args below meth c H locs lsm cells slots q mc ms C hH hS hl h1 h2 h3 h4
  refine lv_irem C.1 C.2.1 hd (by rw [ofI_0, ofI_eq hb inR_0]; exact h0) ?_
  have e1 : Int32.ofInt a - Int32.ofInt a / Int32.ofInt b * Int32.ofInt b = Int32.ofInt (a.tmod b) := by
    rw [← Int32.ofInt_tdiv (show Int32.minValue.toInt ≤ a from ha.1) (show a ≤ Int32.maxValue.toInt from ha.2) (show Int32.minValue.toInt ≤ b from hb.1) (show b ≤ Int32.maxValue.toInt from hb.2), ← Int32.ofInt_mul, ← Int32.ofInt_sub]
    congr 1
    have := Int.mul_tdiv_add_tmod a b
    rw [Int.mul_comm] at this
    omega
  rw [e1]
  exact k p e R s m args below meth c H locs lsm cells slots q mc ms C hH hS hl h1 h2 h3 h4
theorem r_iand {a b : Int} (hd : decode (yB y) pc = .ok (.iand, 1)) (k : Run Γ rg κ y (pc + 1) ls ((0, (Int32.ofInt a &&& Int32.ofInt b).toInt) :: st) D Φ) : Run Γ rg κ y pc ls ((0, b) :: (0, a) :: st) D Φ := by
  intro p e R s m args below meth c H locs lsm cells slots q mc ms C hH hS hl h1 h2 h3 h4
  refine lv_iand C.1 C.2.1 hd ?_
  have := k p e R s m args below meth c H locs lsm cells slots q mc ms C hH hS hl h1 h2 h3 h4
  rw [List.map_cons, show mv Γ q (0, (Int32.ofInt a &&& Int32.ofInt b).toInt) = .int (Int32.ofInt (Int32.ofInt a &&& Int32.ofInt b).toInt) from rfl, Int32.ofInt_toInt] at this
  exact this
theorem r_lor {a b : Int} (hd : decode (yB y) pc = .ok (.lor, 1)) (k : Run Γ rg κ y (pc + 1) ls ((1, (Int64.ofInt a ||| Int64.ofInt b).toInt) :: st) D Φ) : Run Γ rg κ y pc ls ((1, b) :: (1, a) :: st) D Φ := by
  intro p e R s m args below meth c H locs lsm cells slots q mc ms C hH hS hl h1 h2 h3 h4
  refine lv_lor C.1 C.2.1 hd ?_
  have := k p e R s m args below meth c H locs lsm cells slots q mc ms C hH hS hl h1 h2 h3 h4
  rw [List.map_cons, show mv Γ q (1, (Int64.ofInt a ||| Int64.ofInt b).toInt) = .long (Int64.ofInt (Int64.ofInt a ||| Int64.ofInt b).toInt) from rfl, Int64.ofInt_toInt] at this
  exact this
theorem r_lshl {a b : Int} (hd : decode (yB y) pc = .ok (.lshl, 1)) (k : Run Γ rg κ y (pc + 1) ls ((1, (Int64.ofInt a <<< ((Int32.ofInt b).toInt64 &&& 63)).toInt) :: st) D Φ) : Run Γ rg κ y pc ls ((0, b) :: (1, a) :: st) D Φ := by
  intro p e R s m args below meth c H locs lsm cells slots q mc ms C hH hS hl h1 h2 h3 h4
  refine lv_lshl C.1 C.2.1 hd rfl ?_
  have := k p e R s m args below meth c H locs lsm cells slots q mc ms C hH hS hl h1 h2 h3 h4
  rw [List.map_cons, show mv Γ q (1, (Int64.ofInt a <<< ((Int32.ofInt b).toInt64 &&& 63)).toInt) = .long (Int64.ofInt (Int64.ofInt a <<< ((Int32.ofInt b).toInt64 &&& 63)).toInt) from rfl, Int64.ofInt_toInt] at this
  exact this
theorem r_i2l {a : Int} (hd : decode (yB y) pc = .ok (.i2l, 1)) (ha : inR a) (k : Run Γ rg κ y (pc + 1) ls ((1, a) :: st) D Φ) : Run Γ rg κ y pc ls ((0, a) :: st) D Φ := by
  intro p e R s m args below meth c H locs lsm cells slots q mc ms C hH hS hl h1 h2 h3 h4
  exact lv_i2l C.1 C.2.1 hd (Int32.toInt64_ofInt ha.1 ha.2) (k p e R s m args below meth c H locs lsm cells slots q mc ms C hH hS hl h1 h2 h3 h4)
theorem r_lcmp {a b : Int} (hd : decode (yB y) pc = .ok (.lcmp, 1)) (ha : inJ a) (hb : inJ b) (k : Run Γ rg κ y (pc + 1) ls ((0, if b < a then 1 else if a = b then 0 else -1) :: st) D Φ) : Run Γ rg κ y pc ls ((1, b) :: (1, a) :: st) D Φ := by
  intro p e R s m args below meth c H locs lsm cells slots q mc ms C hH hS hl h1 h2 h3 h4
  refine W.lcmp C.1 C.2.1 hd ?_
  have e1 : lg_cmp (Int64.ofInt a) (Int64.ofInt b) = Int32.ofInt (if b < a then 1 else if a = b then 0 else -1) := by
    unfold lg_cmp
    have q1 : (Int64.ofInt a > Int64.ofInt b) ↔ b < a := by
      show Int64.ofInt b < Int64.ofInt a ↔ b < a
      rw [Int64.lt_iff_toInt_lt, inJ_toInt ha, inJ_toInt hb]
    have q2 : (Int64.ofInt a = Int64.ofInt b) ↔ a = b := by rw [← Int64.toInt_inj, inJ_toInt ha, inJ_toInt hb]
    by_cases g1 : b < a
    · rw [if_pos (q1.mpr g1), if_pos g1]; rfl
    · rw [if_neg (fun h => g1 (q1.mp h)), if_neg g1]
      by_cases g2 : a = b
      · rw [if_pos (q2.mpr g2), if_pos g2]; rfl
      · rw [if_neg (fun h => g2 (q2.mp h)), if_neg g2]; rfl
  rw [e1]
  exact k p e R s m args below meth c H locs lsm cells slots q mc ms C hH hS hl h1 h2 h3 h4
theorem r_dup {v : PV} (hd : decode (yB y) pc = .ok (.dup, 1)) (hv : v.1 ≠ 1) (k : Run Γ rg κ y (pc + 1) ls (v :: v :: st) D Φ) : Run Γ rg κ y pc ls (v :: st) D Φ := by
  intro p e R s m args below meth c H locs lsm cells slots q mc ms C hH hS hl h1 h2 h3 h4
  exact lv_dup C.1 C.2.1 hd (mv_cat1 hv) (k p e R s m args below meth c H locs lsm cells slots q mc ms C hH hS hl h1 h2 h3 h4)
theorem r_dup2 {v w : PV} (hd : decode (yB y) pc = .ok (.dup2, 1)) (hv : v.1 ≠ 1) (hw : w.1 ≠ 1) (k : Run Γ rg κ y (pc + 1) ls (v :: w :: v :: w :: st) D Φ) : Run Γ rg κ y pc ls (v :: w :: st) D Φ := by
  intro p e R s m args below meth c H locs lsm cells slots q mc ms C hH hS hl h1 h2 h3 h4
  exact lv_dup2_11 C.1 C.2.1 hd (mv_cat1 hv) (mv_cat1 hw) (k p e R s m args below meth c H locs lsm cells slots q mc ms C hH hS hl h1 h2 h3 h4)
theorem r_pop {v : PV} (hd : decode (yB y) pc = .ok (.pop, 1)) (hv : v.1 ≠ 1) (k : Run Γ rg κ y (pc + 1) ls st D Φ) : Run Γ rg κ y pc ls (v :: st) D Φ := by
  intro p e R s m args below meth c H locs lsm cells slots q mc ms C hH hS hl h1 h2 h3 h4
  exact lv_pop C.1 C.2.1 hd (mv_cat1 hv) (k p e R s m args below meth c H locs lsm cells slots q mc ms C hH hS hl h1 h2 h3 h4)
theorem r_goto {off : Int} {tgt : Nat} (hd : decode (yB y) pc = .ok (.goto off, 3)) (ht : (pc : Int) + off = (tgt : Int)) (k : Run Γ rg κ y tgt ls st D Φ) : Run Γ rg κ y pc ls st D Φ := by
  intro p e R s m args below meth c H locs lsm cells slots q mc ms C hH hS hl h1 h2 h3 h4
  exact lv_goto C.1 C.2.1 hd ht (k p e R s m args below meth c H locs lsm cells slots q mc ms C hH hS hl h1 h2 h3 h4)
theorem r_icmp_eq {a b : Int} {off : Int} {tgt : Nat} (hd : decode (yB y) pc = .ok (.if_icmp .eq off, 3)) (ht : (pc : Int) + off = (tgt : Int)) (ha : inR a) (hb : inR b) (kt : a = b → Run Γ rg κ y tgt ls st D Φ) (kf : ¬ a = b → Run Γ rg κ y (pc + 3) ls st D Φ) : Run Γ rg κ y pc ls ((0, b) :: (0, a) :: st) D Φ := by
  intro p e R s m args below meth c H locs lsm cells slots q mc ms C hH hS hl h1 h2 h3 h4
  exact lv_icmp_eq C.1 C.2.1 hd ht (fun h => kt ((ofI_eq ha hb).mp h) p e R s m args below meth c H locs lsm cells slots q mc ms C hH hS hl h1 h2 h3 h4) (fun h => kf (fun g => h ((ofI_eq ha hb).mpr g)) p e R s m args below meth c H locs lsm cells slots q mc ms C hH hS hl h1 h2 h3 h4)
theorem r_if_eq {a : Int} {off : Int} {tgt : Nat} (hd : decode (yB y) pc = .ok (.ifCond .eq off, 3)) (ht : (pc : Int) + off = (tgt : Int)) (ha : inR a) (kt : a = 0 → Run Γ rg κ y tgt ls st D Φ) (kf : ¬ a = 0 → Run Γ rg κ y (pc + 3) ls st D Φ) : Run Γ rg κ y pc ls ((0, a) :: st) D Φ := by
  intro p e R s m args below meth c H locs lsm cells slots q mc ms C hH hS hl h1 h2 h3 h4
  exact lv_if_eq C.1 C.2.1 hd ht (fun h => kt ((ofI_eq ha inR_0).mp h) p e R s m args below meth c H locs lsm cells slots q mc ms C hH hS hl h1 h2 h3 h4) (fun h => kf (fun g => h ((ofI_eq ha inR_0).mpr g)) p e R s m args below meth c H locs lsm cells slots q mc ms C hH hS hl h1 h2 h3 h4)
theorem r_icmp_ne {a b : Int} {off : Int} {tgt : Nat} (hd : decode (yB y) pc = .ok (.if_icmp .ne off, 3)) (ht : (pc : Int) + off = (tgt : Int)) (ha : inR a) (hb : inR b) (kt : ¬ a = b → Run Γ rg κ y tgt ls st D Φ) (kf : a = b → Run Γ rg κ y (pc + 3) ls st D Φ) : Run Γ rg κ y pc ls ((0, b) :: (0, a) :: st) D Φ := by
  intro p e R s m args below meth c H locs lsm cells slots q mc ms C hH hS hl h1 h2 h3 h4
  exact lv_icmp_ne C.1 C.2.1 hd ht (fun h => kt (fun g => h ((ofI_eq ha hb).mpr g)) p e R s m args below meth c H locs lsm cells slots q mc ms C hH hS hl h1 h2 h3 h4) (fun h => kf ((ofI_eq ha hb).mp h) p e R s m args below meth c H locs lsm cells slots q mc ms C hH hS hl h1 h2 h3 h4)
theorem r_if_ne {a : Int} {off : Int} {tgt : Nat} (hd : decode (yB y) pc = .ok (.ifCond .ne off, 3)) (ht : (pc : Int) + off = (tgt : Int)) (ha : inR a) (kt : ¬ a = 0 → Run Γ rg κ y tgt ls st D Φ) (kf : a = 0 → Run Γ rg κ y (pc + 3) ls st D Φ) : Run Γ rg κ y pc ls ((0, a) :: st) D Φ := by
  intro p e R s m args below meth c H locs lsm cells slots q mc ms C hH hS hl h1 h2 h3 h4
  exact lv_if_ne C.1 C.2.1 hd ht (fun h => kt (fun g => h ((ofI_eq ha inR_0).mpr g)) p e R s m args below meth c H locs lsm cells slots q mc ms C hH hS hl h1 h2 h3 h4) (fun h => kf ((ofI_eq ha inR_0).mp h) p e R s m args below meth c H locs lsm cells slots q mc ms C hH hS hl h1 h2 h3 h4)
theorem r_icmp_lt {a b : Int} {off : Int} {tgt : Nat} (hd : decode (yB y) pc = .ok (.if_icmp .lt off, 3)) (ht : (pc : Int) + off = (tgt : Int)) (ha : inR a) (hb : inR b) (kt : a < b → Run Γ rg κ y tgt ls st D Φ) (kf : b ≤ a → Run Γ rg κ y (pc + 3) ls st D Φ) : Run Γ rg κ y pc ls ((0, b) :: (0, a) :: st) D Φ := by
  intro p e R s m args below meth c H locs lsm cells slots q mc ms C hH hS hl h1 h2 h3 h4
  exact lv_icmp_lt C.1 C.2.1 hd ht (fun h => kt ((ofI_lt ha hb).mp h) p e R s m args below meth c H locs lsm cells slots q mc ms C hH hS hl h1 h2 h3 h4) (fun h => kf (Int.not_lt.mp fun g => h ((ofI_lt ha hb).mpr g)) p e R s m args below meth c H locs lsm cells slots q mc ms C hH hS hl h1 h2 h3 h4)
theorem r_if_lt {a : Int} {off : Int} {tgt : Nat} (hd : decode (yB y) pc = .ok (.ifCond .lt off, 3)) (ht : (pc : Int) + off = (tgt : Int)) (ha : inR a) (kt : a < 0 → Run Γ rg κ y tgt ls st D Φ) (kf : 0 ≤ a → Run Γ rg κ y (pc + 3) ls st D Φ) : Run Γ rg κ y pc ls ((0, a) :: st) D Φ := by
  intro p e R s m args below meth c H locs lsm cells slots q mc ms C hH hS hl h1 h2 h3 h4
  exact lv_if_lt C.1 C.2.1 hd ht (fun h => kt ((ofI_lt ha inR_0).mp h) p e R s m args below meth c H locs lsm cells slots q mc ms C hH hS hl h1 h2 h3 h4) (fun h => kf (Int.not_lt.mp fun g => h ((ofI_lt ha inR_0).mpr g)) p e R s m args below meth c H locs lsm cells slots q mc ms C hH hS hl h1 h2 h3 h4)
theorem r_icmp_ge {a b : Int} {off : Int} {tgt : Nat} (hd : decode (yB y) pc = .ok (.if_icmp .ge off, 3)) (ht : (pc : Int) + off = (tgt : Int)) (ha : inR a) (hb : inR b) (kt : b ≤ a → Run Γ rg κ y tgt ls st D Φ) (kf : a < b → Run Γ rg κ y (pc + 3) ls st D Φ) : Run Γ rg κ y pc ls ((0, b) :: (0, a) :: st) D Φ := by
  intro p e R s m args below meth c H locs lsm cells slots q mc ms C hH hS hl h1 h2 h3 h4
  exact lv_icmp_ge C.1 C.2.1 hd ht (fun h => kt ((ofI_le hb ha).mp h) p e R s m args below meth c H locs lsm cells slots q mc ms C hH hS hl h1 h2 h3 h4) (fun h => kf (Int.not_le.mp fun g => h ((ofI_le hb ha).mpr g)) p e R s m args below meth c H locs lsm cells slots q mc ms C hH hS hl h1 h2 h3 h4)
theorem r_if_ge {a : Int} {off : Int} {tgt : Nat} (hd : decode (yB y) pc = .ok (.ifCond .ge off, 3)) (ht : (pc : Int) + off = (tgt : Int)) (ha : inR a) (kt : 0 ≤ a → Run Γ rg κ y tgt ls st D Φ) (kf : a < 0 → Run Γ rg κ y (pc + 3) ls st D Φ) : Run Γ rg κ y pc ls ((0, a) :: st) D Φ := by
  intro p e R s m args below meth c H locs lsm cells slots q mc ms C hH hS hl h1 h2 h3 h4
  exact lv_if_ge C.1 C.2.1 hd ht (fun h => kt ((ofI_le inR_0 ha).mp h) p e R s m args below meth c H locs lsm cells slots q mc ms C hH hS hl h1 h2 h3 h4) (fun h => kf (Int.not_le.mp fun g => h ((ofI_le inR_0 ha).mpr g)) p e R s m args below meth c H locs lsm cells slots q mc ms C hH hS hl h1 h2 h3 h4)
theorem r_icmp_gt {a b : Int} {off : Int} {tgt : Nat} (hd : decode (yB y) pc = .ok (.if_icmp .gt off, 3)) (ht : (pc : Int) + off = (tgt : Int)) (ha : inR a) (hb : inR b) (kt : b < a → Run Γ rg κ y tgt ls st D Φ) (kf : a ≤ b → Run Γ rg κ y (pc + 3) ls st D Φ) : Run Γ rg κ y pc ls ((0, b) :: (0, a) :: st) D Φ := by
  intro p e R s m args below meth c H locs lsm cells slots q mc ms C hH hS hl h1 h2 h3 h4
  exact lv_icmp_gt C.1 C.2.1 hd ht (fun h => kt ((ofI_lt hb ha).mp h) p e R s m args below meth c H locs lsm cells slots q mc ms C hH hS hl h1 h2 h3 h4) (fun h => kf (Int.not_lt.mp fun g => h ((ofI_lt hb ha).mpr g)) p e R s m args below meth c H locs lsm cells slots q mc ms C hH hS hl h1 h2 h3 h4)
theorem r_if_gt {a : Int} {off : Int} {tgt : Nat} (hd : decode (yB y) pc = .ok (.ifCond .gt off, 3)) (ht : (pc : Int) + off = (tgt : Int)) (ha : inR a) (kt : 0 < a → Run Γ rg κ y tgt ls st D Φ) (kf : a ≤ 0 → Run Γ rg κ y (pc + 3) ls st D Φ) : Run Γ rg κ y pc ls ((0, a) :: st) D Φ := by
  intro p e R s m args below meth c H locs lsm cells slots q mc ms C hH hS hl h1 h2 h3 h4
  exact lv_if_gt C.1 C.2.1 hd ht (fun h => kt ((ofI_lt inR_0 ha).mp h) p e R s m args below meth c H locs lsm cells slots q mc ms C hH hS hl h1 h2 h3 h4) (fun h => kf (Int.not_lt.mp fun g => h ((ofI_lt inR_0 ha).mpr g)) p e R s m args below meth c H locs lsm cells slots q mc ms C hH hS hl h1 h2 h3 h4)
theorem r_icmp_le {a b : Int} {off : Int} {tgt : Nat} (hd : decode (yB y) pc = .ok (.if_icmp .le off, 3)) (ht : (pc : Int) + off = (tgt : Int)) (ha : inR a) (hb : inR b) (kt : a ≤ b → Run Γ rg κ y tgt ls st D Φ) (kf : b < a → Run Γ rg κ y (pc + 3) ls st D Φ) : Run Γ rg κ y pc ls ((0, b) :: (0, a) :: st) D Φ := by
  intro p e R s m args below meth c H locs lsm cells slots q mc ms C hH hS hl h1 h2 h3 h4
  exact lv_icmp_le C.1 C.2.1 hd ht (fun h => kt ((ofI_le ha hb).mp h) p e R s m args below meth c H locs lsm cells slots q mc ms C hH hS hl h1 h2 h3 h4) (fun h => kf (Int.not_le.mp fun g => h ((ofI_le ha hb).mpr g)) p e R s m args below meth c H locs lsm cells slots q mc ms C hH hS hl h1 h2 h3 h4)
theorem r_if_le {a : Int} {off : Int} {tgt : Nat} (hd : decode (yB y) pc = .ok (.ifCond .le off, 3)) (ht : (pc : Int) + off = (tgt : Int)) (ha : inR a) (kt : a ≤ 0 → Run Γ rg κ y tgt ls st D Φ) (kf : 0 < a → Run Γ rg κ y (pc + 3) ls st D Φ) : Run Γ rg κ y pc ls ((0, a) :: st) D Φ := by
  intro p e R s m args below meth c H locs lsm cells slots q mc ms C hH hS hl h1 h2 h3 h4
  exact lv_if_le C.1 C.2.1 hd ht (fun h => kt ((ofI_le ha inR_0).mp h) p e R s m args below meth c H locs lsm cells slots q mc ms C hH hS hl h1 h2 h3 h4) (fun h => kf (Int.not_le.mp fun g => h ((ofI_le ha inR_0).mpr g)) p e R s m args below meth c H locs lsm cells slots q mc ms C hH hS hl h1 h2 h3 h4)
end ROWS
end
section
/-! rows that read and write cells, and the ends -/
def up2 (D : DD) (a k : Nat) (z : Int) : DD := fun x => if x = a then (fun j => if j = k then z else D a j) else D x
theorem up2_at (D : DD) (a k : Nat) (z : Int) : up2 D a k z a = fun j => if j = k then z else D a j := by unfold up2; rw [if_pos rfl]
theorem up2_ne (D : DD) (a k : Nat) (z : Int) {x : Nat} (h : x ≠ a) : up2 D a k z x = D x := by unfold up2; rw [if_neg h]
/-- a field: the class's place among the classes, the field's place; its link from own's pool -/
def FK (own : String) (idx ci k : Nat) : Prop := ∃ (C : String) (T : u_T) (N : Nat), vwCl[ci]? = some (C, T, N) ∧ k < N ∧ (∀ w ∈ u_ws C T N, KW w) ∧ KW (.fieldLink own idx (T k).1 (T k).2.1 (T k).2.2.1)
def PK (own : String) (idx ci k : Nat) (ty : FieldType) : Prop := ∃ (C : String) (T : u_T) (N : Nat) (ty0 : Nat → FieldType), vwCl[ci]? = some (C, T, N) ∧ k < N ∧ (∀ w ∈ u_ws C T N, KW w) ∧ KW (.fieldLink own idx (T k).1 (T k).2.1 (T k).2.2.1) ∧
  (∀ k, k < N → parseFieldDescriptor (T k).2.2.1 = some (ty0 k)) ∧ (∀ a, a < N → ∀ b, b < N → a ≠ b → (T a).2.1 ≠ (T b).2.1) ∧ (T k).2.2.2 = false ∧ ty0 k = ty
theorem EV.word {Γ : GG} {s : State} (h : EV Γ s) {w : Cond} (hw : KW w) {args : Array Value} : w.before args s = true := va_Nw.use (kk_on hw.2) (h.2.1 w hw)
section HEAPS
variable {Γ : GG} {rg : Nat → Bool} {κ : Nat} {y : YT} {pc : Nat} {ls st : List PV} {D : DD} {Φ : OT → DD → Prop}
theorem r_get {idx a k ci code : Nat} {cs : List Nat} {z : Int} {v : PV} (hd : decode (yB y) pc = .ok (.getfield idx, 3)) (hF : FK (yN y).cls idx ci k) (hs : SH.getD a (9, 0, []) = (0, ci, cs)) (hk : cs[k]? = some code) (ha : a < NA) (hr : rg a = true)
    (hv : ∀ q, mv Γ q v = fvz Γ code (D a k)) (kk : Run Γ rg κ y (pc + 3) ls (v :: st) D Φ) : Run Γ rg κ y pc ls ((a + 8, z) :: st) D Φ := by
  intro p e R s m args below meth c H locs lsm cells slots q mc ms C hH hS hl h1 h2 h3 h4
  obtain ⟨Cn, T, N, e1, e2, e3, e4⟩ := hF
  obtain ⟨hx, hb, hml, hown, hlk, hrt, htb, hfr, hlo, hE⟩ := id C
  obtain ⟨q0, -, hq⟩ := wsl_at ha hr
  have hce : cellOf Γ D a = .inr (ci, (List.range cs.length).map (fun k => fvz Γ (cs.getD k 0) (D a k))) := by unfold cellOf; simp only [hs]
  have hat := (hq Γ D).1
  rw [hce] at hat
  have kk' := kk p e R s m args below meth c H locs lsm cells slots q mc ms C hH hS hl h1 h2 h3 h4
  rw [List.map_cons, hv q] at kk'
  have hkl := (List.getElem?_eq_some_iff.mp hk).1
  exact va_get (Ts := u_ws Cn T N) hx hb (fun w hw => hE.word (e3 w hw)) (fun _ h => h) hown hE.2.2.1 hH q0 hat e1 k e2 (hE.word e4) (fun _ h => h) (v := fvz Γ code (D a k))
    (by rw [List.getElem?_map, List.getElem?_range hkl, Option.map_some, List.getD_eq_getElem?_getD, hk]; rfl) hd kk'
theorem r_getI {idx a k ci : Nat} {code : Nat} {cs : List Nat} {z : Int} (hd : decode (yB y) pc = .ok (.getfield idx, 3)) (hF : FK (yN y).cls idx ci k) (hs : SH.getD a (9, 0, []) = (0, ci, cs)) (hk : cs[k]? = some code) (hc : code ≤ 1) (ha : a < NA) (hr : rg a = true)
    (kk : Run Γ rg κ y (pc + 3) ls ((0, D a k) :: st) D Φ) : Run Γ rg κ y pc ls ((a + 8, z) :: st) D Φ := r_get hd hF hs hk ha hr (fun q => by unfold fvz; rw [if_pos hc]; rfl) kk
theorem r_getJ {idx a k ci : Nat} {cs : List Nat} {z : Int} (hd : decode (yB y) pc = .ok (.getfield idx, 3)) (hF : FK (yN y).cls idx ci k) (hs : SH.getD a (9, 0, []) = (0, ci, cs)) (hk : cs[k]? = some 2) (ha : a < NA) (hr : rg a = true)
    (kk : Run Γ rg κ y (pc + 3) ls ((1, D a k) :: st) D Φ) : Run Γ rg κ y pc ls ((a + 8, z) :: st) D Φ := r_get hd hF hs hk ha hr (fun q => rfl) kk
theorem r_getR {idx a k ci t : Nat} {cs : List Nat} {z : Int} (hd : decode (yB y) pc = .ok (.getfield idx, 3)) (hF : FK (yN y).cls idx ci k) (hs : SH.getD a (9, 0, []) = (0, ci, cs)) (hk : cs[k]? = some (t + 3)) (ha : a < NA) (hr : rg a = true)
    (kk : Run Γ rg κ y (pc + 3) ls ((t + 8, 0) :: st) D Φ) : Run Γ rg κ y pc ls ((a + 8, z) :: st) D Φ := r_get hd hF hs hk ha hr (fun q => by unfold fvz; rw [if_neg (by omega), if_neg (by omega)]; rfl) kk
theorem r_put {idx a k ci code : Nat} {cs : List Nat} {z : Int} {ty : FieldType} {x : Int} {v : PV} (hd : decode (yB y) pc = .ok (.putfield idx, 3)) (hF : PK (yN y).cls idx ci k ty) (hs : SH.getD a (9, 0, []) = (0, ci, cs)) (hk : cs[k]? = some code) (ha : a < NA) (hr : rg a = true)
    (hv : ∀ q, mv Γ q v = fvz Γ code x) (hn : narrow ty (fvz Γ code x) = fvz Γ code x) (hf : fits ty (fvz Γ code x) = true)
    (kk : Run Γ rg κ y (pc + 3) ls st (up2 D a k x) Φ) : Run Γ rg κ y pc ls (v :: (a + 8, z) :: st) D Φ := by
  intro p e R s m args below meth c H locs lsm cells slots q mc ms C hH hS hl h1 h2 h3 h4
  obtain ⟨Cn, T, N, ty0, e1, e2, e3, e4, e5, e6, e7, e8⟩ := hF
  obtain ⟨hx, hb, hml, hown, hlk, hrt, htb, hfr, hlo, hE⟩ := id C
  obtain ⟨q0, -, hq⟩ := wsl_at ha hr
  have hce : ∀ D : DD, cellOf Γ D a = .inr (ci, (List.range cs.length).map (fun k => fvz Γ (cs.getD k 0) (D a k))) := fun D => by unfold cellOf; simp only [hs]
  have hat := (hq Γ D).1
  rw [hce] at hat
  have hkl := (List.getElem?_eq_some_iff.mp hk).1
  have hset := (hq Γ D).2 (up2 D a k x) (fun b hb => up2_ne D a k x hb)
  have hfs : ((List.range cs.length).map (fun k => fvz Γ (cs.getD k 0) (D a k))).set k (fvz Γ code x) = (List.range cs.length).map (fun j => fvz Γ (cs.getD j 0) (up2 D a k x a j)) := by
    apply List.ext_getElem?
    intro j
    rw [List.getElem?_set, List.getElem?_map, List.getElem?_map]
    by_cases hj : k = j
    · subst hj
      rw [if_pos rfl, if_pos (by simpa using hkl), List.getElem?_range hkl, Option.map_some, up2_at]
      dsimp only
      rw [if_pos rfl, List.getD_eq_getElem?_getD, hk]; rfl
    · rw [if_neg hj]
      cases hg : (List.range cs.length)[j]? with
      | none => rfl
      | some w =>
        have hw : w = j := by
          have := List.getElem?_eq_some_iff.mp hg
          obtain ⟨l1, l2⟩ := this
          rw [List.getElem_range] at l2; exact l2.symm
        subst hw
        rw [Option.map_some, Option.map_some, up2_at]
        dsimp only
        rw [if_neg (fun h : w = k => hj h.symm)]
  rw [hce, ← hfs] at hset
  rw [List.map_cons, hv q]
  refine va_put (Ts := u_ws Cn T N) hx hb (fun w hw => hE.word (e3 w hw)) (fun _ h => h) ty0 e5 e6 hown hE.2.2.1 hH (wsl_D Γ rg D) hS q0 hat e1 k e2 (hE.word e4) (fun _ h => h) e7 (ty := ty) (by rw [e5 k e2, e8]) hn hf (by simpa using hkl) hd (fun H1 locs1 hP1 hD1 hS1 => ?_)
  rw [hset] at hP1
  exact kk p e R s m args below meth c H1 locs1 lsm cells slots q mc ms C hP1 hS1 hl h1 h2 h3 h4
theorem r_putI {idx a k ci : Nat} {cs : List Nat} {z x : Int} (hd : decode (yB y) pc = .ok (.putfield idx, 3)) (hF : PK (yN y).cls idx ci k .int) (hs : SH.getD a (9, 0, []) = (0, ci, cs)) (hk : cs[k]? = some 0) (ha : a < NA) (hr : rg a = true)
    (kk : Run Γ rg κ y (pc + 3) ls st (up2 D a k x) Φ) : Run Γ rg κ y pc ls ((0, x) :: (a + 8, z) :: st) D Φ := r_put hd hF hs hk ha hr (fun q => rfl) rfl rfl kk
theorem r_putZ {idx a k ci : Nat} {cs : List Nat} {z x : Int} (hd : decode (yB y) pc = .ok (.putfield idx, 3)) (hF : PK (yN y).cls idx ci k .boolean) (hs : SH.getD a (9, 0, []) = (0, ci, cs)) (hk : cs[k]? = some 1) (ha : a < NA) (hr : rg a = true) (hx : x = 0 ∨ x = 1)
    (kk : Run Γ rg κ y (pc + 3) ls st (up2 D a k x) Φ) : Run Γ rg κ y pc ls ((0, x) :: (a + 8, z) :: st) D Φ := r_put hd hF hs hk ha hr (fun q => rfl) (by rcases hx with rfl | rfl <;> rfl) (by rcases hx with rfl | rfl <;> rfl) kk
theorem r_putJ {idx a k ci : Nat} {cs : List Nat} {z x : Int} (hd : decode (yB y) pc = .ok (.putfield idx, 3)) (hF : PK (yN y).cls idx ci k .long) (hs : SH.getD a (9, 0, []) = (0, ci, cs)) (hk : cs[k]? = some 2) (ha : a < NA) (hr : rg a = true)
    (kk : Run Γ rg κ y (pc + 3) ls st (up2 D a k x) Φ) : Run Γ rg κ y pc ls ((1, x) :: (a + 8, z) :: st) D Φ := r_put hd hF hs hk ha hr (fun q => rfl) rfl rfl kk
/-- arrays -/
theorem r_iald {a n : Nat} {i z : Int} {cs : List Nat} (hd : decode (yB y) pc = .ok (.iaload, 1)) (hs : SH.getD a (9, 0, []) = (1, n, cs)) (ha : a < NA) (hr : rg a = true) (hn : n < 2147483648) (hi : 0 ≤ i) (hj : i < n)
    (kk : Run Γ rg κ y (pc + 1) ls ((0, D a i.toNat) :: st) D Φ) : Run Γ rg κ y pc ls ((0, i) :: (a + 8, z) :: st) D Φ := by
  intro p e R s m args below meth c H locs lsm cells slots q mc ms C hH hS hl h1 h2 h3 h4
  obtain ⟨q0, -, hq⟩ := wsl_at ha hr
  have hat := (hq Γ D).1
  rw [show cellOf Γ D a = .inl (gI Γ, n, .inl (fun j => Int32.ofInt (D a j))) by unfold cellOf; simp only [hs]] at hat
  refine va_iald C.1 C.2.1 C.2.2.2.2.2.2.2.2.2.2.2.1 hH q0 0 hat rfl (ofI_in hi hj hn) hd ?_
  rw [ofI_clamp ⟨by omega, by omega⟩]
  exact kk p e R s m args below meth c H locs lsm cells slots q mc ms C hH hS hl h1 h2 h3 h4
theorem r_zald {a n : Nat} {i z : Int} {cs : List Nat} (hd : decode (yB y) pc = .ok (.baload, 1)) (hs : SH.getD a (9, 0, []) = (2, n, cs)) (ha : a < NA) (hr : rg a = true) (hn : n < 2147483648) (hi : 0 ≤ i) (hj : i < n)
    (kk : Run Γ rg κ y (pc + 1) ls ((0, D a i.toNat) :: st) D Φ) : Run Γ rg κ y pc ls ((0, i) :: (a + 8, z) :: st) D Φ := by
  intro p e R s m args below meth c H locs lsm cells slots q mc ms C hH hS hl h1 h2 h3 h4
  obtain ⟨q0, -, hq⟩ := wsl_at ha hr
  have hat := (hq Γ D).1
  rw [show cellOf Γ D a = .inl (gZ Γ, n, .inl (fun j => Int32.ofInt (D a j))) by unfold cellOf; simp only [hs]] at hat
  refine va_zald C.1 C.2.1 C.2.2.2.2.2.2.2.2.2.2.2.1 hH q0 1 hat rfl (ofI_in hi hj hn) hd ?_
  rw [ofI_clamp ⟨by omega, by omega⟩]
  exact kk p e R s m args below meth c H locs lsm cells slots q mc ms C hH hS hl h1 h2 h3 h4
theorem r_lald {a n : Nat} {i z : Int} {cs : List Nat} (hd : decode (yB y) pc = .ok (.laload, 1)) (hs : SH.getD a (9, 0, []) = (3, n, cs)) (ha : a < NA) (hr : rg a = true) (hn : n < 2147483648) (hi : 0 ≤ i) (hj : i < n)
    (kk : Run Γ rg κ y (pc + 1) ls ((1, D a i.toNat) :: st) D Φ) : Run Γ rg κ y pc ls ((0, i) :: (a + 8, z) :: st) D Φ := by
  intro p e R s m args below meth c H locs lsm cells slots q mc ms C hH hS hl h1 h2 h3 h4
  obtain ⟨q0, -, hq⟩ := wsl_at ha hr
  have hat := (hq Γ D).1
  rw [show cellOf Γ D a = .inl (gJ Γ, n, .inr (.inl (fun j => Int64.ofInt (D a j)))) by unfold cellOf; simp only [hs]] at hat
  refine va_lald C.1 C.2.1 C.2.2.2.2.2.2.2.2.2.2.2.1 hH q0 2 hat rfl (ofI_in hi hj hn) hd ?_
  rw [ofI_clamp ⟨by omega, by omega⟩]
  exact kk p e R s m args below meth c H locs lsm cells slots q mc ms C hH hS hl h1 h2 h3 h4
theorem upd_up2 {D : DD} {a : Nat} {i x : Int} (hi : 0 ≤ i) (hj : i < 2147483648) : upd (fun j => Int32.ofInt (D a j)) (Int32.ofInt i).toNatClampNeg (Int32.ofInt x) = fun j => Int32.ofInt (up2 D a i.toNat x a j) := by
  funext j
  rw [ofI_clamp ⟨by omega, by omega⟩, up2_at]
  unfold upd
  dsimp only
  by_cases h : j = i.toNat
  · rw [if_pos h, if_pos h]
  · rw [if_neg h, if_neg h]
theorem r_iast {a n : Nat} {i z x : Int} {cs : List Nat} (hd : decode (yB y) pc = .ok (.iastore, 1)) (hs : SH.getD a (9, 0, []) = (1, n, cs)) (ha : a < NA) (hr : rg a = true) (hn : n < 2147483648) (hi : 0 ≤ i) (hj : i < n)
    (kk : Run Γ rg κ y (pc + 1) ls st (up2 D a i.toNat x) Φ) : Run Γ rg κ y pc ls ((0, x) :: (0, i) :: (a + 8, z) :: st) D Φ := by
  intro p e R s m args below meth c H locs lsm cells slots q mc ms C hH hS hl h1 h2 h3 h4
  obtain ⟨q0, -, hq⟩ := wsl_at ha hr
  have hat := (hq Γ D).1
  have hce : ∀ D : DD, cellOf Γ D a = .inl (gI Γ, n, .inl (fun j => Int32.ofInt (D a j))) := fun D => by unfold cellOf; simp only [hs]
  have hset := (hq Γ D).2 (up2 D a i.toNat x) (fun b hb => up2_ne D a _ x hb)
  rw [hce] at hat hset
  refine va_iast C.1 C.2.1 C.2.2.2.2.2.2.2.2.2.2.2.1 hH (wsl_D Γ rg D) hS q0 0 hat rfl (ofI_in hi hj hn) hd (fun H1 locs1 hP1 hD1 hS1 => ?_)
  rw [upd_up2 hi (by omega), hset] at hP1
  exact kk p e R s m args below meth c H1 locs1 lsm cells slots q mc ms C hP1 hS1 hl h1 h2 h3 h4
theorem r_zast {a n : Nat} {i z x : Int} {cs : List Nat} (hd : decode (yB y) pc = .ok (.bastore, 1)) (hs : SH.getD a (9, 0, []) = (2, n, cs)) (ha : a < NA) (hr : rg a = true) (hn : n < 2147483648) (hi : 0 ≤ i) (hj : i < n) (hx : x = 0 ∨ x = 1)
    (kk : Run Γ rg κ y (pc + 1) ls st (up2 D a i.toNat x) Φ) : Run Γ rg κ y pc ls ((0, x) :: (0, i) :: (a + 8, z) :: st) D Φ := by
  intro p e R s m args below meth c H locs lsm cells slots q mc ms C hH hS hl h1 h2 h3 h4
  obtain ⟨q0, -, hq⟩ := wsl_at ha hr
  have hat := (hq Γ D).1
  have hce : ∀ D : DD, cellOf Γ D a = .inl (gZ Γ, n, .inl (fun j => Int32.ofInt (D a j))) := fun D => by unfold cellOf; simp only [hs]
  have hset := (hq Γ D).2 (up2 D a i.toNat x) (fun b hb => up2_ne D a _ x hb)
  rw [hce] at hat hset
  refine va_zast C.1 C.2.1 C.2.2.2.2.2.2.2.2.2.2.2.1 hH (wsl_D Γ rg D) hS q0 1 hat rfl (ofI_in hi hj hn) hd (fun H1 locs1 hP1 hD1 hS1 => ?_)
  rw [show vp_nar .boolean (Int32.ofInt x) = Int32.ofInt x by rcases hx with rfl | rfl <;> rfl, upd_up2 hi (by omega), hset] at hP1
  exact kk p e R s m args below meth c H1 locs1 lsm cells slots q mc ms C hP1 hS1 hl h1 h2 h3 h4
theorem r_last {a n : Nat} {i z x : Int} {cs : List Nat} (hd : decode (yB y) pc = .ok (.lastore, 1)) (hs : SH.getD a (9, 0, []) = (3, n, cs)) (ha : a < NA) (hr : rg a = true) (hn : n < 2147483648) (hi : 0 ≤ i) (hj : i < n)
    (kk : Run Γ rg κ y (pc + 1) ls st (up2 D a i.toNat x) Φ) : Run Γ rg κ y pc ls ((1, x) :: (0, i) :: (a + 8, z) :: st) D Φ := by
  intro p e R s m args below meth c H locs lsm cells slots q mc ms C hH hS hl h1 h2 h3 h4
  obtain ⟨q0, -, hq⟩ := wsl_at ha hr
  have hat := (hq Γ D).1
  have hce : ∀ D : DD, cellOf Γ D a = .inl (gJ Γ, n, .inr (.inl (fun j => Int64.ofInt (D a j)))) := fun D => by unfold cellOf; simp only [hs]
  have hset := (hq Γ D).2 (up2 D a i.toNat x) (fun b hb => up2_ne D a _ x hb)
  rw [hce] at hat hset
  refine va_last C.1 C.2.1 C.2.2.2.2.2.2.2.2.2.2.2.1 hH (wsl_D Γ rg D) hS q0 2 hat rfl (ofI_in hi hj hn) hd (fun H1 locs1 hP1 hD1 hS1 => ?_)
  have e1 : vp_updL (fun j => Int64.ofInt (D a j)) (Int32.ofInt i).toNatClampNeg (Int64.ofInt x) = fun j => Int64.ofInt (up2 D a i.toNat x a j) := by
    funext j
    rw [ofI_clamp ⟨by omega, by omega⟩, up2_at]
    unfold vp_updL
    dsimp only
    by_cases h : j = i.toNat
    · rw [if_pos h, if_pos h]
    · rw [if_neg h, if_neg h]
  rw [e1, hset] at hP1
  exact kk p e R s m args below meth c H1 locs1 lsm cells slots q mc ms C hP1 hS1 hl h1 h2 h3 h4
theorem r_alen {a n : Nat} {z : Int} {cs : List Nat} (hd : decode (yB y) pc = .ok (.arraylength, 1)) (hs : SH.getD a (9, 0, []) = (1, n, cs)) (ha : a < NA) (hr : rg a = true)
    (kk : Run Γ rg κ y (pc + 1) ls ((0, (n : Int)) :: st) D Φ) : Run Γ rg κ y pc ls ((a + 8, z) :: st) D Φ := by
  intro p e R s m args below meth c H locs lsm cells slots q mc ms C hH hS hl h1 h2 h3 h4
  obtain ⟨q0, -, hq⟩ := wsl_at ha hr
  have hat := (hq Γ D).1
  rw [show cellOf Γ D a = .inl (gI Γ, n, .inl (fun j => Int32.ofInt (D a j))) by unfold cellOf; simp only [hs]] at hat
  exact va_alen C.1 C.2.1 C.2.2.2.2.2.2.2.2.2.2.2.1 hH q0 0 hat (ty := .int) rfl (v := Int32.ofInt (n : Int)) (Int32.ofInt_eq_ofNat).symm hd (kk p e R s m args below meth c H locs lsm cells slots q mc ms C hH hS hl h1 h2 h3 h4)
theorem r_sld {i z : Int} (hd : decode (yB y) pc = .ok (.iaload, 1)) (hL : gL Γ < 2147483648) (hi : 0 ≤ i) (hj : i < gL Γ)
    (kk : Run Γ rg κ y (pc + 1) ls ((0, (gX Γ i.toNat).toInt) :: st) D Φ) : Run Γ rg κ y pc ls ((0, i) :: (7, z) :: st) D Φ := by
  intro p e R s m args below meth c H locs lsm cells slots q mc ms C hH hS hl h1 h2 h3 h4
  have hE := C.2.2.2.2.2.2.2.2.2
  obtain ⟨-, -, -, -, -, -, -, hX, hb1, hb2⟩ := hE
  refine va_sld C.1 C.2.1 hX (Nat.lt_of_lt_of_le hb1 hb2) (Nat.not_le.mpr hb1) hS (ofI_in hi hj hL) hd ?_
  rw [ofI_clamp ⟨by omega, by omega⟩]
  have := kk p e R s m args below meth c H locs lsm cells slots q mc ms C hH hS hl h1 h2 h3 h4
  rw [List.map_cons, show mv Γ q (0, (gX Γ i.toNat).toInt) = .int (Int32.ofInt (gX Γ i.toNat).toInt) from rfl, Int32.ofInt_toInt] at this
  exact this
theorem r_slen {z : Int} (hd : decode (yB y) pc = .ok (.arraylength, 1))
    (kk : Run Γ rg κ y (pc + 1) ls ((0, (gL Γ : Int)) :: st) D Φ) : Run Γ rg κ y pc ls ((7, z) :: st) D Φ := by
  intro p e R s m args below meth c H locs lsm cells slots q mc ms C hH hS hl h1 h2 h3 h4
  have hE := C.2.2.2.2.2.2.2.2.2
  obtain ⟨-, -, -, -, -, -, -, hX, hb1, hb2⟩ := hE
  refine va_slen C.1 C.2.1 hX (Nat.lt_of_lt_of_le hb1 hb2) (Nat.not_le.mpr hb1) hS hd ?_
  rw [← Int32.ofInt_eq_ofNat]
  exact kk p e R s m args below meth c H locs lsm cells slots q mc ms C hH hS hl h1 h2 h3 h4
/-- ends -/
theorem r_iret {x : Int} (hd : decode (yB y) pc = .ok (.ireturn, 1)) (hr : yR y = some .int) (h : Φ (.inl (some (0, x))) D) : Run Γ rg κ y pc ls [(0, x)] D Φ := by
  intro p e R s m args below meth c H locs lsm cells slots q mc ms C hH hS hl h1 h2 h3 h4
  obtain ⟨hx, hb, hml, hown, hlk, hrt, htb, hfr, hlo, hE⟩ := id C
  refine vx_ret (W.widen (k := mc) (n := ms) (by omega) (by omega) ?_)
  exact W.iret (v := Int32.ofInt x) hx hb (hrt.trans hr) (fun t ht _ => ⟨some (0, x), D, rfl, (fun w hw => by cases hw; exact Nat.zero_le _), h, by rw [ht]; exact hH, hS.F ht⟩) hS.2.2 hd hlk
theorem r_zret {x : Int} (hd : decode (yB y) pc = .ok (.ireturn, 1)) (hr : yR y = some .boolean) (hz : x = 0 ∨ x = 1) (h : Φ (.inl (some (0, x))) D) : Run Γ rg κ y pc ls [(0, x)] D Φ := by
  intro p e R s m args below meth c H locs lsm cells slots q mc ms C hH hS hl h1 h2 h3 h4
  obtain ⟨hx, hb, hml, hown, hlk, hrt, htb, hfr, hlo, hE⟩ := id C
  refine vx_ret (W.widen (k := mc) (n := ms) (by omega) (by omega) ?_)
  exact W.zret (v := Int32.ofInt x) hx hb (hrt.trans hr) (by rcases hz with rfl | rfl <;> rfl) (fun t ht _ => ⟨some (0, x), D, rfl, (fun w hw => by cases hw; exact Nat.zero_le _), h, by rw [ht]; exact hH, hS.F ht⟩) hS.2.2 hd hlk
theorem r_lret {x : Int} (hd : decode (yB y) pc = .ok (.lreturn, 1)) (hr : yR y = some .long) (h : Φ (.inl (some (1, x))) D) : Run Γ rg κ y pc ls [(1, x)] D Φ := by
  intro p e R s m args below meth c H locs lsm cells slots q mc ms C hH hS hl h1 h2 h3 h4
  obtain ⟨hx, hb, hml, hown, hlk, hrt, htb, hfr, hlo, hE⟩ := id C
  refine vx_ret (W.widen (k := mc) (n := ms) (by omega) (by omega) ?_)
  exact W.lret (v := Int64.ofInt x) hx hb (hrt.trans hr) (fun t ht _ => ⟨some (1, x), D, rfl, (fun w hw => by cases hw; exact Nat.le_refl _), h, by rw [ht]; exact hH, hS.F ht⟩) hS.2.2 hd hlk
theorem r_vret (hd : decode (yB y) pc = .ok (.return_, 1)) (hr : yR y = none) (h : Φ (.inl none) D) : Run Γ rg κ y pc ls [] D Φ := by
  intro p e R s m args below meth c H locs lsm cells slots q mc ms C hH hS hl h1 h2 h3 h4
  obtain ⟨hx, hb, hml, hown, hlk, hrt, htb, hfr, hlo, hE⟩ := id C
  refine vx_ret (W.widen (k := mc) (n := ms) (by omega) (by omega) ?_)
  exact W.vret hx hb (hrt.trans hr) (fun t ht _ => ⟨none, D, rfl, (fun w hw => by cases hw), h, by rw [ht]; exact hH, hS.F ht⟩) hS.2.2 hd hlk
/-- less is asked -/
theorem Run.mono {κ' : Nat} {Ψ : OT → DD → Prop} (hk : κ' ≤ κ) (hΨ : ∀ o D', Ψ o D' → Φ o D') (h : Run Γ rg κ' y pc ls st D Ψ) : Run Γ rg κ y pc ls st D Φ := by
  intro p e R s m args below meth c H locs lsm cells slots q mc ms C hH hS hl h1 h2 h3 h4
  intro T hT X
  obtain ⟨t, a1, o, b1, b2, b3⟩ := h p e R s m args below meth c H locs lsm cells slots q mc ms C hH hS hl (by omega) (by omega) h3 h4 T hT X
  refine ⟨t, a1, o, b1, b2, ?_⟩
  rcases b3 with ⟨⟨v, D', c1, c2, c3, c4⟩, b4⟩ | ⟨q', c0, E, ce, L, ⟨n, D', c1, c2, c3, c4⟩, b4⟩
  · exact Or.inl ⟨⟨v, D', c1, c2, hΨ _ _ c3, c4⟩, b4⟩
  · exact Or.inr ⟨q', c0, E, ce, L, ⟨n, D', c1, c2, hΨ _ _ c3, c4⟩, b4⟩
end HEAPS
end
section
/-! throws, calls, the native copy -/
def kwb (w : Cond) : Bool := decide (w ∈ lw_tbl) && kk w
theorem KW.of {w : Cond} (h : kwb w = true) : KW w := by
  simp only [kwb, Bool.and_eq_true, decide_eq_true_eq] at h
  exact h
theorem KW.all {L : List Cond} (h : L.all kwb = true) : ∀ w ∈ L, KW w := fun w hw => KW.of (List.all_eq_true.mp h w hw)
def thn : List String := ["java/lang/RuntimeException", "java/lang/Exception"]
def TK (own : String) (n ik ic : Nat) : Prop := KW (.classLink own ik (exn n)) ∧ KW (.initialized (exn n)) ∧ (∀ w ∈ vx_atS own ic (exn n) thn, KW w) ∧ Bundle.fit (exn n) = true ∧ n ≤ 2
theorem thn_fit : ∀ n ∈ thn, Bundle.fit n = true := by decide +kernel
def MK (y : YT) (n : Nat) : Prop := KW (.initialized (yN y).cls) ∧ KW (.code (yN y) (yB y) (yL y) (yR y)) ∧ ((yN y).cls ≠ "java/lang/invoke/MethodHandle" ∧ (yN y).cls ≠ "java/lang/invoke/VarHandle") ∧ (parseMethodDescriptor (yN y).desc).map (fun d => d.parameters.length) = some n ∧ plainName (yN y).cls = true ∧ yH y = [] ∧ yL y ≤ 17
def MKH (y : YT) (n : Nat) : Prop := KW (.initialized (yN y).cls) ∧ KW (.codeWith (yN y) (yB y) (yL y) (yR y) (yH y)) ∧ ((yN y).cls ≠ "java/lang/invoke/MethodHandle" ∧ (yN y).cls ≠ "java/lang/invoke/VarHandle") ∧ (parseMethodDescriptor (yN y).desc).map (fun d => d.parameters.length) = some n ∧ plainName (yN y).cls = true ∧ yL y ≤ 17
def CKV (own : String) (idx : Nat) (y : YT) (n : Nat) : Prop := KW (.methodLink own idx (yN y)) ∧ KW (.instanceMethod (yN y)) ∧ KW (.selects (yN y).cls (yN y) (yN y)) ∧ MK y n
def CKS (own : String) (idx : Nat) (y : YT) (n : Nat) : Prop := KW (.methodLink own idx (yN y)) ∧ KW (.static (yN y)) ∧ MK y n
def CKN (own : String) (idx : Nat) (y : YT) (n : Nat) : Prop := KW (.methodLinkNest own idx (yN y) "HiveKeys") ∧ KW (.static (yN y)) ∧ MK y n
def CKH (own : String) (idx : Nat) (y : YT) (n : Nat) : Prop := KW (.methodLink own idx (yN y)) ∧ KW (.static (yN y)) ∧ MKH y n
def rmy (y : YT) (κ : Nat) : Room := { frames := yK y, cells := κ, slots := 6 * κ, locals := 36 * yK y }
def pcat (v : PV) : Nat := if v.1 = 1 then 2 else 1
theorem pcat_sum (Γ : GG) (q : Nat) (st : List PV) : (((st.map (mv Γ q)).map fun v => v.category).sum) = (st.map pcat).sum := by
  congr 1
  rw [List.map_map]
  apply List.map_congr_left
  intro v _
  exact mv_cat Γ q v
def argok (as : List PV) : Bool := as.all (fun v => v.1 != 4 && v.1 != 5 && v.1 != 6 && v.1 != 2)
theorem argok_map {Γ : GG} {q q' : Nat} {as : List PV} (h : argok as = true) : as.map (mv Γ q) = as.map (mv Γ q') := by
  apply List.map_congr_left
  intro v hv
  have := List.all_eq_true.mp h v hv
  simp only [Bool.and_eq_true, bne_iff_ne] at this
  exact mv_q this.1.1.1 this.1.1.2 this.1.2 this.2
section CALLS
variable {Γ : GG} {rg : Nat → Bool} {κ : Nat} {y : YT} {pc : Nat} {ls st : List PV} {D : DD} {Φ : OT → DD → Prop}
theorem HW.kept {H H1 : Heap} (h : HW Γ rg D H) (hq : ∀ q : Nat, q < H.size → H1[q]? = H[q]?) : HW Γ rg D H1 := va_P.kept h (fun k q hk => hq q.1 (h k q hk).lt)
theorem r_throw {n ik is ic : Nat} {text : String} (hT : TK (yN y).cls n ik ic) (hstr : ((yN y).cls, is, text) ∈ strT)
    (d0 : decode (yB y) pc = .ok (.new ik, 3)) (d3 : decode (yB y) (pc + 3) = .ok (.dup, 1)) (d4 : decode (yB y) (pc + 4) = .ok (.ldc is, 2)) (d6 : decode (yB y) (pc + 6) = .ok (.invokespecial ic, 3)) (d9 : decode (yB y) (pc + 9) = .ok (.athrow, 1))
    (hh : yH y = []) (hK : 6 ≤ yK y) (hst : (st.map pcat).sum ≤ 20) (hκ : 1 ≤ κ) (hΦ : Φ (.inr n) D) : Run Γ rg κ y pc ls st D Φ := by
  intro p e R s m args below meth c H locs lsm cells slots q mc ms C hH hS hl h1 h2 h3 h4
  obtain ⟨hx, hb, hml, hown, hlk, hrt, htb, hfr, hlo, hE⟩ := id C
  obtain ⟨sa, hsa⟩ := hE.2.2.2.2.2.1 _ hstr
  have hsum := pcat_sum Γ q st
  refine vx_throwS (names := thn) (mc := mc) (ms := ms) (A := Ab Γ) hx hb hE.1 hown hT.2.2.2.1 thn_fit (hE.word hT.1) (hE.word hT.2.1) hsa (fun w hw => hE.word (hT.2.2.1 w hw)) (fun w hw => ?_) hE.2.2.2.1 hE.2.2.2.2.1 hS (hl.1.trans hml.symm) d0 d3 d4 d6 d9 (fun x hx' => ?_) ?_ ?_ (by omega) (by omega) hlk (fun t ht hz hq => ⟨n, D, hT.2.2.2.2, rfl, hΦ, hH.kept hq, Nat.le_trans hS.1 hz, fun q' h1' h2' => ?_⟩) hS.2.2 (by omega) (by omega)
  · have : KW w := by
      rcases List.mem_cons.mp hw with rfl | hw
      · exact hT.1
      · rcases List.mem_cons.mp hw with rfl | hw
        · exact hT.2.1
        · exact hT.2.2.1 w hw
    unfold vx_ot
    rw [kk_on this.2]; rfl
  · rw [htb, hh] at hx'
    cases hx'
  · show 2 + 3 < R.frames
    omega
  · rw [hsum]
    show _ + (13 * (2 + 1) + 43) ≤ R.locals
    omega
  · rw [hq q' (Nat.lt_of_lt_of_le h1' hS.1)]
    exact hS.2.1 q' h1' h2'
theorem r_throwW {n ik is ic : Nat} {text : String} (hT : TK (yN y).cls n ik ic) (hstr : ((yN y).cls, is, text) ∈ strT)
    (d0 : decode (yB y) pc = .ok (.new ik, 3)) (d3 : decode (yB y) (pc + 3) = .ok (.dup, 1)) (d4 : decode (yB y) (pc + 4) = .ok (.ldc_w is, 3)) (d7 : decode (yB y) (pc + 7) = .ok (.invokespecial ic, 3)) (d10 : decode (yB y) (pc + 10) = .ok (.athrow, 1))
    (hh : yH y = []) (hK : 6 ≤ yK y) (hst : (st.map pcat).sum ≤ 20) (hκ : 1 ≤ κ) (hΦ : Φ (.inr n) D) : Run Γ rg κ y pc ls st D Φ := by
  intro p e R s m args below meth c H locs lsm cells slots q mc ms C hH hS hl h1 h2 h3 h4
  obtain ⟨hx, hb, hml, hown, hlk, hrt, htb, hfr, hlo, hE⟩ := id C
  obtain ⟨sa, hsa⟩ := hE.2.2.2.2.2.1 _ hstr
  have hsum := pcat_sum Γ q st
  refine vx_throwSW (names := thn) (mc := mc) (ms := ms) (A := Ab Γ) hx hb hE.1 hown hT.2.2.2.1 thn_fit (hE.word hT.1) (hE.word hT.2.1) hsa (fun w hw => hE.word (hT.2.2.1 w hw)) (fun w hw => ?_) hE.2.2.2.1 hE.2.2.2.2.1 hS (hl.1.trans hml.symm) d0 d3 d4 d7 d10 (fun x hx' => ?_) ?_ ?_ (by omega) (by omega) hlk (fun t ht hz hq => ⟨n, D, hT.2.2.2.2, rfl, hΦ, hH.kept hq, Nat.le_trans hS.1 hz, fun q' h1' h2' => ?_⟩) hS.2.2 (by omega) (by omega)
  · have : KW w := by
      rcases List.mem_cons.mp hw with rfl | hw
      · exact hT.1
      · rcases List.mem_cons.mp hw with rfl | hw
        · exact hT.2.1
        · exact hT.2.2.1 w hw
    unfold vx_ot
    rw [kk_on this.2]; rfl
  · rw [htb, hh] at hx'
    cases hx'
  · show 2 + 3 < R.frames
    omega
  · rw [hsum]
    show _ + (13 * (2 + 1) + 43) ≤ R.locals
    omega
  · rw [hq q' (Nat.lt_of_lt_of_le h1' hS.1)]
    exact hS.2.1 q' h1' h2'
/-- a method's contract out of its run from the entry -/
theorem ctr_of {as : List PV} {n : Nat} (hM : MK y n) (hfit : (lg_sl (as.map (mv Γ 0))).length ≤ yL y) (hR : Run Γ rg κ y 0 (ent (yL y) as) [] D Φ) :
    vx_Met Γ.1 (yN y) [.code (yN y) (yB y) (yL y) (yR y)] (rmy y κ) (va_Pc (as.map (mv Γ 0)) (fun U => EV Γ U ∧ HW Γ rg D U.heap)) (Qcc Γ rg Φ) (XCc Γ rg Φ) κ (6 * κ) (Ab Γ) := by
  refine vx_ofW (cc := yB y) (maxL := yL y) (ret := yR y) hM.2.2.2.2.1 rfl ?_
  intro p e s m args below meth c s₁ B hml htab hP
  obtain ⟨rfl, hE, hH⟩ := hP
  rw [lg_entry_eq]
  refine hR p e (rmy y κ) s m _ below meth c s.heap [] _ 0 0 0 κ (6 * κ) ⟨B.exec, B.bytes, hml, findClass_of_methodNamed B.named, B.notSynchronized, B.returns, ?_, Nat.le_refl _, Nat.le_refl _, hE⟩ hH va_S.rf (lvr.entry hfit) (by omega) (by omega) (Nat.le_refl _) (Nat.le_refl _)
  rw [hM.2.2.2.2.2.1]
  exact List.eq_nil_iff_forall_not_mem.mpr (fun x hx => htab x hx)
theorem ctr_ofH {as : List PV} {n : Nat} (hM : MKH y n) (hfit : (lg_sl (as.map (mv Γ 0))).length ≤ yL y) (hR : Run Γ rg κ y 0 (ent (yL y) as) [] D Φ) :
    vx_Met Γ.1 (yN y) [.codeWith (yN y) (yB y) (yL y) (yR y) (yH y)] (rmy y κ) (va_Pc (as.map (mv Γ 0)) (fun U => EV Γ U ∧ HW Γ rg D U.heap)) (Qcc Γ rg Φ) (XCc Γ rg Φ) κ (6 * κ) (Ab Γ) := by
  refine vx_ofWH (cc := yB y) (maxL := yL y) (ret := yR y) hM.2.2.2.2.1 rfl ?_
  intro p e s m args below meth c s₁ B hml hP
  obtain ⟨rfl, hE, hH⟩ := hP
  rw [lg_entry_eq]
  have htb := vx_table (x := yN y) B (hE.word (args := #[]) hM.2.1)
  exact hR p e (rmy y κ) s m _ below meth c s.heap [] _ 0 0 0 κ (6 * κ) ⟨B.exec, B.bytes, hml, findClass_of_methodNamed B.named, B.notSynchronized, B.returns, htb, Nat.le_refl _, Nat.le_refl _, hE⟩ hH va_S.rf (lvr.entry hfit) (by omega) (by omega) (Nat.le_refl _) (Nat.le_refl _)
theorem pc_blind {av : List Value} : FrameBlind (va_Pc av (fun U => EV Γ U ∧ HW Γ rg D U.heap)) := fun a U g mk h => ⟨h.1, h.2.1.calling g mk a, h.2.2⟩
/-- behind a call -/
theorem run_after {p : Program} {e : Env} {R : Room} {s : State} {m : MethodId} {args a : Array Value} {below : List Frame} {meth : Method} {c : Code} {H : Heap} {locs : List Loc} {lsm : Array Slot} {stm : List Value} {rest : List PV} {cells slots q mc ms κ1 κ2 : Nat} {Ψ : OT → DD → Prop}
    (C : Cx Γ y R p s m meth c) (hS : va_S (Ab Γ) s.heap H locs) (hl : lvr Γ q (yL y) ls lsm) (h1 : cells + κ ≤ mc) (h2 : slots + 6 * κ ≤ ms) (h3 : mc ≤ R.cells) (h4 : ms ≤ R.slots) (hκ : κ1 + κ2 = κ)
    (hr : vx_Run p Γ.1 e R s m args below meth c H locs cells slots κ1 (6 * κ1) (F0 m pc lsm stm) (rest.map (mv Γ q)) (Qcc Γ rg Ψ a) (XCc Γ rg Ψ) (Ab Γ))
    (kret : ∀ (v : Option PV) (D' : DD), Ψ (.inl v) D' → Run Γ rg κ2 y (pc + 3) ls (v.toList ++ rest) D' Φ)
    (kx : ∀ (n : Nat) (D' : DD) (H1 : Heap) (locs1 : List Loc) (q9 : Addr) (ce : Cell), n ≤ 2 → Ψ (.inr n) D' → HW Γ rg D' H1 → va_S (Ab Γ) s.heap H1 locs1 → H1[q9]? = some ce → ce.vm = .none → s.vm.findClass (exn n) = some ce.cls →
      vx_W p Γ.1 e R s m args below meth c H1 locs1 (cells + κ1) (slots + 6 * κ1) (vx_MQ below (Qcc Γ rg Φ) (XCc Γ rg Φ) args s mc ms (Ab Γ)) (F0 m pc lsm (rest.map (mv Γ q))) q9) :
    W p Γ.1 e R s m args below meth c H locs cells slots (vx_MQ below (Qcc Γ rg Φ) (XCc Γ rg Φ) args s mc ms (Ab Γ)) (F0 m pc lsm stm) := by
  intro T hT X
  rcases hr T hT X with ⟨v, st₀, t, T', L, h0, X', hL, e1, e2, ⟨w, D', hv, hw, hp, hH', hF⟩, hst⟩ | ⟨q9, st₀, t, T', L, E, ce, h0, X', hL, e1, e2, ⟨n, D', hn, hE, hp, hH', hF⟩, hce, hcv, hcl, hst⟩
  · obtain ⟨k1, k2, k3⟩ := vx_keep h0 e1 hS (fun _ _ h => h) (fun _ h => h) hL hF
    have hv' : v = w.map (mv Γ 0) := by injection hv
    have hwm : v.toList = (w.toList).map (mv Γ q) := by
      rw [hv']
      cases w with
      | none => rfl
      | some u =>
        have := hw u rfl
        show [mv Γ 0 u] = [mv Γ q u]
        rw [mv_q (q := 0) (q' := q) (by omega) (by omega) (by omega) (by omega)]
    obtain ⟨t2, a1, b1⟩ := kret w D' hp p e R s m args below meth c T'.heap (locs ++ L) lsm (cells + κ1) (slots + 6 * κ1) q mc ms C (by rw [e1]; exact hH') k3 hl (by omega) (by omega) h3 h4 T' rfl X'
    rw [List.map_append, ← hwm] at a1
    exact ⟨t2, hst t2 a1, b1⟩
  · obtain ⟨k1, k2, k3⟩ := vx_keep h0 e1 hS (fun _ _ h => h) (fun _ h => h) hL hF
    obtain ⟨t2, a1, b1⟩ := kx n D' T'.heap (locs ++ L) q9 ce hn hp (by rw [e1]; exact hH') k3 (by rw [e1]; exact hce) hcv (by rw [← hE]; exact hcl) T' rfl X'
    exact ⟨t2, hst.trans a1, b1⟩
/-- not caught -/
theorem run_out {p : Program} {e : Env} {R : Room} {s : State} {m : MethodId} {args : Array Value} {below : List Frame} {meth : Method} {c : Code} {H1 : Heap} {locs1 : List Loc} {lsm : Array Slot} {stm : List Value} {cells slots mc ms n : Nat} {q9 : Addr} {ce : Cell} {D' : DD}
    (C : Cx Γ y R p s m meth c) (hh : yH y = []) (hn : n ≤ 2) (hΦ : Φ (.inr n) D') (hH : HW Γ rg D' H1) (hS : va_S (Ab Γ) s.heap H1 locs1) (hce : H1[q9]? = some ce) (hcv : ce.vm = .none) (hcl : s.vm.findClass (exn n) = some ce.cls) (h1 : cells ≤ mc) (h2 : slots ≤ ms) :
    vx_W p Γ.1 e R s m args below meth c H1 locs1 cells slots (vx_MQ below (Qcc Γ rg Φ) (XCc Γ rg Φ) args s mc ms (Ab Γ)) (F0 m pc lsm stm) q9 := by
  obtain ⟨hx, hb, hml, hown, hlk, hrt, htb, hfr, hlo, hE⟩ := id C
  exact vx_out (E := exn n) (fun x hx' => by rw [htb, hh] at hx'; cases hx') hlk hce hcv hcl (fun t ht _ => ⟨n, D', hn, rfl, hΦ, by rw [ht]; exact hH, hS.F ht⟩) hS.2.2 h1 h2
theorem code_ws {Γ : GG} {s : State} {w : Cond} (hE : EV Γ s) (hw : KW w) (hg : (w.onTables && w.keeps) = true) : ∀ w' ∈ [w], ∀ (a' : Array Value) (U : State), s.WarmedH U.vm → w'.before a' U = true := fun w' h' a' U hW => by
  rw [List.mem_singleton.mp h']
  exact word_at (args := #[]) hW (Or.inl hg) (hE.2.1 w hw)
theorem r_callV {y' : YT} {as rest : List PV} {ls' : List PV} {a idx ci n N κ1 κ2 : Nat} {cs : List Nat} {TT : u_T} {z : Int} {Ψ : OT → DD → Prop} (hd : decode (yB y) pc = .ok (.invokevirtual idx, 3)) (hC : CKV (yN y).cls idx y' n) (hn : as.length = n)
    (hs : SH.getD a (9, 0, []) = (0, ci, cs)) (hci : vwCl[ci]? = some ((yN y').cls, TT, N)) (ha : a < NA) (hr : rg a = true) (hst : st = as.reverse ++ (a + 8, z) :: rest) (hok : argok as = true) (hrest : (rest.map pcat).sum ≤ 8) (hfit : (lg_sl (((a + 8, z) :: as).map (mv Γ 0))).length ≤ yL y')
    (hk : yK y' < yK y) (hκ : κ1 + κ2 = κ) (hh : yH y = []) (hls : ent (yL y') ((a + 8, z) :: as) = ls') (hR : Run Γ rg κ1 y' 0 ls' [] D Ψ)
    (kret : ∀ (v : Option PV) (D' : DD), Ψ (.inl v) D' → Run Γ rg κ2 y (pc + 3) ls (v.toList ++ rest) D' Φ) (kthr : ∀ (n : Nat) (D' : DD), Ψ (.inr n) D' → Φ (.inr n) D') : Run Γ rg κ y pc ls st D Φ := by
  intro p e R s m args below meth c H locs lsm cells slots q mc ms C hH hS hl h1 h2 h3 h4
  obtain ⟨hx, hb, hml, hown, hlk, hrt, htb, hfr, hlo, hE⟩ := id C
  subst hls
  obtain ⟨c1, c2, c3, hM⟩ := hC
  obtain ⟨m1, m2, m3, m4, m5, m6, m7⟩ := id hM
  obtain ⟨q0, -, hq⟩ := wsl_at ha hr
  have hce : cellOf Γ D a = .inr (ci, (List.range cs.length).map (fun k => fvz Γ (cs.getD k 0) (D a k))) := by unfold cellOf; simp only [hs]
  have hat := (hq Γ D).1
  rw [hce] at hat
  have hrun := vx_runV (args := args) (C := (yN y').cls) (own := (yN y).cls) (Ts := []) (index := idx) (bytes := yB y') (maxL := yL y') (ret := yR y') (As := as.map (mv Γ 0)) (b := gB Γ + a) (n := n) (rest := rest.map (mv Γ q)) (g := F0 m pc lsm (st.map (mv Γ q))) (locs := locs) (cells := cells) (slots := slots) (below := below) (meth := meth) (e := e) (R := R)
    ⟨hx, hb, hml, hown, fun w hw => by cases hw⟩ (ctr_of hM hfit hR)
    ⟨⟨rfl, rfl, by show yK y' + 1 ≤ R.frames; omega, by show 8 + (yL y' + 11) + 36 * yK y' ≤ R.locals; omega, code_ws hE m2 rfl, List.mem_singleton.mpr rfl, hE.word m2, hE.word m1, m3, fun sig h => by rw [h] at m4; exact (Option.some.inj m4).symm, hE.word c1⟩, hE.word c2, hE.word c3⟩
    ⟨pc_blind, va_recv hE.2.2.1 hH hci hat, fun U hU hW => ⟨rfl, hE.move hU hS hW, by rw [hU]; exact hH⟩⟩
    rfl (by rw [List.length_map]; exact hn) hl.1
    (by show st.map (mv Γ q) = _; rw [hst, List.map_append, List.map_reverse, argok_map (q' := 0) hok]; rfl)
    (by show 2 * 0 + _ ≤ 8; rw [pcat_sum]; omega) hd ⟨by omega, by omega⟩
  exact run_after C hS hl h1 h2 h3 h4 hκ hrun kret (fun n D' H1 locs1 q9 ce hn' hp hH' hS' a1 a2 a3 => run_out C hh hn' (kthr n D' hp) hH' hS' a1 a2 a3 (by omega) (by omega))
theorem r_callS {y' : YT} {as rest : List PV} {ls' : List PV} {idx n κ1 κ2 : Nat} {Ψ : OT → DD → Prop} (hd : decode (yB y) pc = .ok (.invokestatic idx, 3)) (hC : CKS (yN y).cls idx y' n) (hn : as.length = n)
    (hst : st = as.reverse ++ rest) (hok : argok as = true) (hrest : (rest.map pcat).sum ≤ 8) (hfit : (lg_sl (as.map (mv Γ 0))).length ≤ yL y')
    (hk : yK y' < yK y) (hκ : κ1 + κ2 = κ) (hh : yH y = []) (hls : ent (yL y') as = ls') (hR : Run Γ rg κ1 y' 0 ls' [] D Ψ)
    (kret : ∀ (v : Option PV) (D' : DD), Ψ (.inl v) D' → Run Γ rg κ2 y (pc + 3) ls (v.toList ++ rest) D' Φ) (kthr : ∀ (n : Nat) (D' : DD), Ψ (.inr n) D' → Φ (.inr n) D') : Run Γ rg κ y pc ls st D Φ := by
  intro p e R s m args below meth c H locs lsm cells slots q mc ms C hH hS hl h1 h2 h3 h4
  obtain ⟨hx, hb, hml, hown, hlk, hrt, htb, hfr, hlo, hE⟩ := id C
  subst hls
  obtain ⟨c1, c2, hM⟩ := hC
  obtain ⟨m1, m2, m3, m4, m5, m6, m7⟩ := id hM
  have hrun := vx_runS (args := args) (own := (yN y).cls) (Ts := []) (index := idx) (bytes := yB y') (maxL := yL y') (ret := yR y') (As := as.map (mv Γ 0)) (n := n) (rest := rest.map (mv Γ q)) (g := F0 m pc lsm (st.map (mv Γ q))) (locs := locs) (cells := cells) (slots := slots) (below := below) (meth := meth) (e := e) (R := R)
    ⟨hx, hb, hml, hown, fun w hw => by cases hw⟩ (ctr_of hM hfit hR)
    ⟨⟨rfl, rfl, by show yK y' + 1 ≤ R.frames; omega, by show 8 + (yL y' + 11) + 36 * yK y' ≤ R.locals; omega, code_ws hE m2 rfl, List.mem_singleton.mpr rfl, hE.word m2, hE.word m1, m3, fun sig h => by rw [h] at m4; exact (Option.some.inj m4).symm, hE.word c1⟩, hE.word c2⟩
    ⟨pc_blind, fun U hU hW => ⟨rfl, hE.move hU hS hW, by rw [hU]; exact hH⟩⟩
    rfl (by rw [List.length_map]; exact hn) hl.1
    (by show st.map (mv Γ q) = _; rw [hst, List.map_append, List.map_reverse, argok_map (q' := 0) hok])
    (by show 2 * 0 + _ ≤ 8; rw [pcat_sum]; omega) hd ⟨by omega, by omega⟩
  exact run_after C hS hl h1 h2 h3 h4 hκ hrun kret (fun n D' H1 locs1 q9 ce hn' hp hH' hS' a1 a2 a3 => run_out C hh hn' (kthr n D' hp) hH' hS' a1 a2 a3 (by omega) (by omega))
theorem r_callN {y' : YT} {as rest : List PV} {ls' : List PV} {idx n κ1 κ2 : Nat} {Ψ : OT → DD → Prop} (hd : decode (yB y) pc = .ok (.invokestatic idx, 3)) (hC : CKN (yN y).cls idx y' n) (hn : as.length = n)
    (hst : st = as.reverse ++ rest) (hok : argok as = true) (hrest : (rest.map pcat).sum ≤ 8) (hfit : (lg_sl (as.map (mv Γ 0))).length ≤ yL y')
    (hk : yK y' < yK y) (hκ : κ1 + κ2 = κ) (hh : yH y = []) (hls : ent (yL y') as = ls') (hR : Run Γ rg κ1 y' 0 ls' [] D Ψ)
    (kret : ∀ (v : Option PV) (D' : DD), Ψ (.inl v) D' → Run Γ rg κ2 y (pc + 3) ls (v.toList ++ rest) D' Φ) (kthr : ∀ (n : Nat) (D' : DD), Ψ (.inr n) D' → Φ (.inr n) D') : Run Γ rg κ y pc ls st D Φ := by
  intro p e R s m args below meth c H locs lsm cells slots q mc ms C hH hS hl h1 h2 h3 h4
  obtain ⟨hx, hb, hml, hown, hlk, hrt, htb, hfr, hlo, hE⟩ := id C
  subst hls
  obtain ⟨c1, c2, hM⟩ := hC
  obtain ⟨m1, m2, m3, m4, m5, m6, m7⟩ := id hM
  have hrun := vx_runSN (args := args) (host := "HiveKeys") (own := (yN y).cls) (Ts := []) (index := idx) (bytes := yB y') (maxL := yL y') (ret := yR y') (As := as.map (mv Γ 0)) (n := n) (rest := rest.map (mv Γ q)) (g := F0 m pc lsm (st.map (mv Γ q))) (locs := locs) (cells := cells) (slots := slots) (below := below) (meth := meth) (e := e) (R := R)
    ⟨hx, hb, hml, hown, fun w hw => by cases hw⟩ (ctr_of hM hfit hR)
    ⟨⟨⟨rfl, rfl, by show yK y' + 1 ≤ R.frames; omega, by show 8 + (yL y' + 11) + 36 * yK y' ≤ R.locals; omega, code_ws hE m2 rfl, List.mem_singleton.mpr rfl⟩, hE.word m2, hE.word m1, m3, fun sig h => by rw [h] at m4; exact (Option.some.inj m4).symm, hE.word c1⟩, hE.word c2, trivial⟩
    ⟨pc_blind, fun U hU hW => ⟨rfl, hE.move hU hS hW, by rw [hU]; exact hH⟩⟩
    rfl (by rw [List.length_map]; exact hn) hl.1
    (by show st.map (mv Γ q) = _; rw [hst, List.map_append, List.map_reverse, argok_map (q' := 0) hok])
    (by show 2 * 0 + _ ≤ 8; rw [pcat_sum]; omega) hd ⟨by omega, by omega⟩
  exact run_after C hS hl h1 h2 h3 h4 hκ hrun kret (fun n D' H1 locs1 q9 ce hn' hp hH' hS' a1 a2 a3 => run_out C hh hn' (kthr n D' hp) hH' hS' a1 a2 a3 (by omega) (by omega))
end CALLS
end
section
/-! a callee with handlers, a call that is caught, the native copy -/
def cpy2 (D : DD) (a0 a1 n : Nat) : DD := fun x => if x = a1 then (fun j => if j < n then D a0 j else D a1 j) else D x
def AK (own : String) (idx : Nat) : Prop := KW (.methodLink own idx arraycopyName) ∧ KW (.native arraycopyName) ∧ KW (.static arraycopyName) ∧ KW (.initialized "java/lang/System")
def HK (y : YT) (pc n hpc : Nat) : Prop := ∃ (pre : List (Nat × Nat × Nat × Nat)) (x : Nat × Nat × Nat × Nat) (suf : List (Nat × Nat × Nat × Nat)), yH y = pre ++ x :: suf ∧ (∀ z ∈ pre, z.2.2.2 ≠ 0 ∧ ∃ nm, KW (.classLink (yN y).cls z.2.2.2 nm) ∧ (exn n, nm) ∈ ncT) ∧
  (x.1 ≤ pc ∧ pc < x.2.1) ∧ x.2.2.1 = hpc ∧ x.2.2.2 ≠ 0 ∧ KW (.classLink (yN y).cls x.2.2.2 (exn n)) ∧ KW (.castable (exn n) (exn n))
section CALLS2
variable {Γ : GG} {rg : Nat → Bool} {κ : Nat} {y : YT} {pc : Nat} {ls st : List PV} {D : DD} {Φ : OT → DD → Prop}
theorem r_callH {y' : YT} {as rest : List PV} {ls' : List PV} {idx n κ1 κ2 : Nat} {Ψ : OT → DD → Prop} (hd : decode (yB y) pc = .ok (.invokestatic idx, 3)) (hC : CKH (yN y).cls idx y' n) (hn : as.length = n)
    (hst : st = as.reverse ++ rest) (hok : argok as = true) (hrest : (rest.map pcat).sum ≤ 8) (hfit : (lg_sl (as.map (mv Γ 0))).length ≤ yL y')
    (hk : yK y' < yK y) (hκ : κ1 + κ2 = κ) (hh : yH y = []) (hls : ent (yL y') as = ls') (hR : Run Γ rg κ1 y' 0 ls' [] D Ψ)
    (kret : ∀ (v : Option PV) (D' : DD), Ψ (.inl v) D' → Run Γ rg κ2 y (pc + 3) ls (v.toList ++ rest) D' Φ) (kthr : ∀ (n : Nat) (D' : DD), Ψ (.inr n) D' → Φ (.inr n) D') : Run Γ rg κ y pc ls st D Φ := by
  intro p e R s m args below meth c H locs lsm cells slots q mc ms C hH hS hl h1 h2 h3 h4
  obtain ⟨hx, hb, hml, hown, hlk, hrt, htb, hfr, hlo, hE⟩ := id C
  subst hls
  obtain ⟨c1, c2, hM⟩ := hC
  obtain ⟨m1, m2, m3, m4, m5, m7⟩ := id hM
  have hrun := vx_runSX (args := args) (own := (yN y).cls) (Ts := []) (index := idx) (bytes := yB y') (maxL := yL y') (ret := yR y') (hh := yH y') (As := as.map (mv Γ 0)) (n := n) (rest := rest.map (mv Γ q)) (g := F0 m pc lsm (st.map (mv Γ q))) (locs := locs) (cells := cells) (slots := slots) (below := below) (meth := meth) (e := e) (R := R)
    ⟨hx, hb, hml, hown, fun w hw => by cases hw⟩ (ctr_ofH hM hfit hR)
    ⟨⟨rfl, rfl, by show yK y' + 1 ≤ R.frames; omega, by show 8 + (yL y' + 11) + 36 * yK y' ≤ R.locals; omega, code_ws hE m2 rfl, List.mem_singleton.mpr rfl⟩, hE.word m2, hE.word m1, m3, fun sig h => by rw [h] at m4; exact (Option.some.inj m4).symm, hE.word c1, hE.word c2⟩
    ⟨pc_blind, fun U hU hW => ⟨rfl, hE.move hU hS hW, by rw [hU]; exact hH⟩⟩
    rfl (by rw [List.length_map]; exact hn) hl.1
    (by show st.map (mv Γ q) = _; rw [hst, List.map_append, List.map_reverse, argok_map (q' := 0) hok])
    (by show 2 * 0 + _ ≤ 8; rw [pcat_sum]; omega) hd ⟨by omega, by omega⟩
  exact run_after C hS hl h1 h2 h3 h4 hκ hrun kret (fun n D' H1 locs1 q9 ce hn' hp hH' hS' a1 a2 a3 => run_out C hh hn' (kthr n D' hp) hH' hS' a1 a2 a3 (by omega) (by omega))
/-- caught by this method's table -/
theorem run_catch {p : Program} {e : Env} {R : Room} {s : State} {m : MethodId} {args : Array Value} {below : List Frame} {meth : Method} {c : Code} {H1 : Heap} {locs1 : List Loc} {lsm : Array Slot} {stm : List Value} {cells slots q mc ms n hpc : Nat} {q9 : Addr} {ce : Cell} {D' : DD}
    (C : Cx Γ y R p s m meth c) (hK : HK y pc n hpc) (hl : lvr Γ q (yL y) ls lsm) (hv : ls.all (fun v => v.1 != 4 && v.1 != 6 && v.1 != 2) = true) (hH : HW Γ rg D' H1) (hS : va_S (Ab Γ) s.heap H1 locs1) (hce : H1[q9]? = some ce) (hcv : ce.vm = .none) (hcl : s.vm.findClass (exn n) = some ce.cls) (h1 : cells + κ ≤ mc) (h2 : slots + 6 * κ ≤ ms) (h3 : mc ≤ R.cells) (h4 : ms ≤ R.slots)
    (k : Run Γ rg κ y hpc ls [(4, 0)] D' Φ) :
    vx_W p Γ.1 e R s m args below meth c H1 locs1 cells slots (vx_MQ below (Qcc Γ rg Φ) (XCc Γ rg Φ) args s mc ms (Ab Γ)) (F0 m pc lsm stm) q9 := by
  obtain ⟨hx, hb, hml, hown, hlk, hrt, htb, hfr, hlo, hE⟩ := id C
  obtain ⟨pre, x, suf, e1, e2, e3, e4, e5, e6, e7⟩ := hK
  refine vx_catch (own := (yN y).cls) (name := exn n) (E := exn n) (ce := ce) hown (tableOf pre) ⟨x.1, x.2.1, x.2.2.1, x.2.2.2⟩ (tableOf suf) (by rw [htb, e1]; simp [tableOf]) (fun z hz => ?_) ?_ e5 (hE.word e6) (hE.word e7) hce hcv hcl ?_
  · obtain ⟨r, hr, rfl⟩ := List.mem_map.mp hz
    obtain ⟨z1, nm, z2, z3⟩ := e2 r hr
    exact Or.inr ⟨z1, nm, hE.word z2, hE.2.2.2.2.2.2.1 _ z3⟩
  · simp only [covers, Bool.and_eq_true, decide_eq_true_eq]
    exact e3
  · rw [← e4] at k
    exact k p e R s m args below meth c H1 locs1 lsm cells slots q9 mc ms C hH hS (hl.q hv) h1 h2 h3 h4
theorem r_callC {y' : YT} {as rest : List PV} {ls' : List PV} {a idx ci n N κ1 κ2 : Nat} {cs : List Nat} {TT : u_T} {z : Int} {Ψ : OT → DD → Prop} (hd : decode (yB y) pc = .ok (.invokevirtual idx, 3)) (hC : CKV (yN y).cls idx y' n) (hn : as.length = n)
    (hs : SH.getD a (9, 0, []) = (0, ci, cs)) (hci : vwCl[ci]? = some ((yN y').cls, TT, N)) (ha : a < NA) (hr : rg a = true) (hst : st = as.reverse ++ (a + 8, z) :: rest) (hok : argok as = true) (hrest : (rest.map pcat).sum ≤ 8) (hfit : (lg_sl (((a + 8, z) :: as).map (mv Γ 0))).length ≤ yL y')
    (hk : yK y' < yK y) (hκ : κ1 + κ2 = κ) (hls : ent (yL y') ((a + 8, z) :: as) = ls') (hv : ls.all (fun v => v.1 != 4 && v.1 != 6 && v.1 != 2) = true) (hR : Run Γ rg κ1 y' 0 ls' [] D Ψ)
    (kret : ∀ (v : Option PV) (D' : DD), Ψ (.inl v) D' → Run Γ rg κ2 y (pc + 3) ls (v.toList ++ rest) D' Φ)
    (kthr : ∀ (n : Nat) (D' : DD), n ≤ 2 → Ψ (.inr n) D' → ∃ hpc, HK y pc n hpc ∧ Run Γ rg κ2 y hpc ls [(4, 0)] D' Φ) : Run Γ rg κ y pc ls st D Φ := by
  intro p e R s m args below meth c H locs lsm cells slots q mc ms C hH hS hl h1 h2 h3 h4
  obtain ⟨hx, hb, hml, hown, hlk, hrt, htb, hfr, hlo, hE⟩ := id C
  subst hls
  obtain ⟨c1, c2, c3, hM⟩ := hC
  obtain ⟨m1, m2, m3, m4, m5, m6, m7⟩ := id hM
  obtain ⟨q0, -, hq⟩ := wsl_at ha hr
  have hce : cellOf Γ D a = .inr (ci, (List.range cs.length).map (fun k => fvz Γ (cs.getD k 0) (D a k))) := by unfold cellOf; simp only [hs]
  have hat := (hq Γ D).1
  rw [hce] at hat
  have hrun := vx_runV (args := args) (C := (yN y').cls) (own := (yN y).cls) (Ts := []) (index := idx) (bytes := yB y') (maxL := yL y') (ret := yR y') (As := as.map (mv Γ 0)) (b := gB Γ + a) (n := n) (rest := rest.map (mv Γ q)) (g := F0 m pc lsm (st.map (mv Γ q))) (locs := locs) (cells := cells) (slots := slots) (below := below) (meth := meth) (e := e) (R := R)
    ⟨hx, hb, hml, hown, fun w hw => by cases hw⟩ (ctr_of hM hfit hR)
    ⟨⟨rfl, rfl, by show yK y' + 1 ≤ R.frames; omega, by show 8 + (yL y' + 11) + 36 * yK y' ≤ R.locals; omega, code_ws hE m2 rfl, List.mem_singleton.mpr rfl, hE.word m2, hE.word m1, m3, fun sig h => by rw [h] at m4; exact (Option.some.inj m4).symm, hE.word c1⟩, hE.word c2, hE.word c3⟩
    ⟨pc_blind, va_recv hE.2.2.1 hH hci hat, fun U hU hW => ⟨rfl, hE.move hU hS hW, by rw [hU]; exact hH⟩⟩
    rfl (by rw [List.length_map]; exact hn) hl.1
    (by show st.map (mv Γ q) = _; rw [hst, List.map_append, List.map_reverse, argok_map (q' := 0) hok]; rfl)
    (by show 2 * 0 + _ ≤ 8; rw [pcat_sum]; omega) hd ⟨by omega, by omega⟩
  refine run_after C hS hl h1 h2 h3 h4 hκ hrun kret (fun n D' H1 locs1 q9 ce hn' hp hH' hS' a1 a2 a3 => ?_)
  obtain ⟨hpc, hK, hkr⟩ := kthr n D' hn' hp
  exact run_catch C hK hl hv hH' hS' a1 a2 a3 (by omega) (by omega) h3 h4 hkr
theorem r_acopy {a0 a1 n0 n1 idx : Nat} {z0 z1 n : Int} {cs0 cs1 : List Nat} {rest : List PV} (hd : decode (yB y) pc = .ok (.invokestatic idx, 3)) (hA : AK (yN y).cls idx) (hs0 : SH.getD a0 (9, 0, []) = (1, n0, cs0)) (hs1 : SH.getD a1 (9, 0, []) = (1, n1, cs1)) (ha0 : a0 < NA) (ha1 : a1 < NA) (hr0 : rg a0 = true) (hr1 : rg a1 = true)
    (hn0 : n0 < 2147483648) (hn : 0 ≤ n) (hn1 : n ≤ n0) (hn2 : n ≤ n1) (hrest : (rest.map pcat).sum ≤ 8) (hK : 1 ≤ yK y)
    (kk : Run Γ rg κ y (pc + 3) ls rest (cpy2 D a0 a1 n.toNat) Φ) : Run Γ rg κ y pc ls ((0, n) :: (0, 0) :: (a1 + 8, z1) :: (0, 0) :: (a0 + 8, z0) :: rest) D Φ := by
  intro p e R s m args below meth c H locs lsm cells slots q mc ms C hH hS hl h1 h2 h3 h4
  obtain ⟨hx, hb, hml, hown, hlk, hrt, htb, hfr, hlo, hE⟩ := id C
  obtain ⟨q0, -, hq0⟩ := wsl_at ha0 hr0
  obtain ⟨q1, -, hq1⟩ := wsl_at ha1 hr1
  have c0 : cellOf Γ D a0 = .inl (gI Γ, n0, .inl (fun j => Int32.ofInt (D a0 j))) := by unfold cellOf; simp only [hs0]
  have c1 : ∀ D : DD, cellOf Γ D a1 = .inl (gI Γ, n1, .inl (fun j => Int32.ofInt (D a1 j))) := fun D => by unfold cellOf; simp only [hs1]
  have hat0 := (hq0 Γ D).1
  have hat1 := (hq1 Γ D).1
  have hset := (hq1 Γ D).2 (cpy2 D a0 a1 n.toNat) (fun b hb => by unfold cpy2; rw [if_neg hb])
  rw [c0] at hat0
  rw [c1] at hat1 hset
  have hRn : inR n := ⟨by omega, by omega⟩
  have e0 : (Int32.ofInt 0).toNatClampNeg = 0 := rfl
  have en : (Int32.ofInt n).toNatClampNeg = n.toNat := ofI_clamp hRn
  refine va_copyi (cc := yB y) (ty := .int) hx hb (hml.trans hl.1.symm) hown (hE.word hA.1) (hE.word hA.2.1) (hE.word hA.2.2.1) (hE.word hA.2.2.2) hE.2.2.1 hH (wsl_D Γ rg D) hS q0 q1 0 0 hat0 hat1 rfl rfl rfl
    (sp := Int32.ofInt 0) (dp := Int32.ofInt 0) (n := Int32.ofInt n) (by decide) (by decide) (by rw [ofI_0, ofI_lt hRn inR_0]; omega) (by rw [e0, en]; omega) (by rw [e0, en]; omega) (fun _ _ => rfl) (by omega) ?_ hd (fun H1 locs1 hP1 hD1 hS1 => ?_)
  · rw [pcat_sum]
    show _ + (nativeFrameWords "java/lang/System" "arraycopy" 5 + 11) ≤ R.locals
    have : nativeFrameWords "java/lang/System" "arraycopy" 5 = 7 := by decide +kernel
    rw [this]
    omega
  · rw [e0, en] at hP1
    have ef : va_cpy (fun j => Int32.ofInt (D a0 j)) (fun j => Int32.ofInt (D a1 j)) 0 0 n.toNat = fun j => Int32.ofInt (cpy2 D a0 a1 n.toNat a1 j) := by
      funext j
      unfold va_cpy cpy2
      rw [if_pos rfl]
      dsimp only
      by_cases hj : j < n.toNat
      · rw [if_pos ⟨Nat.zero_le _, by omega⟩, if_pos hj, Nat.zero_add, Nat.sub_zero]
      · rw [if_neg (fun h => hj (by omega)), if_neg hj]
    rw [ef, hset] at hP1
    exact kk p e R s m args below meth c H1 locs1 lsm cells slots q mc ms C hP1 hS1 hl h1 h2 h3 h4
end CALLS2
end
section
/-! PURE READINGS: numbers in, numbers and cells out; rows that make a run of a pure reading.
w32: an int as it is kept; Res: none (nothing is said), a value and the cells, an exception and the cells -/
def w32 (z : Int) : Int := (z + 2147483648) % 4294967296 - 2147483648
def w64 (z : Int) : Int := (z + 9223372036854775808) % 18446744073709551616 - 9223372036854775808
theorem w32_in (z : Int) : inR (w32 z) := by unfold inR w32; omega
theorem w64_in (z : Int) : inJ (w64 z) := by unfold inJ w64; omega
theorem w32_of {z : Int} (h : -2147483648 ≤ z ∧ z ≤ 2147483647) : w32 z = z := by unfold w32; omega
theorem w64_of {z : Int} (h : inJ z) : w64 z = z := by unfold inJ at h; unfold w64; omega
theorem ofI_w32 (z : Int) : Int32.ofInt (w32 z) = Int32.ofInt z := by
  rw [← Int32.toInt_inj, Int32.toInt_ofInt, Int32.toInt_ofInt]
  unfold w32
  rw [show Int32.size = 4294967296 from rfl]
  simp only [Int.bmod]
  omega
theorem ofI_w64 (z : Int) : Int64.ofInt (w64 z) = Int64.ofInt z := by
  rw [← Int64.toInt_inj, Int64.toInt_ofInt, Int64.toInt_ofInt]
  unfold w64
  rw [show Int64.size = 18446744073709551616 from rfl]
  simp only [Int.bmod]
  omega
abbrev Res : Type := Option ((Int ⊕ Nat) × DD)
def okR (v : Int) (D : DD) : Res := some (.inl v, D)
def okZ (v : Int) (D : DD) : Res := if v = 0 ∨ v = 1 then some (.inl v, D) else none
def erR (n : Nat) (D : DD) : Res := some (.inr n, D)
def bnd (r : Res) (c : Int → DD → Res) : Res := match r with
  | some (.inl v, D) => c v D
  | some (.inr n, D) => some (.inr n, D)
  | none => none
def ctc (r : Res) (c : Int → DD → Res) (g : Nat → DD → Res) : Res := match r with
  | some (.inl v, D) => c v D
  | some (.inr n, D) => g n D
  | none => none
def rdA (n a : Nat) (i : Int) (D : DD) (c : Int → Res) : Res := if 0 ≤ w32 i ∧ w32 i < n then c (D a (w32 i).toNat) else none
def wrA (n a : Nat) (i v : Int) (D : DD) (c : DD → Res) : Res := if 0 ≤ w32 i ∧ w32 i < n then c (up2 D a (w32 i).toNat v) else none
def wrZ (n a : Nat) (i v : Int) (D : DD) (c : DD → Res) : Res := if (0 ≤ w32 i ∧ w32 i < n) ∧ (v = 0 ∨ v = 1) then c (up2 D a (w32 i).toNat v) else none
def wfZ (a k : Nat) (v : Int) (D : DD) (c : DD → Res) : Res := if v = 0 ∨ v = 1 then c (up2 D a k v) else none
def gD {β : Type} (D : DD) (c : DD → β) : β := c D
def jnR {α β : Type} (b : α) (c : α → β) : β := c b
def ltR {β : Type} (v : Int) (c : Int → β) : β := c v
def rd (n a : Nat) (i : Int) (D : DD) : Int := if 0 ≤ w32 i ∧ w32 i < n then D a (w32 i).toNat else 0
def sto (n a : Nat) (i v : Int) (D : DD) : DD := if 0 ≤ w32 i ∧ w32 i < n then up2 D a (w32 i).toNat v else D
def iandZ (a b : Int) : Int := (Int32.ofInt a &&& Int32.ofInt b).toInt
def lorZ (a b : Int) : Int := (Int64.ofInt a ||| Int64.ofInt b).toInt
def lshlZ (a b : Int) : Int := (Int64.ofInt a <<< ((Int32.ofInt b).toInt64 &&& 63)).toInt
def landZ (a b : Int) : Int := (Int64.ofInt a &&& Int64.ofInt b).toInt
def lushrZ (a b : Int) : Int := ((Int64.ofInt a).toUInt64 >>> ((Int32.ofInt b).toInt64.toUInt64 &&& Int64.toUInt64 63)).toInt64.toInt
def lcmZ (a b : Int) : Int := if b < a then 1 else if a = b then 0 else -1
def fu : Nat := 10000
def kx : Int ⊕ Nat → Nat
  | .inl _ => 0
  | .inr _ => 1
def rvo (t : Option FieldType) (v : Int) : Option PV := match t with
  | none => none
  | some .long => some (1, v)
  | some _ => some (0, v)
def lf (t : Option FieldType) : Int ⊕ Nat → OT
  | .inl v => .inl (rvo t v)
  | .inr n => .inr n
def WP (t : Option FieldType) (κ : Nat) (Φ : OT → DD → Prop) (r : Res) : Prop := ∃ (o : Int ⊕ Nat) (D' : DD), r = some (o, D') ∧ kx o ≤ κ ∧ Φ (lf t o) D'
def WPD (Φ : OT → DD → Prop) (D : DD) : Prop := Φ (.inl none) D
def EQx (x y : Int) : Prop := x = y
theorem WP.ok {t : Option FieldType} {κ : Nat} {Φ : OT → DD → Prop} {v : Int} {D : DD} (h : WP t κ Φ (okR v D)) : Φ (.inl (rvo t v)) D := by
  obtain ⟨o, D', e, -, hΦ⟩ := h
  cases e
  exact hΦ
theorem WP.okz {t : Option FieldType} {κ : Nat} {Φ : OT → DD → Prop} {v : Int} {D : DD} (h : WP t κ Φ (okZ v D)) : (v = 0 ∨ v = 1) ∧ Φ (.inl (rvo t v)) D := by
  obtain ⟨o, D', e, -, hΦ⟩ := h
  unfold okZ at e
  split at e
  · cases e
    exact ⟨by assumption, hΦ⟩
  · cases e
theorem WP.er {t : Option FieldType} {κ : Nat} {Φ : OT → DD → Prop} {n : Nat} {D : DD} (h : WP t κ Φ (erR n D)) : 1 ≤ κ ∧ Φ (.inr n) D := by
  obtain ⟨o, D', e, hk, hΦ⟩ := h
  cases e
  exact ⟨hk, hΦ⟩
theorem WP.no {t : Option FieldType} {κ : Nat} {Φ : OT → DD → Prop} (h : WP t κ Φ none) : False := by
  obtain ⟨o, D', e, -, -⟩ := h
  cases e
def nz (a a' : Int) : Prop := Int32.ofInt a' = Int32.ofInt a ∧ inR a'
theorem nz_w (a : Int) : nz a (w32 a) := ⟨ofI_w32 a, w32_in a⟩
theorem nz_k {a : Int} (h : (decide (-2147483648 ≤ a) && decide (a ≤ 2147483647)) = true) : nz a a := by
  simp only [Bool.and_eq_true, decide_eq_true_eq] at h
  exact ⟨rfl, h⟩
theorem nz_b {a : Int} (h : a = 0 ∨ a = 1) : nz a a := by
  rcases h with rfl | rfl <;> exact nz_k rfl
theorem nz_c (a b : Int) : nz (lcmZ a b) (lcmZ a b) := by
  unfold lcmZ
  split
  · exact nz_k rfl
  · split <;> exact nz_k rfl
def cov (rg rg' : Nat → Bool) : Prop := ∀ a, rg' a = true → rg a = true
def lql : List PV → List PV → Prop
  | [], [] => True
  | a :: as, b :: bs => (a.1 = 5 ∨ a = b) ∧ lql as bs
  | _, _ => False
theorem lql_at : ∀ {xs ys : List PV}, lql xs ys → ∀ (i : Nat) (v : PV), xs[i]? = some v → v.1 ≠ 5 → ys[i]? = some v
  | [], [], _, i, v, h, _ => by simp at h
  | a :: as, b :: bs, ⟨h1, h2⟩, i, v, h, h5 => by
    match i, h with
    | 0, h =>
      cases h
      rcases h1 with h1 | h1
      · exact absurd h1 h5
      · rw [← h1]; rfl
    | i + 1, h => exact lql_at h2 i v (by simpa using h) h5
  | [], _ :: _, h, _, _, _, _ => h.elim
  | _ :: _, [], h, _, _, _, _ => h.elim
section CC
variable {Γ : GG} {rg : Nat → Bool} {κ : Nat} {y : YT} {pc : Nat} {ls st : List PV} {D : DD} {Φ : OT → DD → Prop} {t : Option FieldType}
theorem Run.forget {ls' : List PV} (h : lql ls' ls) (k : Run Γ rg κ y pc ls' st D Φ) : Run Γ rg κ y pc ls st D Φ := by
  intro p e R s m args below meth c H locs lsm cells slots q mc ms C hH hS hl h1 h2 h3 h4
  exact k p e R s m args below meth c H locs lsm cells slots q mc ms C hH hS ⟨hl.1, hl.2.1, fun i v hi h5 => hl.2.2 i v (lql_at h i v hi h5) h5⟩ h1 h2 h3 h4
theorem Run.st0 {st' : List PV} (h : ∀ q, st.map (mv Γ q) = st'.map (mv Γ q)) (k : Run Γ rg κ y pc ls st' D Φ) : Run Γ rg κ y pc ls st D Φ := by
  intro p e R s m args below meth c H locs lsm cells slots q mc ms C hH hS hl h1 h2 h3 h4
  rw [h q]
  exact k p e R s m args below meth c H locs lsm cells slots q mc ms C hH hS hl h1 h2 h3 h4
theorem mv_i {Γ : GG} {q : Nat} {a a' : Int} (h : Int32.ofInt a' = Int32.ofInt a) : mv Γ q (0, a) = mv Γ q (0, a') := by
  show Value.int (Int32.ofInt a) = Value.int (Int32.ofInt a')
  rw [h]
theorem mv_j {Γ : GG} {q : Nat} {a a' : Int} (h : Int64.ofInt a' = Int64.ofInt a) : mv Γ q (1, a) = mv Γ q (1, a') := by
  show Value.long (Int64.ofInt a) = Value.long (Int64.ofInt a')
  rw [h]
theorem Run.st1 {a a' : Int} (h : Int32.ofInt a' = Int32.ofInt a) (k : Run Γ rg κ y pc ls ((0, a') :: st) D Φ) : Run Γ rg κ y pc ls ((0, a) :: st) D Φ :=
  Run.st0 (fun q => by rw [List.map_cons, List.map_cons, mv_i h]) k
theorem Run.st2 {v : PV} {a a' : Int} (h : Int32.ofInt a' = Int32.ofInt a) (k : Run Γ rg κ y pc ls (v :: (0, a') :: st) D Φ) : Run Γ rg κ y pc ls (v :: (0, a) :: st) D Φ :=
  Run.st0 (fun q => by rw [List.map_cons, List.map_cons, List.map_cons, List.map_cons, mv_i h]) k
theorem Run.sj1 {a a' : Int} (h : Int64.ofInt a' = Int64.ofInt a) (k : Run Γ rg κ y pc ls ((1, a') :: st) D Φ) : Run Γ rg κ y pc ls ((1, a) :: st) D Φ :=
  Run.st0 (fun q => by rw [List.map_cons, List.map_cons, mv_j h]) k
theorem Run.sj2 {v : PV} {a a' : Int} (h : Int64.ofInt a' = Int64.ofInt a) (k : Run Γ rg κ y pc ls (v :: (1, a') :: st) D Φ) : Run Γ rg κ y pc ls (v :: (1, a) :: st) D Φ :=
  Run.st0 (fun q => by rw [List.map_cons, List.map_cons, List.map_cons, List.map_cons, mv_j h]) k
section IFS
variable {α : Type} {G : α → Prop} {A B : α} {a b a' b' : Int} {off : Int} {tgt : Nat}
theorem c_icmp_eq (hd : decode (yB y) pc = .ok (.if_icmp .eq off, 3)) (ht : (pc : Int) + off = (tgt : Int)) (ha : nz a a') (hb : nz b b') (h : G (if a' = b' then A else B)) (kt : G A → Run Γ rg κ y tgt ls st D Φ) (kf : G B → Run Γ rg κ y (pc + 3) ls st D Φ) : Run Γ rg κ y pc ls ((0, b) :: (0, a) :: st) D Φ :=
  Run.st1 hb.1 (Run.st2 ha.1 (r_icmp_eq hd ht ha.2 hb.2 (fun g => kt (by rw [if_pos g] at h; exact h)) (fun g => kf (by rw [if_neg (by omega)] at h; exact h))))
theorem c_if_eq (hd : decode (yB y) pc = .ok (.ifCond .eq off, 3)) (ht : (pc : Int) + off = (tgt : Int)) (ha : nz a a') (h : G (if a' = 0 then A else B)) (kt : G A → Run Γ rg κ y tgt ls st D Φ) (kf : G B → Run Γ rg κ y (pc + 3) ls st D Φ) : Run Γ rg κ y pc ls ((0, a) :: st) D Φ :=
  Run.st1 ha.1 (r_if_eq hd ht ha.2 (fun g => kt (by rw [if_pos g] at h; exact h)) (fun g => kf (by rw [if_neg (by omega)] at h; exact h)))
theorem c_icmp_ne (hd : decode (yB y) pc = .ok (.if_icmp .ne off, 3)) (ht : (pc : Int) + off = (tgt : Int)) (ha : nz a a') (hb : nz b b') (h : G (if a' = b' then A else B)) (kt : G B → Run Γ rg κ y tgt ls st D Φ) (kf : G A → Run Γ rg κ y (pc + 3) ls st D Φ) : Run Γ rg κ y pc ls ((0, b) :: (0, a) :: st) D Φ :=
  Run.st1 hb.1 (Run.st2 ha.1 (r_icmp_ne hd ht ha.2 hb.2 (fun g => kt (by rw [if_neg (by omega)] at h; exact h)) (fun g => kf (by rw [if_pos g] at h; exact h))))
theorem c_if_ne (hd : decode (yB y) pc = .ok (.ifCond .ne off, 3)) (ht : (pc : Int) + off = (tgt : Int)) (ha : nz a a') (h : G (if a' = 0 then A else B)) (kt : G B → Run Γ rg κ y tgt ls st D Φ) (kf : G A → Run Γ rg κ y (pc + 3) ls st D Φ) : Run Γ rg κ y pc ls ((0, a) :: st) D Φ :=
  Run.st1 ha.1 (r_if_ne hd ht ha.2 (fun g => kt (by rw [if_neg (by omega)] at h; exact h)) (fun g => kf (by rw [if_pos g] at h; exact h)))
theorem c_icmp_lt (hd : decode (yB y) pc = .ok (.if_icmp .lt off, 3)) (ht : (pc : Int) + off = (tgt : Int)) (ha : nz a a') (hb : nz b b') (h : G (if a' < b' then A else B)) (kt : G A → Run Γ rg κ y tgt ls st D Φ) (kf : G B → Run Γ rg κ y (pc + 3) ls st D Φ) : Run Γ rg κ y pc ls ((0, b) :: (0, a) :: st) D Φ :=
  Run.st1 hb.1 (Run.st2 ha.1 (r_icmp_lt hd ht ha.2 hb.2 (fun g => kt (by rw [if_pos g] at h; exact h)) (fun g => kf (by rw [if_neg (by omega)] at h; exact h))))
theorem c_if_lt (hd : decode (yB y) pc = .ok (.ifCond .lt off, 3)) (ht : (pc : Int) + off = (tgt : Int)) (ha : nz a a') (h : G (if a' < 0 then A else B)) (kt : G A → Run Γ rg κ y tgt ls st D Φ) (kf : G B → Run Γ rg κ y (pc + 3) ls st D Φ) : Run Γ rg κ y pc ls ((0, a) :: st) D Φ :=
  Run.st1 ha.1 (r_if_lt hd ht ha.2 (fun g => kt (by rw [if_pos g] at h; exact h)) (fun g => kf (by rw [if_neg (by omega)] at h; exact h)))
theorem c_icmp_ge (hd : decode (yB y) pc = .ok (.if_icmp .ge off, 3)) (ht : (pc : Int) + off = (tgt : Int)) (ha : nz a a') (hb : nz b b') (h : G (if a' < b' then A else B)) (kt : G B → Run Γ rg κ y tgt ls st D Φ) (kf : G A → Run Γ rg κ y (pc + 3) ls st D Φ) : Run Γ rg κ y pc ls ((0, b) :: (0, a) :: st) D Φ :=
  Run.st1 hb.1 (Run.st2 ha.1 (r_icmp_ge hd ht ha.2 hb.2 (fun g => kt (by rw [if_neg (by omega)] at h; exact h)) (fun g => kf (by rw [if_pos g] at h; exact h))))
theorem c_if_ge (hd : decode (yB y) pc = .ok (.ifCond .ge off, 3)) (ht : (pc : Int) + off = (tgt : Int)) (ha : nz a a') (h : G (if a' < 0 then A else B)) (kt : G B → Run Γ rg κ y tgt ls st D Φ) (kf : G A → Run Γ rg κ y (pc + 3) ls st D Φ) : Run Γ rg κ y pc ls ((0, a) :: st) D Φ :=
  Run.st1 ha.1 (r_if_ge hd ht ha.2 (fun g => kt (by rw [if_neg (by omega)] at h; exact h)) (fun g => kf (by rw [if_pos g] at h; exact h)))
theorem c_icmp_gt (hd : decode (yB y) pc = .ok (.if_icmp .gt off, 3)) (ht : (pc : Int) + off = (tgt : Int)) (ha : nz a a') (hb : nz b b') (h : G (if b' < a' then A else B)) (kt : G A → Run Γ rg κ y tgt ls st D Φ) (kf : G B → Run Γ rg κ y (pc + 3) ls st D Φ) : Run Γ rg κ y pc ls ((0, b) :: (0, a) :: st) D Φ :=
  Run.st1 hb.1 (Run.st2 ha.1 (r_icmp_gt hd ht ha.2 hb.2 (fun g => kt (by rw [if_pos g] at h; exact h)) (fun g => kf (by rw [if_neg (by omega)] at h; exact h))))
theorem c_if_gt (hd : decode (yB y) pc = .ok (.ifCond .gt off, 3)) (ht : (pc : Int) + off = (tgt : Int)) (ha : nz a a') (h : G (if 0 < a' then A else B)) (kt : G A → Run Γ rg κ y tgt ls st D Φ) (kf : G B → Run Γ rg κ y (pc + 3) ls st D Φ) : Run Γ rg κ y pc ls ((0, a) :: st) D Φ :=
  Run.st1 ha.1 (r_if_gt hd ht ha.2 (fun g => kt (by rw [if_pos g] at h; exact h)) (fun g => kf (by rw [if_neg (by omega)] at h; exact h)))
theorem c_icmp_le (hd : decode (yB y) pc = .ok (.if_icmp .le off, 3)) (ht : (pc : Int) + off = (tgt : Int)) (ha : nz a a') (hb : nz b b') (h : G (if b' < a' then A else B)) (kt : G B → Run Γ rg κ y tgt ls st D Φ) (kf : G A → Run Γ rg κ y (pc + 3) ls st D Φ) : Run Γ rg κ y pc ls ((0, b) :: (0, a) :: st) D Φ :=
  Run.st1 hb.1 (Run.st2 ha.1 (r_icmp_le hd ht ha.2 hb.2 (fun g => kt (by rw [if_neg (by omega)] at h; exact h)) (fun g => kf (by rw [if_pos g] at h; exact h))))
theorem c_if_le (hd : decode (yB y) pc = .ok (.ifCond .le off, 3)) (ht : (pc : Int) + off = (tgt : Int)) (ha : nz a a') (h : G (if 0 < a' then A else B)) (kt : G B → Run Γ rg κ y tgt ls st D Φ) (kf : G A → Run Γ rg κ y (pc + 3) ls st D Φ) : Run Γ rg κ y pc ls ((0, a) :: st) D Φ :=
  Run.st1 ha.1 (r_if_le hd ht ha.2 (fun g => kt (by rw [if_neg (by omega)] at h; exact h)) (fun g => kf (by rw [if_pos g] at h; exact h)))
end IFS
theorem c_lt_n {β : Type} {G : β → Prop} {i : Fin 4} {z : Int} {c : Int → β} (hd : decode (yB y) pc = .ok (.istore_n i, 1)) (hi : (i : Nat) < yL y) (hp : pok ls i = true) (h : G (ltR z c)) (kk : ∀ x, G (c x) → Run Γ rg κ y (pc + 1) (ls.set i (0, x)) st D Φ) : Run Γ rg κ y pc ls ((0, z) :: st) D Φ := r_istore_n hd hi hp (kk z h)
theorem c_lt {β : Type} {G : β → Prop} {i : Nat} {z : Int} {c : Int → β} (hd : decode (yB y) pc = .ok (.istore i, 2)) (hi : i < yL y) (hp : pok ls i = true) (h : G (ltR z c)) (kk : ∀ x, G (c x) → Run Γ rg κ y (pc + 2) (ls.set i (0, x)) st D Φ) : Run Γ rg κ y pc ls ((0, z) :: st) D Φ := r_istore hd hi hp (kk z h)
theorem c_jn {α β : Type} {G : β → Prop} {b : α} {c : α → β} {P : Prop} (J : α → Prop) (h : G (jnR b c)) (hJ : J b) (kk : ∀ b', J b' → G (c b') → P) : P := kk b hJ h
theorem c_gD {β : Type} {G : β → Prop} {E : DD} {c : DD → β} (h : G (gD E c)) (kk : ∀ D1, G (c D1) → Run Γ rg κ y pc ls st D1 Φ) : Run Γ rg κ y pc ls st E Φ := kk E h
theorem c_iald {a n : Nat} {i z : Int} {cs : List Nat} {c : Int → Res} (hd : decode (yB y) pc = .ok (.iaload, 1)) (hs : SH.getD a (9, 0, []) = (1, n, cs)) (ha : a < NA) (hr : rg a = true) (hn : n < 2147483648) (h : WP t κ Φ (rdA n a i D c))
    (kk : ∀ v, WP t κ Φ (c v) → Run Γ rg κ y (pc + 1) ls ((0, v) :: st) D Φ) : Run Γ rg κ y pc ls ((0, i) :: (a + 8, z) :: st) D Φ := by
  unfold rdA at h
  split at h
  · rename_i g
    exact Run.st1 (ofI_w32 i) (r_iald hd hs ha hr hn g.1 g.2 (kk _ h))
  · exact h.no.elim
theorem c_zald {a n : Nat} {i z : Int} {cs : List Nat} {c : Int → Res} (hd : decode (yB y) pc = .ok (.baload, 1)) (hs : SH.getD a (9, 0, []) = (2, n, cs)) (ha : a < NA) (hr : rg a = true) (hn : n < 2147483648) (h : WP t κ Φ (rdA n a i D c))
    (kk : ∀ v, WP t κ Φ (c v) → Run Γ rg κ y (pc + 1) ls ((0, v) :: st) D Φ) : Run Γ rg κ y pc ls ((0, i) :: (a + 8, z) :: st) D Φ := by
  unfold rdA at h
  split at h
  · rename_i g
    exact Run.st1 (ofI_w32 i) (r_zald hd hs ha hr hn g.1 g.2 (kk _ h))
  · exact h.no.elim
theorem c_iast {a n : Nat} {i z x : Int} {cs : List Nat} {c : DD → Res} (hd : decode (yB y) pc = .ok (.iastore, 1)) (hs : SH.getD a (9, 0, []) = (1, n, cs)) (ha : a < NA) (hr : rg a = true) (hn : n < 2147483648) (h : WP t κ Φ (wrA n a i x D c))
    (kk : ∀ D1, WP t κ Φ (c D1) → Run Γ rg κ y (pc + 1) ls st D1 Φ) : Run Γ rg κ y pc ls ((0, x) :: (0, i) :: (a + 8, z) :: st) D Φ := by
  unfold wrA at h
  split at h
  · rename_i g
    exact Run.st2 (ofI_w32 i) (r_iast hd hs ha hr hn g.1 g.2 (kk _ h))
  · exact h.no.elim
theorem c_zast {a n : Nat} {i z x : Int} {cs : List Nat} {c : DD → Res} (hd : decode (yB y) pc = .ok (.bastore, 1)) (hs : SH.getD a (9, 0, []) = (2, n, cs)) (ha : a < NA) (hr : rg a = true) (hn : n < 2147483648) (h : WP t κ Φ (wrZ n a i x D c))
    (kk : ∀ D1, WP t κ Φ (c D1) → Run Γ rg κ y (pc + 1) ls st D1 Φ) : Run Γ rg κ y pc ls ((0, x) :: (0, i) :: (a + 8, z) :: st) D Φ := by
  unfold wrZ at h
  split at h
  · rename_i g
    exact Run.st2 (ofI_w32 i) (r_zast hd hs ha hr hn g.1.1 g.1.2 g.2 (kk _ h))
  · exact h.no.elim
theorem c_iast0 {β : Type} {G : β → Prop} {a n : Nat} {i z x : Int} {k : Nat} {cs : List Nat} {c : DD → β} (hd : decode (yB y) pc = .ok (.iastore, 1)) (hs : SH.getD a (9, 0, []) = (1, n, cs)) (ha : a < NA) (hr : rg a = true) (hn : n < 2147483648) (hi : i = (k : Int)) (hj : k < n) (h : G (gD (up2 D a k x) c))
    (kk : ∀ D1, G (c D1) → Run Γ rg κ y (pc + 1) ls st D1 Φ) : Run Γ rg κ y pc ls ((0, x) :: (0, i) :: (a + 8, z) :: st) D Φ := by
  subst hi
  exact r_iast hd hs ha hr hn (Int.natCast_nonneg k) (Int.ofNat_lt.mpr hj) (kk _ h)
theorem c_zast0 {β : Type} {G : β → Prop} {a n : Nat} {i z x : Int} {k : Nat} {cs : List Nat} {c : DD → β} (hd : decode (yB y) pc = .ok (.bastore, 1)) (hs : SH.getD a (9, 0, []) = (2, n, cs)) (ha : a < NA) (hr : rg a = true) (hn : n < 2147483648) (hi : i = (k : Int)) (hj : k < n) (hx : x = 0 ∨ x = 1) (h : G (gD (up2 D a k x) c))
    (kk : ∀ D1, G (c D1) → Run Γ rg κ y (pc + 1) ls st D1 Φ) : Run Γ rg κ y pc ls ((0, x) :: (0, i) :: (a + 8, z) :: st) D Φ := by
  subst hi
  exact r_zast hd hs ha hr hn (Int.natCast_nonneg k) (Int.ofNat_lt.mpr hj) hx (kk _ h)
theorem c_last0 {β : Type} {G : β → Prop} {a n : Nat} {i z x : Int} {k : Nat} {cs : List Nat} {c : DD → β} (hd : decode (yB y) pc = .ok (.lastore, 1)) (hs : SH.getD a (9, 0, []) = (3, n, cs)) (ha : a < NA) (hr : rg a = true) (hn : n < 2147483648) (hi : i = (k : Int)) (hj : k < n) (h : G (gD (up2 D a k x) c))
    (kk : ∀ D1, G (c D1) → Run Γ rg κ y (pc + 1) ls st D1 Φ) : Run Γ rg κ y pc ls ((1, x) :: (0, i) :: (a + 8, z) :: st) D Φ := by
  subst hi
  exact r_last hd hs ha hr hn (Int.natCast_nonneg k) (Int.ofNat_lt.mpr hj) (kk _ h)
theorem c_iald0 {a n : Nat} {i z : Int} {k : Nat} {cs : List Nat} (hd : decode (yB y) pc = .ok (.iaload, 1)) (hs : SH.getD a (9, 0, []) = (1, n, cs)) (ha : a < NA) (hr : rg a = true) (hn : n < 2147483648) (hi : i = (k : Int)) (hj : k < n)
    (kk : Run Γ rg κ y (pc + 1) ls ((0, D a k) :: st) D Φ) : Run Γ rg κ y pc ls ((0, i) :: (a + 8, z) :: st) D Φ := by
  subst hi
  exact r_iald hd hs ha hr hn (Int.natCast_nonneg k) (Int.ofNat_lt.mpr hj) kk
theorem c_zald0 {a n : Nat} {i z : Int} {k : Nat} {cs : List Nat} (hd : decode (yB y) pc = .ok (.baload, 1)) (hs : SH.getD a (9, 0, []) = (2, n, cs)) (ha : a < NA) (hr : rg a = true) (hn : n < 2147483648) (hi : i = (k : Int)) (hj : k < n)
    (kk : Run Γ rg κ y (pc + 1) ls ((0, D a k) :: st) D Φ) : Run Γ rg κ y pc ls ((0, i) :: (a + 8, z) :: st) D Φ := by
  subst hi
  exact r_zald hd hs ha hr hn (Int.natCast_nonneg k) (Int.ofNat_lt.mpr hj) kk
theorem c_lald0 {a n : Nat} {i z : Int} {k : Nat} {cs : List Nat} (hd : decode (yB y) pc = .ok (.laload, 1)) (hs : SH.getD a (9, 0, []) = (3, n, cs)) (ha : a < NA) (hr : rg a = true) (hn : n < 2147483648) (hi : i = (k : Int)) (hj : k < n)
    (kk : Run Γ rg κ y (pc + 1) ls ((1, D a k) :: st) D Φ) : Run Γ rg κ y pc ls ((0, i) :: (a + 8, z) :: st) D Φ := by
  subst hi
  exact r_lald hd hs ha hr hn (Int.natCast_nonneg k) (Int.ofNat_lt.mpr hj) kk
theorem c_putI {β : Type} {G : β → Prop} {idx a k ci : Nat} {cs : List Nat} {z x : Int} {c : DD → β} (hd : decode (yB y) pc = .ok (.putfield idx, 3)) (hF : PK (yN y).cls idx ci k .int) (hs : SH.getD a (9, 0, []) = (0, ci, cs)) (hk : cs[k]? = some 0) (ha : a < NA) (hr : rg a = true) (h : G (gD (up2 D a k x) c))
    (kk : ∀ D1, G (c D1) → Run Γ rg κ y (pc + 3) ls st D1 Φ) : Run Γ rg κ y pc ls ((0, x) :: (a + 8, z) :: st) D Φ := r_putI hd hF hs hk ha hr (kk _ h)
theorem c_putZ {β : Type} {G : β → Prop} {idx a k ci : Nat} {cs : List Nat} {z x : Int} {c : DD → β} (hd : decode (yB y) pc = .ok (.putfield idx, 3)) (hF : PK (yN y).cls idx ci k .boolean) (hs : SH.getD a (9, 0, []) = (0, ci, cs)) (hk : cs[k]? = some 1) (ha : a < NA) (hr : rg a = true) (hx : x = 0 ∨ x = 1) (h : G (gD (up2 D a k x) c))
    (kk : ∀ D1, G (c D1) → Run Γ rg κ y (pc + 3) ls st D1 Φ) : Run Γ rg κ y pc ls ((0, x) :: (a + 8, z) :: st) D Φ := r_putZ hd hF hs hk ha hr hx (kk _ h)
theorem c_putJ {β : Type} {G : β → Prop} {idx a k ci : Nat} {cs : List Nat} {z x : Int} {c : DD → β} (hd : decode (yB y) pc = .ok (.putfield idx, 3)) (hF : PK (yN y).cls idx ci k .long) (hs : SH.getD a (9, 0, []) = (0, ci, cs)) (hk : cs[k]? = some 2) (ha : a < NA) (hr : rg a = true) (h : G (gD (up2 D a k x) c))
    (kk : ∀ D1, G (c D1) → Run Γ rg κ y (pc + 3) ls st D1 Φ) : Run Γ rg κ y pc ls ((1, x) :: (a + 8, z) :: st) D Φ := r_putJ hd hF hs hk ha hr (kk _ h)
theorem c_acopy {β : Type} {G : β → Prop} {a0 a1 n0 n1 idx n : Nat} {z0 z1 n' : Int} {cs0 cs1 : List Nat} {rest : List PV} {c : DD → β} (hd : decode (yB y) pc = .ok (.invokestatic idx, 3)) (hA : AK (yN y).cls idx) (hs0 : SH.getD a0 (9, 0, []) = (1, n0, cs0)) (hs1 : SH.getD a1 (9, 0, []) = (1, n1, cs1)) (ha0 : a0 < NA) (ha1 : a1 < NA) (hr0 : rg a0 = true) (hr1 : rg a1 = true)
    (hn0 : n0 < 2147483648) (hn : n' = (n : Int)) (hn1 : n ≤ n0) (hn2 : n ≤ n1) (hrest : (rest.map pcat).sum ≤ 8) (hK : 1 ≤ yK y) (h : G (gD (cpy2 D a0 a1 n) c))
    (kk : ∀ D1, G (c D1) → Run Γ rg κ y (pc + 3) ls rest D1 Φ) : Run Γ rg κ y pc ls ((0, n') :: (0, 0) :: (a1 + 8, z1) :: (0, 0) :: (a0 + 8, z0) :: rest) D Φ := by
  subst hn
  exact r_acopy hd hA hs0 hs1 ha0 ha1 hr0 hr1 hn0 (Int.natCast_nonneg n) (Int.ofNat_le.mpr hn1) (Int.ofNat_le.mpr hn2) hrest hK (kk _ h)
theorem c_idiv {a b a' : Int} (hd : decode (yB y) pc = .ok (.idiv, 1)) (ha : nz a a') (hb : inR b) (h0 : b ≠ 0) (k : Run Γ rg κ y (pc + 1) ls ((0, a'.tdiv b) :: st) D Φ) : Run Γ rg κ y pc ls ((0, b) :: (0, a) :: st) D Φ := Run.st2 ha.1 (r_idiv hd ha.2 hb h0 k)
theorem c_irem {a b a' : Int} (hd : decode (yB y) pc = .ok (.irem, 1)) (ha : nz a a') (hb : inR b) (h0 : b ≠ 0) (k : Run Γ rg κ y (pc + 1) ls ((0, a'.tmod b) :: st) D Φ) : Run Γ rg κ y pc ls ((0, b) :: (0, a) :: st) D Φ := Run.st2 ha.1 (r_irem hd ha.2 hb h0 k)
theorem c_i2l {a a' : Int} (hd : decode (yB y) pc = .ok (.i2l, 1)) (ha : nz a a') (k : Run Γ rg κ y (pc + 1) ls ((1, a') :: st) D Φ) : Run Γ rg κ y pc ls ((0, a) :: st) D Φ := Run.st1 ha.1 (r_i2l hd ha.2 k)
theorem c_lcmp {a b : Int} (hd : decode (yB y) pc = .ok (.lcmp, 1)) (k : Run Γ rg κ y (pc + 1) ls ((0, lcmZ (w64 a) (w64 b)) :: st) D Φ) : Run Γ rg κ y pc ls ((1, b) :: (1, a) :: st) D Φ := Run.sj1 (ofI_w64 b) (Run.sj2 (ofI_w64 a) (r_lcmp hd (w64_in a) (w64_in b) k))
theorem r_ladd {a b : Int} (hd : decode (yB y) pc = .ok (.ladd, 1)) (k : Run Γ rg κ y (pc + 1) ls ((1, a + b) :: st) D Φ) : Run Γ rg κ y pc ls ((1, b) :: (1, a) :: st) D Φ := by
  intro p e R s m args below meth c H locs lsm cells slots q mc ms C hH hS hl h1 h2 h3 h4
  refine lv_ladd C.1 C.2.1 hd ?_
  rw [← Int64.ofInt_add]
  exact k p e R s m args below meth c H locs lsm cells slots q mc ms C hH hS hl h1 h2 h3 h4
theorem r_lsub {a b : Int} (hd : decode (yB y) pc = .ok (.lsub, 1)) (k : Run Γ rg κ y (pc + 1) ls ((1, a - b) :: st) D Φ) : Run Γ rg κ y pc ls ((1, b) :: (1, a) :: st) D Φ := by
  intro p e R s m args below meth c H locs lsm cells slots q mc ms C hH hS hl h1 h2 h3 h4
  refine lv_lsub C.1 C.2.1 hd ?_
  rw [← Int64.ofInt_sub]
  exact k p e R s m args below meth c H locs lsm cells slots q mc ms C hH hS hl h1 h2 h3 h4
theorem r_land {a b : Int} (hd : decode (yB y) pc = .ok (.land, 1)) (k : Run Γ rg κ y (pc + 1) ls ((1, landZ a b) :: st) D Φ) : Run Γ rg κ y pc ls ((1, b) :: (1, a) :: st) D Φ := by
  intro p e R s m args below meth c H locs lsm cells slots q mc ms C hH hS hl h1 h2 h3 h4
  refine lv_land C.1 C.2.1 hd ?_
  have := k p e R s m args below meth c H locs lsm cells slots q mc ms C hH hS hl h1 h2 h3 h4
  unfold landZ at this
  rw [List.map_cons, show ∀ w : Int64, mv Γ q (1, w.toInt) = .long (Int64.ofInt w.toInt) from fun _ => rfl, Int64.ofInt_toInt] at this
  exact this
theorem r_lushr {a b : Int} (hd : decode (yB y) pc = .ok (.lushr, 1)) (k : Run Γ rg κ y (pc + 1) ls ((1, lushrZ a b) :: st) D Φ) : Run Γ rg κ y pc ls ((0, b) :: (1, a) :: st) D Φ := by
  intro p e R s m args below meth c H locs lsm cells slots q mc ms C hH hS hl h1 h2 h3 h4
  refine lv_lushr C.1 C.2.1 hd rfl ?_
  have := k p e R s m args below meth c H locs lsm cells slots q mc ms C hH hS hl h1 h2 h3 h4
  unfold lushrZ at this
  rw [List.map_cons, show ∀ w : Int64, mv Γ q (1, w.toInt) = .long (Int64.ofInt w.toInt) from fun _ => rfl, Int64.ofInt_toInt] at this
  exact this
theorem r_l2i {a : Int} (hd : decode (yB y) pc = .ok (.l2i, 1)) (k : Run Γ rg κ y (pc + 1) ls ((0, a) :: st) D Φ) : Run Γ rg κ y pc ls ((1, a) :: st) D Φ := by
  intro p e R s m args below meth c H locs lsm cells slots q mc ms C hH hS hl h1 h2 h3 h4
  exact lv_l2i C.1 C.2.1 hd (v := Int32.ofInt a) (by simp) (k p e R s m args below meth c H locs lsm cells slots q mc ms C hH hS hl h1 h2 h3 h4)
theorem r_ldc2 {idx : Nat} {v : Int} (hd : decode (yB y) pc = .ok (.ldc2_w idx, 3)) (hc : KW (.constantLong (yN y).cls idx (Int64.ofInt v))) (k : Run Γ rg κ y (pc + 3) ls ((1, v) :: st) D Φ) : Run Γ rg κ y pc ls st D Φ := by
  intro p e R s m args below meth c H locs lsm cells slots q mc ms C hH hS hl h1 h2 h3 h4
  obtain ⟨hx, hb, hml, hown, hlk, hrt, htb, hfr, hlo, hE⟩ := id C
  exact lv_ldc2 hx hb hown (hE.word hc) hd (k p e R s m args below meth c H locs lsm cells slots q mc ms C hH hS hl h1 h2 h3 h4)
/-- a store of two slots -/
def pok2 (ls : List PV) (i : Nat) : Bool := i == 0 || (ls.getD (i - 1) (5, 0)).1 != 1
theorem lvr.set2 {Γ : GG} {q n i : Nat} {ls : List PV} {lsm lsm' : Array Slot} {x : Int} (h : lvr Γ q n ls lsm) (hp : pok2 ls i = true) (hn : lv_has lsm' n ((i, mv Γ q (1, x)) :: (lvl Γ q ls).filter (fun r => !(r.1 == i) && (!(r.1 == i + 1) && !(r.1 + 1 == i && r.2.category == 2))))) : lvr Γ q n ((ls.set i (1, x)).set (i + 1) (5, 0)) lsm' := by
  refine ⟨hn.1, hn.2.1, fun j w hj h5 => ?_⟩
  rw [List.getElem?_set] at hj
  by_cases hi1 : i + 1 = j
  · rw [if_pos hi1] at hj
    split at hj
    · cases hj
      exact absurd rfl h5
    · cases hj
  · rw [if_neg hi1, List.getElem?_set] at hj
    by_cases hi : i = j
    · subst hi
      rw [if_pos rfl] at hj
      split at hj
      · cases hj
        exact hn.2.2 (i, mv Γ q (1, x)) List.mem_cons_self
      · cases hj
    · rw [if_neg hi] at hj
      refine hn.2.2 (j, mv Γ q w) (List.mem_cons_of_mem _ (List.mem_filter.mpr ⟨lvl_mem hj h5, ?_⟩))
      have e1 : (j == i) = false := by simpa using fun e => hi e.symm
      have e2 : (j == i + 1) = false := by simpa using fun e => hi1 e.symm
      simp only [e1, e2, Bool.not_false, Bool.true_and, Bool.not_eq_true', Bool.and_eq_false_iff, beq_eq_false_iff_ne]
      by_cases e3 : j + 1 = i
      · right
        subst e3
        have hg : ls.getD j (5, 0) = w := by rw [List.getD_eq_getElem?_getD, hj]; rfl
        simp only [pok2, Nat.add_sub_cancel, hg, Bool.or_eq_true, beq_iff_eq, Nat.succ_ne_zero, false_or, bne_iff_ne] at hp
        rw [mv_cat1 (by simpa using hp)]
        decide
      · exact Or.inl e3
theorem c_ltj_n {β : Type} {G : β → Prop} {i : Fin 4} {z : Int} {c : Int → β} (hd : decode (yB y) pc = .ok (.lstore_n i, 1)) (hi : (i : Nat) + 1 < yL y) (hp : pok2 ls i = true) (h : G (ltR z c)) (kk : ∀ x, G (c x) → Run Γ rg κ y (pc + 1) ((ls.set i (1, x)).set (i + 1) (5, 0)) st D Φ) : Run Γ rg κ y pc ls ((1, z) :: st) D Φ := by
  intro p e R s m args below meth c H locs lsm cells slots q mc ms C hH hS hl h1 h2 h3 h4
  exact lv_lstore_n C.1 C.2.1 hd rfl hl.has hi rfl (fun lsm' hn => kk z h p e R s m args below meth c H locs lsm' cells slots q mc ms C hH hS (hl.set2 (x := z) hp hn) h1 h2 h3 h4)
theorem c_throw {n ik is ic : Nat} {text : String} (hT : TK (yN y).cls n ik ic) (hstr : ((yN y).cls, is, text) ∈ strT)
    (d0 : decode (yB y) pc = .ok (.new ik, 3)) (d3 : decode (yB y) (pc + 3) = .ok (.dup, 1)) (d4 : decode (yB y) (pc + 4) = .ok (.ldc is, 2)) (d6 : decode (yB y) (pc + 6) = .ok (.invokespecial ic, 3)) (d9 : decode (yB y) (pc + 9) = .ok (.athrow, 1))
    (hh : yH y = []) (hK : 6 ≤ yK y) (hst : (st.map pcat).sum ≤ 20) (h : WP t κ Φ (erR n D)) : Run Γ rg κ y pc ls st D Φ := r_throw hT hstr d0 d3 d4 d6 d9 hh hK hst h.er.1 h.er.2
theorem c_throwW {n ik is ic : Nat} {text : String} (hT : TK (yN y).cls n ik ic) (hstr : ((yN y).cls, is, text) ∈ strT)
    (d0 : decode (yB y) pc = .ok (.new ik, 3)) (d3 : decode (yB y) (pc + 3) = .ok (.dup, 1)) (d4 : decode (yB y) (pc + 4) = .ok (.ldc_w is, 3)) (d7 : decode (yB y) (pc + 7) = .ok (.invokespecial ic, 3)) (d10 : decode (yB y) (pc + 10) = .ok (.athrow, 1))
    (hh : yH y = []) (hK : 6 ≤ yK y) (hst : (st.map pcat).sum ≤ 20) (h : WP t κ Φ (erR n D)) : Run Γ rg κ y pc ls st D Φ := r_throwW hT hstr d0 d3 d4 d7 d10 hh hK hst h.er.1 h.er.2
theorem c_iret {x : Int} (hd : decode (yB y) pc = .ok (.ireturn, 1)) (hr : yR y = some .int) (h : WP (some .int) κ Φ (okR x D)) : Run Γ rg κ y pc ls [(0, x)] D Φ := r_iret hd hr h.ok
theorem c_zret {x : Int} (hd : decode (yB y) pc = .ok (.ireturn, 1)) (hr : yR y = some .boolean) (hz : x = 0 ∨ x = 1) (h : WP (some .boolean) κ Φ (okR x D)) : Run Γ rg κ y pc ls [(0, x)] D Φ := r_zret hd hr hz h.ok
theorem c_zretZ {x : Int} (hd : decode (yB y) pc = .ok (.ireturn, 1)) (hr : yR y = some .boolean) (h : WP (some .boolean) κ Φ (okZ x D)) : Run Γ rg κ y pc ls [(0, x)] D Φ := r_zret hd hr h.okz.1 h.okz.2
theorem c_lret {x : Int} (hd : decode (yB y) pc = .ok (.lreturn, 1)) (hr : yR y = some .long) (h : WP (some .long) κ Φ (okR x D)) : Run Γ rg κ y pc ls [(1, x)] D Φ := r_lret hd hr h.ok
theorem c_vret (hd : decode (yB y) pc = .ok (.return_, 1)) (hr : yR y = none) (h : WP none κ Φ (okR 0 D)) : Run Γ rg κ y pc ls [] D Φ := r_vret hd hr h.ok
theorem e_iret {x v : Int} (hd : decode (yB y) pc = .ok (.ireturn, 1)) (hr : yR y = some .int) (h : EQx x v) (hΦ : Φ (.inl (some (0, x))) D) : Run Γ rg κ y pc ls [(0, v)] D Φ := r_iret hd hr (by rw [← show x = v from h]; exact hΦ)
theorem e_zret {x v : Int} (hd : decode (yB y) pc = .ok (.ireturn, 1)) (hr : yR y = some .boolean) (hz : v = 0 ∨ v = 1) (h : EQx x v) (hΦ : Φ (.inl (some (0, x))) D) : Run Γ rg κ y pc ls [(0, v)] D Φ := r_zret hd hr hz (by rw [← show x = v from h]; exact hΦ)
theorem e_lret {x v : Int} (hd : decode (yB y) pc = .ok (.lreturn, 1)) (hr : yR y = some .long) (h : EQx x v) (hΦ : Φ (.inl (some (1, x))) D) : Run Γ rg κ y pc ls [(1, v)] D Φ := r_lret hd hr (by rw [← show x = v from h]; exact hΦ)
theorem d_vret (hd : decode (yB y) pc = .ok (.return_, 1)) (hr : yR y = none) (h : WPD Φ D) : Run Γ rg κ y pc ls [] D Φ := r_vret hd hr h
theorem bnd_case {κ : Nat} {r : Res} {c : Int → DD → Res} (h : WP t κ Φ (bnd r c)) : (∃ v D1, r = some (.inl v, D1) ∧ WP t κ Φ (c v D1)) ∨ (∃ n D1, r = some (.inr n, D1) ∧ 1 ≤ κ ∧ Φ (.inr n) D1) := by
  obtain ⟨o, D', e, hk, hΦ⟩ := h
  match r, e with
  | some (.inl v, D1), e => exact Or.inl ⟨v, D1, rfl, o, D', e, hk, hΦ⟩
  | some (.inr n, D1), e =>
    cases e
    exact Or.inr ⟨n, _, rfl, hk, hΦ⟩
  | none, e => cases e
theorem ctc_case {κ : Nat} {r : Res} {c : Int → DD → Res} {g : Nat → DD → Res} (h : WP t κ Φ (ctc r c g)) : (∃ v D1, r = some (.inl v, D1) ∧ WP t κ Φ (c v D1)) ∨ (∃ n D1, r = some (.inr n, D1) ∧ WP t κ Φ (g n D1)) := by
  obtain ⟨o, D', e, hk, hΦ⟩ := h
  match r, e with
  | some (.inl v, D1), e => exact Or.inl ⟨v, D1, rfl, o, D', e, hk, hΦ⟩
  | some (.inr n, D1), e => exact Or.inr ⟨n, D1, rfl, o, D', e, hk, hΦ⟩
  | none, e => cases e
theorem c_callVi {y' : YT} {as rest ls' : List PV} {a idx ci n N : Nat} {cs : List Nat} {TT : u_T} {z : Int} {t' : Option FieldType} {r : Res} {c : Int → DD → Res} (hd : decode (yB y) pc = .ok (.invokevirtual idx, 3)) (hC : CKV (yN y).cls idx y' n) (hn : as.length = n) (hs : SH.getD a (9, 0, []) = (0, ci, cs)) (hci : vwCl[ci]? = some ((yN y').cls, TT, N)) (ha : a < NA) (hr : rg a = true) (hst : st = as.reverse ++ (a + 8, z) :: rest) (hok : argok as = true) (hrest : (rest.map pcat).sum ≤ 8) (hfit : (lg_sl (((a + 8, z) :: as).map (mv Γ 0))).length ≤ yL y') (hk : yK y' < yK y) (hh : yH y = []) (hls : ent (yL y') ((a + 8, z) :: as) = ls') (ht' : ∀ v, rvo t' v = some (0, v)) (hR : ∀ (κ' : Nat) (Ψ : OT → DD → Prop), WP t' κ' Ψ r → Run Γ rg κ' y' 0 ls' [] D Ψ) (h : WP t κ Φ (bnd r c)) (kk : ∀ v D1, WP t κ Φ (c v D1) → Run Γ rg κ y (pc + 3) ls ((0, v) :: rest) D1 Φ) : Run Γ rg κ y pc ls st D Φ := by
  rcases bnd_case h with ⟨v, D1, e, h2⟩ | ⟨n1, D1, e, h1, hΦ⟩
  · exact r_callV (κ1 := 0) (κ2 := κ) (Ψ := fun o2 D2 => o2 = .inl (rvo t' v) ∧ D2 = D1) hd hC hn hs hci ha hr hst hok hrest hfit hk (Nat.zero_add κ) hh hls (hR 0 _ ⟨_, _, e, Nat.le_refl _, rfl, rfl⟩) (fun v2 D2 hq => by obtain ⟨e1, rfl⟩ := hq; rw [ht'] at e1; cases e1; exact kk v _ h2) (fun n2 D2 hq => by cases hq.1)
  · exact r_callV (κ1 := κ) (κ2 := 0) (Ψ := fun o2 D2 => o2 = .inr n1 ∧ D2 = D1) hd hC hn hs hci ha hr hst hok hrest hfit hk (Nat.add_zero κ) hh hls (hR κ _ ⟨_, _, e, h1, rfl, rfl⟩) (fun v2 D2 hq => by cases hq.1) (fun n2 D2 hq => by obtain ⟨e1, rfl⟩ := hq; cases e1; exact hΦ)
theorem c_callVv {y' : YT} {as rest ls' : List PV} {a idx ci n N : Nat} {cs : List Nat} {TT : u_T} {z : Int}  {r : Res} {c : Int → DD → Res} (hd : decode (yB y) pc = .ok (.invokevirtual idx, 3)) (hC : CKV (yN y).cls idx y' n) (hn : as.length = n) (hs : SH.getD a (9, 0, []) = (0, ci, cs)) (hci : vwCl[ci]? = some ((yN y').cls, TT, N)) (ha : a < NA) (hr : rg a = true) (hst : st = as.reverse ++ (a + 8, z) :: rest) (hok : argok as = true) (hrest : (rest.map pcat).sum ≤ 8) (hfit : (lg_sl (((a + 8, z) :: as).map (mv Γ 0))).length ≤ yL y') (hk : yK y' < yK y) (hh : yH y = []) (hls : ent (yL y') ((a + 8, z) :: as) = ls') (hR : ∀ (κ' : Nat) (Ψ : OT → DD → Prop), WP none κ' Ψ r → Run Γ rg κ' y' 0 ls' [] D Ψ) (h : WP t κ Φ (bnd r c)) (kk : ∀ v D1, WP t κ Φ (c v D1) → Run Γ rg κ y (pc + 3) ls (rest) D1 Φ) : Run Γ rg κ y pc ls st D Φ := by
  rcases bnd_case h with ⟨v, D1, e, h2⟩ | ⟨n1, D1, e, h1, hΦ⟩
  · exact r_callV (κ1 := 0) (κ2 := κ) (Ψ := fun o2 D2 => o2 = .inl (rvo none v) ∧ D2 = D1) hd hC hn hs hci ha hr hst hok hrest hfit hk (Nat.zero_add κ) hh hls (hR 0 _ ⟨_, _, e, Nat.le_refl _, rfl, rfl⟩) (fun v2 D2 hq => by obtain ⟨e1, rfl⟩ := hq; cases e1; exact kk v _ h2) (fun n2 D2 hq => by cases hq.1)
  · exact r_callV (κ1 := κ) (κ2 := 0) (Ψ := fun o2 D2 => o2 = .inr n1 ∧ D2 = D1) hd hC hn hs hci ha hr hst hok hrest hfit hk (Nat.add_zero κ) hh hls (hR κ _ ⟨_, _, e, h1, rfl, rfl⟩) (fun v2 D2 hq => by cases hq.1) (fun n2 D2 hq => by obtain ⟨e1, rfl⟩ := hq; cases e1; exact hΦ)
theorem c_callVj {y' : YT} {as rest ls' : List PV} {a idx ci n N : Nat} {cs : List Nat} {TT : u_T} {z : Int}  {r : Res} {c : Int → DD → Res} (hd : decode (yB y) pc = .ok (.invokevirtual idx, 3)) (hC : CKV (yN y).cls idx y' n) (hn : as.length = n) (hs : SH.getD a (9, 0, []) = (0, ci, cs)) (hci : vwCl[ci]? = some ((yN y').cls, TT, N)) (ha : a < NA) (hr : rg a = true) (hst : st = as.reverse ++ (a + 8, z) :: rest) (hok : argok as = true) (hrest : (rest.map pcat).sum ≤ 8) (hfit : (lg_sl (((a + 8, z) :: as).map (mv Γ 0))).length ≤ yL y') (hk : yK y' < yK y) (hh : yH y = []) (hls : ent (yL y') ((a + 8, z) :: as) = ls') (hR : ∀ (κ' : Nat) (Ψ : OT → DD → Prop), WP (some .long) κ' Ψ r → Run Γ rg κ' y' 0 ls' [] D Ψ) (h : WP t κ Φ (bnd r c)) (kk : ∀ v D1, WP t κ Φ (c v D1) → Run Γ rg κ y (pc + 3) ls ((1, v) :: rest) D1 Φ) : Run Γ rg κ y pc ls st D Φ := by
  rcases bnd_case h with ⟨v, D1, e, h2⟩ | ⟨n1, D1, e, h1, hΦ⟩
  · exact r_callV (κ1 := 0) (κ2 := κ) (Ψ := fun o2 D2 => o2 = .inl (rvo (some .long) v) ∧ D2 = D1) hd hC hn hs hci ha hr hst hok hrest hfit hk (Nat.zero_add κ) hh hls (hR 0 _ ⟨_, _, e, Nat.le_refl _, rfl, rfl⟩) (fun v2 D2 hq => by obtain ⟨e1, rfl⟩ := hq; cases e1; exact kk v _ h2) (fun n2 D2 hq => by cases hq.1)
  · exact r_callV (κ1 := κ) (κ2 := 0) (Ψ := fun o2 D2 => o2 = .inr n1 ∧ D2 = D1) hd hC hn hs hci ha hr hst hok hrest hfit hk (Nat.add_zero κ) hh hls (hR κ _ ⟨_, _, e, h1, rfl, rfl⟩) (fun v2 D2 hq => by cases hq.1) (fun n2 D2 hq => by obtain ⟨e1, rfl⟩ := hq; cases e1; exact hΦ)
theorem c_callVPi {y' : YT} {as rest ls' : List PV} {a idx ci n N : Nat} {cs : List Nat} {TT : u_T} {z : Int} {x : Int} (hd : decode (yB y) pc = .ok (.invokevirtual idx, 3)) (hC : CKV (yN y).cls idx y' n) (hn : as.length = n) (hs : SH.getD a (9, 0, []) = (0, ci, cs)) (hci : vwCl[ci]? = some ((yN y').cls, TT, N)) (ha : a < NA) (hr : rg a = true) (hst : st = as.reverse ++ (a + 8, z) :: rest) (hok : argok as = true) (hrest : (rest.map pcat).sum ≤ 8) (hfit : (lg_sl (((a + 8, z) :: as).map (mv Γ 0))).length ≤ yL y') (hk : yK y' < yK y) (hh : yH y = []) (hls : ent (yL y') ((a + 8, z) :: as) = ls') (hR : ∀ (Ψ : OT → DD → Prop), Ψ (.inl (some (0, x))) D → Run Γ rg 0 y' 0 ls' [] D Ψ) (kk : Run Γ rg κ y (pc + 3) ls ((0, x) :: rest) D Φ) : Run Γ rg κ y pc ls st D Φ :=
  r_callV (κ1 := 0) (κ2 := κ) (Ψ := fun o2 D2 => o2 = .inl (some (0, x)) ∧ D2 = D) hd hC hn hs hci ha hr hst hok hrest hfit hk (Nat.zero_add κ) hh hls (hR _ ⟨rfl, rfl⟩) (fun v2 D2 hq => by obtain ⟨e1, rfl⟩ := hq; cases e1; exact kk) (fun n2 D2 hq => by cases hq.1)
theorem c_callVPj {y' : YT} {as rest ls' : List PV} {a idx ci n N : Nat} {cs : List Nat} {TT : u_T} {z : Int} {x : Int} (hd : decode (yB y) pc = .ok (.invokevirtual idx, 3)) (hC : CKV (yN y).cls idx y' n) (hn : as.length = n) (hs : SH.getD a (9, 0, []) = (0, ci, cs)) (hci : vwCl[ci]? = some ((yN y').cls, TT, N)) (ha : a < NA) (hr : rg a = true) (hst : st = as.reverse ++ (a + 8, z) :: rest) (hok : argok as = true) (hrest : (rest.map pcat).sum ≤ 8) (hfit : (lg_sl (((a + 8, z) :: as).map (mv Γ 0))).length ≤ yL y') (hk : yK y' < yK y) (hh : yH y = []) (hls : ent (yL y') ((a + 8, z) :: as) = ls') (hR : ∀ (Ψ : OT → DD → Prop), Ψ (.inl (some (1, x))) D → Run Γ rg 0 y' 0 ls' [] D Ψ) (kk : Run Γ rg κ y (pc + 3) ls ((1, x) :: rest) D Φ) : Run Γ rg κ y pc ls st D Φ :=
  r_callV (κ1 := 0) (κ2 := κ) (Ψ := fun o2 D2 => o2 = .inl (some (1, x)) ∧ D2 = D) hd hC hn hs hci ha hr hst hok hrest hfit hk (Nat.zero_add κ) hh hls (hR _ ⟨rfl, rfl⟩) (fun v2 D2 hq => by obtain ⟨e1, rfl⟩ := hq; cases e1; exact kk) (fun n2 D2 hq => by cases hq.1)
theorem c_callVD {β : Type} {G : β → Prop} {y' : YT} {as rest ls' : List PV} {a idx ci n N : Nat} {cs : List Nat} {TT : u_T} {z : Int} {E : DD} {c : DD → β} (hd : decode (yB y) pc = .ok (.invokevirtual idx, 3)) (hC : CKV (yN y).cls idx y' n) (hn : as.length = n) (hs : SH.getD a (9, 0, []) = (0, ci, cs)) (hci : vwCl[ci]? = some ((yN y').cls, TT, N)) (ha : a < NA) (hr : rg a = true) (hst : st = as.reverse ++ (a + 8, z) :: rest) (hok : argok as = true) (hrest : (rest.map pcat).sum ≤ 8) (hfit : (lg_sl (((a + 8, z) :: as).map (mv Γ 0))).length ≤ yL y') (hk : yK y' < yK y) (hh : yH y = []) (hls : ent (yL y') ((a + 8, z) :: as) = ls') (hR : ∀ (Ψ : OT → DD → Prop), WPD Ψ E → Run Γ rg 0 y' 0 ls' [] D Ψ) (h : G (gD E c)) (kk : ∀ D1, G (c D1) → Run Γ rg κ y (pc + 3) ls rest D1 Φ) : Run Γ rg κ y pc ls st D Φ :=
  r_callV (κ1 := 0) (κ2 := κ) (Ψ := fun o2 D2 => o2 = .inl none ∧ D2 = E) hd hC hn hs hci ha hr hst hok hrest hfit hk (Nat.zero_add κ) hh hls (hR _ ⟨rfl, rfl⟩) (fun v2 D2 hq => by obtain ⟨e1, rfl⟩ := hq; cases e1; exact kk _ h) (fun n2 D2 hq => by cases hq.1)
theorem c_callSi {y' : YT} {as rest ls' : List PV} {idx n : Nat} {t' : Option FieldType} {r : Res} {c : Int → DD → Res} (hd : decode (yB y) pc = .ok (.invokestatic idx, 3)) (hC : CKS (yN y).cls idx y' n) (hn : as.length = n) (hst : st = as.reverse ++ rest) (hok : argok as = true) (hrest : (rest.map pcat).sum ≤ 8) (hfit : (lg_sl (as.map (mv Γ 0))).length ≤ yL y') (hk : yK y' < yK y) (hh : yH y = []) (hls : ent (yL y') as = ls') (ht' : ∀ v, rvo t' v = some (0, v)) (hR : ∀ (κ' : Nat) (Ψ : OT → DD → Prop), WP t' κ' Ψ r → Run Γ rg κ' y' 0 ls' [] D Ψ) (h : WP t κ Φ (bnd r c)) (kk : ∀ v D1, WP t κ Φ (c v D1) → Run Γ rg κ y (pc + 3) ls ((0, v) :: rest) D1 Φ) : Run Γ rg κ y pc ls st D Φ := by
  rcases bnd_case h with ⟨v, D1, e, h2⟩ | ⟨n1, D1, e, h1, hΦ⟩
  · exact r_callS (κ1 := 0) (κ2 := κ) (Ψ := fun o2 D2 => o2 = .inl (rvo t' v) ∧ D2 = D1) hd hC hn hst hok hrest hfit hk (Nat.zero_add κ) hh hls (hR 0 _ ⟨_, _, e, Nat.le_refl _, rfl, rfl⟩) (fun v2 D2 hq => by obtain ⟨e1, rfl⟩ := hq; rw [ht'] at e1; cases e1; exact kk v _ h2) (fun n2 D2 hq => by cases hq.1)
  · exact r_callS (κ1 := κ) (κ2 := 0) (Ψ := fun o2 D2 => o2 = .inr n1 ∧ D2 = D1) hd hC hn hst hok hrest hfit hk (Nat.add_zero κ) hh hls (hR κ _ ⟨_, _, e, h1, rfl, rfl⟩) (fun v2 D2 hq => by cases hq.1) (fun n2 D2 hq => by obtain ⟨e1, rfl⟩ := hq; cases e1; exact hΦ)
theorem c_callSv {y' : YT} {as rest ls' : List PV} {idx n : Nat}  {r : Res} {c : Int → DD → Res} (hd : decode (yB y) pc = .ok (.invokestatic idx, 3)) (hC : CKS (yN y).cls idx y' n) (hn : as.length = n) (hst : st = as.reverse ++ rest) (hok : argok as = true) (hrest : (rest.map pcat).sum ≤ 8) (hfit : (lg_sl (as.map (mv Γ 0))).length ≤ yL y') (hk : yK y' < yK y) (hh : yH y = []) (hls : ent (yL y') as = ls') (hR : ∀ (κ' : Nat) (Ψ : OT → DD → Prop), WP none κ' Ψ r → Run Γ rg κ' y' 0 ls' [] D Ψ) (h : WP t κ Φ (bnd r c)) (kk : ∀ v D1, WP t κ Φ (c v D1) → Run Γ rg κ y (pc + 3) ls (rest) D1 Φ) : Run Γ rg κ y pc ls st D Φ := by
  rcases bnd_case h with ⟨v, D1, e, h2⟩ | ⟨n1, D1, e, h1, hΦ⟩
  · exact r_callS (κ1 := 0) (κ2 := κ) (Ψ := fun o2 D2 => o2 = .inl (rvo none v) ∧ D2 = D1) hd hC hn hst hok hrest hfit hk (Nat.zero_add κ) hh hls (hR 0 _ ⟨_, _, e, Nat.le_refl _, rfl, rfl⟩) (fun v2 D2 hq => by obtain ⟨e1, rfl⟩ := hq; cases e1; exact kk v _ h2) (fun n2 D2 hq => by cases hq.1)
  · exact r_callS (κ1 := κ) (κ2 := 0) (Ψ := fun o2 D2 => o2 = .inr n1 ∧ D2 = D1) hd hC hn hst hok hrest hfit hk (Nat.add_zero κ) hh hls (hR κ _ ⟨_, _, e, h1, rfl, rfl⟩) (fun v2 D2 hq => by cases hq.1) (fun n2 D2 hq => by obtain ⟨e1, rfl⟩ := hq; cases e1; exact hΦ)
theorem c_callSj {y' : YT} {as rest ls' : List PV} {idx n : Nat}  {r : Res} {c : Int → DD → Res} (hd : decode (yB y) pc = .ok (.invokestatic idx, 3)) (hC : CKS (yN y).cls idx y' n) (hn : as.length = n) (hst : st = as.reverse ++ rest) (hok : argok as = true) (hrest : (rest.map pcat).sum ≤ 8) (hfit : (lg_sl (as.map (mv Γ 0))).length ≤ yL y') (hk : yK y' < yK y) (hh : yH y = []) (hls : ent (yL y') as = ls') (hR : ∀ (κ' : Nat) (Ψ : OT → DD → Prop), WP (some .long) κ' Ψ r → Run Γ rg κ' y' 0 ls' [] D Ψ) (h : WP t κ Φ (bnd r c)) (kk : ∀ v D1, WP t κ Φ (c v D1) → Run Γ rg κ y (pc + 3) ls ((1, v) :: rest) D1 Φ) : Run Γ rg κ y pc ls st D Φ := by
  rcases bnd_case h with ⟨v, D1, e, h2⟩ | ⟨n1, D1, e, h1, hΦ⟩
  · exact r_callS (κ1 := 0) (κ2 := κ) (Ψ := fun o2 D2 => o2 = .inl (rvo (some .long) v) ∧ D2 = D1) hd hC hn hst hok hrest hfit hk (Nat.zero_add κ) hh hls (hR 0 _ ⟨_, _, e, Nat.le_refl _, rfl, rfl⟩) (fun v2 D2 hq => by obtain ⟨e1, rfl⟩ := hq; cases e1; exact kk v _ h2) (fun n2 D2 hq => by cases hq.1)
  · exact r_callS (κ1 := κ) (κ2 := 0) (Ψ := fun o2 D2 => o2 = .inr n1 ∧ D2 = D1) hd hC hn hst hok hrest hfit hk (Nat.add_zero κ) hh hls (hR κ _ ⟨_, _, e, h1, rfl, rfl⟩) (fun v2 D2 hq => by cases hq.1) (fun n2 D2 hq => by obtain ⟨e1, rfl⟩ := hq; cases e1; exact hΦ)
theorem c_callSPi {y' : YT} {as rest ls' : List PV} {idx n : Nat} {x : Int} (hd : decode (yB y) pc = .ok (.invokestatic idx, 3)) (hC : CKS (yN y).cls idx y' n) (hn : as.length = n) (hst : st = as.reverse ++ rest) (hok : argok as = true) (hrest : (rest.map pcat).sum ≤ 8) (hfit : (lg_sl (as.map (mv Γ 0))).length ≤ yL y') (hk : yK y' < yK y) (hh : yH y = []) (hls : ent (yL y') as = ls') (hR : ∀ (Ψ : OT → DD → Prop), Ψ (.inl (some (0, x))) D → Run Γ rg 0 y' 0 ls' [] D Ψ) (kk : Run Γ rg κ y (pc + 3) ls ((0, x) :: rest) D Φ) : Run Γ rg κ y pc ls st D Φ :=
  r_callS (κ1 := 0) (κ2 := κ) (Ψ := fun o2 D2 => o2 = .inl (some (0, x)) ∧ D2 = D) hd hC hn hst hok hrest hfit hk (Nat.zero_add κ) hh hls (hR _ ⟨rfl, rfl⟩) (fun v2 D2 hq => by obtain ⟨e1, rfl⟩ := hq; cases e1; exact kk) (fun n2 D2 hq => by cases hq.1)
theorem c_callSPj {y' : YT} {as rest ls' : List PV} {idx n : Nat} {x : Int} (hd : decode (yB y) pc = .ok (.invokestatic idx, 3)) (hC : CKS (yN y).cls idx y' n) (hn : as.length = n) (hst : st = as.reverse ++ rest) (hok : argok as = true) (hrest : (rest.map pcat).sum ≤ 8) (hfit : (lg_sl (as.map (mv Γ 0))).length ≤ yL y') (hk : yK y' < yK y) (hh : yH y = []) (hls : ent (yL y') as = ls') (hR : ∀ (Ψ : OT → DD → Prop), Ψ (.inl (some (1, x))) D → Run Γ rg 0 y' 0 ls' [] D Ψ) (kk : Run Γ rg κ y (pc + 3) ls ((1, x) :: rest) D Φ) : Run Γ rg κ y pc ls st D Φ :=
  r_callS (κ1 := 0) (κ2 := κ) (Ψ := fun o2 D2 => o2 = .inl (some (1, x)) ∧ D2 = D) hd hC hn hst hok hrest hfit hk (Nat.zero_add κ) hh hls (hR _ ⟨rfl, rfl⟩) (fun v2 D2 hq => by obtain ⟨e1, rfl⟩ := hq; cases e1; exact kk) (fun n2 D2 hq => by cases hq.1)
theorem c_callSD {β : Type} {G : β → Prop} {y' : YT} {as rest ls' : List PV} {idx n : Nat} {E : DD} {c : DD → β} (hd : decode (yB y) pc = .ok (.invokestatic idx, 3)) (hC : CKS (yN y).cls idx y' n) (hn : as.length = n) (hst : st = as.reverse ++ rest) (hok : argok as = true) (hrest : (rest.map pcat).sum ≤ 8) (hfit : (lg_sl (as.map (mv Γ 0))).length ≤ yL y') (hk : yK y' < yK y) (hh : yH y = []) (hls : ent (yL y') as = ls') (hR : ∀ (Ψ : OT → DD → Prop), WPD Ψ E → Run Γ rg 0 y' 0 ls' [] D Ψ) (h : G (gD E c)) (kk : ∀ D1, G (c D1) → Run Γ rg κ y (pc + 3) ls rest D1 Φ) : Run Γ rg κ y pc ls st D Φ :=
  r_callS (κ1 := 0) (κ2 := κ) (Ψ := fun o2 D2 => o2 = .inl none ∧ D2 = E) hd hC hn hst hok hrest hfit hk (Nat.zero_add κ) hh hls (hR _ ⟨rfl, rfl⟩) (fun v2 D2 hq => by obtain ⟨e1, rfl⟩ := hq; cases e1; exact kk _ h) (fun n2 D2 hq => by cases hq.1)
theorem c_callNi {y' : YT} {as rest ls' : List PV} {idx n : Nat} {t' : Option FieldType} {r : Res} {c : Int → DD → Res} (hd : decode (yB y) pc = .ok (.invokestatic idx, 3)) (hC : CKN (yN y).cls idx y' n) (hn : as.length = n) (hst : st = as.reverse ++ rest) (hok : argok as = true) (hrest : (rest.map pcat).sum ≤ 8) (hfit : (lg_sl (as.map (mv Γ 0))).length ≤ yL y') (hk : yK y' < yK y) (hh : yH y = []) (hls : ent (yL y') as = ls') (ht' : ∀ v, rvo t' v = some (0, v)) (hR : ∀ (κ' : Nat) (Ψ : OT → DD → Prop), WP t' κ' Ψ r → Run Γ rg κ' y' 0 ls' [] D Ψ) (h : WP t κ Φ (bnd r c)) (kk : ∀ v D1, WP t κ Φ (c v D1) → Run Γ rg κ y (pc + 3) ls ((0, v) :: rest) D1 Φ) : Run Γ rg κ y pc ls st D Φ := by
  rcases bnd_case h with ⟨v, D1, e, h2⟩ | ⟨n1, D1, e, h1, hΦ⟩
  · exact r_callN (κ1 := 0) (κ2 := κ) (Ψ := fun o2 D2 => o2 = .inl (rvo t' v) ∧ D2 = D1) hd hC hn hst hok hrest hfit hk (Nat.zero_add κ) hh hls (hR 0 _ ⟨_, _, e, Nat.le_refl _, rfl, rfl⟩) (fun v2 D2 hq => by obtain ⟨e1, rfl⟩ := hq; rw [ht'] at e1; cases e1; exact kk v _ h2) (fun n2 D2 hq => by cases hq.1)
  · exact r_callN (κ1 := κ) (κ2 := 0) (Ψ := fun o2 D2 => o2 = .inr n1 ∧ D2 = D1) hd hC hn hst hok hrest hfit hk (Nat.add_zero κ) hh hls (hR κ _ ⟨_, _, e, h1, rfl, rfl⟩) (fun v2 D2 hq => by cases hq.1) (fun n2 D2 hq => by obtain ⟨e1, rfl⟩ := hq; cases e1; exact hΦ)
theorem c_callNv {y' : YT} {as rest ls' : List PV} {idx n : Nat}  {r : Res} {c : Int → DD → Res} (hd : decode (yB y) pc = .ok (.invokestatic idx, 3)) (hC : CKN (yN y).cls idx y' n) (hn : as.length = n) (hst : st = as.reverse ++ rest) (hok : argok as = true) (hrest : (rest.map pcat).sum ≤ 8) (hfit : (lg_sl (as.map (mv Γ 0))).length ≤ yL y') (hk : yK y' < yK y) (hh : yH y = []) (hls : ent (yL y') as = ls') (hR : ∀ (κ' : Nat) (Ψ : OT → DD → Prop), WP none κ' Ψ r → Run Γ rg κ' y' 0 ls' [] D Ψ) (h : WP t κ Φ (bnd r c)) (kk : ∀ v D1, WP t κ Φ (c v D1) → Run Γ rg κ y (pc + 3) ls (rest) D1 Φ) : Run Γ rg κ y pc ls st D Φ := by
  rcases bnd_case h with ⟨v, D1, e, h2⟩ | ⟨n1, D1, e, h1, hΦ⟩
  · exact r_callN (κ1 := 0) (κ2 := κ) (Ψ := fun o2 D2 => o2 = .inl (rvo none v) ∧ D2 = D1) hd hC hn hst hok hrest hfit hk (Nat.zero_add κ) hh hls (hR 0 _ ⟨_, _, e, Nat.le_refl _, rfl, rfl⟩) (fun v2 D2 hq => by obtain ⟨e1, rfl⟩ := hq; cases e1; exact kk v _ h2) (fun n2 D2 hq => by cases hq.1)
  · exact r_callN (κ1 := κ) (κ2 := 0) (Ψ := fun o2 D2 => o2 = .inr n1 ∧ D2 = D1) hd hC hn hst hok hrest hfit hk (Nat.add_zero κ) hh hls (hR κ _ ⟨_, _, e, h1, rfl, rfl⟩) (fun v2 D2 hq => by cases hq.1) (fun n2 D2 hq => by obtain ⟨e1, rfl⟩ := hq; cases e1; exact hΦ)
theorem c_callNj {y' : YT} {as rest ls' : List PV} {idx n : Nat}  {r : Res} {c : Int → DD → Res} (hd : decode (yB y) pc = .ok (.invokestatic idx, 3)) (hC : CKN (yN y).cls idx y' n) (hn : as.length = n) (hst : st = as.reverse ++ rest) (hok : argok as = true) (hrest : (rest.map pcat).sum ≤ 8) (hfit : (lg_sl (as.map (mv Γ 0))).length ≤ yL y') (hk : yK y' < yK y) (hh : yH y = []) (hls : ent (yL y') as = ls') (hR : ∀ (κ' : Nat) (Ψ : OT → DD → Prop), WP (some .long) κ' Ψ r → Run Γ rg κ' y' 0 ls' [] D Ψ) (h : WP t κ Φ (bnd r c)) (kk : ∀ v D1, WP t κ Φ (c v D1) → Run Γ rg κ y (pc + 3) ls ((1, v) :: rest) D1 Φ) : Run Γ rg κ y pc ls st D Φ := by
  rcases bnd_case h with ⟨v, D1, e, h2⟩ | ⟨n1, D1, e, h1, hΦ⟩
  · exact r_callN (κ1 := 0) (κ2 := κ) (Ψ := fun o2 D2 => o2 = .inl (rvo (some .long) v) ∧ D2 = D1) hd hC hn hst hok hrest hfit hk (Nat.zero_add κ) hh hls (hR 0 _ ⟨_, _, e, Nat.le_refl _, rfl, rfl⟩) (fun v2 D2 hq => by obtain ⟨e1, rfl⟩ := hq; cases e1; exact kk v _ h2) (fun n2 D2 hq => by cases hq.1)
  · exact r_callN (κ1 := κ) (κ2 := 0) (Ψ := fun o2 D2 => o2 = .inr n1 ∧ D2 = D1) hd hC hn hst hok hrest hfit hk (Nat.add_zero κ) hh hls (hR κ _ ⟨_, _, e, h1, rfl, rfl⟩) (fun v2 D2 hq => by cases hq.1) (fun n2 D2 hq => by obtain ⟨e1, rfl⟩ := hq; cases e1; exact hΦ)
theorem c_callNPi {y' : YT} {as rest ls' : List PV} {idx n : Nat} {x : Int} (hd : decode (yB y) pc = .ok (.invokestatic idx, 3)) (hC : CKN (yN y).cls idx y' n) (hn : as.length = n) (hst : st = as.reverse ++ rest) (hok : argok as = true) (hrest : (rest.map pcat).sum ≤ 8) (hfit : (lg_sl (as.map (mv Γ 0))).length ≤ yL y') (hk : yK y' < yK y) (hh : yH y = []) (hls : ent (yL y') as = ls') (hR : ∀ (Ψ : OT → DD → Prop), Ψ (.inl (some (0, x))) D → Run Γ rg 0 y' 0 ls' [] D Ψ) (kk : Run Γ rg κ y (pc + 3) ls ((0, x) :: rest) D Φ) : Run Γ rg κ y pc ls st D Φ :=
  r_callN (κ1 := 0) (κ2 := κ) (Ψ := fun o2 D2 => o2 = .inl (some (0, x)) ∧ D2 = D) hd hC hn hst hok hrest hfit hk (Nat.zero_add κ) hh hls (hR _ ⟨rfl, rfl⟩) (fun v2 D2 hq => by obtain ⟨e1, rfl⟩ := hq; cases e1; exact kk) (fun n2 D2 hq => by cases hq.1)
theorem c_callNPj {y' : YT} {as rest ls' : List PV} {idx n : Nat} {x : Int} (hd : decode (yB y) pc = .ok (.invokestatic idx, 3)) (hC : CKN (yN y).cls idx y' n) (hn : as.length = n) (hst : st = as.reverse ++ rest) (hok : argok as = true) (hrest : (rest.map pcat).sum ≤ 8) (hfit : (lg_sl (as.map (mv Γ 0))).length ≤ yL y') (hk : yK y' < yK y) (hh : yH y = []) (hls : ent (yL y') as = ls') (hR : ∀ (Ψ : OT → DD → Prop), Ψ (.inl (some (1, x))) D → Run Γ rg 0 y' 0 ls' [] D Ψ) (kk : Run Γ rg κ y (pc + 3) ls ((1, x) :: rest) D Φ) : Run Γ rg κ y pc ls st D Φ :=
  r_callN (κ1 := 0) (κ2 := κ) (Ψ := fun o2 D2 => o2 = .inl (some (1, x)) ∧ D2 = D) hd hC hn hst hok hrest hfit hk (Nat.zero_add κ) hh hls (hR _ ⟨rfl, rfl⟩) (fun v2 D2 hq => by obtain ⟨e1, rfl⟩ := hq; cases e1; exact kk) (fun n2 D2 hq => by cases hq.1)
theorem c_callND {β : Type} {G : β → Prop} {y' : YT} {as rest ls' : List PV} {idx n : Nat} {E : DD} {c : DD → β} (hd : decode (yB y) pc = .ok (.invokestatic idx, 3)) (hC : CKN (yN y).cls idx y' n) (hn : as.length = n) (hst : st = as.reverse ++ rest) (hok : argok as = true) (hrest : (rest.map pcat).sum ≤ 8) (hfit : (lg_sl (as.map (mv Γ 0))).length ≤ yL y') (hk : yK y' < yK y) (hh : yH y = []) (hls : ent (yL y') as = ls') (hR : ∀ (Ψ : OT → DD → Prop), WPD Ψ E → Run Γ rg 0 y' 0 ls' [] D Ψ) (h : G (gD E c)) (kk : ∀ D1, G (c D1) → Run Γ rg κ y (pc + 3) ls rest D1 Φ) : Run Γ rg κ y pc ls st D Φ :=
  r_callN (κ1 := 0) (κ2 := κ) (Ψ := fun o2 D2 => o2 = .inl none ∧ D2 = E) hd hC hn hst hok hrest hfit hk (Nat.zero_add κ) hh hls (hR _ ⟨rfl, rfl⟩) (fun v2 D2 hq => by obtain ⟨e1, rfl⟩ := hq; cases e1; exact kk _ h) (fun n2 D2 hq => by cases hq.1)
theorem c_callHi {y' : YT} {as rest ls' : List PV} {idx n : Nat} {n0 : Nat} {r : Res} {c : Int → DD → Res} (hd : decode (yB y) pc = .ok (.invokestatic idx, 3)) (hC : CKH (yN y).cls idx y' n) (hn : as.length = n) (hst : st = as.reverse ++ rest) (hok : argok as = true) (hrest : (rest.map pcat).sum ≤ 8) (hfit : (lg_sl (as.map (mv Γ 0))).length ≤ yL y') (hk : yK y' < yK y) (hh : yH y = []) (hls : ent (yL y') as = ls') (hR : ∀ (Ψ : OT → DD → Prop), WP (some .int) 0 Ψ r → Run Γ rg 1 y' 0 ls' [] D Ψ) (h : WP t 0 Φ (bnd r c)) (kk : ∀ v D1, WP t 0 Φ (c v D1) → Run Γ rg n0 y (pc + 3) ls ((0, v) :: rest) D1 Φ) : Run Γ rg (n0 + 1) y pc ls st D Φ := by
  rcases bnd_case h with ⟨v, D1, e, h2⟩ | ⟨n1, D1, e, h1, hΦ⟩
  · exact r_callH (κ1 := 1) (κ2 := n0) (Ψ := fun o2 D2 => o2 = .inl (rvo (some .int) v) ∧ D2 = D1) hd hC hn hst hok hrest hfit hk (Nat.add_comm 1 n0) hh hls (hR _ ⟨_, _, e, Nat.le_refl _, rfl, rfl⟩) (fun v2 D2 hq => by obtain ⟨e1, rfl⟩ := hq; cases e1; exact kk v _ h2) (fun n2 D2 hq => by cases hq.1)
  · exact absurd h1 (by decide)
theorem c_callCi {y' : YT} {as rest ls' : List PV} {a idx ci n N : Nat} {cs : List Nat} {TT : u_T} {z : Int} {t' : Option FieldType} {r : Res} {c : Int → DD → Res} {g : Nat → DD → Res} (hd : decode (yB y) pc = .ok (.invokevirtual idx, 3)) (hC : CKV (yN y).cls idx y' n) (hn : as.length = n) (hs : SH.getD a (9, 0, []) = (0, ci, cs)) (hci : vwCl[ci]? = some ((yN y').cls, TT, N)) (ha : a < NA) (hr : rg a = true) (hst : st = as.reverse ++ (a + 8, z) :: rest) (hok : argok as = true) (hrest : (rest.map pcat).sum ≤ 8) (hfit : (lg_sl (((a + 8, z) :: as).map (mv Γ 0))).length ≤ yL y') (hk : yK y' < yK y) (hls : ent (yL y') ((a + 8, z) :: as) = ls') (hv : ls.all (fun v => v.1 != 4 && v.1 != 6 && v.1 != 2) = true) (ht' : ∀ v, rvo t' v = some (0, v)) (hR : ∀ (κ' : Nat) (Ψ : OT → DD → Prop), WP t' κ' Ψ r → Run Γ rg κ' y' 0 ls' [] D Ψ) (h : WP t 0 Φ (ctc r c g)) (kk : ∀ v D1, WP t 0 Φ (c v D1) → Run Γ rg 0 y (pc + 3) ls ((0, v) :: rest) D1 Φ) (kh : ∀ n D1, WP t 0 Φ (g n D1) → ∃ hpc, HK y pc n hpc ∧ Run Γ rg 0 y hpc ls [(4, 0)] D1 Φ) : Run Γ rg 1 y pc ls st D Φ := by
  rcases ctc_case h with ⟨v, D1, e, h2⟩ | ⟨n1, D1, e, h2⟩
  · exact r_callC (κ1 := 1) (κ2 := 0) (Ψ := fun o2 D2 => o2 = .inl (rvo t' v) ∧ D2 = D1) hd hC hn hs hci ha hr hst hok hrest hfit hk rfl hls hv (hR 1 _ ⟨_, _, e, Nat.zero_le _, rfl, rfl⟩) (fun v2 D2 hq => by obtain ⟨e1, rfl⟩ := hq; rw [ht'] at e1; cases e1; exact kk v _ h2) (fun n2 D2 _ hq => by cases hq.1)
  · exact r_callC (κ1 := 1) (κ2 := 0) (Ψ := fun o2 D2 => o2 = .inr n1 ∧ D2 = D1) hd hC hn hs hci ha hr hst hok hrest hfit hk rfl hls hv (hR 1 _ ⟨_, _, e, Nat.le_refl _, rfl, rfl⟩) (fun v2 D2 hq => by cases hq.1) (fun n2 D2 _ hq => by obtain ⟨e1, rfl⟩ := hq; cases e1; exact kh _ _ h2)
end CC
end
section
/-! more rows, the three methods that every array goes through, and words of the tables that they need -/
theorem cov20 {rg : Nat → Bool} (R : cov rg rg2) : cov rg rg0 := fun a h => R a (by
  unfold rg0 at h
  unfold rg2
  exact Nat.ble_eq.mpr (Nat.le_trans (Nat.ble_eq.mp h) (by decide)))
theorem cov21 {rg : Nat → Bool} (R : cov rg rg2) : cov rg rg1 := fun a h => R a (by
  unfold rg1 at h
  unfold rg2
  exact Nat.ble_eq.mpr (Nat.le_trans (Nat.ble_eq.mp (Bool.and_eq_true _ _ ▸ h).2) (by decide)))
def rdX (X : Nat → Int32) (L : Nat) (i : Int) (D : DD) (c : Int → Res) : Res := if 0 ≤ w32 i ∧ w32 i < L then c (X (w32 i).toNat).toInt else none
def rowF_3 (m a : Nat) (a1 : Int) (a2 : Int) (a3 : Int) : Nat → Int → DD → Res
  | 0, _, _ => none
  | n + 1, a4, D =>
    if (w32 a4) < (w32 a3) then (
      rdA m a ((a3 * a1) + a4) D fun v1 =>
      wrA m a ((a3 * a2) + a4) v1 D fun D1 =>
      rowF_3 m a a1 a2 a3 n (a4 + 1) D1
    ) else (
      okR 0 D
    )
def rowF (m a : Nat) (p1 : Int) (p2 : Int) (p3 : Int) (D : DD) : Res := rowF_3 m a p1 p2 p3 fu 0 D
section MORE
variable {Γ : GG} {rg : Nat → Bool} {κ : Nat} {y : YT} {pc : Nat} {ls st : List PV} {D : DD} {Φ : OT → DD → Prop} {t : Option FieldType}
theorem c_lconst {n : Fin 2} {z : Int} (hd : decode (yB y) pc = .ok (.lconst n, 1)) (hz : ((n : Nat) : Int) = z) (k : Run Γ rg κ y (pc + 1) ls ((1, z) :: st) D Φ) : Run Γ rg κ y pc ls st D Φ := by
  subst hz
  exact r_lconst hd k
theorem c_iand {a b : Int} (hd : decode (yB y) pc = .ok (.iand, 1)) (k : Run Γ rg κ y (pc + 1) ls ((0, iandZ a b) :: st) D Φ) : Run Γ rg κ y pc ls ((0, b) :: (0, a) :: st) D Φ := r_iand hd k
theorem c_lor {a b : Int} (hd : decode (yB y) pc = .ok (.lor, 1)) (k : Run Γ rg κ y (pc + 1) ls ((1, lorZ a b) :: st) D Φ) : Run Γ rg κ y pc ls ((1, b) :: (1, a) :: st) D Φ := r_lor hd k
theorem c_lshl {a b : Int} (hd : decode (yB y) pc = .ok (.lshl, 1)) (k : Run Γ rg κ y (pc + 1) ls ((1, lshlZ a b) :: st) D Φ) : Run Γ rg κ y pc ls ((0, b) :: (1, a) :: st) D Φ := r_lshl hd k
theorem c_land {a b : Int} (hd : decode (yB y) pc = .ok (.land, 1)) (k : Run Γ rg κ y (pc + 1) ls ((1, landZ a b) :: st) D Φ) : Run Γ rg κ y pc ls ((1, b) :: (1, a) :: st) D Φ := r_land hd k
theorem c_lushr {a b : Int} (hd : decode (yB y) pc = .ok (.lushr, 1)) (k : Run Γ rg κ y (pc + 1) ls ((1, lushrZ a b) :: st) D Φ) : Run Γ rg κ y pc ls ((0, b) :: (1, a) :: st) D Φ := r_lushr hd k
theorem c_sld {i z : Int} {c : Int → Res} (hd : decode (yB y) pc = .ok (.iaload, 1)) (hL : gL Γ < 2147483648) (h : WP t κ Φ (rdX (gX Γ) (gL Γ) i D c))
    (kk : ∀ v, WP t κ Φ (c v) → Run Γ rg κ y (pc + 1) ls ((0, v) :: st) D Φ) : Run Γ rg κ y pc ls ((0, i) :: (7, z) :: st) D Φ := by
  unfold rdX at h
  split at h
  · rename_i g
    exact Run.st1 (ofI_w32 i) (r_sld hd hL g.1 g.2 (kk _ h))
  · exact h.no.elim
end MORE
abbrev Y_X7_read : YT := (cX7_read, 2, (some .int), yX7_read, [], 1)
theorem mk_X7_read : MK Y_X7_read 2 := ⟨KW.at (i := 75) (by decide +kernel) rfl, KW.at (i := 276) (by decide +kernel) rfl, ⟨by decide +kernel, by decide +kernel⟩, by decide +kernel, by decide +kernel, rfl, by decide⟩
theorem d_X7_read_0 : decode cX7_read 0 = .ok (.iload_n 1, 1) := by decide +kernel
theorem d_X7_read_1 : decode cX7_read 1 = .ok (.ifCond .lt 15, 3) := by decide +kernel
theorem d_X7_read_4 : decode cX7_read 4 = .ok (.iload_n 1, 1) := by decide +kernel
theorem d_X7_read_5 : decode cX7_read 5 = .ok (.aload_n 0, 1) := by decide +kernel
theorem d_X7_read_6 : decode cX7_read 6 = .ok (.arraylength, 1) := by decide +kernel
theorem d_X7_read_7 : decode cX7_read 7 = .ok (.if_icmp .ge 9, 3) := by decide +kernel
theorem d_X7_read_10 : decode cX7_read 10 = .ok (.aload_n 0, 1) := by decide +kernel
theorem d_X7_read_11 : decode cX7_read 11 = .ok (.iload_n 1, 1) := by decide +kernel
theorem d_X7_read_12 : decode cX7_read 12 = .ok (.iaload, 1) := by decide +kernel
theorem d_X7_read_13 : decode cX7_read 13 = .ok (.goto 4, 3) := by decide +kernel
theorem d_X7_read_16 : decode cX7_read 16 = .ok (.iconst 0, 1) := by decide +kernel
theorem d_X7_read_17 : decode cX7_read 17 = .ok (.ireturn, 1) := by decide +kernel
abbrev Y_X7_store : YT := (cX7_store, 3, none, yX7_store, [], 1)
theorem mk_X7_store : MK Y_X7_store 3 := ⟨KW.at (i := 75) (by decide +kernel) rfl, KW.at (i := 110) (by decide +kernel) rfl, ⟨by decide +kernel, by decide +kernel⟩, by decide +kernel, by decide +kernel, rfl, by decide⟩
theorem d_X7_store_0 : decode cX7_store 0 = .ok (.iload_n 1, 1) := by decide +kernel
theorem d_X7_store_1 : decode cX7_store 1 = .ok (.ifCond .lt 13, 3) := by decide +kernel
theorem d_X7_store_4 : decode cX7_store 4 = .ok (.iload_n 1, 1) := by decide +kernel
theorem d_X7_store_5 : decode cX7_store 5 = .ok (.aload_n 0, 1) := by decide +kernel
theorem d_X7_store_6 : decode cX7_store 6 = .ok (.arraylength, 1) := by decide +kernel
theorem d_X7_store_7 : decode cX7_store 7 = .ok (.if_icmp .ge 7, 3) := by decide +kernel
theorem d_X7_store_10 : decode cX7_store 10 = .ok (.aload_n 0, 1) := by decide +kernel
theorem d_X7_store_11 : decode cX7_store 11 = .ok (.iload_n 1, 1) := by decide +kernel
theorem d_X7_store_12 : decode cX7_store 12 = .ok (.iload_n 2, 1) := by decide +kernel
theorem d_X7_store_13 : decode cX7_store 13 = .ok (.iastore, 1) := by decide +kernel
theorem d_X7_store_14 : decode cX7_store 14 = .ok (.return_, 1) := by decide +kernel
abbrev Y_X8_row : YT := (cX8_row, 5, none, yX8_row, [], 1)
theorem mk_X8_row : MK Y_X8_row 4 := ⟨KW.at (i := 85) (by decide +kernel) rfl, KW.at (i := 1081) (by decide +kernel) rfl, ⟨by decide +kernel, by decide +kernel⟩, by decide +kernel, by decide +kernel, rfl, by decide⟩
theorem d_X8_row_0 : decode cX8_row 0 = .ok (.iconst 0, 1) := by decide +kernel
theorem d_X8_row_1 : decode cX8_row 1 = .ok (.istore 4, 2) := by decide +kernel
theorem d_X8_row_3 : decode cX8_row 3 = .ok (.iload 4, 2) := by decide +kernel
theorem d_X8_row_5 : decode cX8_row 5 = .ok (.iload_n 3, 1) := by decide +kernel
theorem d_X8_row_6 : decode cX8_row 6 = .ok (.if_icmp .ge 25, 3) := by decide +kernel
theorem d_X8_row_9 : decode cX8_row 9 = .ok (.aload_n 0, 1) := by decide +kernel
theorem d_X8_row_10 : decode cX8_row 10 = .ok (.iload_n 3, 1) := by decide +kernel
theorem d_X8_row_11 : decode cX8_row 11 = .ok (.iload_n 2, 1) := by decide +kernel
theorem d_X8_row_12 : decode cX8_row 12 = .ok (.imul, 1) := by decide +kernel
theorem d_X8_row_13 : decode cX8_row 13 = .ok (.iload 4, 2) := by decide +kernel
theorem d_X8_row_15 : decode cX8_row 15 = .ok (.iadd, 1) := by decide +kernel
theorem d_X8_row_16 : decode cX8_row 16 = .ok (.aload_n 0, 1) := by decide +kernel
theorem d_X8_row_17 : decode cX8_row 17 = .ok (.iload_n 3, 1) := by decide +kernel
theorem d_X8_row_18 : decode cX8_row 18 = .ok (.iload_n 1, 1) := by decide +kernel
theorem d_X8_row_19 : decode cX8_row 19 = .ok (.imul, 1) := by decide +kernel
theorem d_X8_row_20 : decode cX8_row 20 = .ok (.iload 4, 2) := by decide +kernel
theorem d_X8_row_22 : decode cX8_row 22 = .ok (.iadd, 1) := by decide +kernel
theorem d_X8_row_23 : decode cX8_row 23 = .ok (.iaload, 1) := by decide +kernel
theorem d_X8_row_24 : decode cX8_row 24 = .ok (.iastore, 1) := by decide +kernel
theorem d_X8_row_25 : decode cX8_row 25 = .ok (.iinc 4 1, 3) := by decide +kernel
theorem d_X8_row_28 : decode cX8_row 28 = .ok (.goto (-25), 3) := by decide +kernel
theorem d_X8_row_31 : decode cX8_row 31 = .ok (.return_, 1) := by decide +kernel
theorem run_pH_read {Γ : GG} {rg : Nat → Bool} {κ : Nat} {Φ : OT → DD → Prop} {D : DD} {a n : Nat} {cs : List Nat} (hs : SH.getD a (9, 0, []) = (1, n, cs)) (ha : a < NA) (hr : rg a = true) (hn : n < 2147483648) (i : Int) {x : Int} (h : EQx x (rd n a i D)) (hΦ : Φ (.inl (some (0, x))) D) : Run Γ rg κ Y_X7_read 0 [(a + 8, 0), (0, i)] [] D Φ := by
  have hx : x = rd n a i D := h
  unfold rd at hx
  have hend : ∀ v : Int, x = v → Run Γ rg κ Y_X7_read 17 [(a + 8, 0), (0, i)] [(0, v)] D Φ := fun v e => e_iret d_X7_read_17 rfl e hΦ
  have hzero : x = 0 → Run Γ rg κ Y_X7_read 16 [(a + 8, 0), (0, i)] [] D Φ := fun e => r_iconst d_X7_read_16 (hend 0 e)
  refine r_iload_n d_X7_read_0 rfl ?_
  refine Run.st1 (ofI_w32 i) (r_if_lt (tgt := 16) d_X7_read_1 (by decide) (w32_in i) (fun g => ?_) (fun g => ?_))
  · exact hzero (by rw [if_neg (by omega)] at hx; exact hx)
  · refine r_iload_n d_X7_read_4 rfl ?_
    refine r_aload_n d_X7_read_5 rfl (Nat.le_trans (by decide) (Nat.le_add_left 8 a)) ?_
    refine r_alen d_X7_read_6 hs ha hr ?_
    refine Run.st2 (ofI_w32 i) (r_icmp_ge (tgt := 16) d_X7_read_7 (by decide) (w32_in i) ⟨by omega, by omega⟩ (fun g2 => ?_) (fun g2 => ?_))
    · exact hzero (by rw [if_neg (by omega)] at hx; exact hx)
    · rw [if_pos ⟨g, g2⟩] at hx
      refine r_aload_n d_X7_read_10 rfl (Nat.le_trans (by decide) (Nat.le_add_left 8 a)) ?_
      refine r_iload_n d_X7_read_11 rfl ?_
      refine Run.st1 (ofI_w32 i) (r_iald d_X7_read_12 hs ha hr hn g g2 ?_)
      exact r_goto (tgt := 17) d_X7_read_13 (by decide) (hend _ hx)
theorem run_pH_store {Γ : GG} {rg : Nat → Bool} {κ : Nat} {Φ : OT → DD → Prop} {D : DD} {a n : Nat} {cs : List Nat} (hs : SH.getD a (9, 0, []) = (1, n, cs)) (ha : a < NA) (hr : rg a = true) (hn : n < 2147483648) (i v : Int) (h : WPD Φ (sto n a i v D)) : Run Γ rg κ Y_X7_store 0 [(a + 8, 0), (0, i), (0, v)] [] D Φ := by
  unfold sto at h
  have hend : ∀ D1 : DD, WPD Φ D1 → Run Γ rg κ Y_X7_store 14 [(a + 8, 0), (0, i), (0, v)] [] D1 Φ := fun D1 e => d_vret d_X7_store_14 rfl e
  refine r_iload_n d_X7_store_0 rfl ?_
  refine Run.st1 (ofI_w32 i) (r_if_lt (tgt := 14) d_X7_store_1 (by decide) (w32_in i) (fun g => ?_) (fun g => ?_))
  · exact hend _ (by rw [if_neg (by omega)] at h; exact h)
  · refine r_iload_n d_X7_store_4 rfl ?_
    refine r_aload_n d_X7_store_5 rfl (Nat.le_trans (by decide) (Nat.le_add_left 8 a)) ?_
    refine r_alen d_X7_store_6 hs ha hr ?_
    refine Run.st2 (ofI_w32 i) (r_icmp_ge (tgt := 14) d_X7_store_7 (by decide) (w32_in i) ⟨by omega, by omega⟩ (fun g2 => ?_) (fun g2 => ?_))
    · exact hend _ (by rw [if_neg (by omega)] at h; exact h)
    · rw [if_pos ⟨g, g2⟩] at h
      refine r_aload_n d_X7_store_10 rfl (Nat.le_trans (by decide) (Nat.le_add_left 8 a)) ?_
      refine r_iload_n d_X7_store_11 rfl ?_
      refine r_iload_n d_X7_store_12 rfl ?_
      refine Run.st2 (ofI_w32 i) (r_iast d_X7_store_13 hs ha hr hn g g2 ?_)
      exact hend _ h
set_option maxRecDepth 20000 in
theorem run_rowF_3 {Γ : GG} {rg : Nat → Bool} {κ : Nat} {Φ : OT → DD → Prop} {a m : Nat} {cs : List Nat} (hs : SH.getD a (9, 0, []) = (1, m, cs)) (ha : a < NA) (hr : rg a = true) (hm : m < 2147483648) (a1 : Int) (a2 : Int) (a3 : Int) : ∀ (n : Nat) (a4 : Int) (D : DD), WP none κ Φ (rowF_3 m a a1 a2 a3 n a4 D) → Run Γ rg κ Y_X8_row 3 [(a + 8, 0), (0, a1), (0, a2), (0, a3), (0, a4)] [] D Φ := by
  intro n
  induction n with
  | zero => intro a4 D h; exact h.no.elim
  | succ n ih =>
    intro a4 D h
    rw [rowF_3] at h
    show Run Γ rg κ Y_X8_row 3 [(a + 8, 0), (0, a1), (0, a2), (0, a3), (0, a4)] [] D Φ
    refine r_iload d_X8_row_3 rfl ?_
    refine r_iload_n d_X8_row_5 rfl ?_
    refine c_icmp_ge (tgt := 31) d_X8_row_6 (by decide) (nz_w _) (nz_w _) h (fun h => ?_) (fun h => ?_)
    · skip
      show Run Γ rg κ Y_X8_row 31 [(a + 8, 0), (0, a1), (0, a2), (0, a3), (0, a4)] [] D Φ
      exact c_vret d_X8_row_31 rfl h
    · skip
      show Run Γ rg κ Y_X8_row 9 [(a + 8, 0), (0, a1), (0, a2), (0, a3), (0, a4)] [] D Φ
      refine r_aload_n d_X8_row_9 rfl (Nat.le_trans (by decide) (Nat.le_add_left 8 a)) ?_
      refine r_iload_n d_X8_row_10 rfl ?_
      refine r_iload_n d_X8_row_11 rfl ?_
      refine r_imul d_X8_row_12 ?_
      refine r_iload d_X8_row_13 rfl ?_
      refine r_iadd d_X8_row_15 ?_
      refine r_aload_n d_X8_row_16 rfl (Nat.le_trans (by decide) (Nat.le_add_left 8 a)) ?_
      refine r_iload_n d_X8_row_17 rfl ?_
      refine r_iload_n d_X8_row_18 rfl ?_
      refine r_imul d_X8_row_19 ?_
      refine r_iload d_X8_row_20 rfl ?_
      show Run Γ rg κ Y_X8_row 22 [(a + 8, 0), (0, a1), (0, a2), (0, a3), (0, a4)] [(0, a4), (0, (a3 * a1)), (a + 8, 0), (0, ((a3 * a2) + a4)), (a + 8, 0)] D Φ
      refine r_iadd d_X8_row_22 ?_
      refine c_iald d_X8_row_23 hs ha hr hm h (fun v1 h => ?_)
      refine c_iast d_X8_row_24 hs ha hr hm h (fun D1 h => ?_)
      refine r_iinc d_X8_row_25 rfl (by decide) rfl ?_
      show Run Γ rg κ Y_X8_row 28 [(a + 8, 0), (0, a1), (0, a2), (0, a3), (0, (a4 + 1))] [] D1 Φ
      refine r_goto (tgt := 3) d_X8_row_28 (by decide) ?_
      exact (ih (a4 + 1) D1 h)
set_option maxRecDepth 20000 in
theorem run_rowF {Γ : GG} {rg : Nat → Bool} {κ : Nat} {Φ : OT → DD → Prop} {a m : Nat} {cs : List Nat} (hs : SH.getD a (9, 0, []) = (1, m, cs)) (ha : a < NA) (hr : rg a = true) (hm : m < 2147483648) (p1 : Int) (p2 : Int) (p3 : Int) {D : DD} (h : WP none κ Φ (rowF m a p1 p2 p3 D)) : Run Γ rg κ Y_X8_row 0 [(a + 8, 0), (0, p1), (0, p2), (0, p3), (5, 0)] [] D Φ := by
  unfold rowF at h
  show Run Γ rg κ Y_X8_row 0 [(a + 8, 0), (0, p1), (0, p2), (0, p3), (5, 0)] [] D Φ
  refine r_iconst d_X8_row_0 ?_
  refine r_istore d_X8_row_1 (by decide) rfl ?_
  show Run Γ rg κ Y_X8_row 3 [(a + 8, 0), (0, p1), (0, p2), (0, p3), (0, 0)] [] D Φ
  exact run_rowF_3 hs ha hr hm p1 p2 p3 fu 0 D h
end
