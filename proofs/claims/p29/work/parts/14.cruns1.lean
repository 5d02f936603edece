/-! the class: each run keeps to its reading -/
set_option maxRecDepth 20000 in
theorem run_pI_placeOfKey {Γ : GG} {rg : Nat → Bool} {κ : Nat} {Φ : OT → DD → Prop} (R : cov rg rg0) (p1 : Int) {D : DD} {x : Int} (h : EQx x (pI_placeOfKey p1 D)) (hΦ : Φ (.inl (some (0, x))) D) : Run Γ rg κ Y_X2_placeOfKey 0 [(10, 0), (0, p1)] [] D Φ := by
  unfold pI_placeOfKey at h
  show Run Γ rg κ Y_X2_placeOfKey 0 [(10, 0), (0, p1)] [] D Φ
  refine r_aload_n d_X2_placeOfKey_0 rfl (by decide) ?_
  refine r_getR (t := 5) d_X2_placeOfKey_1 fk_RX2_18 sh_2 rfl (by decide) (R 2 rfl) ?_
  refine r_iload_n d_X2_placeOfKey_4 rfl ?_
  refine c_callNPi (as := [(13, 0), (0, p1)]) (rest := []) (ls' := [(13, 0), (0, p1)]) d_X2_placeOfKey_5 ck_RX2_41 rfl rfl rfl (Nat.le_of_ble_eq_true rfl) (Nat.le_of_ble_eq_true rfl) (by decide) rfl rfl (fun Ψ hΨ => run_pH_read sh_5 (by decide) (R 5 rfl) (by decide) _ rfl hΨ) ?_
  show Run Γ rg κ Y_X2_placeOfKey 8 [(10, 0), (0, p1)] [(0, (rd 80 5 p1 D))] D Φ
  exact e_iret d_X2_placeOfKey_8 rfl h hΦ
set_option maxRecDepth 20000 in
theorem run_pH_hasKey {Γ : GG} {rg : Nat → Bool} {κ : Nat} {Φ : OT → DD → Prop} (R : cov rg rg0) (p1 : Int) {D : DD} {x : Int} (h : EQx x (pH_hasKey p1 D)) (hΦ : Φ (.inl (some (0, x))) D) : Run Γ rg κ Y_X7_hasKey 0 [(8, 0), (0, p1)] [] D Φ := by
  unfold pH_hasKey at h
  show Run Γ rg κ Y_X7_hasKey 0 [(8, 0), (0, p1)] [] D Φ
  refine r_aload_n d_X7_hasKey_0 rfl (by decide) ?_
  refine r_getR (t := 2) d_X7_hasKey_1 fk_RX7_21 sh_0 rfl (by decide) (R 0 rfl) ?_
  refine r_iload_n d_X7_hasKey_4 rfl ?_
  refine c_callVPi (a := 2) (z := 0) (as := [(0, p1)]) (rest := []) (ls' := [(10, 0), (0, p1)]) d_X7_hasKey_5 ck_RX7_108 rfl sh_2 rfl (by decide) (R 2 rfl) rfl rfl (Nat.le_of_ble_eq_true rfl) (Nat.le_of_ble_eq_true rfl) (by decide) rfl rfl (fun Ψ hΨ => run_pI_placeOfKey R _ rfl hΨ) ?_
  show Run Γ rg κ Y_X7_hasKey 8 [(8, 0), (0, p1)] [(0, (pI_placeOfKey p1 D))] D Φ
  refine c_if_eq (tgt := 15) d_X7_hasKey_8 (by decide) (nz_w _) h (fun h => ?_) (fun h => ?_)
  · skip
    show Run Γ rg κ Y_X7_hasKey 15 [(8, 0), (0, p1)] [] D Φ
    refine r_iconst d_X7_hasKey_15 ?_
    exact e_zret d_X7_hasKey_16 rfl (Or.inl rfl) h hΦ
  · skip
    show Run Γ rg κ Y_X7_hasKey 11 [(8, 0), (0, p1)] [] D Φ
    refine r_iconst d_X7_hasKey_11 ?_
    refine r_goto (tgt := 16) d_X7_hasKey_12 (by decide) ?_
    show Run Γ rg κ Y_X7_hasKey 16 [(8, 0), (0, p1)] [(0, 1)] D Φ
    exact e_zret d_X7_hasKey_16 rfl (Or.inr rfl) h hΦ
set_option maxRecDepth 20000 in
theorem run_pH_requireKey {Γ : GG} {rg : Nat → Bool} {κ : Nat} {Φ : OT → DD → Prop} (R : cov rg rg0) (p1 : Int) {D : DD} (h : WP none κ Φ (pH_requireKey p1 D)) : Run Γ rg κ Y_X7_requireKey 0 [(8, 0), (0, p1)] [] D Φ := by
  unfold pH_requireKey at h
  show Run Γ rg κ Y_X7_requireKey 0 [(8, 0), (0, p1)] [] D Φ
  refine r_aload_n d_X7_requireKey_0 rfl (by decide) ?_
  refine r_iload_n d_X7_requireKey_1 rfl ?_
  refine c_callVPi (a := 0) (z := 0) (as := [(0, p1)]) (rest := []) (ls' := [(8, 0), (0, p1)]) d_X7_requireKey_2 ck_RX7_189 rfl sh_0 rfl (by decide) (R 0 rfl) rfl rfl (Nat.le_of_ble_eq_true rfl) (Nat.le_of_ble_eq_true rfl) (by decide) rfl rfl (fun Ψ hΨ => run_pH_hasKey R _ rfl hΨ) ?_
  show Run Γ rg κ Y_X7_requireKey 5 [(8, 0), (0, p1)] [(0, (pH_hasKey p1 D))] D Φ
  refine c_if_ne (tgt := 19) d_X7_requireKey_5 (by decide) (nz_b (pH_hasKey_b p1 D)) h (fun h => ?_) (fun h => ?_)
  · skip
    show Run Γ rg κ Y_X7_requireKey 19 [(8, 0), (0, p1)] [] D Φ
    exact c_vret d_X7_requireKey_19 rfl h
  · skip
    show Run Γ rg κ Y_X7_requireKey 8 [(8, 0), (0, p1)] [] D Φ
    exact c_throwW (text := "there is no such key") tk_RX7_173_177 (by decide +kernel) d_X7_requireKey_8 d_X7_requireKey_11 d_X7_requireKey_12 d_X7_requireKey_15 d_X7_requireKey_18 rfl (by decide) (Nat.le_of_ble_eq_true rfl) h
set_option maxRecDepth 20000 in
theorem run_pI_unitAt {Γ : GG} {rg : Nat → Bool} {κ : Nat} {Φ : OT → DD → Prop} (R : cov rg rg0) (p1 : Int) {D : DD} {x : Int} (h : EQx x (pI_unitAt p1 D)) (hΦ : Φ (.inl (some (0, x))) D) : Run Γ rg κ Y_X2_unitAt 0 [(10, 0), (0, p1)] [] D Φ := by
  unfold pI_unitAt at h
  show Run Γ rg κ Y_X2_unitAt 0 [(10, 0), (0, p1)] [] D Φ
  refine r_aload_n d_X2_unitAt_0 rfl (by decide) ?_
  refine r_getR (t := 4) d_X2_unitAt_1 fk_RX2_15 sh_2 rfl (by decide) (R 2 rfl) ?_
  refine r_iload_n d_X2_unitAt_4 rfl ?_
  refine c_callNPi (as := [(12, 0), (0, p1)]) (rest := []) (ls' := [(12, 0), (0, p1)]) d_X2_unitAt_5 ck_RX2_41 rfl rfl rfl (Nat.le_of_ble_eq_true rfl) (Nat.le_of_ble_eq_true rfl) (by decide) rfl rfl (fun Ψ hΨ => run_pH_read sh_4 (by decide) (R 4 rfl) (by decide) _ rfl hΨ) ?_
  show Run Γ rg κ Y_X2_unitAt 8 [(10, 0), (0, p1)] [(0, (rd 1024 4 p1 D))] D Φ
  exact e_iret d_X2_unitAt_8 rfl h hΦ
set_option maxRecDepth 20000 in
theorem run_pL_isIndex {Γ : GG} {rg : Nat → Bool} {κ : Nat} {Φ : OT → DD → Prop} (R : cov rg rg0) (p1 : Int) {D : DD} {x : Int} (h : EQx x (pL_isIndex p1 D)) (hΦ : Φ (.inl (some (0, x))) D) : Run Γ rg κ Y_X3_isIndex 0 [(19, 0), (0, p1)] [] D Φ := by
  unfold pL_isIndex at h
  show Run Γ rg κ Y_X3_isIndex 0 [(19, 0), (0, p1)] [] D Φ
  refine r_aload_n d_X3_isIndex_0 rfl (by decide) ?_
  refine r_getR (t := 2) d_X3_isIndex_1 fk_RX3_9 sh_11 rfl (by decide) (R 11 rfl) ?_
  refine r_getR (t := 3) d_X3_isIndex_4 fk_RX3_93 sh_2 rfl (by decide) (R 2 rfl) ?_
  refine r_iload_n d_X3_isIndex_7 rfl ?_
  refine c_callNPi (as := [(11, 0), (0, p1)]) (rest := []) (ls' := [(11, 0), (0, p1)]) d_X3_isIndex_8 ck_RX3_97 rfl rfl rfl (Nat.le_of_ble_eq_true rfl) (Nat.le_of_ble_eq_true rfl) (by decide) rfl rfl (fun Ψ hΨ => run_pH_read sh_3 (by decide) (R 3 rfl) (by decide) _ rfl hΨ) ?_
  show Run Γ rg κ Y_X3_isIndex 11 [(19, 0), (0, p1)] [(0, (rd 1024 3 p1 D))] D Φ
  refine r_bipush d_X3_isIndex_11 (by decide) ?_
  refine c_icmp_ne (tgt := 20) d_X3_isIndex_13 (by decide) (nz_w _) (nz_k rfl) h (fun h => ?_) (fun h => ?_)
  · skip
    show Run Γ rg κ Y_X3_isIndex 20 [(19, 0), (0, p1)] [] D Φ
    refine r_iconst d_X3_isIndex_20 ?_
    exact e_zret d_X3_isIndex_21 rfl (Or.inl rfl) h hΦ
  · skip
    show Run Γ rg κ Y_X3_isIndex 16 [(19, 0), (0, p1)] [] D Φ
    refine r_iconst d_X3_isIndex_16 ?_
    refine r_goto (tgt := 21) d_X3_isIndex_17 (by decide) ?_
    show Run Γ rg κ Y_X3_isIndex 21 [(19, 0), (0, p1)] [(0, 1)] D Φ
    exact e_zret d_X3_isIndex_21 rfl (Or.inr rfl) h hΦ
set_option maxRecDepth 20000 in
theorem run_pI_itemCount {Γ : GG} {rg : Nat → Bool} {κ : Nat} {Φ : OT → DD → Prop} (R : cov rg rg0) (p1 : Int) {D : DD} {x : Int} (h : EQx x (pI_itemCount p1 D)) (hΦ : Φ (.inl (some (0, x))) D) : Run Γ rg κ Y_X2_itemCount 0 [(10, 0), (0, p1)] [] D Φ := by
  unfold pI_itemCount at h
  show Run Γ rg κ Y_X2_itemCount 0 [(10, 0), (0, p1)] [] D Φ
  refine r_aload_n d_X2_itemCount_0 rfl (by decide) ?_
  refine r_getR (t := 4) d_X2_itemCount_1 fk_RX2_15 sh_2 rfl (by decide) (R 2 rfl) ?_
  refine r_iload_n d_X2_itemCount_4 rfl ?_
  refine c_callNPi (as := [(12, 0), (0, p1)]) (rest := []) (ls' := [(12, 0), (0, p1)]) d_X2_itemCount_5 ck_RX2_41 rfl rfl rfl (Nat.le_of_ble_eq_true rfl) (Nat.le_of_ble_eq_true rfl) (by decide) rfl rfl (fun Ψ hΨ => run_pH_read sh_4 (by decide) (R 4 rfl) (by decide) _ rfl hΨ) ?_
  show Run Γ rg κ Y_X2_itemCount 8 [(10, 0), (0, p1)] [(0, (rd 1024 4 p1 D))] D Φ
  exact e_iret d_X2_itemCount_8 rfl h hΦ
set_option maxRecDepth 20000 in
theorem run_pL_leafCount {Γ : GG} {rg : Nat → Bool} {κ : Nat} {Φ : OT → DD → Prop} (R : cov rg rg0) (p1 : Int) {D : DD} {x : Int} (h : EQx x (pL_leafCount p1 D)) (hΦ : Φ (.inl (some (0, x))) D) : Run Γ rg κ Y_X3_leafCount 0 [(19, 0), (0, p1), (5, 0)] [] D Φ := by
  unfold pL_leafCount at h
  show Run Γ rg κ Y_X3_leafCount 0 [(19, 0), (0, p1), (5, 0)] [] D Φ
  refine r_aload_n d_X3_leafCount_0 rfl (by decide) ?_
  refine r_getR (t := 2) d_X3_leafCount_1 fk_RX3_9 sh_11 rfl (by decide) (R 11 rfl) ?_
  refine r_iload_n d_X3_leafCount_4 rfl ?_
  refine r_iconst d_X3_leafCount_5 ?_
  refine r_iadd d_X3_leafCount_6 ?_
  refine c_callVPi (a := 2) (z := 0) (as := [(0, (p1 + 2))]) (rest := []) (ls' := [(10, 0), (0, (p1 + 2))]) d_X3_leafCount_7 ck_RX3_23 rfl sh_2 rfl (by decide) (R 2 rfl) rfl rfl (Nat.le_of_ble_eq_true rfl) (Nat.le_of_ble_eq_true rfl) (by decide) rfl rfl (fun Ψ hΨ => run_pI_unitAt R _ rfl hΨ) ?_
  show Run Γ rg κ Y_X3_leafCount 10 [(19, 0), (0, p1), (5, 0)] [(0, (pI_unitAt (p1 + 2) D))] D Φ
  refine c_lt_n d_X3_leafCount_10 (by decide) rfl h (fun x1 h => ?_)
  show Run Γ rg κ Y_X3_leafCount 11 [(19, 0), (0, p1), (0, x1)] [] D Φ
  refine r_iload_n d_X3_leafCount_11 rfl ?_
  refine c_if_ne (tgt := 17) d_X3_leafCount_12 (by decide) (nz_w _) h (fun h => ?_) (fun h => ?_)
  · skip
    show Run Γ rg κ Y_X3_leafCount 17 [(19, 0), (0, p1), (0, x1)] [] D Φ
    refine r_aload_n d_X3_leafCount_17 rfl (by decide) ?_
    refine r_iload_n d_X3_leafCount_18 rfl ?_
    refine c_callVPi (a := 11) (z := 0) (as := [(0, x1)]) (rest := []) (ls' := [(19, 0), (0, x1)]) d_X3_leafCount_19 ck_RX3_28 rfl sh_11 rfl (by decide) (R 11 rfl) rfl rfl (Nat.le_of_ble_eq_true rfl) (Nat.le_of_ble_eq_true rfl) (by decide) rfl rfl (fun Ψ hΨ => run_pL_isIndex R _ rfl hΨ) ?_
    show Run Γ rg κ Y_X3_leafCount 22 [(19, 0), (0, p1), (0, x1)] [(0, (pL_isIndex x1 D))] D Φ
    refine c_if_eq (tgt := 36) d_X3_leafCount_22 (by decide) (nz_b (pL_isIndex_b x1 D)) h (fun h => ?_) (fun h => ?_)
    · skip
      show Run Γ rg κ Y_X3_leafCount 36 [(19, 0), (0, p1), (0, x1)] [] D Φ
      refine r_iconst d_X3_leafCount_36 ?_
      exact e_iret d_X3_leafCount_37 rfl h hΦ
    · skip
      show Run Γ rg κ Y_X3_leafCount 25 [(19, 0), (0, p1), (0, x1)] [] D Φ
      refine r_aload_n d_X3_leafCount_25 rfl (by decide) ?_
      refine r_getR (t := 2) d_X3_leafCount_26 fk_RX3_9 sh_11 rfl (by decide) (R 11 rfl) ?_
      refine r_iload_n d_X3_leafCount_29 rfl ?_
      refine c_callVPi (a := 2) (z := 0) (as := [(0, x1)]) (rest := []) (ls' := [(10, 0), (0, x1)]) d_X3_leafCount_30 ck_RX3_32 rfl sh_2 rfl (by decide) (R 2 rfl) rfl rfl (Nat.le_of_ble_eq_true rfl) (Nat.le_of_ble_eq_true rfl) (by decide) rfl rfl (fun Ψ hΨ => run_pI_itemCount R _ rfl hΨ) ?_
      show Run Γ rg κ Y_X3_leafCount 33 [(19, 0), (0, p1), (0, x1)] [(0, (pI_itemCount x1 D))] D Φ
      refine r_goto (tgt := 37) d_X3_leafCount_33 (by decide) ?_
      show Run Γ rg κ Y_X3_leafCount 37 [(19, 0), (0, p1), (0, x1)] [(0, (pI_itemCount x1 D))] D Φ
      exact e_iret d_X3_leafCount_37 rfl h hΦ
  · skip
    show Run Γ rg κ Y_X3_leafCount 15 [(19, 0), (0, p1), (0, x1)] [] D Φ
    refine r_iconst d_X3_leafCount_15 ?_
    exact e_iret d_X3_leafCount_16 rfl h hΦ
set_option maxRecDepth 20000 in
theorem run_pI_item {Γ : GG} {rg : Nat → Bool} {κ : Nat} {Φ : OT → DD → Prop} (R : cov rg rg0) (p1 : Int) (p2 : Int) {D : DD} {x : Int} (h : EQx x (pI_item p1 p2 D)) (hΦ : Φ (.inl (some (0, x))) D) : Run Γ rg κ Y_X2_item 0 [(10, 0), (0, p1), (0, p2)] [] D Φ := by
  unfold pI_item at h
  show Run Γ rg κ Y_X2_item 0 [(10, 0), (0, p1), (0, p2)] [] D Φ
  refine r_aload_n d_X2_item_0 rfl (by decide) ?_
  refine r_getR (t := 4) d_X2_item_1 fk_RX2_15 sh_2 rfl (by decide) (R 2 rfl) ?_
  refine r_iload_n d_X2_item_4 rfl ?_
  refine r_iconst d_X2_item_5 ?_
  refine r_iadd d_X2_item_6 ?_
  refine r_iload_n d_X2_item_7 rfl ?_
  refine r_iadd d_X2_item_8 ?_
  refine c_callNPi (as := [(12, 0), (0, ((p1 + 1) + p2))]) (rest := []) (ls' := [(12, 0), (0, ((p1 + 1) + p2))]) d_X2_item_9 ck_RX2_41 rfl rfl rfl (Nat.le_of_ble_eq_true rfl) (Nat.le_of_ble_eq_true rfl) (by decide) rfl rfl (fun Ψ hΨ => run_pH_read sh_4 (by decide) (R 4 rfl) (by decide) _ rfl hΨ) ?_
  show Run Γ rg κ Y_X2_item 12 [(10, 0), (0, p1), (0, p2)] [(0, (rd 1024 4 ((p1 + 1) + p2) D))] D Φ
  exact e_iret d_X2_item_12 rfl h hΦ
set_option maxRecDepth 20000 in
theorem run_pL_leafNumbered {Γ : GG} {rg : Nat → Bool} {κ : Nat} {Φ : OT → DD → Prop} (R : cov rg rg0) (p1 : Int) (p2 : Int) {D : DD} {x : Int} (h : EQx x (pL_leafNumbered p1 p2 D)) (hΦ : Φ (.inl (some (0, x))) D) : Run Γ rg κ Y_X3_leafNumbered 0 [(19, 0), (0, p1), (0, p2), (5, 0)] [] D Φ := by
  unfold pL_leafNumbered at h
  show Run Γ rg κ Y_X3_leafNumbered 0 [(19, 0), (0, p1), (0, p2), (5, 0)] [] D Φ
  refine r_aload_n d_X3_leafNumbered_0 rfl (by decide) ?_
  refine r_getR (t := 2) d_X3_leafNumbered_1 fk_RX3_9 sh_11 rfl (by decide) (R 11 rfl) ?_
  refine r_iload_n d_X3_leafNumbered_4 rfl ?_
  refine r_iconst d_X3_leafNumbered_5 ?_
  refine r_iadd d_X3_leafNumbered_6 ?_
  refine c_callVPi (a := 2) (z := 0) (as := [(0, (p1 + 2))]) (rest := []) (ls' := [(10, 0), (0, (p1 + 2))]) d_X3_leafNumbered_7 ck_RX3_23 rfl sh_2 rfl (by decide) (R 2 rfl) rfl rfl (Nat.le_of_ble_eq_true rfl) (Nat.le_of_ble_eq_true rfl) (by decide) rfl rfl (fun Ψ hΨ => run_pI_unitAt R _ rfl hΨ) ?_
  show Run Γ rg κ Y_X3_leafNumbered 10 [(19, 0), (0, p1), (0, p2), (5, 0)] [(0, (pI_unitAt (p1 + 2) D))] D Φ
  refine c_lt_n d_X3_leafNumbered_10 (by decide) rfl h (fun x1 h => ?_)
  show Run Γ rg κ Y_X3_leafNumbered 11 [(19, 0), (0, p1), (0, p2), (0, x1)] [] D Φ
  refine r_aload_n d_X3_leafNumbered_11 rfl (by decide) ?_
  refine r_iload_n d_X3_leafNumbered_12 rfl ?_
  refine c_callVPi (a := 11) (z := 0) (as := [(0, x1)]) (rest := []) (ls' := [(19, 0), (0, x1)]) d_X3_leafNumbered_13 ck_RX3_28 rfl sh_11 rfl (by decide) (R 11 rfl) rfl rfl (Nat.le_of_ble_eq_true rfl) (Nat.le_of_ble_eq_true rfl) (by decide) rfl rfl (fun Ψ hΨ => run_pL_isIndex R _ rfl hΨ) ?_
  show Run Γ rg κ Y_X3_leafNumbered 16 [(19, 0), (0, p1), (0, p2), (0, x1)] [(0, (pL_isIndex x1 D))] D Φ
  refine c_if_eq (tgt := 31) d_X3_leafNumbered_16 (by decide) (nz_b (pL_isIndex_b x1 D)) h (fun h => ?_) (fun h => ?_)
  · skip
    show Run Γ rg κ Y_X3_leafNumbered 31 [(19, 0), (0, p1), (0, p2), (0, x1)] [] D Φ
    refine r_iload_n d_X3_leafNumbered_31 rfl ?_
    exact e_iret d_X3_leafNumbered_32 rfl h hΦ
  · skip
    show Run Γ rg κ Y_X3_leafNumbered 19 [(19, 0), (0, p1), (0, p2), (0, x1)] [] D Φ
    refine r_aload_n d_X3_leafNumbered_19 rfl (by decide) ?_
    refine r_getR (t := 2) d_X3_leafNumbered_20 fk_RX3_9 sh_11 rfl (by decide) (R 11 rfl) ?_
    refine r_iload_n d_X3_leafNumbered_23 rfl ?_
    refine r_iload_n d_X3_leafNumbered_24 rfl ?_
    refine c_callVPi (a := 2) (z := 0) (as := [(0, x1), (0, p2)]) (rest := []) (ls' := [(10, 0), (0, x1), (0, p2)]) d_X3_leafNumbered_25 ck_RX3_45 rfl sh_2 rfl (by decide) (R 2 rfl) rfl rfl (Nat.le_of_ble_eq_true rfl) (Nat.le_of_ble_eq_true rfl) (by decide) rfl rfl (fun Ψ hΨ => run_pI_item R _ _ rfl hΨ) ?_
    show Run Γ rg κ Y_X3_leafNumbered 28 [(19, 0), (0, p1), (0, p2), (0, x1)] [(0, (pI_item x1 p2 D))] D Φ
    refine r_goto (tgt := 32) d_X3_leafNumbered_28 (by decide) ?_
    show Run Γ rg κ Y_X3_leafNumbered 32 [(19, 0), (0, p1), (0, p2), (0, x1)] [(0, (pI_item x1 p2 D))] D Φ
    exact e_iret d_X3_leafNumbered_32 rfl h hΦ
set_option maxRecDepth 20000 in
theorem run_pL_entryCount_11 {Γ : GG} {rg : Nat → Bool} {κ : Nat} {Φ : OT → DD → Prop} (R : cov rg rg0) (a1 : Int) (a2 : Int) : ∀ (n : Nat) (a3 : Int) (a4 : Int) (D : DD), WP (some .int) κ Φ (pL_entryCount_11 a1 a2 n a3 a4 D) → Run Γ rg κ Y_X3_entryCount 11 [(19, 0), (0, a1), (0, a2), (0, a3), (0, a4)] [] D Φ := by
  intro n
  induction n with
  | zero => intro a3 a4 D h; exact h.no.elim
  | succ n ih =>
    intro a3 a4 D h
    rw [pL_entryCount_11] at h
    show Run Γ rg κ Y_X3_entryCount 11 [(19, 0), (0, a1), (0, a2), (0, a3), (0, a4)] [] D Φ
    refine r_iload d_X3_entryCount_11 rfl ?_
    refine r_iload_n d_X3_entryCount_13 rfl ?_
    refine c_icmp_ge (tgt := 40) d_X3_entryCount_14 (by decide) (nz_w _) (nz_w _) h (fun h => ?_) (fun h => ?_)
    · skip
      show Run Γ rg κ Y_X3_entryCount 40 [(19, 0), (0, a1), (0, a2), (0, a3), (0, a4)] [] D Φ
      refine r_iload_n d_X3_entryCount_40 rfl ?_
      exact c_iret d_X3_entryCount_41 rfl h
    · skip
      show Run Γ rg κ Y_X3_entryCount 17 [(19, 0), (0, a1), (0, a2), (0, a3), (0, a4)] [] D Φ
      refine r_iload_n d_X3_entryCount_17 rfl ?_
      refine r_aload_n d_X3_entryCount_18 rfl (by decide) ?_
      refine r_getR (t := 2) d_X3_entryCount_19 fk_RX3_9 sh_11 rfl (by decide) (R 11 rfl) ?_
      refine r_aload_n d_X3_entryCount_22 rfl (by decide) ?_
      refine r_iload_n d_X3_entryCount_23 rfl ?_
      refine r_iload d_X3_entryCount_24 rfl ?_
      refine c_callVPi (a := 11) (z := 0) (as := [(0, a1), (0, a4)]) (rest := [(10, 0), (0, a3)]) (ls' := [(19, 0), (0, a1), (0, a4), (5, 0)]) d_X3_entryCount_26 ck_RX3_38 rfl sh_11 rfl (by decide) (R 11 rfl) rfl rfl (Nat.le_of_ble_eq_true rfl) (Nat.le_of_ble_eq_true rfl) (by decide) rfl rfl (fun Ψ hΨ => run_pL_leafNumbered R _ _ rfl hΨ) ?_
      show Run Γ rg κ Y_X3_entryCount 29 [(19, 0), (0, a1), (0, a2), (0, a3), (0, a4)] [(0, (pL_leafNumbered a1 a4 D)), (10, 0), (0, a3)] D Φ
      refine c_callVPi (a := 2) (z := 0) (as := [(0, (pL_leafNumbered a1 a4 D))]) (rest := [(0, a3)]) (ls' := [(10, 0), (0, (pL_leafNumbered a1 a4 D))]) d_X3_entryCount_29 ck_RX3_32 rfl sh_2 rfl (by decide) (R 2 rfl) rfl rfl (Nat.le_of_ble_eq_true rfl) (Nat.le_of_ble_eq_true rfl) (by decide) rfl rfl (fun Ψ hΨ => run_pI_itemCount R _ rfl hΨ) ?_
      show Run Γ rg κ Y_X3_entryCount 32 [(19, 0), (0, a1), (0, a2), (0, a3), (0, a4)] [(0, (pI_itemCount (pL_leafNumbered a1 a4 D) D)), (0, a3)] D Φ
      refine r_iadd d_X3_entryCount_32 ?_
      refine c_lt_n d_X3_entryCount_33 (by decide) rfl h (fun x1 h => ?_)
      show Run Γ rg κ Y_X3_entryCount 34 [(19, 0), (0, a1), (0, a2), (0, x1), (0, a4)] [] D Φ
      refine r_iinc d_X3_entryCount_34 rfl (by decide) rfl ?_
      show Run Γ rg κ Y_X3_entryCount 37 [(19, 0), (0, a1), (0, a2), (0, x1), (0, (a4 + 1))] [] D Φ
      show Run Γ rg κ Y_X3_entryCount 37 [(19, 0), (0, a1), (0, a2), (0, x1), (0, (a4 + 1))] [] D Φ
      refine r_goto (tgt := 11) d_X3_entryCount_37 (by decide) ?_
      exact (ih x1 (a4 + 1) D h)
set_option maxRecDepth 20000 in
theorem run_pL_entryCount {Γ : GG} {rg : Nat → Bool} {κ : Nat} {Φ : OT → DD → Prop} (R : cov rg rg0) (p1 : Int) {D : DD} (h : WP (some .int) κ Φ (pL_entryCount p1 D)) : Run Γ rg κ Y_X3_entryCount 0 [(19, 0), (0, p1), (5, 0), (5, 0), (5, 0)] [] D Φ := by
  unfold pL_entryCount at h
  show Run Γ rg κ Y_X3_entryCount 0 [(19, 0), (0, p1), (5, 0), (5, 0), (5, 0)] [] D Φ
  refine r_aload_n d_X3_entryCount_0 rfl (by decide) ?_
  refine r_iload_n d_X3_entryCount_1 rfl ?_
  refine c_callVPi (a := 11) (z := 0) (as := [(0, p1)]) (rest := []) (ls' := [(19, 0), (0, p1), (5, 0)]) d_X3_entryCount_2 ck_RX3_35 rfl sh_11 rfl (by decide) (R 11 rfl) rfl rfl (Nat.le_of_ble_eq_true rfl) (Nat.le_of_ble_eq_true rfl) (by decide) rfl rfl (fun Ψ hΨ => run_pL_leafCount R _ rfl hΨ) ?_
  show Run Γ rg κ Y_X3_entryCount 5 [(19, 0), (0, p1), (5, 0), (5, 0), (5, 0)] [(0, (pL_leafCount p1 D))] D Φ
  refine c_lt_n d_X3_entryCount_5 (by decide) rfl h (fun x1 h => ?_)
  show Run Γ rg κ Y_X3_entryCount 6 [(19, 0), (0, p1), (0, x1), (5, 0), (5, 0)] [] D Φ
  refine r_iconst d_X3_entryCount_6 ?_
  refine r_istore_n d_X3_entryCount_7 (by decide) rfl ?_
  show Run Γ rg κ Y_X3_entryCount 8 [(19, 0), (0, p1), (0, x1), (0, 0), (5, 0)] [] D Φ
  refine r_iconst d_X3_entryCount_8 ?_
  refine r_istore d_X3_entryCount_9 (by decide) rfl ?_
  show Run Γ rg κ Y_X3_entryCount 11 [(19, 0), (0, p1), (0, x1), (0, 0), (0, 0)] [] D Φ
  exact run_pL_entryCount_11 R p1 x1 fu 0 0 D h
set_option maxRecDepth 20000 in
theorem run_pH_list {Γ : GG} {rg : Nat → Bool} {κ : Nat} {Φ : OT → DD → Prop} (R : cov rg rg0) (p1 : Int) {D : DD} (h : WP (some .int) κ Φ (pH_list p1 D)) : Run Γ rg κ Y_X7_list 0 [(8, 0), (0, p1), (5, 0)] [] D Φ := by
  unfold pH_list at h
  show Run Γ rg κ Y_X7_list 0 [(8, 0), (0, p1), (5, 0)] [] D Φ
  refine r_aload_n d_X7_list_0 rfl (by decide) ?_
  refine r_iload_n d_X7_list_1 rfl ?_
  refine c_callVv (a := 0) (z := 0) (as := [(0, p1)]) (rest := []) (ls' := [(8, 0), (0, p1)]) d_X7_list_2 ck_RX7_95 rfl sh_0 rfl (by decide) (R 0 rfl) rfl rfl (Nat.le_of_ble_eq_true rfl) (Nat.le_of_ble_eq_true rfl) (by decide) rfl rfl (fun κ' Ψ hΨ => run_pH_requireKey R _ hΨ) h (fun _ D1 h => ?_)
  show Run Γ rg κ Y_X7_list 5 [(8, 0), (0, p1), (5, 0)] [] D1 Φ
  refine r_aload_n d_X7_list_5 rfl (by decide) ?_
  refine r_getR (t := 2) d_X7_list_6 fk_RX7_21 sh_0 rfl (by decide) (R 0 rfl) ?_
  refine r_iload_n d_X7_list_9 rfl ?_
  refine c_callVPi (a := 2) (z := 0) (as := [(0, p1)]) (rest := []) (ls' := [(10, 0), (0, p1)]) d_X7_list_10 ck_RX7_108 rfl sh_2 rfl (by decide) (R 2 rfl) rfl rfl (Nat.le_of_ble_eq_true rfl) (Nat.le_of_ble_eq_true rfl) (by decide) rfl rfl (fun Ψ hΨ => run_pI_placeOfKey R _ rfl hΨ) ?_
  show Run Γ rg κ Y_X7_list 13 [(8, 0), (0, p1), (5, 0)] [(0, (pI_placeOfKey p1 D1))] D1 Φ
  refine c_lt_n d_X7_list_13 (by decide) rfl h (fun x1 h => ?_)
  show Run Γ rg κ Y_X7_list 14 [(8, 0), (0, p1), (0, x1)] [] D1 Φ
  refine r_bipush d_X7_list_14 (by decide) ?_
  refine r_aload_n d_X7_list_16 rfl (by decide) ?_
  refine r_getR (t := 11) d_X7_list_17 fk_RX7_34 sh_0 rfl (by decide) (R 0 rfl) ?_
  show Run Γ rg κ Y_X7_list 20 [(8, 0), (0, p1), (0, x1)] [(19, 0), (0, 10)] D1 Φ
  refine r_iload_n d_X7_list_20 rfl ?_
  refine c_callVi (t' := (some .int)) (a := 11) (z := 0) (as := [(0, x1)]) (rest := [(0, 10)]) (ls' := [(19, 0), (0, x1), (5, 0), (5, 0), (5, 0)]) d_X7_list_21 ck_RX7_170 rfl sh_11 rfl (by decide) (R 11 rfl) rfl rfl (Nat.le_of_ble_eq_true rfl) (Nat.le_of_ble_eq_true rfl) (by decide) rfl rfl (fun _ => rfl) (fun κ' Ψ hΨ => run_pL_entryCount R _ hΨ) h (fun v1 D2 h => ?_)
  show Run Γ rg κ Y_X7_list 24 [(8, 0), (0, p1), (0, x1)] [(0, v1), (0, 10)] D2 Φ
  refine r_imul d_X7_list_24 ?_
  refine r_aload_n d_X7_list_25 rfl (by decide) ?_
  refine r_getR (t := 11) d_X7_list_26 fk_RX7_34 sh_0 rfl (by decide) (R 0 rfl) ?_
  refine r_iload_n d_X7_list_29 rfl ?_
  refine c_callVPi (a := 11) (z := 0) (as := [(0, x1)]) (rest := [(0, (10 * v1))]) (ls' := [(19, 0), (0, x1), (5, 0)]) d_X7_list_30 ck_RX7_183 rfl sh_11 rfl (by decide) (R 11 rfl) rfl rfl (Nat.le_of_ble_eq_true rfl) (Nat.le_of_ble_eq_true rfl) (by decide) rfl rfl (fun Ψ hΨ => run_pL_leafCount R _ rfl hΨ) ?_
  show Run Γ rg κ Y_X7_list 33 [(8, 0), (0, p1), (0, x1)] [(0, (pL_leafCount x1 D2)), (0, (10 * v1))] D2 Φ
  refine r_iadd d_X7_list_33 ?_
  exact c_iret d_X7_list_34 rfl h
set_option maxRecDepth 20000 in
theorem run_pH_requireName {Γ : GG} {rg : Nat → Bool} {κ : Nat} {Φ : OT → DD → Prop} (R : cov rg rg0) (p1 : Int) {D : DD} (h : WP none κ Φ (pH_requireName p1 D)) : Run Γ rg κ Y_X7_requireName 0 [(0, p1)] [] D Φ := by
  unfold pH_requireName at h
  show Run Γ rg κ Y_X7_requireName 0 [(0, p1)] [] D Φ
  refine r_iload_n d_X7_requireName_0 rfl ?_
  refine c_jn (fun J => ∀ (D1 : DD), WP none κ Φ (J D1) → Run Γ rg κ Y_X7_requireName 11 [(5, 0)] [] D1 Φ) h ?_ (fun J1 hJ1 h => ?_)
  · intro D1 h
    show Run Γ rg κ Y_X7_requireName 11 [(5, 0)] [] D1 Φ
    exact c_throwW (text := "the name of a key is out of range") tk_RX7_279_283 (by decide +kernel) d_X7_requireName_11 d_X7_requireName_14 d_X7_requireName_15 d_X7_requireName_18 d_X7_requireName_21 rfl (by decide) (Nat.le_of_ble_eq_true rfl) h
  refine c_if_lt (tgt := 11) d_X7_requireName_1 (by decide) (nz_w _) h (fun h => ?_) (fun h => ?_)
  · skip
    exact Run.forget (ls' := [(5, 0)]) ⟨Or.inl rfl, trivial⟩ (hJ1 D h)
  · skip
    show Run Γ rg κ Y_X7_requireName 4 [(0, p1)] [] D Φ
    refine r_iload_n d_X7_requireName_4 rfl ?_
    refine r_sipush d_X7_requireName_5 (by decide) ?_
    refine c_icmp_le (tgt := 22) d_X7_requireName_8 (by decide) (nz_w _) (nz_k rfl) h (fun h => ?_) (fun h => ?_)
    · skip
      show Run Γ rg κ Y_X7_requireName 22 [(0, p1)] [] D Φ
      exact c_vret d_X7_requireName_22 rfl h
    · skip
      exact Run.forget (ls' := [(5, 0)]) ⟨Or.inl rfl, trivial⟩ (hJ1 D h)
set_option maxRecDepth 20000 in
theorem run_pL_rankOf {Γ : GG} {rg : Nat → Bool} {κ : Nat} {Φ : OT → DD → Prop} (R : cov rg rg0) (p1 : Int) {D : DD} {x : Int} (h : EQx x (pL_rankOf p1)) (hΦ : Φ (.inl (some (0, x))) D) : Run Γ rg κ Y_X3_rankOf 0 [(0, p1)] [] D Φ := by
  unfold pL_rankOf at h
  show Run Γ rg κ Y_X3_rankOf 0 [(0, p1)] [] D Φ
  refine r_bipush d_X3_rankOf_0 (by decide) ?_
  refine r_iload_n d_X3_rankOf_2 rfl ?_
  refine r_imul d_X3_rankOf_3 ?_
  refine r_bipush d_X3_rankOf_4 (by decide) ?_
  refine c_irem d_X3_rankOf_6 (nz_w _) ⟨by decide, by decide⟩ (by decide) ?_
  refine r_sipush d_X3_rankOf_7 (by decide) ?_
  refine r_imul d_X3_rankOf_10 ?_
  refine r_iload_n d_X3_rankOf_11 rfl ?_
  refine r_iadd d_X3_rankOf_12 ?_
  exact e_iret d_X3_rankOf_13 rfl h hΦ
set_option maxRecDepth 20000 in
theorem run_pL_keyInLeaf_12 {Γ : GG} {rg : Nat → Bool} {κ : Nat} {Φ : OT → DD → Prop} (R : cov rg rg0) (a1 : Int) (a2 : Int) (a3 : Int) {K : Int → DD → Res} (hK : ∀ (z5 : Int) (D : DD), WP (some .int) κ Φ (K z5 D) → Run Γ rg κ Y_X3_keyInLeaf 42 [(5, 0), (5, 0), (5, 0), (5, 0), (5, 0), (0, z5)] [] D Φ) : ∀ (n : Nat) (a4 : Int) (D : DD), WP (some .int) κ Φ (pL_keyInLeaf_12 a1 a2 a3 n a4 D K) → Run Γ rg κ Y_X3_keyInLeaf 12 [(19, 0), (0, a1), (0, a2), (0, a3), (0, a4), (5, 0)] [] D Φ := by
  intro n
  induction n with
  | zero => intro a4 D h; exact h.no.elim
  | succ n ih =>
    intro a4 D h
    rw [pL_keyInLeaf_12] at h
    show Run Γ rg κ Y_X3_keyInLeaf 12 [(19, 0), (0, a1), (0, a2), (0, a3), (0, a4), (5, 0)] [] D Φ
    refine r_iload d_X3_keyInLeaf_12 rfl ?_
    refine r_iload_n d_X3_keyInLeaf_14 rfl ?_
    refine c_icmp_ge (tgt := 54) d_X3_keyInLeaf_15 (by decide) (nz_w _) (nz_w _) h (fun h => ?_) (fun h => ?_)
    · skip
      show Run Γ rg κ Y_X3_keyInLeaf 54 [(19, 0), (0, a1), (0, a2), (0, a3), (0, a4), (5, 0)] [] D Φ
      refine r_iconst d_X3_keyInLeaf_54 ?_
      exact c_iret d_X3_keyInLeaf_55 rfl h
    · skip
      show Run Γ rg κ Y_X3_keyInLeaf 18 [(19, 0), (0, a1), (0, a2), (0, a3), (0, a4), (5, 0)] [] D Φ
      refine r_aload_n d_X3_keyInLeaf_18 rfl (by decide) ?_
      refine r_getR (t := 2) d_X3_keyInLeaf_19 fk_RX3_9 sh_11 rfl (by decide) (R 11 rfl) ?_
      refine r_iload_n d_X3_keyInLeaf_22 rfl ?_
      refine r_iload d_X3_keyInLeaf_23 rfl ?_
      refine c_callVPi (a := 2) (z := 0) (as := [(0, a1), (0, a4)]) (rest := []) (ls' := [(10, 0), (0, a1), (0, a4)]) d_X3_keyInLeaf_25 ck_RX3_45 rfl sh_2 rfl (by decide) (R 2 rfl) rfl rfl (Nat.le_of_ble_eq_true rfl) (Nat.le_of_ble_eq_true rfl) (by decide) rfl rfl (fun Ψ hΨ => run_pI_item R _ _ rfl hΨ) ?_
      show Run Γ rg κ Y_X3_keyInLeaf 28 [(19, 0), (0, a1), (0, a2), (0, a3), (0, a4), (5, 0)] [(0, (pI_item a1 a4 D))] D Φ
      refine c_lt d_X3_keyInLeaf_28 (by decide) rfl h (fun x1 h => ?_)
      show Run Γ rg κ Y_X3_keyInLeaf 30 [(19, 0), (0, a1), (0, a2), (0, a3), (0, a4), (0, x1)] [] D Φ
      refine r_iload d_X3_keyInLeaf_30 rfl ?_
      refine r_bipush d_X3_keyInLeaf_32 (by decide) ?_
      refine c_idiv d_X3_keyInLeaf_34 (nz_w _) ⟨by decide, by decide⟩ (by decide) ?_
      refine r_iload_n d_X3_keyInLeaf_35 rfl ?_
      refine c_callSPi (as := [(0, a2)]) (rest := [(0, (Int.tdiv (w32 x1) 80))]) (ls' := [(0, a2)]) d_X3_keyInLeaf_36 ck_RX3_19 rfl rfl rfl (Nat.le_of_ble_eq_true rfl) (Nat.le_of_ble_eq_true rfl) (by decide) rfl rfl (fun Ψ hΨ => run_pL_rankOf R _ rfl hΨ) ?_
      show Run Γ rg κ Y_X3_keyInLeaf 39 [(19, 0), (0, a1), (0, a2), (0, a3), (0, a4), (0, x1)] [(0, (pL_rankOf a2)), (0, (Int.tdiv (w32 x1) 80))] D Φ
      show Run Γ rg κ Y_X3_keyInLeaf 39 [(19, 0), (0, a1), (0, a2), (0, a3), (0, a4), (0, x1)] [(0, (pL_rankOf a2)), (0, (Int.tdiv (w32 x1) 80))] D Φ
      refine c_icmp_ne (tgt := 48) d_X3_keyInLeaf_39 (by decide) (nz_w _) (nz_w _) h (fun h => ?_) (fun h => ?_)
      · skip
        show Run Γ rg κ Y_X3_keyInLeaf 48 [(19, 0), (0, a1), (0, a2), (0, a3), (0, a4), (0, x1)] [] D Φ
        refine r_iinc d_X3_keyInLeaf_48 rfl (by decide) rfl ?_
        show Run Γ rg κ Y_X3_keyInLeaf 51 [(19, 0), (0, a1), (0, a2), (0, a3), (0, (a4 + 1)), (0, x1)] [] D Φ
        refine r_goto (tgt := 12) d_X3_keyInLeaf_51 (by decide) ?_
        exact Run.forget (ls' := [(19, 0), (0, a1), (0, a2), (0, a3), (0, (a4 + 1)), (5, 0)]) ⟨Or.inr rfl, Or.inr rfl, Or.inr rfl, Or.inr rfl, Or.inr rfl, Or.inl rfl, trivial⟩ (ih (a4 + 1) D h)
      · skip
        exact Run.forget (ls' := [(5, 0), (5, 0), (5, 0), (5, 0), (5, 0), (0, x1)]) ⟨Or.inl rfl, Or.inl rfl, Or.inl rfl, Or.inl rfl, Or.inl rfl, Or.inr rfl, trivial⟩ (hK x1 D h)
set_option maxRecDepth 20000 in
theorem run_pL_keyInLeaf {Γ : GG} {rg : Nat → Bool} {κ : Nat} {Φ : OT → DD → Prop} (R : cov rg rg0) (p1 : Int) (p2 : Int) {D : DD} (h : WP (some .int) κ Φ (pL_keyInLeaf p1 p2 D)) : Run Γ rg κ Y_X3_keyInLeaf 0 [(19, 0), (0, p1), (0, p2), (5, 0), (5, 0), (5, 0)] [] D Φ := by
  unfold pL_keyInLeaf at h
  show Run Γ rg κ Y_X3_keyInLeaf 0 [(19, 0), (0, p1), (0, p2), (5, 0), (5, 0), (5, 0)] [] D Φ
  refine r_aload_n d_X3_keyInLeaf_0 rfl (by decide) ?_
  refine r_getR (t := 2) d_X3_keyInLeaf_1 fk_RX3_9 sh_11 rfl (by decide) (R 11 rfl) ?_
  refine r_iload_n d_X3_keyInLeaf_4 rfl ?_
  refine c_callVPi (a := 2) (z := 0) (as := [(0, p1)]) (rest := []) (ls' := [(10, 0), (0, p1)]) d_X3_keyInLeaf_5 ck_RX3_32 rfl sh_2 rfl (by decide) (R 2 rfl) rfl rfl (Nat.le_of_ble_eq_true rfl) (Nat.le_of_ble_eq_true rfl) (by decide) rfl rfl (fun Ψ hΨ => run_pI_itemCount R _ rfl hΨ) ?_
  show Run Γ rg κ Y_X3_keyInLeaf 8 [(19, 0), (0, p1), (0, p2), (5, 0), (5, 0), (5, 0)] [(0, (pI_itemCount p1 D))] D Φ
  refine c_lt_n d_X3_keyInLeaf_8 (by decide) rfl h (fun x1 h => ?_)
  show Run Γ rg κ Y_X3_keyInLeaf 9 [(19, 0), (0, p1), (0, p2), (0, x1), (5, 0), (5, 0)] [] D Φ
  refine r_iconst d_X3_keyInLeaf_9 ?_
  refine r_istore d_X3_keyInLeaf_10 (by decide) rfl ?_
  show Run Γ rg κ Y_X3_keyInLeaf 12 [(19, 0), (0, p1), (0, p2), (0, x1), (0, 0), (5, 0)] [] D Φ
  refine run_pL_keyInLeaf_12 R p1 p2 x1 ?_ fu 0 D h
  intro x2 D1 h
  show Run Γ rg κ Y_X3_keyInLeaf 42 [(5, 0), (5, 0), (5, 0), (5, 0), (5, 0), (0, x2)] [] D1 Φ
  refine r_iload d_X3_keyInLeaf_42 rfl ?_
  refine r_bipush d_X3_keyInLeaf_44 (by decide) ?_
  refine c_irem d_X3_keyInLeaf_46 (nz_w _) ⟨by decide, by decide⟩ (by decide) ?_
  exact c_iret d_X3_keyInLeaf_47 rfl h
set_option maxRecDepth 20000 in
theorem run_pL_subkeyNamed_9 {Γ : GG} {rg : Nat → Bool} {κ : Nat} {Φ : OT → DD → Prop} (R : cov rg rg0) (a1 : Int) (a2 : Int) (a3 : Int) : ∀ (n : Nat) (a4 : Int) (D : DD), WP (some .int) κ Φ (pL_subkeyNamed_9 a1 a2 a3 n a4 D) → Run Γ rg κ Y_X3_subkeyNamed 9 [(19, 0), (0, a1), (0, a2), (0, a3), (0, a4), (5, 0)] [] D Φ := by
  intro n
  induction n with
  | zero => intro a4 D h; exact h.no.elim
  | succ n ih =>
    intro a4 D h
    rw [pL_subkeyNamed_9] at h
    show Run Γ rg κ Y_X3_subkeyNamed 9 [(19, 0), (0, a1), (0, a2), (0, a3), (0, a4), (5, 0)] [] D Φ
    refine r_iload d_X3_subkeyNamed_9 rfl ?_
    refine r_iload_n d_X3_subkeyNamed_11 rfl ?_
    refine c_icmp_ge (tgt := 44) d_X3_subkeyNamed_12 (by decide) (nz_w _) (nz_w _) h (fun h => ?_) (fun h => ?_)
    · skip
      show Run Γ rg κ Y_X3_subkeyNamed 44 [(19, 0), (0, a1), (0, a2), (0, a3), (0, a4), (5, 0)] [] D Φ
      refine r_iconst d_X3_subkeyNamed_44 ?_
      exact c_iret d_X3_subkeyNamed_45 rfl h
    · skip
      show Run Γ rg κ Y_X3_subkeyNamed 15 [(19, 0), (0, a1), (0, a2), (0, a3), (0, a4), (5, 0)] [] D Φ
      refine r_aload_n d_X3_subkeyNamed_15 rfl (by decide) ?_
      refine r_aload_n d_X3_subkeyNamed_16 rfl (by decide) ?_
      refine r_iload_n d_X3_subkeyNamed_17 rfl ?_
      refine r_iload d_X3_subkeyNamed_18 rfl ?_
      refine c_callVPi (a := 11) (z := 0) (as := [(0, a1), (0, a4)]) (rest := [(19, 0)]) (ls' := [(19, 0), (0, a1), (0, a4), (5, 0)]) d_X3_subkeyNamed_20 ck_RX3_38 rfl sh_11 rfl (by decide) (R 11 rfl) rfl rfl (Nat.le_of_ble_eq_true rfl) (Nat.le_of_ble_eq_true rfl) (by decide) rfl rfl (fun Ψ hΨ => run_pL_leafNumbered R _ _ rfl hΨ) ?_
      show Run Γ rg κ Y_X3_subkeyNamed 23 [(19, 0), (0, a1), (0, a2), (0, a3), (0, a4), (5, 0)] [(0, (pL_leafNumbered a1 a4 D)), (19, 0)] D Φ
      refine r_iload_n d_X3_subkeyNamed_23 rfl ?_
      refine c_callVi (t' := (some .int)) (a := 11) (z := 0) (as := [(0, (pL_leafNumbered a1 a4 D)), (0, a2)]) (rest := []) (ls' := [(19, 0), (0, (pL_leafNumbered a1 a4 D)), (0, a2), (5, 0), (5, 0), (5, 0)]) d_X3_subkeyNamed_24 ck_RX3_42 rfl sh_11 rfl (by decide) (R 11 rfl) rfl rfl (Nat.le_of_ble_eq_true rfl) (Nat.le_of_ble_eq_true rfl) (by decide) rfl rfl (fun _ => rfl) (fun κ' Ψ hΨ => run_pL_keyInLeaf R _ _ hΨ) h (fun v1 D1 h => ?_)
      show Run Γ rg κ Y_X3_subkeyNamed 27 [(19, 0), (0, a1), (0, a2), (0, a3), (0, a4), (5, 0)] [(0, v1)] D1 Φ
      refine r_istore d_X3_subkeyNamed_27 (by decide) rfl ?_
      show Run Γ rg κ Y_X3_subkeyNamed 29 [(19, 0), (0, a1), (0, a2), (0, a3), (0, a4), (0, v1)] [] D1 Φ
      refine r_iload d_X3_subkeyNamed_29 rfl ?_
      refine r_iconst d_X3_subkeyNamed_31 ?_
      refine c_icmp_eq (tgt := 38) d_X3_subkeyNamed_32 (by decide) (nz_w _) (nz_k rfl) h (fun h => ?_) (fun h => ?_)
      · skip
        show Run Γ rg κ Y_X3_subkeyNamed 38 [(19, 0), (0, a1), (0, a2), (0, a3), (0, a4), (0, v1)] [] D1 Φ
        refine r_iinc d_X3_subkeyNamed_38 rfl (by decide) rfl ?_
        show Run Γ rg κ Y_X3_subkeyNamed 41 [(19, 0), (0, a1), (0, a2), (0, a3), (0, (a4 + 1)), (0, v1)] [] D1 Φ
        refine r_goto (tgt := 9) d_X3_subkeyNamed_41 (by decide) ?_
        exact Run.forget (ls' := [(19, 0), (0, a1), (0, a2), (0, a3), (0, (a4 + 1)), (5, 0)]) ⟨Or.inr rfl, Or.inr rfl, Or.inr rfl, Or.inr rfl, Or.inr rfl, Or.inl rfl, trivial⟩ (ih (a4 + 1) D1 h)
      · skip
        show Run Γ rg κ Y_X3_subkeyNamed 35 [(19, 0), (0, a1), (0, a2), (0, a3), (0, a4), (0, v1)] [] D1 Φ
        refine r_iload d_X3_subkeyNamed_35 rfl ?_
        exact c_iret d_X3_subkeyNamed_37 rfl h
set_option maxRecDepth 20000 in
theorem run_pL_subkeyNamed {Γ : GG} {rg : Nat → Bool} {κ : Nat} {Φ : OT → DD → Prop} (R : cov rg rg0) (p1 : Int) (p2 : Int) {D : DD} (h : WP (some .int) κ Φ (pL_subkeyNamed p1 p2 D)) : Run Γ rg κ Y_X3_subkeyNamed 0 [(19, 0), (0, p1), (0, p2), (5, 0), (5, 0), (5, 0)] [] D Φ := by
  unfold pL_subkeyNamed at h
  show Run Γ rg κ Y_X3_subkeyNamed 0 [(19, 0), (0, p1), (0, p2), (5, 0), (5, 0), (5, 0)] [] D Φ
  refine r_aload_n d_X3_subkeyNamed_0 rfl (by decide) ?_
  refine r_iload_n d_X3_subkeyNamed_1 rfl ?_
  refine c_callVPi (a := 11) (z := 0) (as := [(0, p1)]) (rest := []) (ls' := [(19, 0), (0, p1), (5, 0)]) d_X3_subkeyNamed_2 ck_RX3_35 rfl sh_11 rfl (by decide) (R 11 rfl) rfl rfl (Nat.le_of_ble_eq_true rfl) (Nat.le_of_ble_eq_true rfl) (by decide) rfl rfl (fun Ψ hΨ => run_pL_leafCount R _ rfl hΨ) ?_
  show Run Γ rg κ Y_X3_subkeyNamed 5 [(19, 0), (0, p1), (0, p2), (5, 0), (5, 0), (5, 0)] [(0, (pL_leafCount p1 D))] D Φ
  refine c_lt_n d_X3_subkeyNamed_5 (by decide) rfl h (fun x1 h => ?_)
  show Run Γ rg κ Y_X3_subkeyNamed 6 [(19, 0), (0, p1), (0, p2), (0, x1), (5, 0), (5, 0)] [] D Φ
  refine r_iconst d_X3_subkeyNamed_6 ?_
  refine r_istore d_X3_subkeyNamed_7 (by decide) rfl ?_
  show Run Γ rg κ Y_X3_subkeyNamed 9 [(19, 0), (0, p1), (0, p2), (0, x1), (0, 0), (5, 0)] [] D Φ
  exact run_pL_subkeyNamed_9 R p1 p2 x1 fu 0 D h
set_option maxRecDepth 20000 in
theorem run_pH_find {Γ : GG} {rg : Nat → Bool} {κ : Nat} {Φ : OT → DD → Prop} (R : cov rg rg0) (p1 : Int) (p2 : Int) {D : DD} (h : WP (some .int) κ Φ (pH_find p1 p2 D)) : Run Γ rg κ Y_X7_find 0 [(8, 0), (0, p1), (0, p2)] [] D Φ := by
  unfold pH_find at h
  show Run Γ rg κ Y_X7_find 0 [(8, 0), (0, p1), (0, p2)] [] D Φ
  refine r_aload_n d_X7_find_0 rfl (by decide) ?_
  refine r_iload_n d_X7_find_1 rfl ?_
  refine c_callVv (a := 0) (z := 0) (as := [(0, p1)]) (rest := []) (ls' := [(8, 0), (0, p1)]) d_X7_find_2 ck_RX7_95 rfl sh_0 rfl (by decide) (R 0 rfl) rfl rfl (Nat.le_of_ble_eq_true rfl) (Nat.le_of_ble_eq_true rfl) (by decide) rfl rfl (fun κ' Ψ hΨ => run_pH_requireKey R _ hΨ) h (fun _ D1 h => ?_)
  show Run Γ rg κ Y_X7_find 5 [(8, 0), (0, p1), (0, p2)] [] D1 Φ
  refine r_iload_n d_X7_find_5 rfl ?_
  refine c_callSv (as := [(0, p2)]) (rest := []) (ls' := [(0, p2)]) d_X7_find_6 ck_RX7_98 rfl rfl rfl (Nat.le_of_ble_eq_true rfl) (Nat.le_of_ble_eq_true rfl) (by decide) rfl rfl (fun κ' Ψ hΨ => run_pH_requireName R _ hΨ) h (fun _ D2 h => ?_)
  show Run Γ rg κ Y_X7_find 9 [(8, 0), (0, p1), (0, p2)] [] D2 Φ
  refine r_aload_n d_X7_find_9 rfl (by decide) ?_
  refine r_getR (t := 11) d_X7_find_10 fk_RX7_34 sh_0 rfl (by decide) (R 0 rfl) ?_
  refine r_aload_n d_X7_find_13 rfl (by decide) ?_
  refine r_getR (t := 2) d_X7_find_14 fk_RX7_21 sh_0 rfl (by decide) (R 0 rfl) ?_
  refine r_iload_n d_X7_find_17 rfl ?_
  refine c_callVPi (a := 2) (z := 0) (as := [(0, p1)]) (rest := [(19, 0)]) (ls' := [(10, 0), (0, p1)]) d_X7_find_18 ck_RX7_108 rfl sh_2 rfl (by decide) (R 2 rfl) rfl rfl (Nat.le_of_ble_eq_true rfl) (Nat.le_of_ble_eq_true rfl) (by decide) rfl rfl (fun Ψ hΨ => run_pI_placeOfKey R _ rfl hΨ) ?_
  show Run Γ rg κ Y_X7_find 21 [(8, 0), (0, p1), (0, p2)] [(0, (pI_placeOfKey p1 D2)), (19, 0)] D2 Φ
  show Run Γ rg κ Y_X7_find 21 [(8, 0), (0, p1), (0, p2)] [(0, (pI_placeOfKey p1 D2)), (19, 0)] D2 Φ
  refine r_iload_n d_X7_find_21 rfl ?_
  refine c_callVi (t' := (some .int)) (a := 11) (z := 0) (as := [(0, (pI_placeOfKey p1 D2)), (0, p2)]) (rest := []) (ls' := [(19, 0), (0, (pI_placeOfKey p1 D2)), (0, p2), (5, 0), (5, 0), (5, 0)]) d_X7_find_22 ck_RX7_167 rfl sh_11 rfl (by decide) (R 11 rfl) rfl rfl (Nat.le_of_ble_eq_true rfl) (Nat.le_of_ble_eq_true rfl) (by decide) rfl rfl (fun _ => rfl) (fun κ' Ψ hΨ => run_pL_subkeyNamed R _ _ hΨ) h (fun v1 D3 h => ?_)
  show Run Γ rg κ Y_X7_find 25 [(8, 0), (0, p1), (0, p2)] [(0, v1)] D3 Φ
  exact c_iret d_X7_find_25 rfl h
set_option maxRecDepth 20000 in
theorem run_pH_isLink {Γ : GG} {rg : Nat → Bool} {κ : Nat} {Φ : OT → DD → Prop} (R : cov rg rg0) (p1 : Int) {D : DD} {x : Int} (h : EQx x (pH_isLink p1 D)) (hΦ : Φ (.inl (some (0, x))) D) : Run Γ rg κ Y_X7_isLink 0 [(8, 0), (0, p1)] [] D Φ := by
  unfold pH_isLink at h
  show Run Γ rg κ Y_X7_isLink 0 [(8, 0), (0, p1)] [] D Φ
  refine r_aload_n d_X7_isLink_0 rfl (by decide) ?_
  refine r_iload_n d_X7_isLink_1 rfl ?_
  refine c_callVPi (a := 0) (z := 0) (as := [(0, p1)]) (rest := []) (ls' := [(8, 0), (0, p1)]) d_X7_isLink_2 ck_RX7_189 rfl sh_0 rfl (by decide) (R 0 rfl) rfl rfl (Nat.le_of_ble_eq_true rfl) (Nat.le_of_ble_eq_true rfl) (by decide) rfl rfl (fun Ψ hΨ => run_pH_hasKey R _ rfl hΨ) ?_
  show Run Γ rg κ Y_X7_isLink 5 [(8, 0), (0, p1)] [(0, (pH_hasKey p1 D))] D Φ
  refine c_if_eq (tgt := 33) d_X7_isLink_5 (by decide) (nz_b (pH_hasKey_b p1 D)) h (fun h => ?_) (fun h => ?_)
  · skip
    show Run Γ rg κ Y_X7_isLink 33 [(8, 0), (0, p1)] [] D Φ
    refine r_iconst d_X7_isLink_33 ?_
    exact e_zret d_X7_isLink_34 rfl (Or.inl rfl) h hΦ
  · skip
    show Run Γ rg κ Y_X7_isLink 8 [(8, 0), (0, p1)] [] D Φ
    refine r_aload_n d_X7_isLink_8 rfl (by decide) ?_
    refine r_getR (t := 2) d_X7_isLink_9 fk_RX7_21 sh_0 rfl (by decide) (R 0 rfl) ?_
    refine r_aload_n d_X7_isLink_12 rfl (by decide) ?_
    refine r_getR (t := 2) d_X7_isLink_13 fk_RX7_21 sh_0 rfl (by decide) (R 0 rfl) ?_
    refine r_iload_n d_X7_isLink_16 rfl ?_
    refine c_callVPi (a := 2) (z := 0) (as := [(0, p1)]) (rest := [(10, 0)]) (ls' := [(10, 0), (0, p1)]) d_X7_isLink_17 ck_RX7_108 rfl sh_2 rfl (by decide) (R 2 rfl) rfl rfl (Nat.le_of_ble_eq_true rfl) (Nat.le_of_ble_eq_true rfl) (by decide) rfl rfl (fun Ψ hΨ => run_pI_placeOfKey R _ rfl hΨ) ?_
    show Run Γ rg κ Y_X7_isLink 20 [(8, 0), (0, p1)] [(0, (pI_placeOfKey p1 D)), (10, 0)] D Φ
    refine r_iconst d_X7_isLink_20 ?_
    refine r_iadd d_X7_isLink_21 ?_
    refine c_callVPi (a := 2) (z := 0) (as := [(0, ((pI_placeOfKey p1 D) + 5))]) (rest := []) (ls' := [(10, 0), (0, ((pI_placeOfKey p1 D) + 5))]) d_X7_isLink_22 ck_RX7_111 rfl sh_2 rfl (by decide) (R 2 rfl) rfl rfl (Nat.le_of_ble_eq_true rfl) (Nat.le_of_ble_eq_true rfl) (by decide) rfl rfl (fun Ψ hΨ => run_pI_unitAt R _ rfl hΨ) ?_
    show Run Γ rg κ Y_X7_isLink 25 [(8, 0), (0, p1)] [(0, (pI_unitAt ((pI_placeOfKey p1 D) + 5) D))] D Φ
    refine r_iconst d_X7_isLink_25 ?_
    refine c_icmp_eq (tgt := 33) d_X7_isLink_26 (by decide) (nz_w _) (nz_k rfl) h (fun h => ?_) (fun h => ?_)
    · skip
      show Run Γ rg κ Y_X7_isLink 33 [(8, 0), (0, p1)] [] D Φ
      refine r_iconst d_X7_isLink_33 ?_
      exact e_zret d_X7_isLink_34 rfl (Or.inl rfl) h hΦ
    · skip
      show Run Γ rg κ Y_X7_isLink 29 [(8, 0), (0, p1)] [] D Φ
      refine r_iconst d_X7_isLink_29 ?_
      refine r_goto (tgt := 34) d_X7_isLink_30 (by decide) ?_
      show Run Γ rg κ Y_X7_isLink 34 [(8, 0), (0, p1)] [(0, 1)] D Φ
      exact e_zret d_X7_isLink_34 rfl (Or.inr rfl) h hΦ
set_option maxRecDepth 20000 in
theorem run_pH_follow_9 {Γ : GG} {rg : Nat → Bool} {κ : Nat} {Φ : OT → DD → Prop} (R : cov rg rg0) {K : Int → DD → Res} (hK : ∀ (z2 : Int) (D : DD), WP (some .int) κ Φ (K z2 D) → Run Γ rg κ Y_X7_follow 46 [(8, 0), (5, 0), (0, z2), (5, 0)] [] D Φ) : ∀ (n : Nat) (a2 : Int) (a3 : Int) (D : DD), WP (some .int) κ Φ (pH_follow_9 n a2 a3 D K) → Run Γ rg κ Y_X7_follow 9 [(8, 0), (5, 0), (0, a2), (0, a3)] [] D Φ := by
  intro n
  induction n with
  | zero => intro a2 a3 D h; exact h.no.elim
  | succ n ih =>
    intro a2 a3 D h
    rw [pH_follow_9] at h
    show Run Γ rg κ Y_X7_follow 9 [(8, 0), (5, 0), (0, a2), (0, a3)] [] D Φ
    refine r_iload_n d_X7_follow_9 rfl ?_
    refine r_iconst d_X7_follow_10 ?_
    refine c_icmp_ge (tgt := 46) d_X7_follow_11 (by decide) (nz_w _) (nz_k rfl) h (fun h => ?_) (fun h => ?_)
    · skip
      exact Run.forget (ls' := [(8, 0), (5, 0), (0, a2), (5, 0)]) ⟨Or.inr rfl, Or.inr rfl, Or.inr rfl, Or.inl rfl, trivial⟩ (hK a2 D h)
    · skip
      show Run Γ rg κ Y_X7_follow 14 [(8, 0), (5, 0), (0, a2), (0, a3)] [] D Φ
      refine r_aload_n d_X7_follow_14 rfl (by decide) ?_
      refine r_iload_n d_X7_follow_15 rfl ?_
      refine c_callVPi (a := 0) (z := 0) (as := [(0, a2)]) (rest := []) (ls' := [(8, 0), (0, a2)]) d_X7_follow_16 ck_RX7_186 rfl sh_0 rfl (by decide) (R 0 rfl) rfl rfl (Nat.le_of_ble_eq_true rfl) (Nat.le_of_ble_eq_true rfl) (by decide) rfl rfl (fun Ψ hΨ => run_pH_isLink R _ rfl hΨ) ?_
      show Run Γ rg κ Y_X7_follow 19 [(8, 0), (5, 0), (0, a2), (0, a3)] [(0, (pH_isLink a2 D))] D Φ
      refine c_if_eq (tgt := 46) d_X7_follow_19 (by decide) (nz_b (pH_isLink_b a2 D)) h (fun h => ?_) (fun h => ?_)
      · skip
        exact Run.forget (ls' := [(8, 0), (5, 0), (0, a2), (5, 0)]) ⟨Or.inr rfl, Or.inr rfl, Or.inr rfl, Or.inl rfl, trivial⟩ (hK a2 D h)
      · skip
        show Run Γ rg κ Y_X7_follow 22 [(8, 0), (5, 0), (0, a2), (0, a3)] [] D Φ
        refine r_aload_n d_X7_follow_22 rfl (by decide) ?_
        refine r_getR (t := 2) d_X7_follow_23 fk_RX7_21 sh_0 rfl (by decide) (R 0 rfl) ?_
        refine r_aload_n d_X7_follow_26 rfl (by decide) ?_
        refine r_getR (t := 2) d_X7_follow_27 fk_RX7_21 sh_0 rfl (by decide) (R 0 rfl) ?_
        refine r_iload_n d_X7_follow_30 rfl ?_
        refine c_callVPi (a := 2) (z := 0) (as := [(0, a2)]) (rest := [(10, 0)]) (ls' := [(10, 0), (0, a2)]) d_X7_follow_31 ck_RX7_108 rfl sh_2 rfl (by decide) (R 2 rfl) rfl rfl (Nat.le_of_ble_eq_true rfl) (Nat.le_of_ble_eq_true rfl) (by decide) rfl rfl (fun Ψ hΨ => run_pI_placeOfKey R _ rfl hΨ) ?_
        show Run Γ rg κ Y_X7_follow 34 [(8, 0), (5, 0), (0, a2), (0, a3)] [(0, (pI_placeOfKey a2 D)), (10, 0)] D Φ
        refine r_iconst d_X7_follow_34 ?_
        refine r_iadd d_X7_follow_35 ?_
        refine c_callVPi (a := 2) (z := 0) (as := [(0, ((pI_placeOfKey a2 D) + 5))]) (rest := []) (ls' := [(10, 0), (0, ((pI_placeOfKey a2 D) + 5))]) d_X7_follow_36 ck_RX7_111 rfl sh_2 rfl (by decide) (R 2 rfl) rfl rfl (Nat.le_of_ble_eq_true rfl) (Nat.le_of_ble_eq_true rfl) (by decide) rfl rfl (fun Ψ hΨ => run_pI_unitAt R _ rfl hΨ) ?_
        show Run Γ rg κ Y_X7_follow 39 [(8, 0), (5, 0), (0, a2), (0, a3)] [(0, (pI_unitAt ((pI_placeOfKey a2 D) + 5) D))] D Φ
        refine c_lt_n d_X7_follow_39 (by decide) rfl h (fun x1 h => ?_)
        show Run Γ rg κ Y_X7_follow 40 [(8, 0), (5, 0), (0, x1), (0, a3)] [] D Φ
        refine r_iinc d_X7_follow_40 rfl (by decide) rfl ?_
        show Run Γ rg κ Y_X7_follow 43 [(8, 0), (5, 0), (0, x1), (0, (a3 + 1))] [] D Φ
        show Run Γ rg κ Y_X7_follow 43 [(8, 0), (5, 0), (0, x1), (0, (a3 + 1))] [] D Φ
        refine r_goto (tgt := 9) d_X7_follow_43 (by decide) ?_
        exact (ih x1 (a3 + 1) D h)
set_option maxRecDepth 20000 in
theorem run_pH_follow {Γ : GG} {rg : Nat → Bool} {κ : Nat} {Φ : OT → DD → Prop} (R : cov rg rg0) (p1 : Int) {D : DD} (h : WP (some .int) κ Φ (pH_follow p1 D)) : Run Γ rg κ Y_X7_follow 0 [(8, 0), (0, p1), (5, 0), (5, 0)] [] D Φ := by
  unfold pH_follow at h
  show Run Γ rg κ Y_X7_follow 0 [(8, 0), (0, p1), (5, 0), (5, 0)] [] D Φ
  refine r_aload_n d_X7_follow_0 rfl (by decide) ?_
  refine r_iload_n d_X7_follow_1 rfl ?_
  refine c_callVv (a := 0) (z := 0) (as := [(0, p1)]) (rest := []) (ls' := [(8, 0), (0, p1)]) d_X7_follow_2 ck_RX7_95 rfl sh_0 rfl (by decide) (R 0 rfl) rfl rfl (Nat.le_of_ble_eq_true rfl) (Nat.le_of_ble_eq_true rfl) (by decide) rfl rfl (fun κ' Ψ hΨ => run_pH_requireKey R _ hΨ) h (fun _ D1 h => ?_)
  show Run Γ rg κ Y_X7_follow 5 [(8, 0), (0, p1), (5, 0), (5, 0)] [] D1 Φ
  refine r_iload_n d_X7_follow_5 rfl ?_
  refine r_istore_n d_X7_follow_6 (by decide) rfl ?_
  show Run Γ rg κ Y_X7_follow 7 [(8, 0), (0, p1), (0, p1), (5, 0)] [] D1 Φ
  refine r_iconst d_X7_follow_7 ?_
  refine r_istore_n d_X7_follow_8 (by decide) rfl ?_
  show Run Γ rg κ Y_X7_follow 9 [(8, 0), (0, p1), (0, p1), (0, 0)] [] D1 Φ
  refine Run.forget (ls' := [(8, 0), (5, 0), (0, p1), (0, 0)]) ⟨Or.inr rfl, Or.inl rfl, Or.inr rfl, Or.inr rfl, trivial⟩ ?_
  refine run_pH_follow_9 R ?_ fu p1 0 D1 h
  intro x1 D2 h
  show Run Γ rg κ Y_X7_follow 46 [(8, 0), (5, 0), (0, x1), (5, 0)] [] D2 Φ
  refine r_aload_n d_X7_follow_46 rfl (by decide) ?_
  refine r_iload_n d_X7_follow_47 rfl ?_
  refine c_callVPi (a := 0) (z := 0) (as := [(0, x1)]) (rest := []) (ls' := [(8, 0), (0, x1)]) d_X7_follow_48 ck_RX7_189 rfl sh_0 rfl (by decide) (R 0 rfl) rfl rfl (Nat.le_of_ble_eq_true rfl) (Nat.le_of_ble_eq_true rfl) (by decide) rfl rfl (fun Ψ hΨ => run_pH_hasKey R _ rfl hΨ) ?_
  show Run Γ rg κ Y_X7_follow 51 [(8, 0), (5, 0), (0, x1), (5, 0)] [(0, (pH_hasKey x1 D2))] D2 Φ
  refine c_if_eq (tgt := 66) d_X7_follow_51 (by decide) (nz_b (pH_hasKey_b x1 D2)) h (fun h => ?_) (fun h => ?_)
  · skip
    show Run Γ rg κ Y_X7_follow 66 [(8, 0), (5, 0), (0, x1), (5, 0)] [] D2 Φ
    refine r_iconst d_X7_follow_66 ?_
    exact c_iret d_X7_follow_67 rfl h
  · skip
    show Run Γ rg κ Y_X7_follow 54 [(8, 0), (5, 0), (0, x1), (5, 0)] [] D2 Φ
    refine r_aload_n d_X7_follow_54 rfl (by decide) ?_
    refine r_iload_n d_X7_follow_55 rfl ?_
    refine c_callVPi (a := 0) (z := 0) (as := [(0, x1)]) (rest := []) (ls' := [(8, 0), (0, x1)]) d_X7_follow_56 ck_RX7_186 rfl sh_0 rfl (by decide) (R 0 rfl) rfl rfl (Nat.le_of_ble_eq_true rfl) (Nat.le_of_ble_eq_true rfl) (by decide) rfl rfl (fun Ψ hΨ => run_pH_isLink R _ rfl hΨ) ?_
    show Run Γ rg κ Y_X7_follow 59 [(8, 0), (5, 0), (0, x1), (5, 0)] [(0, (pH_isLink x1 D2))] D2 Φ
    refine c_if_ne (tgt := 66) d_X7_follow_59 (by decide) (nz_b (pH_isLink_b x1 D2)) h (fun h => ?_) (fun h => ?_)
    · skip
      show Run Γ rg κ Y_X7_follow 66 [(8, 0), (5, 0), (0, x1), (5, 0)] [] D2 Φ
      refine r_iconst d_X7_follow_66 ?_
      exact c_iret d_X7_follow_67 rfl h
    · skip
      show Run Γ rg κ Y_X7_follow 62 [(8, 0), (5, 0), (0, x1), (5, 0)] [] D2 Φ
      refine r_iload_n d_X7_follow_62 rfl ?_
      refine r_goto (tgt := 67) d_X7_follow_63 (by decide) ?_
      show Run Γ rg κ Y_X7_follow 67 [(8, 0), (5, 0), (0, x1), (5, 0)] [(0, x1)] D2 Φ
      exact c_iret d_X7_follow_67 rfl h
set_option maxRecDepth 20000 in
theorem run_pH_place {Γ : GG} {rg : Nat → Bool} {κ : Nat} {Φ : OT → DD → Prop} (R : cov rg rg0) (p1 : Int) {D : DD} (h : WP (some .int) κ Φ (pH_place p1 D)) : Run Γ rg κ Y_X7_place 0 [(8, 0), (0, p1)] [] D Φ := by
  unfold pH_place at h
  show Run Γ rg κ Y_X7_place 0 [(8, 0), (0, p1)] [] D Φ
  refine r_aload_n d_X7_place_0 rfl (by decide) ?_
  refine r_iload_n d_X7_place_1 rfl ?_
  refine c_callVv (a := 0) (z := 0) (as := [(0, p1)]) (rest := []) (ls' := [(8, 0), (0, p1)]) d_X7_place_2 ck_RX7_95 rfl sh_0 rfl (by decide) (R 0 rfl) rfl rfl (Nat.le_of_ble_eq_true rfl) (Nat.le_of_ble_eq_true rfl) (by decide) rfl rfl (fun κ' Ψ hΨ => run_pH_requireKey R _ hΨ) h (fun _ D1 h => ?_)
  show Run Γ rg κ Y_X7_place 5 [(8, 0), (0, p1)] [] D1 Φ
  refine r_aload_n d_X7_place_5 rfl (by decide) ?_
  refine r_getR (t := 2) d_X7_place_6 fk_RX7_21 sh_0 rfl (by decide) (R 0 rfl) ?_
  refine r_iload_n d_X7_place_9 rfl ?_
  refine c_callVPi (a := 2) (z := 0) (as := [(0, p1)]) (rest := []) (ls' := [(10, 0), (0, p1)]) d_X7_place_10 ck_RX7_108 rfl sh_2 rfl (by decide) (R 2 rfl) rfl rfl (Nat.le_of_ble_eq_true rfl) (Nat.le_of_ble_eq_true rfl) (by decide) rfl rfl (fun Ψ hΨ => run_pI_placeOfKey R _ rfl hΨ) ?_
  show Run Γ rg κ Y_X7_place 13 [(8, 0), (0, p1)] [(0, (pI_placeOfKey p1 D1))] D1 Φ
  exact c_iret d_X7_place_13 rfl h
set_option maxRecDepth 20000 in
theorem run_pL_subkeyNumbered_12 {Γ : GG} {rg : Nat → Bool} {κ : Nat} {Φ : OT → DD → Prop} (R : cov rg rg0) (a1 : Int) (a3 : Int) {K : Int → Int → DD → Res} (hK : ∀ (z4 : Int) (z6 : Int) (D : DD), WP (some .int) κ Φ (K z4 z6 D) → Run Γ rg κ Y_X3_subkeyNumbered 41 [(19, 0), (5, 0), (5, 0), (5, 0), (0, z4), (5, 0), (0, z6)] [] D Φ) : ∀ (n : Nat) (a4 : Int) (a5 : Int) (D : DD), WP (some .int) κ Φ (pL_subkeyNumbered_12 a1 a3 n a4 a5 D K) → Run Γ rg κ Y_X3_subkeyNumbered 12 [(19, 0), (0, a1), (5, 0), (0, a3), (0, a4), (0, a5), (5, 0)] [] D Φ := by
  intro n
  induction n with
  | zero => intro a4 a5 D h; exact h.no.elim
  | succ n ih =>
    intro a4 a5 D h
    rw [pL_subkeyNumbered_12] at h
    show Run Γ rg κ Y_X3_subkeyNumbered 12 [(19, 0), (0, a1), (5, 0), (0, a3), (0, a4), (0, a5), (5, 0)] [] D Φ
    refine r_iload d_X3_subkeyNumbered_12 rfl ?_
    refine r_iload_n d_X3_subkeyNumbered_14 rfl ?_
    refine c_icmp_ge (tgt := 76) d_X3_subkeyNumbered_15 (by decide) (nz_w _) (nz_w _) h (fun h => ?_) (fun h => ?_)
    · skip
      show Run Γ rg κ Y_X3_subkeyNumbered 76 [(19, 0), (0, a1), (5, 0), (0, a3), (0, a4), (0, a5), (5, 0)] [] D Φ
      refine r_iconst d_X3_subkeyNumbered_76 ?_
      exact c_iret d_X3_subkeyNumbered_77 rfl h
    · skip
      show Run Γ rg κ Y_X3_subkeyNumbered 18 [(19, 0), (0, a1), (5, 0), (0, a3), (0, a4), (0, a5), (5, 0)] [] D Φ
      refine r_aload_n d_X3_subkeyNumbered_18 rfl (by decide) ?_
      refine r_iload_n d_X3_subkeyNumbered_19 rfl ?_
      refine r_iload d_X3_subkeyNumbered_20 rfl ?_
      refine c_callVPi (a := 11) (z := 0) (as := [(0, a1), (0, a5)]) (rest := []) (ls' := [(19, 0), (0, a1), (0, a5), (5, 0)]) d_X3_subkeyNumbered_22 ck_RX3_38 rfl sh_11 rfl (by decide) (R 11 rfl) rfl rfl (Nat.le_of_ble_eq_true rfl) (Nat.le_of_ble_eq_true rfl) (by decide) rfl rfl (fun Ψ hΨ => run_pL_leafNumbered R _ _ rfl hΨ) ?_
      show Run Γ rg κ Y_X3_subkeyNumbered 25 [(19, 0), (0, a1), (5, 0), (0, a3), (0, a4), (0, a5), (5, 0)] [(0, (pL_leafNumbered a1 a5 D))] D Φ
      refine c_lt d_X3_subkeyNumbered_25 (by decide) rfl h (fun x1 h => ?_)
      show Run Γ rg κ Y_X3_subkeyNumbered 27 [(19, 0), (0, a1), (5, 0), (0, a3), (0, a4), (0, a5), (0, x1)] [] D Φ
      refine r_iload d_X3_subkeyNumbered_27 rfl ?_
      refine r_aload_n d_X3_subkeyNumbered_29 rfl (by decide) ?_
      refine r_getR (t := 2) d_X3_subkeyNumbered_30 fk_RX3_9 sh_11 rfl (by decide) (R 11 rfl) ?_
      refine r_iload d_X3_subkeyNumbered_33 rfl ?_
      refine c_callVPi (a := 2) (z := 0) (as := [(0, x1)]) (rest := [(0, a4)]) (ls' := [(10, 0), (0, x1)]) d_X3_subkeyNumbered_35 ck_RX3_32 rfl sh_2 rfl (by decide) (R 2 rfl) rfl rfl (Nat.le_of_ble_eq_true rfl) (Nat.le_of_ble_eq_true rfl) (by decide) rfl rfl (fun Ψ hΨ => run_pI_itemCount R _ rfl hΨ) ?_
      show Run Γ rg κ Y_X3_subkeyNumbered 38 [(19, 0), (0, a1), (5, 0), (0, a3), (0, a4), (0, a5), (0, x1)] [(0, (pI_itemCount x1 D)), (0, a4)] D Φ
      refine c_icmp_ge (tgt := 56) d_X3_subkeyNumbered_38 (by decide) (nz_w _) (nz_w _) h (fun h => ?_) (fun h => ?_)
      · skip
        show Run Γ rg κ Y_X3_subkeyNumbered 56 [(19, 0), (0, a1), (5, 0), (0, a3), (0, a4), (0, a5), (0, x1)] [] D Φ
        refine r_iload d_X3_subkeyNumbered_56 rfl ?_
        refine r_aload_n d_X3_subkeyNumbered_58 rfl (by decide) ?_
        refine r_getR (t := 2) d_X3_subkeyNumbered_59 fk_RX3_9 sh_11 rfl (by decide) (R 11 rfl) ?_
        refine r_iload d_X3_subkeyNumbered_62 rfl ?_
        refine c_callVPi (a := 2) (z := 0) (as := [(0, x1)]) (rest := [(0, a4)]) (ls' := [(10, 0), (0, x1)]) d_X3_subkeyNumbered_64 ck_RX3_32 rfl sh_2 rfl (by decide) (R 2 rfl) rfl rfl (Nat.le_of_ble_eq_true rfl) (Nat.le_of_ble_eq_true rfl) (by decide) rfl rfl (fun Ψ hΨ => run_pI_itemCount R _ rfl hΨ) ?_
        show Run Γ rg κ Y_X3_subkeyNumbered 67 [(19, 0), (0, a1), (5, 0), (0, a3), (0, a4), (0, a5), (0, x1)] [(0, (pI_itemCount x1 D)), (0, a4)] D Φ
        refine r_isub d_X3_subkeyNumbered_67 ?_
        refine c_lt d_X3_subkeyNumbered_68 (by decide) rfl h (fun x2 h => ?_)
        show Run Γ rg κ Y_X3_subkeyNumbered 70 [(19, 0), (0, a1), (5, 0), (0, a3), (0, x2), (0, a5), (0, x1)] [] D Φ
        refine r_iinc d_X3_subkeyNumbered_70 rfl (by decide) rfl ?_
        show Run Γ rg κ Y_X3_subkeyNumbered 73 [(19, 0), (0, a1), (5, 0), (0, a3), (0, x2), (0, (a5 + 1)), (0, x1)] [] D Φ
        refine r_goto (tgt := 12) d_X3_subkeyNumbered_73 (by decide) ?_
        exact Run.forget (ls' := [(19, 0), (0, a1), (5, 0), (0, a3), (0, x2), (0, (a5 + 1)), (5, 0)]) ⟨Or.inr rfl, Or.inr rfl, Or.inr rfl, Or.inr rfl, Or.inr rfl, Or.inr rfl, Or.inl rfl, trivial⟩ (ih x2 (a5 + 1) D h)
      · skip
        exact Run.forget (ls' := [(19, 0), (5, 0), (5, 0), (5, 0), (0, a4), (5, 0), (0, x1)]) ⟨Or.inr rfl, Or.inl rfl, Or.inr rfl, Or.inl rfl, Or.inr rfl, Or.inl rfl, Or.inr rfl, trivial⟩ (hK a4 x1 D h)
set_option maxRecDepth 20000 in
theorem run_pL_subkeyNumbered {Γ : GG} {rg : Nat → Bool} {κ : Nat} {Φ : OT → DD → Prop} (R : cov rg rg0) (p1 : Int) (p2 : Int) {D : DD} (h : WP (some .int) κ Φ (pL_subkeyNumbered p1 p2 D)) : Run Γ rg κ Y_X3_subkeyNumbered 0 [(19, 0), (0, p1), (0, p2), (5, 0), (5, 0), (5, 0), (5, 0)] [] D Φ := by
  unfold pL_subkeyNumbered at h
  show Run Γ rg κ Y_X3_subkeyNumbered 0 [(19, 0), (0, p1), (0, p2), (5, 0), (5, 0), (5, 0), (5, 0)] [] D Φ
  refine r_aload_n d_X3_subkeyNumbered_0 rfl (by decide) ?_
  refine r_iload_n d_X3_subkeyNumbered_1 rfl ?_
  refine c_callVPi (a := 11) (z := 0) (as := [(0, p1)]) (rest := []) (ls' := [(19, 0), (0, p1), (5, 0)]) d_X3_subkeyNumbered_2 ck_RX3_35 rfl sh_11 rfl (by decide) (R 11 rfl) rfl rfl (Nat.le_of_ble_eq_true rfl) (Nat.le_of_ble_eq_true rfl) (by decide) rfl rfl (fun Ψ hΨ => run_pL_leafCount R _ rfl hΨ) ?_
  show Run Γ rg κ Y_X3_subkeyNumbered 5 [(19, 0), (0, p1), (0, p2), (5, 0), (5, 0), (5, 0), (5, 0)] [(0, (pL_leafCount p1 D))] D Φ
  refine c_lt_n d_X3_subkeyNumbered_5 (by decide) rfl h (fun x1 h => ?_)
  show Run Γ rg κ Y_X3_subkeyNumbered 6 [(19, 0), (0, p1), (0, p2), (0, x1), (5, 0), (5, 0), (5, 0)] [] D Φ
  refine r_iload_n d_X3_subkeyNumbered_6 rfl ?_
  refine r_istore d_X3_subkeyNumbered_7 (by decide) rfl ?_
  show Run Γ rg κ Y_X3_subkeyNumbered 9 [(19, 0), (0, p1), (0, p2), (0, x1), (0, p2), (5, 0), (5, 0)] [] D Φ
  refine r_iconst d_X3_subkeyNumbered_9 ?_
  refine r_istore d_X3_subkeyNumbered_10 (by decide) rfl ?_
  show Run Γ rg κ Y_X3_subkeyNumbered 12 [(19, 0), (0, p1), (0, p2), (0, x1), (0, p2), (0, 0), (5, 0)] [] D Φ
  refine Run.forget (ls' := [(19, 0), (0, p1), (5, 0), (0, x1), (0, p2), (0, 0), (5, 0)]) ⟨Or.inr rfl, Or.inr rfl, Or.inl rfl, Or.inr rfl, Or.inr rfl, Or.inr rfl, Or.inr rfl, trivial⟩ ?_
  refine run_pL_subkeyNumbered_12 R p1 x1 ?_ fu p2 0 D h
  intro x2 x3 D1 h
  show Run Γ rg κ Y_X3_subkeyNumbered 41 [(19, 0), (5, 0), (5, 0), (5, 0), (0, x2), (5, 0), (0, x3)] [] D1 Φ
  refine r_aload_n d_X3_subkeyNumbered_41 rfl (by decide) ?_
  refine r_getR (t := 2) d_X3_subkeyNumbered_42 fk_RX3_9 sh_11 rfl (by decide) (R 11 rfl) ?_
  refine r_iload d_X3_subkeyNumbered_45 rfl ?_
  refine r_iload d_X3_subkeyNumbered_47 rfl ?_
  refine c_callVPi (a := 2) (z := 0) (as := [(0, x3), (0, x2)]) (rest := []) (ls' := [(10, 0), (0, x3), (0, x2)]) d_X3_subkeyNumbered_49 ck_RX3_45 rfl sh_2 rfl (by decide) (R 2 rfl) rfl rfl (Nat.le_of_ble_eq_true rfl) (Nat.le_of_ble_eq_true rfl) (by decide) rfl rfl (fun Ψ hΨ => run_pI_item R _ _ rfl hΨ) ?_
  show Run Γ rg κ Y_X3_subkeyNumbered 52 [(19, 0), (5, 0), (5, 0), (5, 0), (0, x2), (5, 0), (0, x3)] [(0, (pI_item x3 x2 D1))] D1 Φ
  refine r_bipush d_X3_subkeyNumbered_52 (by decide) ?_
  refine c_irem d_X3_subkeyNumbered_54 (nz_w _) ⟨by decide, by decide⟩ (by decide) ?_
  exact c_iret d_X3_subkeyNumbered_55 rfl h
set_option maxRecDepth 20000 in
theorem run_pH_subkeyAt {Γ : GG} {rg : Nat → Bool} {κ : Nat} {Φ : OT → DD → Prop} (R : cov rg rg0) (p1 : Int) (p2 : Int) {D : DD} (h : WP (some .int) κ Φ (pH_subkeyAt p1 p2 D)) : Run Γ rg κ Y_X7_subkeyAt 0 [(8, 0), (0, p1), (0, p2), (5, 0)] [] D Φ := by
  unfold pH_subkeyAt at h
  show Run Γ rg κ Y_X7_subkeyAt 0 [(8, 0), (0, p1), (0, p2), (5, 0)] [] D Φ
  refine r_aload_n d_X7_subkeyAt_0 rfl (by decide) ?_
  refine r_iload_n d_X7_subkeyAt_1 rfl ?_
  refine c_callVv (a := 0) (z := 0) (as := [(0, p1)]) (rest := []) (ls' := [(8, 0), (0, p1)]) d_X7_subkeyAt_2 ck_RX7_95 rfl sh_0 rfl (by decide) (R 0 rfl) rfl rfl (Nat.le_of_ble_eq_true rfl) (Nat.le_of_ble_eq_true rfl) (by decide) rfl rfl (fun κ' Ψ hΨ => run_pH_requireKey R _ hΨ) h (fun _ D1 h => ?_)
  show Run Γ rg κ Y_X7_subkeyAt 5 [(8, 0), (0, p1), (0, p2), (5, 0)] [] D1 Φ
  refine r_aload_n d_X7_subkeyAt_5 rfl (by decide) ?_
  refine r_getR (t := 2) d_X7_subkeyAt_6 fk_RX7_21 sh_0 rfl (by decide) (R 0 rfl) ?_
  refine r_iload_n d_X7_subkeyAt_9 rfl ?_
  refine c_callVPi (a := 2) (z := 0) (as := [(0, p1)]) (rest := []) (ls' := [(10, 0), (0, p1)]) d_X7_subkeyAt_10 ck_RX7_108 rfl sh_2 rfl (by decide) (R 2 rfl) rfl rfl (Nat.le_of_ble_eq_true rfl) (Nat.le_of_ble_eq_true rfl) (by decide) rfl rfl (fun Ψ hΨ => run_pI_placeOfKey R _ rfl hΨ) ?_
  show Run Γ rg κ Y_X7_subkeyAt 13 [(8, 0), (0, p1), (0, p2), (5, 0)] [(0, (pI_placeOfKey p1 D1))] D1 Φ
  refine c_lt_n d_X7_subkeyAt_13 (by decide) rfl h (fun x1 h => ?_)
  show Run Γ rg κ Y_X7_subkeyAt 14 [(8, 0), (0, p1), (0, p2), (0, x1)] [] D1 Φ
  refine r_iload_n d_X7_subkeyAt_14 rfl ?_
  refine c_jn (fun J => ∀ (D2 : DD), WP (some .int) κ Φ (J D2) → Run Γ rg κ Y_X7_subkeyAt 30 [(5, 0), (5, 0), (5, 0), (5, 0)] [] D2 Φ) h ?_ (fun J1 hJ1 h => ?_)
  · intro D2 h
    show Run Γ rg κ Y_X7_subkeyAt 30 [(5, 0), (5, 0), (5, 0), (5, 0)] [] D2 Φ
    exact c_throw (text := "there is no such subkey") tk_RX7_173_177 (by decide +kernel) d_X7_subkeyAt_30 d_X7_subkeyAt_33 d_X7_subkeyAt_34 d_X7_subkeyAt_36 d_X7_subkeyAt_39 rfl (by decide) (Nat.le_of_ble_eq_true rfl) h
  refine c_if_lt (tgt := 30) d_X7_subkeyAt_15 (by decide) (nz_w _) h (fun h => ?_) (fun h => ?_)
  · skip
    exact Run.forget (ls' := [(5, 0), (5, 0), (5, 0), (5, 0)]) ⟨Or.inl rfl, Or.inl rfl, Or.inl rfl, Or.inl rfl, trivial⟩ (hJ1 D1 h)
  · skip
    show Run Γ rg κ Y_X7_subkeyAt 18 [(8, 0), (0, p1), (0, p2), (0, x1)] [] D1 Φ
    refine r_iload_n d_X7_subkeyAt_18 rfl ?_
    refine r_aload_n d_X7_subkeyAt_19 rfl (by decide) ?_
    refine r_getR (t := 11) d_X7_subkeyAt_20 fk_RX7_34 sh_0 rfl (by decide) (R 0 rfl) ?_
    refine r_iload_n d_X7_subkeyAt_23 rfl ?_
    refine c_callVi (t' := (some .int)) (a := 11) (z := 0) (as := [(0, x1)]) (rest := [(0, p2)]) (ls' := [(19, 0), (0, x1), (5, 0), (5, 0), (5, 0)]) d_X7_subkeyAt_24 ck_RX7_170 rfl sh_11 rfl (by decide) (R 11 rfl) rfl rfl (Nat.le_of_ble_eq_true rfl) (Nat.le_of_ble_eq_true rfl) (by decide) rfl rfl (fun _ => rfl) (fun κ' Ψ hΨ => run_pL_entryCount R _ hΨ) h (fun v1 D3 h => ?_)
    show Run Γ rg κ Y_X7_subkeyAt 27 [(8, 0), (0, p1), (0, p2), (0, x1)] [(0, v1), (0, p2)] D3 Φ
    refine c_icmp_lt (tgt := 40) d_X7_subkeyAt_27 (by decide) (nz_w _) (nz_w _) h (fun h => ?_) (fun h => ?_)
    · skip
      show Run Γ rg κ Y_X7_subkeyAt 40 [(8, 0), (0, p1), (0, p2), (0, x1)] [] D3 Φ
      refine r_aload_n d_X7_subkeyAt_40 rfl (by decide) ?_
      refine r_getR (t := 11) d_X7_subkeyAt_41 fk_RX7_34 sh_0 rfl (by decide) (R 0 rfl) ?_
      refine r_iload_n d_X7_subkeyAt_44 rfl ?_
      refine r_iload_n d_X7_subkeyAt_45 rfl ?_
      refine c_callVi (t' := (some .int)) (a := 11) (z := 0) (as := [(0, x1), (0, p2)]) (rest := []) (ls' := [(19, 0), (0, x1), (0, p2), (5, 0), (5, 0), (5, 0), (5, 0)]) d_X7_subkeyAt_46 ck_RX7_180 rfl sh_11 rfl (by decide) (R 11 rfl) rfl rfl (Nat.le_of_ble_eq_true rfl) (Nat.le_of_ble_eq_true rfl) (by decide) rfl rfl (fun _ => rfl) (fun κ' Ψ hΨ => run_pL_subkeyNumbered R _ _ hΨ) h (fun v2 D4 h => ?_)
      show Run Γ rg κ Y_X7_subkeyAt 49 [(8, 0), (0, p1), (0, p2), (0, x1)] [(0, v2)] D4 Φ
      exact c_iret d_X7_subkeyAt_49 rfl h
    · skip
      exact Run.forget (ls' := [(5, 0), (5, 0), (5, 0), (5, 0)]) ⟨Or.inl rfl, Or.inl rfl, Or.inl rfl, Or.inl rfl, trivial⟩ (hJ1 D3 h)
set_option maxRecDepth 20000 in
theorem run_pI_end {Γ : GG} {rg : Nat → Bool} {κ : Nat} {Φ : OT → DD → Prop} (R : cov rg rg0) {D : DD} {x : Int} (h : EQx x (pI_end D)) (hΦ : Φ (.inl (some (0, x))) D) : Run Γ rg κ Y_X2_end 0 [(10, 0)] [] D Φ := by
  unfold pI_end at h
  show Run Γ rg κ Y_X2_end 0 [(10, 0)] [] D Φ
  refine r_aload_n d_X2_end_0 rfl (by decide) ?_
  refine r_getI d_X2_end_1 fk_RX2_24 sh_2 rfl (by decide) (by decide) (R 2 rfl) ?_
  refine r_bipush d_X2_end_4 (by decide) ?_
  refine r_imul d_X2_end_6 ?_
  exact e_iret d_X2_end_7 rfl h hΦ
set_option maxRecDepth 20000 in
theorem run_pI_sizeAt {Γ : GG} {rg : Nat → Bool} {κ : Nat} {Φ : OT → DD → Prop} (R : cov rg rg0) (p1 : Int) {D : DD} {x : Int} (h : EQx x (pI_sizeAt p1 D)) (hΦ : Φ (.inl (some (0, x))) D) : Run Γ rg κ Y_X2_sizeAt 0 [(10, 0), (0, p1)] [] D Φ := by
  unfold pI_sizeAt at h
  show Run Γ rg κ Y_X2_sizeAt 0 [(10, 0), (0, p1)] [] D Φ
  refine r_aload_n d_X2_sizeAt_0 rfl (by decide) ?_
  refine r_getR (t := 3) d_X2_sizeAt_1 fk_RX2_11 sh_2 rfl (by decide) (R 2 rfl) ?_
  refine r_iload_n d_X2_sizeAt_4 rfl ?_
  refine c_callNPi (as := [(11, 0), (0, p1)]) (rest := []) (ls' := [(11, 0), (0, p1)]) d_X2_sizeAt_5 ck_RX2_41 rfl rfl rfl (Nat.le_of_ble_eq_true rfl) (Nat.le_of_ble_eq_true rfl) (by decide) rfl rfl (fun Ψ hΨ => run_pH_read sh_3 (by decide) (R 3 rfl) (by decide) _ rfl hΨ) ?_
  show Run Γ rg κ Y_X2_sizeAt 8 [(10, 0), (0, p1)] [(0, (rd 1024 3 p1 D))] D Φ
  exact e_iret d_X2_sizeAt_8 rfl h hΦ
set_option maxRecDepth 20000 in
theorem run_pH_cell {Γ : GG} {rg : Nat → Bool} {κ : Nat} {Φ : OT → DD → Prop} (R : cov rg rg0) (p1 : Int) {D : DD} (h : WP (some .int) κ Φ (pH_cell p1 D)) : Run Γ rg κ Y_X7_cell 0 [(8, 0), (0, p1)] [] D Φ := by
  unfold pH_cell at h
  show Run Γ rg κ Y_X7_cell 0 [(8, 0), (0, p1)] [] D Φ
  refine r_iload_n d_X7_cell_0 rfl ?_
  refine c_jn (fun J => ∀ (D1 : DD), WP (some .int) κ Φ (J D1) → Run Γ rg κ Y_X7_cell 15 [(5, 0), (5, 0)] [] D1 Φ) h ?_ (fun J1 hJ1 h => ?_)
  · intro D1 h
    show Run Γ rg κ Y_X7_cell 15 [(5, 0), (5, 0)] [] D1 Φ
    exact c_throw (text := "there is no such unit of the file") tk_RX7_173_177 (by decide +kernel) d_X7_cell_15 d_X7_cell_18 d_X7_cell_19 d_X7_cell_21 d_X7_cell_24 rfl (by decide) (Nat.le_of_ble_eq_true rfl) h
  refine c_if_lt (tgt := 15) d_X7_cell_1 (by decide) (nz_w _) h (fun h => ?_) (fun h => ?_)
  · skip
    exact Run.forget (ls' := [(5, 0), (5, 0)]) ⟨Or.inl rfl, Or.inl rfl, trivial⟩ (hJ1 D h)
  · skip
    show Run Γ rg κ Y_X7_cell 4 [(8, 0), (0, p1)] [] D Φ
    refine r_iload_n d_X7_cell_4 rfl ?_
    refine r_aload_n d_X7_cell_5 rfl (by decide) ?_
    refine r_getR (t := 2) d_X7_cell_6 fk_RX7_21 sh_0 rfl (by decide) (R 0 rfl) ?_
    refine c_callVPi (a := 2) (z := 0) (as := []) (rest := [(0, p1)]) (ls' := [(10, 0)]) d_X7_cell_9 ck_RX7_247 rfl sh_2 rfl (by decide) (R 2 rfl) rfl rfl (Nat.le_of_ble_eq_true rfl) (Nat.le_of_ble_eq_true rfl) (by decide) rfl rfl (fun Ψ hΨ => run_pI_end R rfl hΨ) ?_
    show Run Γ rg κ Y_X7_cell 12 [(8, 0), (0, p1)] [(0, (pI_end D)), (0, p1)] D Φ
    refine c_icmp_lt (tgt := 25) d_X7_cell_12 (by decide) (nz_w _) (nz_w _) h (fun h => ?_) (fun h => ?_)
    · skip
      show Run Γ rg κ Y_X7_cell 25 [(8, 0), (0, p1)] [] D Φ
      refine r_aload_n d_X7_cell_25 rfl (by decide) ?_
      refine r_getR (t := 2) d_X7_cell_26 fk_RX7_21 sh_0 rfl (by decide) (R 0 rfl) ?_
      refine r_iload_n d_X7_cell_29 rfl ?_
      refine c_callVPi (a := 2) (z := 0) (as := [(0, p1)]) (rest := []) (ls' := [(10, 0), (0, p1)]) d_X7_cell_30 ck_RX7_252 rfl sh_2 rfl (by decide) (R 2 rfl) rfl rfl (Nat.le_of_ble_eq_true rfl) (Nat.le_of_ble_eq_true rfl) (by decide) rfl rfl (fun Ψ hΨ => run_pI_sizeAt R _ rfl hΨ) ?_
      show Run Γ rg κ Y_X7_cell 33 [(8, 0), (0, p1)] [(0, (pI_sizeAt p1 D))] D Φ
      exact c_iret d_X7_cell_33 rfl h
    · skip
      exact Run.forget (ls' := [(5, 0), (5, 0)]) ⟨Or.inl rfl, Or.inl rfl, trivial⟩ (hJ1 D h)
set_option maxRecDepth 20000 in
theorem run_pH_sectors {Γ : GG} {rg : Nat → Bool} {κ : Nat} {Φ : OT → DD → Prop} (R : cov rg rg0) {D : DD} {x : Int} (h : EQx x (pH_sectors D)) (hΦ : Φ (.inl (some (0, x))) D) : Run Γ rg κ Y_X7_sectors 0 [(8, 0)] [] D Φ := by
  unfold pH_sectors at h
  show Run Γ rg κ Y_X7_sectors 0 [(8, 0)] [] D Φ
  refine r_aload_n d_X7_sectors_0 rfl (by decide) ?_
  refine r_getR (t := 2) d_X7_sectors_1 fk_RX7_21 sh_0 rfl (by decide) (R 0 rfl) ?_
  refine r_getI d_X7_sectors_4 fk_RX7_243 sh_2 rfl (by decide) (by decide) (R 2 rfl) ?_
  exact e_iret d_X7_sectors_7 rfl h hΦ
set_option maxRecDepth 20000 in
theorem run_pC_unitsInUse_12 {Γ : GG} {rg : Nat → Bool} {κ : Nat} {Φ : OT → DD → Prop} (R : cov rg rg0) (a2 : Int) : ∀ (n : Nat) (a1 : Int) (a3 : Int) (D : DD), WP (some .int) κ Φ (pC_unitsInUse_12 a2 n a1 a3 D) → Run Γ rg κ Y_X0_unitsInUse 12 [(15, 0), (0, a1), (0, a2), (0, a3), (5, 0)] [] D Φ := by
  intro n
  induction n with
  | zero => intro a1 a3 D h; exact h.no.elim
  | succ n ih =>
    intro a1 a3 D h
    rw [pC_unitsInUse_12] at h
    show Run Γ rg κ Y_X0_unitsInUse 12 [(15, 0), (0, a1), (0, a2), (0, a3), (5, 0)] [] D Φ
    refine r_iload_n d_X0_unitsInUse_12 rfl ?_
    refine r_iload_n d_X0_unitsInUse_13 rfl ?_
    refine c_icmp_ge (tgt := 54) d_X0_unitsInUse_14 (by decide) (nz_w _) (nz_w _) h (fun h => ?_) (fun h => ?_)
    · skip
      show Run Γ rg κ Y_X0_unitsInUse 54 [(15, 0), (0, a1), (0, a2), (0, a3), (5, 0)] [] D Φ
      refine r_iload_n d_X0_unitsInUse_54 rfl ?_
      exact c_iret d_X0_unitsInUse_55 rfl h
    · skip
      show Run Γ rg κ Y_X0_unitsInUse 17 [(15, 0), (0, a1), (0, a2), (0, a3), (5, 0)] [] D Φ
      refine r_aload_n d_X0_unitsInUse_17 rfl (by decide) ?_
      refine r_getR (t := 2) d_X0_unitsInUse_18 fk_RX0_23 sh_7 rfl (by decide) (R 7 rfl) ?_
      refine r_getR (t := 3) d_X0_unitsInUse_21 fk_RX0_38 sh_2 rfl (by decide) (R 2 rfl) ?_
      refine r_iload_n d_X0_unitsInUse_24 rfl ?_
      refine c_callNPi (as := [(11, 0), (0, a3)]) (rest := []) (ls' := [(11, 0), (0, a3)]) d_X0_unitsInUse_25 ck_RX0_47 rfl rfl rfl (Nat.le_of_ble_eq_true rfl) (Nat.le_of_ble_eq_true rfl) (by decide) rfl rfl (fun Ψ hΨ => run_pH_read sh_3 (by decide) (R 3 rfl) (by decide) _ rfl hΨ) ?_
      show Run Γ rg κ Y_X0_unitsInUse 28 [(15, 0), (0, a1), (0, a2), (0, a3), (5, 0)] [(0, (rd 1024 3 a3 D))] D Φ
      refine c_lt d_X0_unitsInUse_28 (by decide) rfl h (fun x1 h => ?_)
      show Run Γ rg κ Y_X0_unitsInUse 30 [(15, 0), (0, a1), (0, a2), (0, a3), (0, x1)] [] D Φ
      refine r_iload_n d_X0_unitsInUse_30 rfl ?_
      refine r_iconst d_X0_unitsInUse_31 ?_
      refine r_iload d_X0_unitsInUse_32 rfl ?_
      refine c_mmax d_X0_unitsInUse_34 mx_RX0_70 (Nat.le_of_ble_eq_true rfl) (by decide) ?_
      refine r_iadd d_X0_unitsInUse_37 ?_
      show Run Γ rg κ Y_X0_unitsInUse 38 [(15, 0), (0, a1), (0, a2), (0, a3), (0, x1)] [(0, (a1 + (zmax 0 x1)))] D Φ
      refine c_lt_n d_X0_unitsInUse_38 (by decide) rfl h (fun x2 h => ?_)
      show Run Γ rg κ Y_X0_unitsInUse 39 [(15, 0), (0, x2), (0, a2), (0, a3), (0, x1)] [] D Φ
      refine r_iload_n d_X0_unitsInUse_39 rfl ?_
      refine r_iconst d_X0_unitsInUse_40 ?_
      refine r_iload d_X0_unitsInUse_41 rfl ?_
      refine c_mabs d_X0_unitsInUse_43 mx_RX0_76 (Nat.le_of_ble_eq_true rfl) (by decide) ?_
      refine c_mmax d_X0_unitsInUse_46 mx_RX0_70 (Nat.le_of_ble_eq_true rfl) (by decide) ?_
      refine r_iadd d_X0_unitsInUse_49 ?_
      refine c_lt_n d_X0_unitsInUse_50 (by decide) rfl h (fun x3 h => ?_)
      show Run Γ rg κ Y_X0_unitsInUse 51 [(15, 0), (0, x2), (0, a2), (0, x3), (0, x1)] [] D Φ
      refine r_goto (tgt := 12) d_X0_unitsInUse_51 (by decide) ?_
      exact Run.forget (ls' := [(15, 0), (0, x2), (0, a2), (0, x3), (5, 0)]) ⟨Or.inr rfl, Or.inr rfl, Or.inr rfl, Or.inr rfl, Or.inl rfl, trivial⟩ (ih x2 x3 D h)
set_option maxRecDepth 20000 in
theorem run_pC_unitsInUse {Γ : GG} {rg : Nat → Bool} {κ : Nat} {Φ : OT → DD → Prop} (R : cov rg rg0) {D : DD} (h : WP (some .int) κ Φ (pC_unitsInUse D)) : Run Γ rg κ Y_X0_unitsInUse 0 [(15, 0), (5, 0), (5, 0), (5, 0), (5, 0)] [] D Φ := by
  unfold pC_unitsInUse at h
  show Run Γ rg κ Y_X0_unitsInUse 0 [(15, 0), (5, 0), (5, 0), (5, 0), (5, 0)] [] D Φ
  refine r_iconst d_X0_unitsInUse_0 ?_
  refine r_istore_n d_X0_unitsInUse_1 (by decide) rfl ?_
  show Run Γ rg κ Y_X0_unitsInUse 2 [(15, 0), (0, 0), (5, 0), (5, 0), (5, 0)] [] D Φ
  refine r_aload_n d_X0_unitsInUse_2 rfl (by decide) ?_
  refine r_getR (t := 2) d_X0_unitsInUse_3 fk_RX0_23 sh_7 rfl (by decide) (R 7 rfl) ?_
  refine c_callVPi (a := 2) (z := 0) (as := []) (rest := []) (ls' := [(10, 0)]) d_X0_unitsInUse_6 ck_RX0_66 rfl sh_2 rfl (by decide) (R 2 rfl) rfl rfl (Nat.le_of_ble_eq_true rfl) (Nat.le_of_ble_eq_true rfl) (by decide) rfl rfl (fun Ψ hΨ => run_pI_end R rfl hΨ) ?_
  show Run Γ rg κ Y_X0_unitsInUse 9 [(15, 0), (0, 0), (5, 0), (5, 0), (5, 0)] [(0, (pI_end D))] D Φ
  refine c_lt_n d_X0_unitsInUse_9 (by decide) rfl h (fun x1 h => ?_)
  show Run Γ rg κ Y_X0_unitsInUse 10 [(15, 0), (0, 0), (0, x1), (5, 0), (5, 0)] [] D Φ
  refine r_iconst d_X0_unitsInUse_10 ?_
  refine r_istore_n d_X0_unitsInUse_11 (by decide) rfl ?_
  show Run Γ rg κ Y_X0_unitsInUse 12 [(15, 0), (0, 0), (0, x1), (0, 4), (5, 0)] [] D Φ
  exact run_pC_unitsInUse_12 R x1 fu 0 4 D h
set_option maxRecDepth 20000 in
theorem run_pH_used {Γ : GG} {rg : Nat → Bool} {κ : Nat} {Φ : OT → DD → Prop} (R : cov rg rg0) {D : DD} (h : WP (some .int) κ Φ (pH_used D)) : Run Γ rg κ Y_X7_used 0 [(8, 0)] [] D Φ := by
  unfold pH_used at h
  show Run Γ rg κ Y_X7_used 0 [(8, 0)] [] D Φ
  refine r_aload_n d_X7_used_0 rfl (by decide) ?_
  refine r_getR (t := 7) d_X7_used_1 fk_RX7_25 sh_0 rfl (by decide) (R 0 rfl) ?_
  refine c_callVi (t' := (some .int)) (a := 7) (z := 0) (as := []) (rest := []) (ls' := [(15, 0), (5, 0), (5, 0), (5, 0), (5, 0)]) d_X7_used_4 ck_RX7_255 rfl sh_7 rfl (by decide) (R 7 rfl) rfl rfl (Nat.le_of_ble_eq_true rfl) (Nat.le_of_ble_eq_true rfl) (by decide) rfl rfl (fun _ => rfl) (fun κ' Ψ hΨ => run_pC_unitsInUse R hΨ) h (fun v1 D1 h => ?_)
  show Run Γ rg κ Y_X7_used 7 [(8, 0)] [(0, v1)] D1 Φ
  exact c_iret d_X7_used_7 rfl h
set_option maxRecDepth 20000 in
theorem run_pS_startCounting {Γ : GG} {rg : Nat → Bool} {κ : Nat} {Φ : OT → DD → Prop} (R : cov rg rg0) {D : DD} (h : WP none κ Φ (pS_startCounting D)) : Run Γ rg κ Y_X4_startCounting 0 [(21, 0)] [] D Φ := by
  unfold pS_startCounting at h
  show Run Γ rg κ Y_X4_startCounting 0 [(21, 0)] [] D Φ
  refine r_aload_n d_X4_startCounting_0 rfl (by decide) ?_
  refine r_getR (t := 14) d_X4_startCounting_1 fk_RX4_9 sh_13 rfl (by decide) (R 13 rfl) ?_
  refine r_iconst d_X4_startCounting_4 ?_
  refine c_callSv (as := [(22, 0), (0, 0)]) (rest := []) (ls' := [(22, 0), (0, 0), (5, 0), (5, 0)]) d_X4_startCounting_5 ck_RX4_67 rfl rfl rfl (Nat.le_of_ble_eq_true rfl) (Nat.le_of_ble_eq_true rfl) (by decide) rfl rfl (fun κ' Ψ hΨ => run_filR R _ hΨ) h (fun _ D1 h => ?_)
  show Run Γ rg κ Y_X4_startCounting 8 [(21, 0)] [] D1 Φ
  exact c_vret d_X4_startCounting_8 rfl h
set_option maxRecDepth 20000 in
theorem run_pL_unitsOf_39 {Γ : GG} {rg : Nat → Bool} {κ : Nat} {Φ : OT → DD → Prop} (R : cov rg rg0) (a1 : Int) (a3 : Int) : ∀ (n : Nat) (a4 : Int) (a5 : Int) (D : DD), WP (some .int) κ Φ (pL_unitsOf_39 a1 a3 n a4 a5 D) → Run Γ rg κ Y_X3_unitsOf 39 [(19, 0), (0, a1), (5, 0), (0, a3), (0, a4), (0, a5)] [] D Φ := by
  intro n
  induction n with
  | zero => intro a4 a5 D h; exact h.no.elim
  | succ n ih =>
    intro a4 a5 D h
    rw [pL_unitsOf_39] at h
    show Run Γ rg κ Y_X3_unitsOf 39 [(19, 0), (0, a1), (5, 0), (0, a3), (0, a4), (0, a5)] [] D Φ
    refine r_iload d_X3_unitsOf_39 rfl ?_
    refine r_iload_n d_X3_unitsOf_41 rfl ?_
    refine c_icmp_ge (tgt := 70) d_X3_unitsOf_42 (by decide) (nz_w _) (nz_w _) h (fun h => ?_) (fun h => ?_)
    · skip
      show Run Γ rg κ Y_X3_unitsOf 70 [(19, 0), (0, a1), (5, 0), (0, a3), (0, a4), (0, a5)] [] D Φ
      refine r_iload d_X3_unitsOf_70 rfl ?_
      exact c_iret d_X3_unitsOf_72 rfl h
    · skip
      show Run Γ rg κ Y_X3_unitsOf 45 [(19, 0), (0, a1), (5, 0), (0, a3), (0, a4), (0, a5)] [] D Φ
      refine r_iload d_X3_unitsOf_45 rfl ?_
      refine r_aload_n d_X3_unitsOf_47 rfl (by decide) ?_
      refine r_getR (t := 2) d_X3_unitsOf_48 fk_RX3_9 sh_11 rfl (by decide) (R 11 rfl) ?_
      refine r_aload_n d_X3_unitsOf_51 rfl (by decide) ?_
      refine r_iload_n d_X3_unitsOf_52 rfl ?_
      refine r_iload d_X3_unitsOf_53 rfl ?_
      refine c_callVPi (a := 11) (z := 0) (as := [(0, a1), (0, a5)]) (rest := [(10, 0), (0, a4)]) (ls' := [(19, 0), (0, a1), (0, a5), (5, 0)]) d_X3_unitsOf_55 ck_RX3_38 rfl sh_11 rfl (by decide) (R 11 rfl) rfl rfl (Nat.le_of_ble_eq_true rfl) (Nat.le_of_ble_eq_true rfl) (by decide) rfl rfl (fun Ψ hΨ => run_pL_leafNumbered R _ _ rfl hΨ) ?_
      show Run Γ rg κ Y_X3_unitsOf 58 [(19, 0), (0, a1), (5, 0), (0, a3), (0, a4), (0, a5)] [(0, (pL_leafNumbered a1 a5 D)), (10, 0), (0, a4)] D Φ
      refine c_callVPi (a := 2) (z := 0) (as := [(0, (pL_leafNumbered a1 a5 D))]) (rest := [(0, a4)]) (ls' := [(10, 0), (0, (pL_leafNumbered a1 a5 D))]) d_X3_unitsOf_58 ck_RX3_48 rfl sh_2 rfl (by decide) (R 2 rfl) rfl rfl (Nat.le_of_ble_eq_true rfl) (Nat.le_of_ble_eq_true rfl) (by decide) rfl rfl (fun Ψ hΨ => run_pI_sizeAt R _ rfl hΨ) ?_
      show Run Γ rg κ Y_X3_unitsOf 61 [(19, 0), (0, a1), (5, 0), (0, a3), (0, a4), (0, a5)] [(0, (pI_sizeAt (pL_leafNumbered a1 a5 D) D)), (0, a4)] D Φ
      refine r_iadd d_X3_unitsOf_61 ?_
      refine c_lt d_X3_unitsOf_62 (by decide) rfl h (fun x1 h => ?_)
      show Run Γ rg κ Y_X3_unitsOf 64 [(19, 0), (0, a1), (5, 0), (0, a3), (0, x1), (0, a5)] [] D Φ
      refine r_iinc d_X3_unitsOf_64 rfl (by decide) rfl ?_
      show Run Γ rg κ Y_X3_unitsOf 67 [(19, 0), (0, a1), (5, 0), (0, a3), (0, x1), (0, (a5 + 1))] [] D Φ
      show Run Γ rg κ Y_X3_unitsOf 67 [(19, 0), (0, a1), (5, 0), (0, a3), (0, x1), (0, (a5 + 1))] [] D Φ
      refine r_goto (tgt := 39) d_X3_unitsOf_67 (by decide) ?_
      exact (ih x1 (a5 + 1) D h)
set_option maxRecDepth 20000 in
theorem run_pL_unitsOf {Γ : GG} {rg : Nat → Bool} {κ : Nat} {Φ : OT → DD → Prop} (R : cov rg rg0) (p1 : Int) {D : DD} (h : WP (some .int) κ Φ (pL_unitsOf p1 D)) : Run Γ rg κ Y_X3_unitsOf 0 [(19, 0), (0, p1), (5, 0), (5, 0), (5, 0), (5, 0)] [] D Φ := by
  unfold pL_unitsOf at h
  show Run Γ rg κ Y_X3_unitsOf 0 [(19, 0), (0, p1), (5, 0), (5, 0), (5, 0), (5, 0)] [] D Φ
  refine r_aload_n d_X3_unitsOf_0 rfl (by decide) ?_
  refine r_getR (t := 2) d_X3_unitsOf_1 fk_RX3_9 sh_11 rfl (by decide) (R 11 rfl) ?_
  refine r_iload_n d_X3_unitsOf_4 rfl ?_
  refine r_iconst d_X3_unitsOf_5 ?_
  refine r_iadd d_X3_unitsOf_6 ?_
  refine c_callVPi (a := 2) (z := 0) (as := [(0, (p1 + 2))]) (rest := []) (ls' := [(10, 0), (0, (p1 + 2))]) d_X3_unitsOf_7 ck_RX3_23 rfl sh_2 rfl (by decide) (R 2 rfl) rfl rfl (Nat.le_of_ble_eq_true rfl) (Nat.le_of_ble_eq_true rfl) (by decide) rfl rfl (fun Ψ hΨ => run_pI_unitAt R _ rfl hΨ) ?_
  show Run Γ rg κ Y_X3_unitsOf 10 [(19, 0), (0, p1), (5, 0), (5, 0), (5, 0), (5, 0)] [(0, (pI_unitAt (p1 + 2) D))] D Φ
  refine c_lt_n d_X3_unitsOf_10 (by decide) rfl h (fun x1 h => ?_)
  show Run Γ rg κ Y_X3_unitsOf 11 [(19, 0), (0, p1), (0, x1), (5, 0), (5, 0), (5, 0)] [] D Φ
  refine r_aload_n d_X3_unitsOf_11 rfl (by decide) ?_
  refine r_iload_n d_X3_unitsOf_12 rfl ?_
  refine c_callVPi (a := 11) (z := 0) (as := [(0, p1)]) (rest := []) (ls' := [(19, 0), (0, p1), (5, 0)]) d_X3_unitsOf_13 ck_RX3_35 rfl sh_11 rfl (by decide) (R 11 rfl) rfl rfl (Nat.le_of_ble_eq_true rfl) (Nat.le_of_ble_eq_true rfl) (by decide) rfl rfl (fun Ψ hΨ => run_pL_leafCount R _ rfl hΨ) ?_
  show Run Γ rg κ Y_X3_unitsOf 16 [(19, 0), (0, p1), (0, x1), (5, 0), (5, 0), (5, 0)] [(0, (pL_leafCount p1 D))] D Φ
  refine c_lt_n d_X3_unitsOf_16 (by decide) rfl h (fun x2 h => ?_)
  show Run Γ rg κ Y_X3_unitsOf 17 [(19, 0), (0, p1), (0, x1), (0, x2), (5, 0), (5, 0)] [] D Φ
  show Run Γ rg κ Y_X3_unitsOf 17 [(19, 0), (0, p1), (0, x1), (0, x2), (5, 0), (5, 0)] [] D Φ
  refine r_iload_n d_X3_unitsOf_17 rfl ?_
  refine r_iconst d_X3_unitsOf_18 ?_
  refine c_jn (fun J => ∀ (x3 : Int) (D1 : DD), WP (some .int) κ Φ (J x3 D1) → Run Γ rg κ Y_X3_unitsOf 34 [(19, 0), (0, p1), (5, 0), (0, x2), (5, 0), (5, 0)] [(0, x3)] D1 Φ) h ?_ (fun J1 hJ1 h => ?_)
  · intro x3 D1 h
    show Run Γ rg κ Y_X3_unitsOf 34 [(19, 0), (0, p1), (5, 0), (0, x2), (5, 0), (5, 0)] [(0, x3)] D1 Φ
    refine r_istore d_X3_unitsOf_34 (by decide) rfl ?_
    show Run Γ rg κ Y_X3_unitsOf 36 [(19, 0), (0, p1), (5, 0), (0, x2), (0, x3), (5, 0)] [] D1 Φ
    refine r_iconst d_X3_unitsOf_36 ?_
    refine r_istore d_X3_unitsOf_37 (by decide) rfl ?_
    show Run Γ rg κ Y_X3_unitsOf 39 [(19, 0), (0, p1), (5, 0), (0, x2), (0, x3), (0, 0)] [] D1 Φ
    exact run_pL_unitsOf_39 R p1 x2 fu x3 0 D1 h
  refine c_icmp_le (tgt := 33) d_X3_unitsOf_19 (by decide) (nz_w _) (nz_k rfl) h (fun h => ?_) (fun h => ?_)
  · skip
    show Run Γ rg κ Y_X3_unitsOf 33 [(19, 0), (0, p1), (0, x1), (0, x2), (5, 0), (5, 0)] [] D Φ
    refine r_iconst d_X3_unitsOf_33 ?_
    exact Run.forget (ls' := [(19, 0), (0, p1), (5, 0), (0, x2), (5, 0), (5, 0)]) ⟨Or.inr rfl, Or.inr rfl, Or.inl rfl, Or.inr rfl, Or.inr rfl, Or.inr rfl, trivial⟩ (hJ1 0 D h)
  · skip
    show Run Γ rg κ Y_X3_unitsOf 22 [(19, 0), (0, p1), (0, x1), (0, x2), (5, 0), (5, 0)] [] D Φ
    refine r_aload_n d_X3_unitsOf_22 rfl (by decide) ?_
    refine r_getR (t := 2) d_X3_unitsOf_23 fk_RX3_9 sh_11 rfl (by decide) (R 11 rfl) ?_
    refine r_iload_n d_X3_unitsOf_26 rfl ?_
    refine c_callVPi (a := 2) (z := 0) (as := [(0, x1)]) (rest := []) (ls' := [(10, 0), (0, x1)]) d_X3_unitsOf_27 ck_RX3_48 rfl sh_2 rfl (by decide) (R 2 rfl) rfl rfl (Nat.le_of_ble_eq_true rfl) (Nat.le_of_ble_eq_true rfl) (by decide) rfl rfl (fun Ψ hΨ => run_pI_sizeAt R _ rfl hΨ) ?_
    show Run Γ rg κ Y_X3_unitsOf 30 [(19, 0), (0, p1), (0, x1), (0, x2), (5, 0), (5, 0)] [(0, (pI_sizeAt x1 D))] D Φ
    refine r_goto (tgt := 34) d_X3_unitsOf_30 (by decide) ?_
    exact Run.forget (ls' := [(19, 0), (0, p1), (5, 0), (0, x2), (5, 0), (5, 0)]) ⟨Or.inr rfl, Or.inr rfl, Or.inl rfl, Or.inr rfl, Or.inr rfl, Or.inr rfl, trivial⟩ (hJ1 (pI_sizeAt x1 D) D h)
set_option maxRecDepth 20000 in
theorem run_pV_valueCount {Γ : GG} {rg : Nat → Bool} {κ : Nat} {Φ : OT → DD → Prop} (R : cov rg rg0) (p1 : Int) {D : DD} {x : Int} (h : EQx x (pV_valueCount p1 D)) (hΦ : Φ (.inl (some (0, x))) D) : Run Γ rg κ Y_X5_valueCount 0 [(20, 0), (0, p1), (5, 0)] [] D Φ := by
  unfold pV_valueCount at h
  show Run Γ rg κ Y_X5_valueCount 0 [(20, 0), (0, p1), (5, 0)] [] D Φ
  refine r_aload_n d_X5_valueCount_0 rfl (by decide) ?_
  refine r_getR (t := 2) d_X5_valueCount_1 fk_RX5_9 sh_12 rfl (by decide) (R 12 rfl) ?_
  refine r_iload_n d_X5_valueCount_4 rfl ?_
  refine r_iconst d_X5_valueCount_5 ?_
  refine r_iadd d_X5_valueCount_6 ?_
  refine c_callVPi (a := 2) (z := 0) (as := [(0, (p1 + 3))]) (rest := []) (ls' := [(10, 0), (0, (p1 + 3))]) d_X5_valueCount_7 ck_RX5_19 rfl sh_2 rfl (by decide) (R 2 rfl) rfl rfl (Nat.le_of_ble_eq_true rfl) (Nat.le_of_ble_eq_true rfl) (by decide) rfl rfl (fun Ψ hΨ => run_pI_unitAt R _ rfl hΨ) ?_
  show Run Γ rg κ Y_X5_valueCount 10 [(20, 0), (0, p1), (5, 0)] [(0, (pI_unitAt (p1 + 3) D))] D Φ
  refine c_lt_n d_X5_valueCount_10 (by decide) rfl h (fun x1 h => ?_)
  show Run Γ rg κ Y_X5_valueCount 11 [(20, 0), (0, p1), (0, x1)] [] D Φ
  refine r_iload_n d_X5_valueCount_11 rfl ?_
  refine c_if_ne (tgt := 19) d_X5_valueCount_12 (by decide) (nz_w _) h (fun h => ?_) (fun h => ?_)
  · skip
    show Run Γ rg κ Y_X5_valueCount 19 [(20, 0), (0, p1), (0, x1)] [] D Φ
    refine r_aload_n d_X5_valueCount_19 rfl (by decide) ?_
    refine r_getR (t := 2) d_X5_valueCount_20 fk_RX5_9 sh_12 rfl (by decide) (R 12 rfl) ?_
    refine r_iload_n d_X5_valueCount_23 rfl ?_
    refine c_callVPi (a := 2) (z := 0) (as := [(0, x1)]) (rest := []) (ls' := [(10, 0), (0, x1)]) d_X5_valueCount_24 ck_RX5_25 rfl sh_2 rfl (by decide) (R 2 rfl) rfl rfl (Nat.le_of_ble_eq_true rfl) (Nat.le_of_ble_eq_true rfl) (by decide) rfl rfl (fun Ψ hΨ => run_pI_itemCount R _ rfl hΨ) ?_
    show Run Γ rg κ Y_X5_valueCount 27 [(20, 0), (0, p1), (0, x1)] [(0, (pI_itemCount x1 D))] D Φ
    exact e_iret d_X5_valueCount_27 rfl h hΦ
  · skip
    show Run Γ rg κ Y_X5_valueCount 15 [(20, 0), (0, p1), (0, x1)] [] D Φ
    refine r_iconst d_X5_valueCount_15 ?_
    refine r_goto (tgt := 27) d_X5_valueCount_16 (by decide) ?_
    show Run Γ rg κ Y_X5_valueCount 27 [(20, 0), (0, p1), (0, x1)] [(0, 0)] D Φ
    exact e_iret d_X5_valueCount_27 rfl h hΦ
set_option maxRecDepth 20000 in
theorem run_pV_cellNumbered {Γ : GG} {rg : Nat → Bool} {κ : Nat} {Φ : OT → DD → Prop} (R : cov rg rg0) (p1 : Int) (p2 : Int) {D : DD} {x : Int} (h : EQx x (pV_cellNumbered p1 p2 D)) (hΦ : Φ (.inl (some (0, x))) D) : Run Γ rg κ Y_X5_cellNumbered 0 [(20, 0), (0, p1), (0, p2)] [] D Φ := by
  unfold pV_cellNumbered at h
  show Run Γ rg κ Y_X5_cellNumbered 0 [(20, 0), (0, p1), (0, p2)] [] D Φ
  refine r_aload_n d_X5_cellNumbered_0 rfl (by decide) ?_
  refine r_getR (t := 2) d_X5_cellNumbered_1 fk_RX5_9 sh_12 rfl (by decide) (R 12 rfl) ?_
  refine r_aload_n d_X5_cellNumbered_4 rfl (by decide) ?_
  refine r_getR (t := 2) d_X5_cellNumbered_5 fk_RX5_9 sh_12 rfl (by decide) (R 12 rfl) ?_
  refine r_iload_n d_X5_cellNumbered_8 rfl ?_
  refine r_iconst d_X5_cellNumbered_9 ?_
  refine r_iadd d_X5_cellNumbered_10 ?_
  refine c_callVPi (a := 2) (z := 0) (as := [(0, (p1 + 3))]) (rest := [(10, 0)]) (ls' := [(10, 0), (0, (p1 + 3))]) d_X5_cellNumbered_11 ck_RX5_19 rfl sh_2 rfl (by decide) (R 2 rfl) rfl rfl (Nat.le_of_ble_eq_true rfl) (Nat.le_of_ble_eq_true rfl) (by decide) rfl rfl (fun Ψ hΨ => run_pI_unitAt R _ rfl hΨ) ?_
  show Run Γ rg κ Y_X5_cellNumbered 14 [(20, 0), (0, p1), (0, p2)] [(0, (pI_unitAt (p1 + 3) D)), (10, 0)] D Φ
  refine r_iload_n d_X5_cellNumbered_14 rfl ?_
  refine c_callVPi (a := 2) (z := 0) (as := [(0, (pI_unitAt (p1 + 3) D)), (0, p2)]) (rest := []) (ls' := [(10, 0), (0, (pI_unitAt (p1 + 3) D)), (0, p2)]) d_X5_cellNumbered_15 ck_RX5_104 rfl sh_2 rfl (by decide) (R 2 rfl) rfl rfl (Nat.le_of_ble_eq_true rfl) (Nat.le_of_ble_eq_true rfl) (by decide) rfl rfl (fun Ψ hΨ => run_pI_item R _ _ rfl hΨ) ?_
  show Run Γ rg κ Y_X5_cellNumbered 18 [(20, 0), (0, p1), (0, p2)] [(0, (pI_item (pI_unitAt (p1 + 3) D) p2 D))] D Φ
  exact e_iret d_X5_cellNumbered_18 rfl h hΦ
set_option maxRecDepth 20000 in
theorem run_pV_unitsOf_78 {Γ : GG} {rg : Nat → Bool} {κ : Nat} {Φ : OT → DD → Prop} (R : cov rg rg0) (c1 : Int) (c2 : Int) (c4 : Int) {K : Int → DD → Res} (hK : ∀ (z3 : Int) (D : DD), WP (some .int) κ Φ (K z3 D) → Run Γ rg κ Y_X5_unitsOf 118 [(20, 0), (0, c1), (0, c2), (0, z3), (0, c4), (5, 0), (5, 0), (5, 0)] [] D Φ) : ∀ (n : Nat) (a3 : Int) (a6 : Int) (a7 : Int) (D : DD), WP (some .int) κ Φ (pV_unitsOf_78 n a3 a6 a7 D K) → Run Γ rg κ Y_X5_unitsOf 78 [(20, 0), (0, c1), (0, c2), (0, a3), (0, c4), (5, 0), (0, a6), (0, a7)] [] D Φ := by
  intro n
  induction n with
  | zero => intro a3 a6 a7 D h; exact h.no.elim
  | succ n ih =>
    intro a3 a6 a7 D h
    rw [pV_unitsOf_78] at h
    show Run Γ rg κ Y_X5_unitsOf 78 [(20, 0), (0, c1), (0, c2), (0, a3), (0, c4), (5, 0), (0, a6), (0, a7)] [] D Φ
    refine r_iload d_X5_unitsOf_78 rfl ?_
    refine r_iconst d_X5_unitsOf_80 ?_
    refine c_icmp_ge (tgt := 118) d_X5_unitsOf_81 (by decide) (nz_w _) (nz_k rfl) h (fun h => ?_) (fun h => ?_)
    · skip
      exact Run.forget (ls' := [(20, 0), (0, c1), (0, c2), (0, a3), (0, c4), (5, 0), (5, 0), (5, 0)]) ⟨Or.inr rfl, Or.inr rfl, Or.inr rfl, Or.inr rfl, Or.inr rfl, Or.inr rfl, Or.inl rfl, Or.inl rfl, trivial⟩ (hK a3 D h)
    · skip
      show Run Γ rg κ Y_X5_unitsOf 84 [(20, 0), (0, c1), (0, c2), (0, a3), (0, c4), (5, 0), (0, a6), (0, a7)] [] D Φ
      refine r_iload d_X5_unitsOf_84 rfl ?_
      refine c_if_eq (tgt := 118) d_X5_unitsOf_86 (by decide) (nz_w _) h (fun h => ?_) (fun h => ?_)
      · skip
        exact Run.forget (ls' := [(20, 0), (0, c1), (0, c2), (0, a3), (0, c4), (5, 0), (5, 0), (5, 0)]) ⟨Or.inr rfl, Or.inr rfl, Or.inr rfl, Or.inr rfl, Or.inr rfl, Or.inr rfl, Or.inl rfl, Or.inl rfl, trivial⟩ (hK a3 D h)
      · skip
        show Run Γ rg κ Y_X5_unitsOf 89 [(20, 0), (0, c1), (0, c2), (0, a3), (0, c4), (5, 0), (0, a6), (0, a7)] [] D Φ
        refine r_iload_n d_X5_unitsOf_89 rfl ?_
        refine r_aload_n d_X5_unitsOf_90 rfl (by decide) ?_
        refine r_getR (t := 2) d_X5_unitsOf_91 fk_RX5_9 sh_12 rfl (by decide) (R 12 rfl) ?_
        refine r_iload d_X5_unitsOf_94 rfl ?_
        refine c_callVPi (a := 2) (z := 0) (as := [(0, a6)]) (rest := [(0, a3)]) (ls' := [(10, 0), (0, a6)]) d_X5_unitsOf_96 ck_RX5_35 rfl sh_2 rfl (by decide) (R 2 rfl) rfl rfl (Nat.le_of_ble_eq_true rfl) (Nat.le_of_ble_eq_true rfl) (by decide) rfl rfl (fun Ψ hΨ => run_pI_sizeAt R _ rfl hΨ) ?_
        show Run Γ rg κ Y_X5_unitsOf 99 [(20, 0), (0, c1), (0, c2), (0, a3), (0, c4), (5, 0), (0, a6), (0, a7)] [(0, (pI_sizeAt a6 D)), (0, a3)] D Φ
        refine r_iadd d_X5_unitsOf_99 ?_
        refine c_lt_n d_X5_unitsOf_100 (by decide) rfl h (fun x1 h => ?_)
        show Run Γ rg κ Y_X5_unitsOf 101 [(20, 0), (0, c1), (0, c2), (0, x1), (0, c4), (5, 0), (0, a6), (0, a7)] [] D Φ
        refine r_aload_n d_X5_unitsOf_101 rfl (by decide) ?_
        refine r_getR (t := 2) d_X5_unitsOf_102 fk_RX5_9 sh_12 rfl (by decide) (R 12 rfl) ?_
        refine r_iload d_X5_unitsOf_105 rfl ?_
        refine c_callVPi (a := 2) (z := 0) (as := [(0, a6)]) (rest := []) (ls' := [(10, 0), (0, a6)]) d_X5_unitsOf_107 ck_RX5_19 rfl sh_2 rfl (by decide) (R 2 rfl) rfl rfl (Nat.le_of_ble_eq_true rfl) (Nat.le_of_ble_eq_true rfl) (by decide) rfl rfl (fun Ψ hΨ => run_pI_unitAt R _ rfl hΨ) ?_
        show Run Γ rg κ Y_X5_unitsOf 110 [(20, 0), (0, c1), (0, c2), (0, x1), (0, c4), (5, 0), (0, a6), (0, a7)] [(0, (pI_unitAt a6 D))] D Φ
        show Run Γ rg κ Y_X5_unitsOf 110 [(20, 0), (0, c1), (0, c2), (0, x1), (0, c4), (5, 0), (0, a6), (0, a7)] [(0, (pI_unitAt a6 D))] D Φ
        refine c_lt d_X5_unitsOf_110 (by decide) rfl h (fun x2 h => ?_)
        show Run Γ rg κ Y_X5_unitsOf 112 [(20, 0), (0, c1), (0, c2), (0, x1), (0, c4), (5, 0), (0, x2), (0, a7)] [] D Φ
        refine r_iinc d_X5_unitsOf_112 rfl (by decide) rfl ?_
        show Run Γ rg κ Y_X5_unitsOf 115 [(20, 0), (0, c1), (0, c2), (0, x1), (0, c4), (5, 0), (0, x2), (0, (a7 + 1))] [] D Φ
        refine r_goto (tgt := 78) d_X5_unitsOf_115 (by decide) ?_
        exact (ih x1 x2 (a7 + 1) D h)
