/-! the class: each run keeps to its reading -/
set_option maxRecDepth 20000 in
theorem run_pI_placeOfKey {Γ : GG} {rg : Nat → Bool} {κ : Nat} {Φ : OT → DD → Prop} (R : cov rg rg0) (p1 : Int) {D : DD} {x : Int} (h : EQx x (pI_placeOfKey p1 D)) (hΦ : Φ (.inl (some (0, x))) D) : Run Γ rg κ Y_X2_placeOfKey 0 [(10, 0), (0, p1)] [] D Φ := by
  unfold pI_placeOfKey at h
  show Run Γ rg κ Y_X2_placeOfKey 0 [(10, 0), (0, p1)] [] D Φ
  refine r_aload_n d_X2_placeOfKey_0 rfl (by decide) ?_
  refine r_getR (t := 5) d_X2_placeOfKey_1 fk_RX2_18 sh_2 rfl (by decide) (R 2 rfl) ?_
  refine r_iload_n d_X2_placeOfKey_4 rfl ?_
  refine c_callNPi (as := [(13, 0), (0, p1)]) (rest := []) (ls' := [(13, 0), (0, p1)]) d_X2_placeOfKey_5 ck_RX2_41 rfl rfl rfl (Nat.le_of_ble_eq_true rfl) (Nat.le_of_ble_eq_true rfl) (by decide) rfl rfl (fun Ψ hΨ => run_pH_read sh_5 (by decide) (R 5 rfl) (by decide) _ rfl hΨ) ?_
  show Run Γ rg κ Y_X2_placeOfKey 8 [(10, 0), (0, p1)] [(0, (rd 80 5 p1 D))] D Φ
  exact e_iret d_X2_placeOfKey_8 rfl h hΦ
set_option maxRecDepth 20000 in
theorem run_pH_hasKey {Γ : GG} {rg : Nat → Bool} {κ : Nat} {Φ : OT → DD → Prop} (R : cov rg rg0) (p1 : Int) {D : DD} {x : Int} (h : EQx x (pH_hasKey p1 D)) (hΦ : Φ (.inl (some (0, x))) D) : Run Γ rg κ Y_X7_hasKey 0 [(8, 0), (0, p1)] [] D Φ := by
  unfold pH_hasKey at h
  show Run Γ rg κ Y_X7_hasKey 0 [(8, 0), (0, p1)] [] D Φ
  refine r_aload_n d_X7_hasKey_0 rfl (by decide) ?_
  refine r_getR (t := 2) d_X7_hasKey_1 fk_RX7_21 sh_0 rfl (by decide) (R 0 rfl) ?_
  refine r_iload_n d_X7_hasKey_4 rfl ?_
  refine c_callVPi (a := 2) (z := 0) (as := [(0, p1)]) (rest := []) (ls' := [(10, 0), (0, p1)]) d_X7_hasKey_5 ck_RX7_108 rfl sh_2 rfl (by decide) (R 2 rfl) rfl rfl (Nat.le_of_ble_eq_true rfl) (Nat.le_of_ble_eq_true rfl) (by decide) rfl rfl (fun Ψ hΨ => run_pI_placeOfKey R _ rfl hΨ) ?_
  show Run Γ rg κ Y_X7_hasKey 8 [(8, 0), (0, p1)] [(0, (pI_placeOfKey p1 D))] D Φ
  refine c_if_eq (tgt := 15) d_X7_hasKey_8 (by decide) (nz_w _) h (fun h => ?_) (fun h => ?_)
  · skip
    show Run Γ rg κ Y_X7_hasKey 15 [(8, 0), (0, p1)] [] D Φ
    refine r_iconst d_X7_hasKey_15 ?_
    exact e_zret d_X7_hasKey_16 rfl (Or.inl rfl) h hΦ
  · skip
    show Run Γ rg κ Y_X7_hasKey 11 [(8, 0), (0, p1)] [] D Φ
    refine r_iconst d_X7_hasKey_11 ?_
    refine r_goto (tgt := 16) d_X7_hasKey_12 (by decide) ?_
    show Run Γ rg κ Y_X7_hasKey 16 [(8, 0), (0, p1)] [(0, 1)] D Φ
    exact e_zret d_X7_hasKey_16 rfl (Or.inr rfl) h hΦ
set_option maxRecDepth 20000 in
theorem run_pH_requireKey {Γ : GG} {rg : Nat → Bool} {κ : Nat} {Φ : OT → DD → Prop} (R : cov rg rg0) (p1 : Int) {D : DD} (h : WP none κ Φ (pH_requireKey p1 D)) : Run Γ rg κ Y_X7_requireKey 0 [(8, 0), (0, p1)] [] D Φ := by
  unfold pH_requireKey at h
  show Run Γ rg κ Y_X7_requireKey 0 [(8, 0), (0, p1)] [] D Φ
  refine r_aload_n d_X7_requireKey_0 rfl (by decide) ?_
  refine r_iload_n d_X7_requireKey_1 rfl ?_
  refine c_callVPi (a := 0) (z := 0) (as := [(0, p1)]) (rest := []) (ls' := [(8, 0), (0, p1)]) d_X7_requireKey_2 ck_RX7_189 rfl sh_0 rfl (by decide) (R 0 rfl) rfl rfl (Nat.le_of_ble_eq_true rfl) (Nat.le_of_ble_eq_true rfl) (by decide) rfl rfl (fun Ψ hΨ => run_pH_hasKey R _ rfl hΨ) ?_
  show Run Γ rg κ Y_X7_requireKey 5 [(8, 0), (0, p1)] [(0, (pH_hasKey p1 D))] D Φ
  refine c_if_ne (tgt := 19) d_X7_requireKey_5 (by decide) (nz_b (pH_hasKey_b p1 D)) h (fun h => ?_) (fun h => ?_)
  · skip
    show Run Γ rg κ Y_X7_requireKey 19 [(8, 0), (0, p1)] [] D Φ
    exact c_vret d_X7_requireKey_19 rfl h
  · skip
    show Run Γ rg κ Y_X7_requireKey 8 [(8, 0), (0, p1)] [] D Φ
    exact c_throwW (text := "there is no such key") tk_RX7_173_177 (by decide +kernel) d_X7_requireKey_8 d_X7_requireKey_11 d_X7_requireKey_12 d_X7_requireKey_15 d_X7_requireKey_18 rfl (by decide) (Nat.le_of_ble_eq_true rfl) h
set_option maxRecDepth 20000 in
theorem run_pH_requireName {Γ : GG} {rg : Nat → Bool} {κ : Nat} {Φ : OT → DD → Prop} (R : cov rg rg0) (p1 : Int) {D : DD} (h : WP none κ Φ (pH_requireName p1 D)) : Run Γ rg κ Y_X7_requireName 0 [(0, p1)] [] D Φ := by
  unfold pH_requireName at h
  show Run Γ rg κ Y_X7_requireName 0 [(0, p1)] [] D Φ
  refine r_iload_n d_X7_requireName_0 rfl ?_
  refine c_jn (fun J => ∀ (D1 : DD), WP none κ Φ (J D1) → Run Γ rg κ Y_X7_requireName 11 [(5, 0)] [] D1 Φ) h ?_ (fun J1 hJ1 h => ?_)
  · intro D1 h
    show Run Γ rg κ Y_X7_requireName 11 [(5, 0)] [] D1 Φ
    exact c_throwW (text := "the name of a key is out of range") tk_RX7_279_283 (by decide +kernel) d_X7_requireName_11 d_X7_requireName_14 d_X7_requireName_15 d_X7_requireName_18 d_X7_requireName_21 rfl (by decide) (Nat.le_of_ble_eq_true rfl) h
  refine c_if_lt (tgt := 11) d_X7_requireName_1 (by decide) (nz_w _) h (fun h => ?_) (fun h => ?_)
  · skip
    exact Run.forget (ls' := [(5, 0)]) ⟨Or.inl rfl, trivial⟩ (hJ1 D h)
  · skip
    show Run Γ rg κ Y_X7_requireName 4 [(0, p1)] [] D Φ
    refine r_iload_n d_X7_requireName_4 rfl ?_
    refine r_sipush d_X7_requireName_5 (by decide) ?_
    refine c_icmp_le (tgt := 22) d_X7_requireName_8 (by decide) (nz_w _) (nz_k rfl) h (fun h => ?_) (fun h => ?_)
    · skip
      show Run Γ rg κ Y_X7_requireName 22 [(0, p1)] [] D Φ
      exact c_vret d_X7_requireName_22 rfl h
    · skip
      exact Run.forget (ls' := [(5, 0)]) ⟨Or.inl rfl, trivial⟩ (hJ1 D h)
set_option maxRecDepth 20000 in
theorem run_pL_rankOf {Γ : GG} {rg : Nat → Bool} {κ : Nat} {Φ : OT → DD → Prop} (R : cov rg rg0) (p1 : Int) {D : DD} {x : Int} (h : EQx x (pL_rankOf p1)) (hΦ : Φ (.inl (some (0, x))) D) : Run Γ rg κ Y_X3_rankOf 0 [(0, p1)] [] D Φ := by
  unfold pL_rankOf at h
  show Run Γ rg κ Y_X3_rankOf 0 [(0, p1)] [] D Φ
  refine r_bipush d_X3_rankOf_0 (by decide) ?_
  refine r_iload_n d_X3_rankOf_2 rfl ?_
  refine r_imul d_X3_rankOf_3 ?_
  refine r_bipush d_X3_rankOf_4 (by decide) ?_
  refine c_irem d_X3_rankOf_6 (nz_w _) ⟨by decide, by decide⟩ (by decide) ?_
  refine r_sipush d_X3_rankOf_7 (by decide) ?_
  refine r_imul d_X3_rankOf_10 ?_
  refine r_iload_n d_X3_rankOf_11 rfl ?_
  refine r_iadd d_X3_rankOf_12 ?_
  exact e_iret d_X3_rankOf_13 rfl h hΦ
set_option maxRecDepth 20000 in
theorem run_pL_entryOf {Γ : GG} {rg : Nat → Bool} {κ : Nat} {Φ : OT → DD → Prop} (R : cov rg rg0) (p1 : Int) (p2 : Int) {D : DD} {x : Int} (h : EQx x (pL_entryOf p1 p2)) (hΦ : Φ (.inl (some (0, x))) D) : Run Γ rg κ Y_X3_entryOf 0 [(0, p1), (0, p2)] [] D Φ := by
  unfold pL_entryOf at h
  show Run Γ rg κ Y_X3_entryOf 0 [(0, p1), (0, p2)] [] D Φ
  refine r_iload_n d_X3_entryOf_0 rfl ?_
  refine c_callSPi (as := [(0, p2)]) (rest := []) (ls' := [(0, p2)]) d_X3_entryOf_1 ck_RX3_19 rfl rfl rfl (Nat.le_of_ble_eq_true rfl) (Nat.le_of_ble_eq_true rfl) (by decide) rfl rfl (fun Ψ hΨ => run_pL_rankOf R _ rfl hΨ) ?_
  show Run Γ rg κ Y_X3_entryOf 4 [(0, p1), (0, p2)] [(0, (pL_rankOf p2))] D Φ
  refine r_bipush d_X3_entryOf_4 (by decide) ?_
  refine r_imul d_X3_entryOf_6 ?_
  refine r_iload_n d_X3_entryOf_7 rfl ?_
  refine r_iadd d_X3_entryOf_8 ?_
  exact e_iret d_X3_entryOf_9 rfl h hΦ
set_option maxRecDepth 20000 in
theorem run_pI_unitAt {Γ : GG} {rg : Nat → Bool} {κ : Nat} {Φ : OT → DD → Prop} (R : cov rg rg0) (p1 : Int) {D : DD} {x : Int} (h : EQx x (pI_unitAt p1 D)) (hΦ : Φ (.inl (some (0, x))) D) : Run Γ rg κ Y_X2_unitAt 0 [(10, 0), (0, p1)] [] D Φ := by
  unfold pI_unitAt at h
  show Run Γ rg κ Y_X2_unitAt 0 [(10, 0), (0, p1)] [] D Φ
  refine r_aload_n d_X2_unitAt_0 rfl (by decide) ?_
  refine r_getR (t := 4) d_X2_unitAt_1 fk_RX2_15 sh_2 rfl (by decide) (R 2 rfl) ?_
  refine r_iload_n d_X2_unitAt_4 rfl ?_
  refine c_callNPi (as := [(12, 0), (0, p1)]) (rest := []) (ls' := [(12, 0), (0, p1)]) d_X2_unitAt_5 ck_RX2_41 rfl rfl rfl (Nat.le_of_ble_eq_true rfl) (Nat.le_of_ble_eq_true rfl) (by decide) rfl rfl (fun Ψ hΨ => run_pH_read sh_4 (by decide) (R 4 rfl) (by decide) _ rfl hΨ) ?_
  show Run Γ rg κ Y_X2_unitAt 8 [(10, 0), (0, p1)] [(0, (rd 1024 4 p1 D))] D Φ
  exact e_iret d_X2_unitAt_8 rfl h hΦ
set_option maxRecDepth 20000 in
theorem run_pH_isLink {Γ : GG} {rg : Nat → Bool} {κ : Nat} {Φ : OT → DD → Prop} (R : cov rg rg0) (p1 : Int) {D : DD} {x : Int} (h : EQx x (pH_isLink p1 D)) (hΦ : Φ (.inl (some (0, x))) D) : Run Γ rg κ Y_X7_isLink 0 [(8, 0), (0, p1)] [] D Φ := by
  unfold pH_isLink at h
  show Run Γ rg κ Y_X7_isLink 0 [(8, 0), (0, p1)] [] D Φ
  refine r_aload_n d_X7_isLink_0 rfl (by decide) ?_
  refine r_iload_n d_X7_isLink_1 rfl ?_
  refine c_callVPi (a := 0) (z := 0) (as := [(0, p1)]) (rest := []) (ls' := [(8, 0), (0, p1)]) d_X7_isLink_2 ck_RX7_189 rfl sh_0 rfl (by decide) (R 0 rfl) rfl rfl (Nat.le_of_ble_eq_true rfl) (Nat.le_of_ble_eq_true rfl) (by decide) rfl rfl (fun Ψ hΨ => run_pH_hasKey R _ rfl hΨ) ?_
  show Run Γ rg κ Y_X7_isLink 5 [(8, 0), (0, p1)] [(0, (pH_hasKey p1 D))] D Φ
  refine c_if_eq (tgt := 33) d_X7_isLink_5 (by decide) (nz_b (pH_hasKey_b p1 D)) h (fun h => ?_) (fun h => ?_)
  · skip
    show Run Γ rg κ Y_X7_isLink 33 [(8, 0), (0, p1)] [] D Φ
    refine r_iconst d_X7_isLink_33 ?_
    exact e_zret d_X7_isLink_34 rfl (Or.inl rfl) h hΦ
  · skip
    show Run Γ rg κ Y_X7_isLink 8 [(8, 0), (0, p1)] [] D Φ
    refine r_aload_n d_X7_isLink_8 rfl (by decide) ?_
    refine r_getR (t := 2) d_X7_isLink_9 fk_RX7_21 sh_0 rfl (by decide) (R 0 rfl) ?_
    refine r_aload_n d_X7_isLink_12 rfl (by decide) ?_
    refine r_getR (t := 2) d_X7_isLink_13 fk_RX7_21 sh_0 rfl (by decide) (R 0 rfl) ?_
    refine r_iload_n d_X7_isLink_16 rfl ?_
    refine c_callVPi (a := 2) (z := 0) (as := [(0, p1)]) (rest := [(10, 0)]) (ls' := [(10, 0), (0, p1)]) d_X7_isLink_17 ck_RX7_108 rfl sh_2 rfl (by decide) (R 2 rfl) rfl rfl (Nat.le_of_ble_eq_true rfl) (Nat.le_of_ble_eq_true rfl) (by decide) rfl rfl (fun Ψ hΨ => run_pI_placeOfKey R _ rfl hΨ) ?_
    show Run Γ rg κ Y_X7_isLink 20 [(8, 0), (0, p1)] [(0, (pI_placeOfKey p1 D)), (10, 0)] D Φ
    refine r_iconst d_X7_isLink_20 ?_
    refine r_iadd d_X7_isLink_21 ?_
    refine c_callVPi (a := 2) (z := 0) (as := [(0, ((pI_placeOfKey p1 D) + 5))]) (rest := []) (ls' := [(10, 0), (0, ((pI_placeOfKey p1 D) + 5))]) d_X7_isLink_22 ck_RX7_111 rfl sh_2 rfl (by decide) (R 2 rfl) rfl rfl (Nat.le_of_ble_eq_true rfl) (Nat.le_of_ble_eq_true rfl) (by decide) rfl rfl (fun Ψ hΨ => run_pI_unitAt R _ rfl hΨ) ?_
    show Run Γ rg κ Y_X7_isLink 25 [(8, 0), (0, p1)] [(0, (pI_unitAt ((pI_placeOfKey p1 D) + 5) D))] D Φ
    refine r_iconst d_X7_isLink_25 ?_
    refine c_icmp_eq (tgt := 33) d_X7_isLink_26 (by decide) (nz_w _) (nz_k rfl) h (fun h => ?_) (fun h => ?_)
    · skip
      show Run Γ rg κ Y_X7_isLink 33 [(8, 0), (0, p1)] [] D Φ
      refine r_iconst d_X7_isLink_33 ?_
      exact e_zret d_X7_isLink_34 rfl (Or.inl rfl) h hΦ
    · skip
      show Run Γ rg κ Y_X7_isLink 29 [(8, 0), (0, p1)] [] D Φ
      refine r_iconst d_X7_isLink_29 ?_
      refine r_goto (tgt := 34) d_X7_isLink_30 (by decide) ?_
      show Run Γ rg κ Y_X7_isLink 34 [(8, 0), (0, p1)] [(0, 1)] D Φ
      exact e_zret d_X7_isLink_34 rfl (Or.inr rfl) h hΦ
set_option maxRecDepth 20000 in
theorem run_pH_requireNoLink {Γ : GG} {rg : Nat → Bool} {κ : Nat} {Φ : OT → DD → Prop} (R : cov rg rg0) (p1 : Int) {D : DD} (h : WP none κ Φ (pH_requireNoLink p1 D)) : Run Γ rg κ Y_X7_requireNoLink 0 [(8, 0), (0, p1)] [] D Φ := by
  unfold pH_requireNoLink at h
  show Run Γ rg κ Y_X7_requireNoLink 0 [(8, 0), (0, p1)] [] D Φ
  refine r_aload_n d_X7_requireNoLink_0 rfl (by decide) ?_
  refine r_iload_n d_X7_requireNoLink_1 rfl ?_
  refine c_callVPi (a := 0) (z := 0) (as := [(0, p1)]) (rest := []) (ls' := [(8, 0), (0, p1)]) d_X7_requireNoLink_2 ck_RX7_186 rfl sh_0 rfl (by decide) (R 0 rfl) rfl rfl (Nat.le_of_ble_eq_true rfl) (Nat.le_of_ble_eq_true rfl) (by decide) rfl rfl (fun Ψ hΨ => run_pH_isLink R _ rfl hΨ) ?_
  show Run Γ rg κ Y_X7_requireNoLink 5 [(8, 0), (0, p1)] [(0, (pH_isLink p1 D))] D Φ
  refine c_if_eq (tgt := 19) d_X7_requireNoLink_5 (by decide) (nz_b (pH_isLink_b p1 D)) h (fun h => ?_) (fun h => ?_)
  · skip
    show Run Γ rg κ Y_X7_requireNoLink 19 [(8, 0), (0, p1)] [] D Φ
    exact c_vret d_X7_requireNoLink_19 rfl h
  · skip
    show Run Γ rg κ Y_X7_requireNoLink 8 [(8, 0), (0, p1)] [] D Φ
    exact c_throwW (text := "the key is a link") tk_RX7_204_208 (by decide +kernel) d_X7_requireNoLink_8 d_X7_requireNoLink_11 d_X7_requireNoLink_12 d_X7_requireNoLink_15 d_X7_requireNoLink_18 rfl (by decide) (Nat.le_of_ble_eq_true rfl) h
set_option maxRecDepth 20000 in
theorem run_pL_isIndex {Γ : GG} {rg : Nat → Bool} {κ : Nat} {Φ : OT → DD → Prop} (R : cov rg rg0) (p1 : Int) {D : DD} {x : Int} (h : EQx x (pL_isIndex p1 D)) (hΦ : Φ (.inl (some (0, x))) D) : Run Γ rg κ Y_X3_isIndex 0 [(19, 0), (0, p1)] [] D Φ := by
  unfold pL_isIndex at h
  show Run Γ rg κ Y_X3_isIndex 0 [(19, 0), (0, p1)] [] D Φ
  refine r_aload_n d_X3_isIndex_0 rfl (by decide) ?_
  refine r_getR (t := 2) d_X3_isIndex_1 fk_RX3_9 sh_11 rfl (by decide) (R 11 rfl) ?_
  refine r_getR (t := 3) d_X3_isIndex_4 fk_RX3_93 sh_2 rfl (by decide) (R 2 rfl) ?_
  refine r_iload_n d_X3_isIndex_7 rfl ?_
  refine c_callNPi (as := [(11, 0), (0, p1)]) (rest := []) (ls' := [(11, 0), (0, p1)]) d_X3_isIndex_8 ck_RX3_97 rfl rfl rfl (Nat.le_of_ble_eq_true rfl) (Nat.le_of_ble_eq_true rfl) (by decide) rfl rfl (fun Ψ hΨ => run_pH_read sh_3 (by decide) (R 3 rfl) (by decide) _ rfl hΨ) ?_
  show Run Γ rg κ Y_X3_isIndex 11 [(19, 0), (0, p1)] [(0, (rd 1024 3 p1 D))] D Φ
  refine r_bipush d_X3_isIndex_11 (by decide) ?_
  refine c_icmp_ne (tgt := 20) d_X3_isIndex_13 (by decide) (nz_w _) (nz_k rfl) h (fun h => ?_) (fun h => ?_)
  · skip
    show Run Γ rg κ Y_X3_isIndex 20 [(19, 0), (0, p1)] [] D Φ
    refine r_iconst d_X3_isIndex_20 ?_
    exact e_zret d_X3_isIndex_21 rfl (Or.inl rfl) h hΦ
  · skip
    show Run Γ rg κ Y_X3_isIndex 16 [(19, 0), (0, p1)] [] D Φ
    refine r_iconst d_X3_isIndex_16 ?_
    refine r_goto (tgt := 21) d_X3_isIndex_17 (by decide) ?_
    show Run Γ rg κ Y_X3_isIndex 21 [(19, 0), (0, p1)] [(0, 1)] D Φ
    exact e_zret d_X3_isIndex_21 rfl (Or.inr rfl) h hΦ
set_option maxRecDepth 20000 in
theorem run_pI_itemCount {Γ : GG} {rg : Nat → Bool} {κ : Nat} {Φ : OT → DD → Prop} (R : cov rg rg0) (p1 : Int) {D : DD} {x : Int} (h : EQx x (pI_itemCount p1 D)) (hΦ : Φ (.inl (some (0, x))) D) : Run Γ rg κ Y_X2_itemCount 0 [(10, 0), (0, p1)] [] D Φ := by
  unfold pI_itemCount at h
  show Run Γ rg κ Y_X2_itemCount 0 [(10, 0), (0, p1)] [] D Φ
  refine r_aload_n d_X2_itemCount_0 rfl (by decide) ?_
  refine r_getR (t := 4) d_X2_itemCount_1 fk_RX2_15 sh_2 rfl (by decide) (R 2 rfl) ?_
  refine r_iload_n d_X2_itemCount_4 rfl ?_
  refine c_callNPi (as := [(12, 0), (0, p1)]) (rest := []) (ls' := [(12, 0), (0, p1)]) d_X2_itemCount_5 ck_RX2_41 rfl rfl rfl (Nat.le_of_ble_eq_true rfl) (Nat.le_of_ble_eq_true rfl) (by decide) rfl rfl (fun Ψ hΨ => run_pH_read sh_4 (by decide) (R 4 rfl) (by decide) _ rfl hΨ) ?_
  show Run Γ rg κ Y_X2_itemCount 8 [(10, 0), (0, p1)] [(0, (rd 1024 4 p1 D))] D Φ
  exact e_iret d_X2_itemCount_8 rfl h hΦ
set_option maxRecDepth 20000 in
theorem run_pL_leafCount {Γ : GG} {rg : Nat → Bool} {κ : Nat} {Φ : OT → DD → Prop} (R : cov rg rg0) (p1 : Int) {D : DD} {x : Int} (h : EQx x (pL_leafCount p1 D)) (hΦ : Φ (.inl (some (0, x))) D) : Run Γ rg κ Y_X3_leafCount 0 [(19, 0), (0, p1), (5, 0)] [] D Φ := by
  unfold pL_leafCount at h
  show Run Γ rg κ Y_X3_leafCount 0 [(19, 0), (0, p1), (5, 0)] [] D Φ
  refine r_aload_n d_X3_leafCount_0 rfl (by decide) ?_
  refine r_getR (t := 2) d_X3_leafCount_1 fk_RX3_9 sh_11 rfl (by decide) (R 11 rfl) ?_
  refine r_iload_n d_X3_leafCount_4 rfl ?_
  refine r_iconst d_X3_leafCount_5 ?_
  refine r_iadd d_X3_leafCount_6 ?_
  refine c_callVPi (a := 2) (z := 0) (as := [(0, (p1 + 2))]) (rest := []) (ls' := [(10, 0), (0, (p1 + 2))]) d_X3_leafCount_7 ck_RX3_23 rfl sh_2 rfl (by decide) (R 2 rfl) rfl rfl (Nat.le_of_ble_eq_true rfl) (Nat.le_of_ble_eq_true rfl) (by decide) rfl rfl (fun Ψ hΨ => run_pI_unitAt R _ rfl hΨ) ?_
  show Run Γ rg κ Y_X3_leafCount 10 [(19, 0), (0, p1), (5, 0)] [(0, (pI_unitAt (p1 + 2) D))] D Φ
  refine c_lt_n d_X3_leafCount_10 (by decide) rfl h (fun x1 h => ?_)
  show Run Γ rg κ Y_X3_leafCount 11 [(19, 0), (0, p1), (0, x1)] [] D Φ
  refine r_iload_n d_X3_leafCount_11 rfl ?_
  refine c_if_ne (tgt := 17) d_X3_leafCount_12 (by decide) (nz_w _) h (fun h => ?_) (fun h => ?_)
  · skip
    show Run Γ rg κ Y_X3_leafCount 17 [(19, 0), (0, p1), (0, x1)] [] D Φ
    refine r_aload_n d_X3_leafCount_17 rfl (by decide) ?_
    refine r_iload_n d_X3_leafCount_18 rfl ?_
    refine c_callVPi (a := 11) (z := 0) (as := [(0, x1)]) (rest := []) (ls' := [(19, 0), (0, x1)]) d_X3_leafCount_19 ck_RX3_28 rfl sh_11 rfl (by decide) (R 11 rfl) rfl rfl (Nat.le_of_ble_eq_true rfl) (Nat.le_of_ble_eq_true rfl) (by decide) rfl rfl (fun Ψ hΨ => run_pL_isIndex R _ rfl hΨ) ?_
    show Run Γ rg κ Y_X3_leafCount 22 [(19, 0), (0, p1), (0, x1)] [(0, (pL_isIndex x1 D))] D Φ
    refine c_if_eq (tgt := 36) d_X3_leafCount_22 (by decide) (nz_b (pL_isIndex_b x1 D)) h (fun h => ?_) (fun h => ?_)
    · skip
      show Run Γ rg κ Y_X3_leafCount 36 [(19, 0), (0, p1), (0, x1)] [] D Φ
      refine r_iconst d_X3_leafCount_36 ?_
      exact e_iret d_X3_leafCount_37 rfl h hΦ
    · skip
      show Run Γ rg κ Y_X3_leafCount 25 [(19, 0), (0, p1), (0, x1)] [] D Φ
      refine r_aload_n d_X3_leafCount_25 rfl (by decide) ?_
      refine r_getR (t := 2) d_X3_leafCount_26 fk_RX3_9 sh_11 rfl (by decide) (R 11 rfl) ?_
      refine r_iload_n d_X3_leafCount_29 rfl ?_
      refine c_callVPi (a := 2) (z := 0) (as := [(0, x1)]) (rest := []) (ls' := [(10, 0), (0, x1)]) d_X3_leafCount_30 ck_RX3_32 rfl sh_2 rfl (by decide) (R 2 rfl) rfl rfl (Nat.le_of_ble_eq_true rfl) (Nat.le_of_ble_eq_true rfl) (by decide) rfl rfl (fun Ψ hΨ => run_pI_itemCount R _ rfl hΨ) ?_
      show Run Γ rg κ Y_X3_leafCount 33 [(19, 0), (0, p1), (0, x1)] [(0, (pI_itemCount x1 D))] D Φ
      refine r_goto (tgt := 37) d_X3_leafCount_33 (by decide) ?_
      show Run Γ rg κ Y_X3_leafCount 37 [(19, 0), (0, p1), (0, x1)] [(0, (pI_itemCount x1 D))] D Φ
      exact e_iret d_X3_leafCount_37 rfl h hΦ
  · skip
    show Run Γ rg κ Y_X3_leafCount 15 [(19, 0), (0, p1), (0, x1)] [] D Φ
    refine r_iconst d_X3_leafCount_15 ?_
    exact e_iret d_X3_leafCount_16 rfl h hΦ
set_option maxRecDepth 20000 in
theorem run_pI_item {Γ : GG} {rg : Nat → Bool} {κ : Nat} {Φ : OT → DD → Prop} (R : cov rg rg0) (p1 : Int) (p2 : Int) {D : DD} {x : Int} (h : EQx x (pI_item p1 p2 D)) (hΦ : Φ (.inl (some (0, x))) D) : Run Γ rg κ Y_X2_item 0 [(10, 0), (0, p1), (0, p2)] [] D Φ := by
  unfold pI_item at h
  show Run Γ rg κ Y_X2_item 0 [(10, 0), (0, p1), (0, p2)] [] D Φ
  refine r_aload_n d_X2_item_0 rfl (by decide) ?_
  refine r_getR (t := 4) d_X2_item_1 fk_RX2_15 sh_2 rfl (by decide) (R 2 rfl) ?_
  refine r_iload_n d_X2_item_4 rfl ?_
  refine r_iconst d_X2_item_5 ?_
  refine r_iadd d_X2_item_6 ?_
  refine r_iload_n d_X2_item_7 rfl ?_
  refine r_iadd d_X2_item_8 ?_
  refine c_callNPi (as := [(12, 0), (0, ((p1 + 1) + p2))]) (rest := []) (ls' := [(12, 0), (0, ((p1 + 1) + p2))]) d_X2_item_9 ck_RX2_41 rfl rfl rfl (Nat.le_of_ble_eq_true rfl) (Nat.le_of_ble_eq_true rfl) (by decide) rfl rfl (fun Ψ hΨ => run_pH_read sh_4 (by decide) (R 4 rfl) (by decide) _ rfl hΨ) ?_
  show Run Γ rg κ Y_X2_item 12 [(10, 0), (0, p1), (0, p2)] [(0, (rd 1024 4 ((p1 + 1) + p2) D))] D Φ
  exact e_iret d_X2_item_12 rfl h hΦ
set_option maxRecDepth 20000 in
theorem run_pL_leafNumbered {Γ : GG} {rg : Nat → Bool} {κ : Nat} {Φ : OT → DD → Prop} (R : cov rg rg0) (p1 : Int) (p2 : Int) {D : DD} {x : Int} (h : EQx x (pL_leafNumbered p1 p2 D)) (hΦ : Φ (.inl (some (0, x))) D) : Run Γ rg κ Y_X3_leafNumbered 0 [(19, 0), (0, p1), (0, p2), (5, 0)] [] D Φ := by
  unfold pL_leafNumbered at h
  show Run Γ rg κ Y_X3_leafNumbered 0 [(19, 0), (0, p1), (0, p2), (5, 0)] [] D Φ
  refine r_aload_n d_X3_leafNumbered_0 rfl (by decide) ?_
  refine r_getR (t := 2) d_X3_leafNumbered_1 fk_RX3_9 sh_11 rfl (by decide) (R 11 rfl) ?_
  refine r_iload_n d_X3_leafNumbered_4 rfl ?_
  refine r_iconst d_X3_leafNumbered_5 ?_
  refine r_iadd d_X3_leafNumbered_6 ?_
  refine c_callVPi (a := 2) (z := 0) (as := [(0, (p1 + 2))]) (rest := []) (ls' := [(10, 0), (0, (p1 + 2))]) d_X3_leafNumbered_7 ck_RX3_23 rfl sh_2 rfl (by decide) (R 2 rfl) rfl rfl (Nat.le_of_ble_eq_true rfl) (Nat.le_of_ble_eq_true rfl) (by decide) rfl rfl (fun Ψ hΨ => run_pI_unitAt R _ rfl hΨ) ?_
  show Run Γ rg κ Y_X3_leafNumbered 10 [(19, 0), (0, p1), (0, p2), (5, 0)] [(0, (pI_unitAt (p1 + 2) D))] D Φ
  refine c_lt_n d_X3_leafNumbered_10 (by decide) rfl h (fun x1 h => ?_)
  show Run Γ rg κ Y_X3_leafNumbered 11 [(19, 0), (0, p1), (0, p2), (0, x1)] [] D Φ
  refine r_aload_n d_X3_leafNumbered_11 rfl (by decide) ?_
  refine r_iload_n d_X3_leafNumbered_12 rfl ?_
  refine c_callVPi (a := 11) (z := 0) (as := [(0, x1)]) (rest := []) (ls' := [(19, 0), (0, x1)]) d_X3_leafNumbered_13 ck_RX3_28 rfl sh_11 rfl (by decide) (R 11 rfl) rfl rfl (Nat.le_of_ble_eq_true rfl) (Nat.le_of_ble_eq_true rfl) (by decide) rfl rfl (fun Ψ hΨ => run_pL_isIndex R _ rfl hΨ) ?_
  show Run Γ rg κ Y_X3_leafNumbered 16 [(19, 0), (0, p1), (0, p2), (0, x1)] [(0, (pL_isIndex x1 D))] D Φ
  refine c_if_eq (tgt := 31) d_X3_leafNumbered_16 (by decide) (nz_b (pL_isIndex_b x1 D)) h (fun h => ?_) (fun h => ?_)
  · skip
    show Run Γ rg κ Y_X3_leafNumbered 31 [(19, 0), (0, p1), (0, p2), (0, x1)] [] D Φ
    refine r_iload_n d_X3_leafNumbered_31 rfl ?_
    exact e_iret d_X3_leafNumbered_32 rfl h hΦ
  · skip
    show Run Γ rg κ Y_X3_leafNumbered 19 [(19, 0), (0, p1), (0, p2), (0, x1)] [] D Φ
    refine r_aload_n d_X3_leafNumbered_19 rfl (by decide) ?_
    refine r_getR (t := 2) d_X3_leafNumbered_20 fk_RX3_9 sh_11 rfl (by decide) (R 11 rfl) ?_
    refine r_iload_n d_X3_leafNumbered_23 rfl ?_
    refine r_iload_n d_X3_leafNumbered_24 rfl ?_
    refine c_callVPi (a := 2) (z := 0) (as := [(0, x1), (0, p2)]) (rest := []) (ls' := [(10, 0), (0, x1), (0, p2)]) d_X3_leafNumbered_25 ck_RX3_45 rfl sh_2 rfl (by decide) (R 2 rfl) rfl rfl (Nat.le_of_ble_eq_true rfl) (Nat.le_of_ble_eq_true rfl) (by decide) rfl rfl (fun Ψ hΨ => run_pI_item R _ _ rfl hΨ) ?_
    show Run Γ rg κ Y_X3_leafNumbered 28 [(19, 0), (0, p1), (0, p2), (0, x1)] [(0, (pI_item x1 p2 D))] D Φ
    refine r_goto (tgt := 32) d_X3_leafNumbered_28 (by decide) ?_
    show Run Γ rg κ Y_X3_leafNumbered 32 [(19, 0), (0, p1), (0, p2), (0, x1)] [(0, (pI_item x1 p2 D))] D Φ
    exact e_iret d_X3_leafNumbered_32 rfl h hΦ
set_option maxRecDepth 20000 in
theorem run_pL_keyInLeaf_12 {Γ : GG} {rg : Nat → Bool} {κ : Nat} {Φ : OT → DD → Prop} (R : cov rg rg0) (a1 : Int) (a2 : Int) (a3 : Int) {K : Int → DD → Res} (hK : ∀ (z5 : Int) (D : DD), WP (some .int) κ Φ (K z5 D) → Run Γ rg κ Y_X3_keyInLeaf 42 [(5, 0), (5, 0), (5, 0), (5, 0), (5, 0), (0, z5)] [] D Φ) : ∀ (n : Nat) (a4 : Int) (D : DD), WP (some .int) κ Φ (pL_keyInLeaf_12 a1 a2 a3 n a4 D K) → Run Γ rg κ Y_X3_keyInLeaf 12 [(19, 0), (0, a1), (0, a2), (0, a3), (0, a4), (5, 0)] [] D Φ := by
  intro n
  induction n with
  | zero => intro a4 D h; exact h.no.elim
  | succ n ih =>
    intro a4 D h
    rw [pL_keyInLeaf_12] at h
    show Run Γ rg κ Y_X3_keyInLeaf 12 [(19, 0), (0, a1), (0, a2), (0, a3), (0, a4), (5, 0)] [] D Φ
    refine r_iload d_X3_keyInLeaf_12 rfl ?_
    refine r_iload_n d_X3_keyInLeaf_14 rfl ?_
    refine c_icmp_ge (tgt := 54) d_X3_keyInLeaf_15 (by decide) (nz_w _) (nz_w _) h (fun h => ?_) (fun h => ?_)
    · skip
      show Run Γ rg κ Y_X3_keyInLeaf 54 [(19, 0), (0, a1), (0, a2), (0, a3), (0, a4), (5, 0)] [] D Φ
      refine r_iconst d_X3_keyInLeaf_54 ?_
      exact c_iret d_X3_keyInLeaf_55 rfl h
    · skip
      show Run Γ rg κ Y_X3_keyInLeaf 18 [(19, 0), (0, a1), (0, a2), (0, a3), (0, a4), (5, 0)] [] D Φ
      refine r_aload_n d_X3_keyInLeaf_18 rfl (by decide) ?_
      refine r_getR (t := 2) d_X3_keyInLeaf_19 fk_RX3_9 sh_11 rfl (by decide) (R 11 rfl) ?_
      refine r_iload_n d_X3_keyInLeaf_22 rfl ?_
      refine r_iload d_X3_keyInLeaf_23 rfl ?_
      refine c_callVPi (a := 2) (z := 0) (as := [(0, a1), (0, a4)]) (rest := []) (ls' := [(10, 0), (0, a1), (0, a4)]) d_X3_keyInLeaf_25 ck_RX3_45 rfl sh_2 rfl (by decide) (R 2 rfl) rfl rfl (Nat.le_of_ble_eq_true rfl) (Nat.le_of_ble_eq_true rfl) (by decide) rfl rfl (fun Ψ hΨ => run_pI_item R _ _ rfl hΨ) ?_
      show Run Γ rg κ Y_X3_keyInLeaf 28 [(19, 0), (0, a1), (0, a2), (0, a3), (0, a4), (5, 0)] [(0, (pI_item a1 a4 D))] D Φ
      refine c_lt d_X3_keyInLeaf_28 (by decide) rfl h (fun x1 h => ?_)
      show Run Γ rg κ Y_X3_keyInLeaf 30 [(19, 0), (0, a1), (0, a2), (0, a3), (0, a4), (0, x1)] [] D Φ
      refine r_iload d_X3_keyInLeaf_30 rfl ?_
      refine r_bipush d_X3_keyInLeaf_32 (by decide) ?_
      refine c_idiv d_X3_keyInLeaf_34 (nz_w _) ⟨by decide, by decide⟩ (by decide) ?_
      refine r_iload_n d_X3_keyInLeaf_35 rfl ?_
      refine c_callSPi (as := [(0, a2)]) (rest := [(0, (Int.tdiv (w32 x1) 80))]) (ls' := [(0, a2)]) d_X3_keyInLeaf_36 ck_RX3_19 rfl rfl rfl (Nat.le_of_ble_eq_true rfl) (Nat.le_of_ble_eq_true rfl) (by decide) rfl rfl (fun Ψ hΨ => run_pL_rankOf R _ rfl hΨ) ?_
      show Run Γ rg κ Y_X3_keyInLeaf 39 [(19, 0), (0, a1), (0, a2), (0, a3), (0, a4), (0, x1)] [(0, (pL_rankOf a2)), (0, (Int.tdiv (w32 x1) 80))] D Φ
      show Run Γ rg κ Y_X3_keyInLeaf 39 [(19, 0), (0, a1), (0, a2), (0, a3), (0, a4), (0, x1)] [(0, (pL_rankOf a2)), (0, (Int.tdiv (w32 x1) 80))] D Φ
      refine c_icmp_ne (tgt := 48) d_X3_keyInLeaf_39 (by decide) (nz_w _) (nz_w _) h (fun h => ?_) (fun h => ?_)
      · skip
        show Run Γ rg κ Y_X3_keyInLeaf 48 [(19, 0), (0, a1), (0, a2), (0, a3), (0, a4), (0, x1)] [] D Φ
        refine r_iinc d_X3_keyInLeaf_48 rfl (by decide) rfl ?_
        show Run Γ rg κ Y_X3_keyInLeaf 51 [(19, 0), (0, a1), (0, a2), (0, a3), (0, (a4 + 1)), (0, x1)] [] D Φ
        refine r_goto (tgt := 12) d_X3_keyInLeaf_51 (by decide) ?_
        exact Run.forget (ls' := [(19, 0), (0, a1), (0, a2), (0, a3), (0, (a4 + 1)), (5, 0)]) ⟨Or.inr rfl, Or.inr rfl, Or.inr rfl, Or.inr rfl, Or.inr rfl, Or.inl rfl, trivial⟩ (ih (a4 + 1) D h)
      · skip
        exact Run.forget (ls' := [(5, 0), (5, 0), (5, 0), (5, 0), (5, 0), (0, x1)]) ⟨Or.inl rfl, Or.inl rfl, Or.inl rfl, Or.inl rfl, Or.inl rfl, Or.inr rfl, trivial⟩ (hK x1 D h)
set_option maxRecDepth 20000 in
theorem run_pL_keyInLeaf {Γ : GG} {rg : Nat → Bool} {κ : Nat} {Φ : OT → DD → Prop} (R : cov rg rg0) (p1 : Int) (p2 : Int) {D : DD} (h : WP (some .int) κ Φ (pL_keyInLeaf p1 p2 D)) : Run Γ rg κ Y_X3_keyInLeaf 0 [(19, 0), (0, p1), (0, p2), (5, 0), (5, 0), (5, 0)] [] D Φ := by
  unfold pL_keyInLeaf at h
  show Run Γ rg κ Y_X3_keyInLeaf 0 [(19, 0), (0, p1), (0, p2), (5, 0), (5, 0), (5, 0)] [] D Φ
  refine r_aload_n d_X3_keyInLeaf_0 rfl (by decide) ?_
  refine r_getR (t := 2) d_X3_keyInLeaf_1 fk_RX3_9 sh_11 rfl (by decide) (R 11 rfl) ?_
  refine r_iload_n d_X3_keyInLeaf_4 rfl ?_
  refine c_callVPi (a := 2) (z := 0) (as := [(0, p1)]) (rest := []) (ls' := [(10, 0), (0, p1)]) d_X3_keyInLeaf_5 ck_RX3_32 rfl sh_2 rfl (by decide) (R 2 rfl) rfl rfl (Nat.le_of_ble_eq_true rfl) (Nat.le_of_ble_eq_true rfl) (by decide) rfl rfl (fun Ψ hΨ => run_pI_itemCount R _ rfl hΨ) ?_
  show Run Γ rg κ Y_X3_keyInLeaf 8 [(19, 0), (0, p1), (0, p2), (5, 0), (5, 0), (5, 0)] [(0, (pI_itemCount p1 D))] D Φ
  refine c_lt_n d_X3_keyInLeaf_8 (by decide) rfl h (fun x1 h => ?_)
  show Run Γ rg κ Y_X3_keyInLeaf 9 [(19, 0), (0, p1), (0, p2), (0, x1), (5, 0), (5, 0)] [] D Φ
  refine r_iconst d_X3_keyInLeaf_9 ?_
  refine r_istore d_X3_keyInLeaf_10 (by decide) rfl ?_
  show Run Γ rg κ Y_X3_keyInLeaf 12 [(19, 0), (0, p1), (0, p2), (0, x1), (0, 0), (5, 0)] [] D Φ
  refine run_pL_keyInLeaf_12 R p1 p2 x1 ?_ fu 0 D h
  intro x2 D1 h
  show Run Γ rg κ Y_X3_keyInLeaf 42 [(5, 0), (5, 0), (5, 0), (5, 0), (5, 0), (0, x2)] [] D1 Φ
  refine r_iload d_X3_keyInLeaf_42 rfl ?_
  refine r_bipush d_X3_keyInLeaf_44 (by decide) ?_
  refine c_irem d_X3_keyInLeaf_46 (nz_w _) ⟨by decide, by decide⟩ (by decide) ?_
  exact c_iret d_X3_keyInLeaf_47 rfl h
set_option maxRecDepth 20000 in
theorem run_pL_subkeyNamed_9 {Γ : GG} {rg : Nat → Bool} {κ : Nat} {Φ : OT → DD → Prop} (R : cov rg rg0) (a1 : Int) (a2 : Int) (a3 : Int) : ∀ (n : Nat) (a4 : Int) (D : DD), WP (some .int) κ Φ (pL_subkeyNamed_9 a1 a2 a3 n a4 D) → Run Γ rg κ Y_X3_subkeyNamed 9 [(19, 0), (0, a1), (0, a2), (0, a3), (0, a4), (5, 0)] [] D Φ := by
  intro n
  induction n with
  | zero => intro a4 D h; exact h.no.elim
  | succ n ih =>
    intro a4 D h
    rw [pL_subkeyNamed_9] at h
    show Run Γ rg κ Y_X3_subkeyNamed 9 [(19, 0), (0, a1), (0, a2), (0, a3), (0, a4), (5, 0)] [] D Φ
    refine r_iload d_X3_subkeyNamed_9 rfl ?_
    refine r_iload_n d_X3_subkeyNamed_11 rfl ?_
    refine c_icmp_ge (tgt := 44) d_X3_subkeyNamed_12 (by decide) (nz_w _) (nz_w _) h (fun h => ?_) (fun h => ?_)
    · skip
      show Run Γ rg κ Y_X3_subkeyNamed 44 [(19, 0), (0, a1), (0, a2), (0, a3), (0, a4), (5, 0)] [] D Φ
      refine r_iconst d_X3_subkeyNamed_44 ?_
      exact c_iret d_X3_subkeyNamed_45 rfl h
    · skip
      show Run Γ rg κ Y_X3_subkeyNamed 15 [(19, 0), (0, a1), (0, a2), (0, a3), (0, a4), (5, 0)] [] D Φ
      refine r_aload_n d_X3_subkeyNamed_15 rfl (by decide) ?_
      refine r_aload_n d_X3_subkeyNamed_16 rfl (by decide) ?_
      refine r_iload_n d_X3_subkeyNamed_17 rfl ?_
      refine r_iload d_X3_subkeyNamed_18 rfl ?_
      refine c_callVPi (a := 11) (z := 0) (as := [(0, a1), (0, a4)]) (rest := [(19, 0)]) (ls' := [(19, 0), (0, a1), (0, a4), (5, 0)]) d_X3_subkeyNamed_20 ck_RX3_38 rfl sh_11 rfl (by decide) (R 11 rfl) rfl rfl (Nat.le_of_ble_eq_true rfl) (Nat.le_of_ble_eq_true rfl) (by decide) rfl rfl (fun Ψ hΨ => run_pL_leafNumbered R _ _ rfl hΨ) ?_
      show Run Γ rg κ Y_X3_subkeyNamed 23 [(19, 0), (0, a1), (0, a2), (0, a3), (0, a4), (5, 0)] [(0, (pL_leafNumbered a1 a4 D)), (19, 0)] D Φ
      refine r_iload_n d_X3_subkeyNamed_23 rfl ?_
      refine c_callVi (t' := (some .int)) (a := 11) (z := 0) (as := [(0, (pL_leafNumbered a1 a4 D)), (0, a2)]) (rest := []) (ls' := [(19, 0), (0, (pL_leafNumbered a1 a4 D)), (0, a2), (5, 0), (5, 0), (5, 0)]) d_X3_subkeyNamed_24 ck_RX3_42 rfl sh_11 rfl (by decide) (R 11 rfl) rfl rfl (Nat.le_of_ble_eq_true rfl) (Nat.le_of_ble_eq_true rfl) (by decide) rfl rfl (fun _ => rfl) (fun κ' Ψ hΨ => run_pL_keyInLeaf R _ _ hΨ) h (fun v1 D1 h => ?_)
      show Run Γ rg κ Y_X3_subkeyNamed 27 [(19, 0), (0, a1), (0, a2), (0, a3), (0, a4), (5, 0)] [(0, v1)] D1 Φ
      refine r_istore d_X3_subkeyNamed_27 (by decide) rfl ?_
      show Run Γ rg κ Y_X3_subkeyNamed 29 [(19, 0), (0, a1), (0, a2), (0, a3), (0, a4), (0, v1)] [] D1 Φ
      refine r_iload d_X3_subkeyNamed_29 rfl ?_
      refine r_iconst d_X3_subkeyNamed_31 ?_
      refine c_icmp_eq (tgt := 38) d_X3_subkeyNamed_32 (by decide) (nz_w _) (nz_k rfl) h (fun h => ?_) (fun h => ?_)
      · skip
        show Run Γ rg κ Y_X3_subkeyNamed 38 [(19, 0), (0, a1), (0, a2), (0, a3), (0, a4), (0, v1)] [] D1 Φ
        refine r_iinc d_X3_subkeyNamed_38 rfl (by decide) rfl ?_
        show Run Γ rg κ Y_X3_subkeyNamed 41 [(19, 0), (0, a1), (0, a2), (0, a3), (0, (a4 + 1)), (0, v1)] [] D1 Φ
        refine r_goto (tgt := 9) d_X3_subkeyNamed_41 (by decide) ?_
        exact Run.forget (ls' := [(19, 0), (0, a1), (0, a2), (0, a3), (0, (a4 + 1)), (5, 0)]) ⟨Or.inr rfl, Or.inr rfl, Or.inr rfl, Or.inr rfl, Or.inr rfl, Or.inl rfl, trivial⟩ (ih (a4 + 1) D1 h)
      · skip
        show Run Γ rg κ Y_X3_subkeyNamed 35 [(19, 0), (0, a1), (0, a2), (0, a3), (0, a4), (0, v1)] [] D1 Φ
        refine r_iload d_X3_subkeyNamed_35 rfl ?_
        exact c_iret d_X3_subkeyNamed_37 rfl h
set_option maxRecDepth 20000 in
theorem run_pL_subkeyNamed {Γ : GG} {rg : Nat → Bool} {κ : Nat} {Φ : OT → DD → Prop} (R : cov rg rg0) (p1 : Int) (p2 : Int) {D : DD} (h : WP (some .int) κ Φ (pL_subkeyNamed p1 p2 D)) : Run Γ rg κ Y_X3_subkeyNamed 0 [(19, 0), (0, p1), (0, p2), (5, 0), (5, 0), (5, 0)] [] D Φ := by
  unfold pL_subkeyNamed at h
  show Run Γ rg κ Y_X3_subkeyNamed 0 [(19, 0), (0, p1), (0, p2), (5, 0), (5, 0), (5, 0)] [] D Φ
  refine r_aload_n d_X3_subkeyNamed_0 rfl (by decide) ?_
  refine r_iload_n d_X3_subkeyNamed_1 rfl ?_
  refine c_callVPi (a := 11) (z := 0) (as := [(0, p1)]) (rest := []) (ls' := [(19, 0), (0, p1), (5, 0)]) d_X3_subkeyNamed_2 ck_RX3_35 rfl sh_11 rfl (by decide) (R 11 rfl) rfl rfl (Nat.le_of_ble_eq_true rfl) (Nat.le_of_ble_eq_true rfl) (by decide) rfl rfl (fun Ψ hΨ => run_pL_leafCount R _ rfl hΨ) ?_
  show Run Γ rg κ Y_X3_subkeyNamed 5 [(19, 0), (0, p1), (0, p2), (5, 0), (5, 0), (5, 0)] [(0, (pL_leafCount p1 D))] D Φ
  refine c_lt_n d_X3_subkeyNamed_5 (by decide) rfl h (fun x1 h => ?_)
  show Run Γ rg κ Y_X3_subkeyNamed 6 [(19, 0), (0, p1), (0, p2), (0, x1), (5, 0), (5, 0)] [] D Φ
  refine r_iconst d_X3_subkeyNamed_6 ?_
  refine r_istore d_X3_subkeyNamed_7 (by decide) rfl ?_
  show Run Γ rg κ Y_X3_subkeyNamed 9 [(19, 0), (0, p1), (0, p2), (0, x1), (0, 0), (5, 0)] [] D Φ
  exact run_pL_subkeyNamed_9 R p1 p2 x1 fu 0 D h
set_option maxRecDepth 20000 in
theorem run_pH_requireNameFree {Γ : GG} {rg : Nat → Bool} {κ : Nat} {Φ : OT → DD → Prop} (R : cov rg rg0) (p1 : Int) (p2 : Int) {D : DD} (h : WP none κ Φ (pH_requireNameFree p1 p2 D)) : Run Γ rg κ Y_X7_requireNameFree 0 [(8, 0), (0, p1), (0, p2)] [] D Φ := by
  unfold pH_requireNameFree at h
  show Run Γ rg κ Y_X7_requireNameFree 0 [(8, 0), (0, p1), (0, p2)] [] D Φ
  refine r_aload_n d_X7_requireNameFree_0 rfl (by decide) ?_
  refine r_getR (t := 11) d_X7_requireNameFree_1 fk_RX7_34 sh_0 rfl (by decide) (R 0 rfl) ?_
  refine r_iload_n d_X7_requireNameFree_4 rfl ?_
  refine r_iload_n d_X7_requireNameFree_5 rfl ?_
  refine c_callVi (t' := (some .int)) (a := 11) (z := 0) (as := [(0, p1), (0, p2)]) (rest := []) (ls' := [(19, 0), (0, p1), (0, p2), (5, 0), (5, 0), (5, 0)]) d_X7_requireNameFree_6 ck_RX7_167 rfl sh_11 rfl (by decide) (R 11 rfl) rfl rfl (Nat.le_of_ble_eq_true rfl) (Nat.le_of_ble_eq_true rfl) (by decide) rfl rfl (fun _ => rfl) (fun κ' Ψ hΨ => run_pL_subkeyNamed R _ _ hΨ) h (fun v1 D1 h => ?_)
  show Run Γ rg κ Y_X7_requireNameFree 9 [(8, 0), (0, p1), (0, p2)] [(0, v1)] D1 Φ
  refine r_iconst d_X7_requireNameFree_9 ?_
  refine c_icmp_eq (tgt := 24) d_X7_requireNameFree_10 (by decide) (nz_w _) (nz_k rfl) h (fun h => ?_) (fun h => ?_)
  · skip
    show Run Γ rg κ Y_X7_requireNameFree 24 [(8, 0), (0, p1), (0, p2)] [] D1 Φ
    exact c_vret d_X7_requireNameFree_24 rfl h
  · skip
    show Run Γ rg κ Y_X7_requireNameFree 13 [(8, 0), (0, p1), (0, p2)] [] D1 Φ
    exact c_throwW (text := "there is a subkey with this name") tk_RX7_204_208 (by decide +kernel) d_X7_requireNameFree_13 d_X7_requireNameFree_16 d_X7_requireNameFree_17 d_X7_requireNameFree_20 d_X7_requireNameFree_23 rfl (by decide) (Nat.le_of_ble_eq_true rfl) h
set_option maxRecDepth 20000 in
theorem run_pC_wantNothing {Γ : GG} {rg : Nat → Bool} {κ : Nat} {Φ : OT → DD → Prop} (R : cov rg rg0) {D : DD} (h : WPD Φ (pC_wantNothing D)) : Run Γ rg κ Y_X0_wantNothing 0 [(15, 0)] [] D Φ := by
  unfold pC_wantNothing at h
  show Run Γ rg κ Y_X0_wantNothing 0 [(15, 0)] [] D Φ
  refine r_aload_n d_X0_wantNothing_0 rfl (by decide) ?_
  refine r_iconst d_X0_wantNothing_1 ?_
  refine c_putI (k := 4) d_X0_wantNothing_2 pk_RX0_27 sh_7 rfl (by decide) (R 7 rfl) h (fun D1 h => ?_)
  exact d_vret d_X0_wantNothing_5 rfl h
set_option maxRecDepth 20000 in
theorem run_pC_want {Γ : GG} {rg : Nat → Bool} {κ : Nat} {Φ : OT → DD → Prop} (R : cov rg rg0) (p1 : Int) {D : DD} (h : WPD Φ (pC_want p1 D)) : Run Γ rg κ Y_X0_want 0 [(15, 0), (0, p1)] [] D Φ := by
  unfold pC_want at h
  show Run Γ rg κ Y_X0_want 0 [(15, 0), (0, p1)] [] D Φ
  refine r_aload_n d_X0_want_0 rfl (by decide) ?_
  refine r_getR (t := 8) d_X0_want_1 fk_RX0_11 sh_7 rfl (by decide) (R 7 rfl) ?_
  refine r_aload_n d_X0_want_4 rfl (by decide) ?_
  refine r_getI d_X0_want_5 fk_RX0_27 sh_7 rfl (by decide) (by decide) (R 7 rfl) ?_
  refine r_iload_n d_X0_want_8 rfl ?_
  refine c_callND (as := [(16, 0), (0, (D 7 4)), (0, p1)]) (rest := []) (ls' := [(16, 0), (0, (D 7 4)), (0, p1)]) d_X0_want_9 ck_RX0_31 rfl rfl rfl (Nat.le_of_ble_eq_true rfl) (Nat.le_of_ble_eq_true rfl) (by decide) rfl rfl (fun Ψ hΨ => run_pH_store sh_8 (by decide) (R 8 rfl) (by decide) _ _ hΨ) h (fun D1 h => ?_)
  show Run Γ rg κ Y_X0_want 12 [(15, 0), (0, p1)] [] D1 Φ
  refine r_aload_n d_X0_want_12 rfl (by decide) ?_
  refine r_dup d_X0_want_13 (by decide) ?_
  refine r_getI d_X0_want_14 fk_RX0_27 sh_7 rfl (by decide) (by decide) (R 7 rfl) ?_
  refine r_iconst d_X0_want_17 ?_
  refine r_iadd d_X0_want_18 ?_
  show Run Γ rg κ Y_X0_want 19 [(15, 0), (0, p1)] [(0, ((D1 7 4) + 1)), (15, 0)] D1 Φ
  refine c_putI (k := 4) d_X0_want_19 pk_RX0_27 sh_7 rfl (by decide) (R 7 rfl) h (fun D2 h => ?_)
  exact d_vret d_X0_want_22 rfl h
set_option maxRecDepth 20000 in
theorem run_pL_leafNumberFor_12 {Γ : GG} {rg : Nat → Bool} {κ : Nat} {Φ : OT → DD → Prop} (R : cov rg rg0) (a1 : Int) (a2 : Int) (a3 : Int) : ∀ (n : Nat) (a4 : Int) (a5 : Int) (D : DD), WP (some .int) κ Φ (pL_leafNumberFor_12 a1 a2 a3 n a4 a5 D) → Run Γ rg κ Y_X3_leafNumberFor 12 [(19, 0), (0, a1), (0, a2), (0, a3), (0, a4), (0, a5)] [] D Φ := by
  intro n
  induction n with
  | zero => intro a4 a5 D h; exact h.no.elim
  | succ n ih =>
    intro a4 a5 D h
    rw [pL_leafNumberFor_12] at h
    show Run Γ rg κ Y_X3_leafNumberFor 12 [(19, 0), (0, a1), (0, a2), (0, a3), (0, a4), (0, a5)] [] D Φ
    refine r_iload d_X3_leafNumberFor_12 rfl ?_
    refine r_iload_n d_X3_leafNumberFor_14 rfl ?_
    refine c_icmp_ge (tgt := 47) d_X3_leafNumberFor_15 (by decide) (nz_w _) (nz_w _) h (fun h => ?_) (fun h => ?_)
    · skip
      show Run Γ rg κ Y_X3_leafNumberFor 47 [(19, 0), (0, a1), (0, a2), (0, a3), (0, a4), (0, a5)] [] D Φ
      refine r_iload d_X3_leafNumberFor_47 rfl ?_
      exact c_iret d_X3_leafNumberFor_49 rfl h
    · skip
      show Run Γ rg κ Y_X3_leafNumberFor 18 [(19, 0), (0, a1), (0, a2), (0, a3), (0, a4), (0, a5)] [] D Φ
      refine r_aload_n d_X3_leafNumberFor_18 rfl (by decide) ?_
      refine r_getR (t := 2) d_X3_leafNumberFor_19 fk_RX3_9 sh_11 rfl (by decide) (R 11 rfl) ?_
      refine r_aload_n d_X3_leafNumberFor_22 rfl (by decide) ?_
      refine r_iload_n d_X3_leafNumberFor_23 rfl ?_
      refine r_iload d_X3_leafNumberFor_24 rfl ?_
      refine c_callVPi (a := 11) (z := 0) (as := [(0, a1), (0, a5)]) (rest := [(10, 0)]) (ls' := [(19, 0), (0, a1), (0, a5), (5, 0)]) d_X3_leafNumberFor_26 ck_RX3_38 rfl sh_11 rfl (by decide) (R 11 rfl) rfl rfl (Nat.le_of_ble_eq_true rfl) (Nat.le_of_ble_eq_true rfl) (by decide) rfl rfl (fun Ψ hΨ => run_pL_leafNumbered R _ _ rfl hΨ) ?_
      show Run Γ rg κ Y_X3_leafNumberFor 29 [(19, 0), (0, a1), (0, a2), (0, a3), (0, a4), (0, a5)] [(0, (pL_leafNumbered a1 a5 D)), (10, 0)] D Φ
      refine r_iconst d_X3_leafNumberFor_29 ?_
      refine c_callVPi (a := 2) (z := 0) (as := [(0, (pL_leafNumbered a1 a5 D)), (0, 0)]) (rest := []) (ls' := [(10, 0), (0, (pL_leafNumbered a1 a5 D)), (0, 0)]) d_X3_leafNumberFor_30 ck_RX3_45 rfl sh_2 rfl (by decide) (R 2 rfl) rfl rfl (Nat.le_of_ble_eq_true rfl) (Nat.le_of_ble_eq_true rfl) (by decide) rfl rfl (fun Ψ hΨ => run_pI_item R _ _ rfl hΨ) ?_
      show Run Γ rg κ Y_X3_leafNumberFor 33 [(19, 0), (0, a1), (0, a2), (0, a3), (0, a4), (0, a5)] [(0, (pI_item (pL_leafNumbered a1 a5 D) 0 D))] D Φ
      refine r_iload_n d_X3_leafNumberFor_33 rfl ?_
      refine c_jn (fun J => ∀ (x1 : Int) (D1 : DD), WP (some .int) κ Φ (J x1 D1) → Run Γ rg κ Y_X3_leafNumberFor 41 [(19, 0), (0, a1), (0, a2), (0, a3), (0, x1), (0, a5)] [] D1 Φ) h ?_ (fun J1 hJ1 h => ?_)
      · intro x1 D1 h
        show Run Γ rg κ Y_X3_leafNumberFor 41 [(19, 0), (0, a1), (0, a2), (0, a3), (0, x1), (0, a5)] [] D1 Φ
        refine r_iinc d_X3_leafNumberFor_41 rfl (by decide) rfl ?_
        show Run Γ rg κ Y_X3_leafNumberFor 44 [(19, 0), (0, a1), (0, a2), (0, a3), (0, x1), (0, (a5 + 1))] [] D1 Φ
        refine r_goto (tgt := 12) d_X3_leafNumberFor_44 (by decide) ?_
        exact (ih x1 (a5 + 1) D1 h)
      refine c_icmp_gt (tgt := 41) d_X3_leafNumberFor_34 (by decide) (nz_w _) (nz_w _) h (fun h => ?_) (fun h => ?_)
      · skip
        exact (hJ1 a4 D h)
      · skip
        show Run Γ rg κ Y_X3_leafNumberFor 37 [(19, 0), (0, a1), (0, a2), (0, a3), (0, a4), (0, a5)] [] D Φ
        refine r_iload d_X3_leafNumberFor_37 rfl ?_
        refine r_istore d_X3_leafNumberFor_39 (by decide) rfl ?_
        show Run Γ rg κ Y_X3_leafNumberFor 41 [(19, 0), (0, a1), (0, a2), (0, a3), (0, a5), (0, a5)] [] D Φ
        exact (hJ1 a5 D h)
set_option maxRecDepth 20000 in
theorem run_pL_leafNumberFor {Γ : GG} {rg : Nat → Bool} {κ : Nat} {Φ : OT → DD → Prop} (R : cov rg rg0) (p1 : Int) (p2 : Int) {D : DD} (h : WP (some .int) κ Φ (pL_leafNumberFor p1 p2 D)) : Run Γ rg κ Y_X3_leafNumberFor 0 [(19, 0), (0, p1), (0, p2), (5, 0), (5, 0), (5, 0)] [] D Φ := by
  unfold pL_leafNumberFor at h
  show Run Γ rg κ Y_X3_leafNumberFor 0 [(19, 0), (0, p1), (0, p2), (5, 0), (5, 0), (5, 0)] [] D Φ
  refine r_aload_n d_X3_leafNumberFor_0 rfl (by decide) ?_
  refine r_iload_n d_X3_leafNumberFor_1 rfl ?_
  refine c_callVPi (a := 11) (z := 0) (as := [(0, p1)]) (rest := []) (ls' := [(19, 0), (0, p1), (5, 0)]) d_X3_leafNumberFor_2 ck_RX3_35 rfl sh_11 rfl (by decide) (R 11 rfl) rfl rfl (Nat.le_of_ble_eq_true rfl) (Nat.le_of_ble_eq_true rfl) (by decide) rfl rfl (fun Ψ hΨ => run_pL_leafCount R _ rfl hΨ) ?_
  show Run Γ rg κ Y_X3_leafNumberFor 5 [(19, 0), (0, p1), (0, p2), (5, 0), (5, 0), (5, 0)] [(0, (pL_leafCount p1 D))] D Φ
  refine c_lt_n d_X3_leafNumberFor_5 (by decide) rfl h (fun x1 h => ?_)
  show Run Γ rg κ Y_X3_leafNumberFor 6 [(19, 0), (0, p1), (0, p2), (0, x1), (5, 0), (5, 0)] [] D Φ
  refine r_iconst d_X3_leafNumberFor_6 ?_
  refine r_istore d_X3_leafNumberFor_7 (by decide) rfl ?_
  show Run Γ rg κ Y_X3_leafNumberFor 9 [(19, 0), (0, p1), (0, p2), (0, x1), (0, 0), (5, 0)] [] D Φ
  refine r_iconst d_X3_leafNumberFor_9 ?_
  refine r_istore d_X3_leafNumberFor_10 (by decide) rfl ?_
  show Run Γ rg κ Y_X3_leafNumberFor 12 [(19, 0), (0, p1), (0, p2), (0, x1), (0, 0), (0, 1)] [] D Φ
  exact run_pL_leafNumberFor_12 R p1 p2 x1 fu 0 1 D h
set_option maxRecDepth 20000 in
theorem run_pL_wantFor {Γ : GG} {rg : Nat → Bool} {κ : Nat} {Φ : OT → DD → Prop} (R : cov rg rg0) (p1 : Int) (p2 : Int) {D : DD} (h : WP (some .boolean) κ Φ (pL_wantFor p1 p2 D)) : Run Γ rg κ Y_X3_wantFor 0 [(19, 0), (0, p1), (0, p2), (5, 0), (5, 0)] [] D Φ := by
  unfold pL_wantFor at h
  show Run Γ rg κ Y_X3_wantFor 0 [(19, 0), (0, p1), (0, p2), (5, 0), (5, 0)] [] D Φ
  refine r_aload_n d_X3_wantFor_0 rfl (by decide) ?_
  refine r_iload_n d_X3_wantFor_1 rfl ?_
  refine c_callVPi (a := 11) (z := 0) (as := [(0, p1)]) (rest := []) (ls' := [(19, 0), (0, p1), (5, 0)]) d_X3_wantFor_2 ck_RX3_35 rfl sh_11 rfl (by decide) (R 11 rfl) rfl rfl (Nat.le_of_ble_eq_true rfl) (Nat.le_of_ble_eq_true rfl) (by decide) rfl rfl (fun Ψ hΨ => run_pL_leafCount R _ rfl hΨ) ?_
  show Run Γ rg κ Y_X3_wantFor 5 [(19, 0), (0, p1), (0, p2), (5, 0), (5, 0)] [(0, (pL_leafCount p1 D))] D Φ
  refine c_lt_n d_X3_wantFor_5 (by decide) rfl h (fun x1 h => ?_)
  show Run Γ rg κ Y_X3_wantFor 6 [(19, 0), (0, p1), (0, p2), (0, x1), (5, 0)] [] D Φ
  refine r_aload_n d_X3_wantFor_6 rfl (by decide) ?_
  refine r_iload_n d_X3_wantFor_7 rfl ?_
  refine r_aload_n d_X3_wantFor_8 rfl (by decide) ?_
  refine r_iload_n d_X3_wantFor_9 rfl ?_
  refine r_iload_n d_X3_wantFor_10 rfl ?_
  refine c_callVi (t' := (some .int)) (a := 11) (z := 0) (as := [(0, p1), (0, p2)]) (rest := [(0, p1), (19, 0)]) (ls' := [(19, 0), (0, p1), (0, p2), (5, 0), (5, 0), (5, 0)]) d_X3_wantFor_11 ck_RX3_51 rfl sh_11 rfl (by decide) (R 11 rfl) rfl rfl (Nat.le_of_ble_eq_true rfl) (Nat.le_of_ble_eq_true rfl) (by decide) rfl rfl (fun _ => rfl) (fun κ' Ψ hΨ => run_pL_leafNumberFor R _ _ hΨ) h (fun v1 D1 h => ?_)
  show Run Γ rg κ Y_X3_wantFor 14 [(19, 0), (0, p1), (0, p2), (0, x1), (5, 0)] [(0, v1), (0, p1), (19, 0)] D1 Φ
  refine c_callVPi (a := 11) (z := 0) (as := [(0, p1), (0, v1)]) (rest := []) (ls' := [(19, 0), (0, p1), (0, v1), (5, 0)]) d_X3_wantFor_14 ck_RX3_38 rfl sh_11 rfl (by decide) (R 11 rfl) rfl rfl (Nat.le_of_ble_eq_true rfl) (Nat.le_of_ble_eq_true rfl) (by decide) rfl rfl (fun Ψ hΨ => run_pL_leafNumbered R _ _ rfl hΨ) ?_
  show Run Γ rg κ Y_X3_wantFor 17 [(19, 0), (0, p1), (0, p2), (0, x1), (5, 0)] [(0, (pL_leafNumbered p1 v1 D1))] D1 Φ
  show Run Γ rg κ Y_X3_wantFor 17 [(19, 0), (0, p1), (0, p2), (0, x1), (5, 0)] [(0, (pL_leafNumbered p1 v1 D1))] D1 Φ
  refine c_lt d_X3_wantFor_17 (by decide) rfl h (fun x2 h => ?_)
  show Run Γ rg κ Y_X3_wantFor 19 [(19, 0), (0, p1), (0, p2), (0, x1), (0, x2)] [] D1 Φ
  refine r_iload_n d_X3_wantFor_19 rfl ?_
  refine c_jn (fun J => ∀ (D2 : DD), WP (some .boolean) κ Φ (J D2) → Run Γ rg κ Y_X3_wantFor 38 [(19, 0), (5, 0), (5, 0), (0, x1), (5, 0)] [] D2 Φ) h ?_ (fun J1 hJ1 h => ?_)
  · intro D2 h
    show Run Γ rg κ Y_X3_wantFor 38 [(19, 0), (5, 0), (5, 0), (0, x1), (5, 0)] [] D2 Φ
    refine r_iload_n d_X3_wantFor_38 rfl ?_
    refine r_iconst d_X3_wantFor_39 ?_
    refine c_jn (fun J => ∀ (D3 : DD), WP (some .boolean) κ Φ (J D3) → Run Γ rg κ Y_X3_wantFor 52 [(19, 0), (5, 0), (5, 0), (0, x1), (5, 0)] [] D3 Φ) h ?_ (fun J2 hJ2 h => ?_)
    · intro D3 h
      show Run Γ rg κ Y_X3_wantFor 52 [(19, 0), (5, 0), (5, 0), (0, x1), (5, 0)] [] D3 Φ
      refine r_aload_n d_X3_wantFor_52 rfl (by decide) ?_
      refine r_getR (t := 7) d_X3_wantFor_53 fk_RX3_15 sh_11 rfl (by decide) (R 11 rfl) ?_
      refine r_iconst d_X3_wantFor_56 ?_
      refine c_callVD (a := 7) (z := 0) (as := [(0, 5)]) (rest := []) (ls' := [(15, 0), (0, 5)]) d_X3_wantFor_57 ck_RX3_54 rfl sh_7 rfl (by decide) (R 7 rfl) rfl rfl (Nat.le_of_ble_eq_true rfl) (Nat.le_of_ble_eq_true rfl) (by decide) rfl rfl (fun Ψ hΨ => run_pC_want R _ hΨ) h (fun D4 h => ?_)
      show Run Γ rg κ Y_X3_wantFor 60 [(19, 0), (5, 0), (5, 0), (0, x1), (5, 0)] [] D4 Φ
      refine r_iload_n d_X3_wantFor_60 rfl ?_
      refine r_bipush d_X3_wantFor_61 (by decide) ?_
      refine c_icmp_ge (tgt := 70) d_X3_wantFor_63 (by decide) (nz_w _) (nz_k rfl) h (fun h => ?_) (fun h => ?_)
      · skip
        show Run Γ rg κ Y_X3_wantFor 70 [(19, 0), (5, 0), (5, 0), (0, x1), (5, 0)] [] D4 Φ
        refine r_iconst d_X3_wantFor_70 ?_
        exact c_zret d_X3_wantFor_71 rfl (Or.inl rfl) h
      · skip
        show Run Γ rg κ Y_X3_wantFor 66 [(19, 0), (5, 0), (5, 0), (0, x1), (5, 0)] [] D4 Φ
        refine r_iconst d_X3_wantFor_66 ?_
        refine r_goto (tgt := 71) d_X3_wantFor_67 (by decide) ?_
        show Run Γ rg κ Y_X3_wantFor 71 [(19, 0), (5, 0), (5, 0), (0, x1), (5, 0)] [(0, 1)] D4 Φ
        exact c_zret d_X3_wantFor_71 rfl (Or.inr rfl) h
    refine c_icmp_ne (tgt := 52) d_X3_wantFor_40 (by decide) (nz_w _) (nz_k rfl) h (fun h => ?_) (fun h => ?_)
    · skip
      exact (hJ2 D2 h)
    · skip
      show Run Γ rg κ Y_X3_wantFor 43 [(19, 0), (5, 0), (5, 0), (0, x1), (5, 0)] [] D2 Φ
      refine r_aload_n d_X3_wantFor_43 rfl (by decide) ?_
      refine r_getR (t := 7) d_X3_wantFor_44 fk_RX3_15 sh_11 rfl (by decide) (R 11 rfl) ?_
      refine r_bipush d_X3_wantFor_47 (by decide) ?_
      refine c_callVD (a := 7) (z := 0) (as := [(0, 9)]) (rest := []) (ls' := [(15, 0), (0, 9)]) d_X3_wantFor_49 ck_RX3_54 rfl sh_7 rfl (by decide) (R 7 rfl) rfl rfl (Nat.le_of_ble_eq_true rfl) (Nat.le_of_ble_eq_true rfl) (by decide) rfl rfl (fun Ψ hΨ => run_pC_want R _ hΨ) h (fun D5 h => ?_)
      show Run Γ rg κ Y_X3_wantFor 52 [(19, 0), (5, 0), (5, 0), (0, x1), (5, 0)] [] D5 Φ
      exact (hJ2 D5 h)
  refine c_if_le (tgt := 38) d_X3_wantFor_20 (by decide) (nz_w _) h (fun h => ?_) (fun h => ?_)
  · skip
    exact Run.forget (ls' := [(19, 0), (5, 0), (5, 0), (0, x1), (5, 0)]) ⟨Or.inr rfl, Or.inl rfl, Or.inl rfl, Or.inr rfl, Or.inl rfl, trivial⟩ (hJ1 D1 h)
  · skip
    show Run Γ rg κ Y_X3_wantFor 23 [(19, 0), (0, p1), (0, p2), (0, x1), (0, x2)] [] D1 Φ
    refine r_aload_n d_X3_wantFor_23 rfl (by decide) ?_
    refine r_getR (t := 2) d_X3_wantFor_24 fk_RX3_9 sh_11 rfl (by decide) (R 11 rfl) ?_
    refine r_iload d_X3_wantFor_27 rfl ?_
    refine c_callVPi (a := 2) (z := 0) (as := [(0, x2)]) (rest := []) (ls' := [(10, 0), (0, x2)]) d_X3_wantFor_29 ck_RX3_32 rfl sh_2 rfl (by decide) (R 2 rfl) rfl rfl (Nat.le_of_ble_eq_true rfl) (Nat.le_of_ble_eq_true rfl) (by decide) rfl rfl (fun Ψ hΨ => run_pI_itemCount R _ rfl hΨ) ?_
    show Run Γ rg κ Y_X3_wantFor 32 [(19, 0), (0, p1), (0, p2), (0, x1), (0, x2)] [(0, (pI_itemCount x2 D1))] D1 Φ
    refine r_iconst d_X3_wantFor_32 ?_
    refine c_icmp_ge (tgt := 38) d_X3_wantFor_33 (by decide) (nz_w _) (nz_k rfl) h (fun h => ?_) (fun h => ?_)
    · skip
      exact Run.forget (ls' := [(19, 0), (5, 0), (5, 0), (0, x1), (5, 0)]) ⟨Or.inr rfl, Or.inl rfl, Or.inl rfl, Or.inr rfl, Or.inl rfl, trivial⟩ (hJ1 D1 h)
    · skip
      show Run Γ rg κ Y_X3_wantFor 36 [(19, 0), (0, p1), (0, p2), (0, x1), (0, x2)] [] D1 Φ
      refine r_iconst d_X3_wantFor_36 ?_
      exact c_zret d_X3_wantFor_37 rfl (Or.inr rfl) h
set_option maxRecDepth 20000 in
theorem run_pH_requireListNotFull {Γ : GG} {rg : Nat → Bool} {κ : Nat} {Φ : OT → DD → Prop} (R : cov rg rg0) (p1 : Int) {D : DD} (h : WP none κ Φ (pH_requireListNotFull p1 D)) : Run Γ rg κ Y_X7_requireListNotFull 0 [(0, p1)] [] D Φ := by
  unfold pH_requireListNotFull at h
  show Run Γ rg κ Y_X7_requireListNotFull 0 [(0, p1)] [] D Φ
  refine r_iload_n d_X7_requireListNotFull_0 rfl ?_
  refine c_if_ne (tgt := 15) d_X7_requireListNotFull_1 (by decide) (nz_w _) h (fun h => ?_) (fun h => ?_)
  · skip
    show Run Γ rg κ Y_X7_requireListNotFull 15 [(0, p1)] [] D Φ
    exact c_vret d_X7_requireListNotFull_15 rfl h
  · skip
    show Run Γ rg κ Y_X7_requireListNotFull 4 [(0, p1)] [] D Φ
    exact c_throwW (text := "the list of subkeys is full") tk_RX7_204_208 (by decide +kernel) d_X7_requireListNotFull_4 d_X7_requireListNotFull_7 d_X7_requireListNotFull_8 d_X7_requireListNotFull_11 d_X7_requireListNotFull_14 rfl (by decide) (Nat.le_of_ble_eq_true rfl) h
set_option maxRecDepth 20000 in
theorem run_pI_end {Γ : GG} {rg : Nat → Bool} {κ : Nat} {Φ : OT → DD → Prop} (R : cov rg rg0) {D : DD} {x : Int} (h : EQx x (pI_end D)) (hΦ : Φ (.inl (some (0, x))) D) : Run Γ rg κ Y_X2_end 0 [(10, 0)] [] D Φ := by
  unfold pI_end at h
  show Run Γ rg κ Y_X2_end 0 [(10, 0)] [] D Φ
  refine r_aload_n d_X2_end_0 rfl (by decide) ?_
  refine r_getI d_X2_end_1 fk_RX2_24 sh_2 rfl (by decide) (by decide) (R 2 rfl) ?_
  refine r_bipush d_X2_end_4 (by decide) ?_
  refine r_imul d_X2_end_6 ?_
  exact e_iret d_X2_end_7 rfl h hΦ
set_option maxRecDepth 20000 in
theorem run_pC_firstFreeFor_10 {Γ : GG} {rg : Nat → Bool} {κ : Nat} {Φ : OT → DD → Prop} (R : cov rg rg0) (a1 : Int) (a2 : Int) : ∀ (n : Nat) (a3 : Int) (D : DD), WP (some .int) κ Φ (pC_firstFreeFor_10 a1 a2 n a3 D) → Run Γ rg κ Y_X0_firstFreeFor 10 [(15, 0), (0, a1), (0, a2), (0, a3), (5, 0)] [] D Φ := by
  intro n
  induction n with
  | zero => intro a3 D h; exact h.no.elim
  | succ n ih =>
    intro a3 D h
    rw [pC_firstFreeFor_10] at h
    show Run Γ rg κ Y_X0_firstFreeFor 10 [(15, 0), (0, a1), (0, a2), (0, a3), (5, 0)] [] D Φ
    refine r_iload_n d_X0_firstFreeFor_10 rfl ?_
    refine r_iload_n d_X0_firstFreeFor_11 rfl ?_
    refine c_icmp_ge (tgt := 52) d_X0_firstFreeFor_12 (by decide) (nz_w _) (nz_w _) h (fun h => ?_) (fun h => ?_)
    · skip
      show Run Γ rg κ Y_X0_firstFreeFor 52 [(15, 0), (0, a1), (0, a2), (0, a3), (5, 0)] [] D Φ
      refine r_iconst d_X0_firstFreeFor_52 ?_
      exact c_iret d_X0_firstFreeFor_53 rfl h
    · skip
      show Run Γ rg κ Y_X0_firstFreeFor 15 [(15, 0), (0, a1), (0, a2), (0, a3), (5, 0)] [] D Φ
      refine r_aload_n d_X0_firstFreeFor_15 rfl (by decide) ?_
      refine r_getR (t := 2) d_X0_firstFreeFor_16 fk_RX0_23 sh_7 rfl (by decide) (R 7 rfl) ?_
      refine r_getR (t := 3) d_X0_firstFreeFor_19 fk_RX0_38 sh_2 rfl (by decide) (R 2 rfl) ?_
      refine r_iload_n d_X0_firstFreeFor_22 rfl ?_
      refine c_callNPi (as := [(11, 0), (0, a3)]) (rest := []) (ls' := [(11, 0), (0, a3)]) d_X0_firstFreeFor_23 ck_RX0_47 rfl rfl rfl (Nat.le_of_ble_eq_true rfl) (Nat.le_of_ble_eq_true rfl) (by decide) rfl rfl (fun Ψ hΨ => run_pH_read sh_3 (by decide) (R 3 rfl) (by decide) _ rfl hΨ) ?_
      show Run Γ rg κ Y_X0_firstFreeFor 26 [(15, 0), (0, a1), (0, a2), (0, a3), (5, 0)] [(0, (rd 1024 3 a3 D))] D Φ
      refine c_lt d_X0_firstFreeFor_26 (by decide) rfl h (fun x1 h => ?_)
      show Run Γ rg κ Y_X0_firstFreeFor 28 [(15, 0), (0, a1), (0, a2), (0, a3), (0, x1)] [] D Φ
      refine r_iload d_X0_firstFreeFor_28 rfl ?_
      refine r_ineg d_X0_firstFreeFor_30 ?_
      refine r_iload_n d_X0_firstFreeFor_31 rfl ?_
      refine c_icmp_lt (tgt := 37) d_X0_firstFreeFor_32 (by decide) (nz_w _) (nz_w _) h (fun h => ?_) (fun h => ?_)
      · skip
        show Run Γ rg κ Y_X0_firstFreeFor 37 [(15, 0), (0, a1), (0, a2), (0, a3), (0, x1)] [] D Φ
        refine r_iload_n d_X0_firstFreeFor_37 rfl ?_
        refine r_iconst d_X0_firstFreeFor_38 ?_
        refine r_iload d_X0_firstFreeFor_39 rfl ?_
        refine c_mabs d_X0_firstFreeFor_41 mx_RX0_76 (Nat.le_of_ble_eq_true rfl) (by decide) ?_
        refine c_mmax d_X0_firstFreeFor_44 mx_RX0_70 (Nat.le_of_ble_eq_true rfl) (by decide) ?_
        refine r_iadd d_X0_firstFreeFor_47 ?_
        refine c_lt_n d_X0_firstFreeFor_48 (by decide) rfl h (fun x2 h => ?_)
        show Run Γ rg κ Y_X0_firstFreeFor 49 [(15, 0), (0, a1), (0, a2), (0, x2), (0, x1)] [] D Φ
        refine r_goto (tgt := 10) d_X0_firstFreeFor_49 (by decide) ?_
        exact Run.forget (ls' := [(15, 0), (0, a1), (0, a2), (0, x2), (5, 0)]) ⟨Or.inr rfl, Or.inr rfl, Or.inr rfl, Or.inr rfl, Or.inl rfl, trivial⟩ (ih x2 D h)
      · skip
        show Run Γ rg κ Y_X0_firstFreeFor 35 [(15, 0), (0, a1), (0, a2), (0, a3), (0, x1)] [] D Φ
        refine r_iload_n d_X0_firstFreeFor_35 rfl ?_
        exact c_iret d_X0_firstFreeFor_36 rfl h
set_option maxRecDepth 20000 in
theorem run_pC_firstFreeFor {Γ : GG} {rg : Nat → Bool} {κ : Nat} {Φ : OT → DD → Prop} (R : cov rg rg0) (p1 : Int) {D : DD} (h : WP (some .int) κ Φ (pC_firstFreeFor p1 D)) : Run Γ rg κ Y_X0_firstFreeFor 0 [(15, 0), (0, p1), (5, 0), (5, 0), (5, 0)] [] D Φ := by
  unfold pC_firstFreeFor at h
  show Run Γ rg κ Y_X0_firstFreeFor 0 [(15, 0), (0, p1), (5, 0), (5, 0), (5, 0)] [] D Φ
  refine r_aload_n d_X0_firstFreeFor_0 rfl (by decide) ?_
  refine r_getR (t := 2) d_X0_firstFreeFor_1 fk_RX0_23 sh_7 rfl (by decide) (R 7 rfl) ?_
  refine c_callVPi (a := 2) (z := 0) (as := []) (rest := []) (ls' := [(10, 0)]) d_X0_firstFreeFor_4 ck_RX0_66 rfl sh_2 rfl (by decide) (R 2 rfl) rfl rfl (Nat.le_of_ble_eq_true rfl) (Nat.le_of_ble_eq_true rfl) (by decide) rfl rfl (fun Ψ hΨ => run_pI_end R rfl hΨ) ?_
  show Run Γ rg κ Y_X0_firstFreeFor 7 [(15, 0), (0, p1), (5, 0), (5, 0), (5, 0)] [(0, (pI_end D))] D Φ
  refine c_lt_n d_X0_firstFreeFor_7 (by decide) rfl h (fun x1 h => ?_)
  show Run Γ rg κ Y_X0_firstFreeFor 8 [(15, 0), (0, p1), (0, x1), (5, 0), (5, 0)] [] D Φ
  refine r_iconst d_X0_firstFreeFor_8 ?_
  refine r_istore_n d_X0_firstFreeFor_9 (by decide) rfl ?_
  show Run Γ rg κ Y_X0_firstFreeFor 10 [(15, 0), (0, p1), (0, x1), (0, 4), (5, 0)] [] D Φ
  exact run_pC_firstFreeFor_10 R p1 x1 fu 4 D h
set_option maxRecDepth 20000 in
theorem run_pC_cellAhead_4 {Γ : GG} {rg : Nat → Bool} {κ : Nat} {Φ : OT → DD → Prop} (R : cov rg rg0) : ∀ (n : Nat) (a2 : Int) (D : DD), WP (some .int) κ Φ (pC_cellAhead_4 n a2 D) → Run Γ rg κ Y_X0_cellAhead 4 [(15, 0), (5, 0), (0, a2)] [] D Φ := by
  intro n
  induction n with
  | zero => intro a2 D h; exact h.no.elim
  | succ n ih =>
    intro a2 D h
    rw [pC_cellAhead_4] at h
    show Run Γ rg κ Y_X0_cellAhead 4 [(15, 0), (5, 0), (0, a2)] [] D Φ
    refine r_iload_n d_X0_cellAhead_4 rfl ?_
    refine r_iconst d_X0_cellAhead_5 ?_
    refine c_icmp_lt (tgt := 31) d_X0_cellAhead_6 (by decide) (nz_w _) (nz_k rfl) h (fun h => ?_) (fun h => ?_)
    · skip
      show Run Γ rg κ Y_X0_cellAhead 31 [(15, 0), (5, 0), (0, a2)] [] D Φ
      refine r_iconst d_X0_cellAhead_31 ?_
      exact c_iret d_X0_cellAhead_32 rfl h
    · skip
      show Run Γ rg κ Y_X0_cellAhead 9 [(15, 0), (5, 0), (0, a2)] [] D Φ
      refine r_aload_n d_X0_cellAhead_9 rfl (by decide) ?_
      refine r_getR (t := 2) d_X0_cellAhead_10 fk_RX0_23 sh_7 rfl (by decide) (R 7 rfl) ?_
      refine r_getR (t := 3) d_X0_cellAhead_13 fk_RX0_38 sh_2 rfl (by decide) (R 2 rfl) ?_
      refine r_iload_n d_X0_cellAhead_16 rfl ?_
      refine c_callNPi (as := [(11, 0), (0, a2)]) (rest := []) (ls' := [(11, 0), (0, a2)]) d_X0_cellAhead_17 ck_RX0_47 rfl rfl rfl (Nat.le_of_ble_eq_true rfl) (Nat.le_of_ble_eq_true rfl) (by decide) rfl rfl (fun Ψ hΨ => run_pH_read sh_3 (by decide) (R 3 rfl) (by decide) _ rfl hΨ) ?_
      show Run Γ rg κ Y_X0_cellAhead 20 [(15, 0), (5, 0), (0, a2)] [(0, (rd 1024 3 a2 D))] D Φ
      refine c_if_eq (tgt := 25) d_X0_cellAhead_20 (by decide) (nz_w _) h (fun h => ?_) (fun h => ?_)
      · skip
        show Run Γ rg κ Y_X0_cellAhead 25 [(15, 0), (5, 0), (0, a2)] [] D Φ
        refine r_iinc d_X0_cellAhead_25 rfl (by decide) rfl ?_
        show Run Γ rg κ Y_X0_cellAhead 28 [(15, 0), (5, 0), (0, (a2 + (-1)))] [] D Φ
        refine r_goto (tgt := 4) d_X0_cellAhead_28 (by decide) ?_
        exact (ih (a2 + (-1)) D h)
      · skip
        show Run Γ rg κ Y_X0_cellAhead 23 [(15, 0), (5, 0), (0, a2)] [] D Φ
        refine r_iload_n d_X0_cellAhead_23 rfl ?_
        exact c_iret d_X0_cellAhead_24 rfl h
set_option maxRecDepth 20000 in
theorem run_pC_cellAhead {Γ : GG} {rg : Nat → Bool} {κ : Nat} {Φ : OT → DD → Prop} (R : cov rg rg0) (p1 : Int) {D : DD} (h : WP (some .int) κ Φ (pC_cellAhead p1 D)) : Run Γ rg κ Y_X0_cellAhead 0 [(15, 0), (0, p1), (5, 0)] [] D Φ := by
  unfold pC_cellAhead at h
  show Run Γ rg κ Y_X0_cellAhead 0 [(15, 0), (0, p1), (5, 0)] [] D Φ
  refine r_iload_n d_X0_cellAhead_0 rfl ?_
  refine r_iconst d_X0_cellAhead_1 ?_
  refine r_isub d_X0_cellAhead_2 ?_
  refine c_lt_n d_X0_cellAhead_3 (by decide) rfl h (fun x1 h => ?_)
  show Run Γ rg κ Y_X0_cellAhead 4 [(15, 0), (0, p1), (0, x1)] [] D Φ
  refine Run.forget (ls' := [(15, 0), (5, 0), (0, x1)]) ⟨Or.inr rfl, Or.inl rfl, Or.inr rfl, trivial⟩ ?_
  exact run_pC_cellAhead_4 R fu x1 D h
set_option maxRecDepth 20000 in
theorem run_pC_addSector {Γ : GG} {rg : Nat → Bool} {κ : Nat} {Φ : OT → DD → Prop} (R : cov rg rg0) {D : DD} (h : WP none κ Φ (pC_addSector D)) : Run Γ rg κ Y_X0_addSector 0 [(15, 0), (5, 0), (5, 0), (5, 0)] [] D Φ := by
  unfold pC_addSector at h
  show Run Γ rg κ Y_X0_addSector 0 [(15, 0), (5, 0), (5, 0), (5, 0)] [] D Φ
  refine r_aload_n d_X0_addSector_0 rfl (by decide) ?_
  refine r_getR (t := 2) d_X0_addSector_1 fk_RX0_23 sh_7 rfl (by decide) (R 7 rfl) ?_
  refine c_callVPi (a := 2) (z := 0) (as := []) (rest := []) (ls' := [(10, 0)]) d_X0_addSector_4 ck_RX0_66 rfl sh_2 rfl (by decide) (R 2 rfl) rfl rfl (Nat.le_of_ble_eq_true rfl) (Nat.le_of_ble_eq_true rfl) (by decide) rfl rfl (fun Ψ hΨ => run_pI_end R rfl hΨ) ?_
  show Run Γ rg κ Y_X0_addSector 7 [(15, 0), (5, 0), (5, 0), (5, 0)] [(0, (pI_end D))] D Φ
  refine c_lt_n d_X0_addSector_7 (by decide) rfl h (fun x1 h => ?_)
  show Run Γ rg κ Y_X0_addSector 8 [(15, 0), (0, x1), (5, 0), (5, 0)] [] D Φ
  refine r_aload_n d_X0_addSector_8 rfl (by decide) ?_
  refine r_iload_n d_X0_addSector_9 rfl ?_
  refine c_callVi (t' := (some .int)) (a := 7) (z := 0) (as := [(0, x1)]) (rest := []) (ls' := [(15, 0), (0, x1), (5, 0)]) d_X0_addSector_10 ck_RX0_59 rfl sh_7 rfl (by decide) (R 7 rfl) rfl rfl (Nat.le_of_ble_eq_true rfl) (Nat.le_of_ble_eq_true rfl) (by decide) rfl rfl (fun _ => rfl) (fun κ' Ψ hΨ => run_pC_cellAhead R _ hΨ) h (fun v1 D1 h => ?_)
  show Run Γ rg κ Y_X0_addSector 13 [(15, 0), (0, x1), (5, 0), (5, 0)] [(0, v1)] D1 Φ
  refine r_istore_n d_X0_addSector_13 (by decide) rfl ?_
  show Run Γ rg κ Y_X0_addSector 14 [(15, 0), (0, x1), (0, v1), (5, 0)] [] D1 Φ
  refine r_aload_n d_X0_addSector_14 rfl (by decide) ?_
  refine r_getR (t := 2) d_X0_addSector_15 fk_RX0_23 sh_7 rfl (by decide) (R 7 rfl) ?_
  refine r_getR (t := 3) d_X0_addSector_18 fk_RX0_38 sh_2 rfl (by decide) (R 2 rfl) ?_
  show Run Γ rg κ Y_X0_addSector 21 [(15, 0), (0, x1), (0, v1), (5, 0)] [(11, 0)] D1 Φ
  refine r_iload_n d_X0_addSector_21 rfl ?_
  refine c_callNPi (as := [(11, 0), (0, v1)]) (rest := []) (ls' := [(11, 0), (0, v1)]) d_X0_addSector_22 ck_RX0_47 rfl rfl rfl (Nat.le_of_ble_eq_true rfl) (Nat.le_of_ble_eq_true rfl) (by decide) rfl rfl (fun Ψ hΨ => run_pH_read sh_3 (by decide) (R 3 rfl) (by decide) _ rfl hΨ) ?_
  show Run Γ rg κ Y_X0_addSector 25 [(15, 0), (0, x1), (0, v1), (5, 0)] [(0, (rd 1024 3 v1 D1))] D1 Φ
  refine c_jn (fun J => ∀ (x2 : Int) (D2 : DD), WP none κ Φ (J x2 D2) → Run Γ rg κ Y_X0_addSector 33 [(15, 0), (0, x1), (5, 0), (5, 0)] [(0, x2)] D2 Φ) h ?_ (fun J1 hJ1 h => ?_)
  · intro x2 D2 h
    show Run Γ rg κ Y_X0_addSector 33 [(15, 0), (0, x1), (5, 0), (5, 0)] [(0, x2)] D2 Φ
    refine r_istore_n d_X0_addSector_33 (by decide) rfl ?_
    show Run Γ rg κ Y_X0_addSector 34 [(15, 0), (0, x1), (5, 0), (0, x2)] [] D2 Φ
    refine r_aload_n d_X0_addSector_34 rfl (by decide) ?_
    refine r_getR (t := 2) d_X0_addSector_35 fk_RX0_23 sh_7 rfl (by decide) (R 7 rfl) ?_
    refine r_getR (t := 3) d_X0_addSector_38 fk_RX0_38 sh_2 rfl (by decide) (R 2 rfl) ?_
    refine r_iload_n d_X0_addSector_41 rfl ?_
    refine r_iload_n d_X0_addSector_42 rfl ?_
    refine r_iload_n d_X0_addSector_43 rfl ?_
    refine r_isub d_X0_addSector_44 ?_
    refine r_bipush d_X0_addSector_45 (by decide) ?_
    refine r_isub d_X0_addSector_47 ?_
    refine c_callND (as := [(11, 0), (0, x2), (0, ((x2 - x1) - 16))]) (rest := []) (ls' := [(11, 0), (0, x2), (0, ((x2 - x1) - 16))]) d_X0_addSector_48 ck_RX0_31 rfl rfl rfl (Nat.le_of_ble_eq_true rfl) (Nat.le_of_ble_eq_true rfl) (by decide) rfl rfl (fun Ψ hΨ => run_pH_store sh_3 (by decide) (R 3 rfl) (by decide) _ _ hΨ) h (fun D3 h => ?_)
    show Run Γ rg κ Y_X0_addSector 51 [(15, 0), (0, x1), (5, 0), (0, x2)] [] D3 Φ
    show Run Γ rg κ Y_X0_addSector 51 [(15, 0), (0, x1), (5, 0), (0, x2)] [] D3 Φ
    refine r_aload_n d_X0_addSector_51 rfl (by decide) ?_
    refine r_getR (t := 2) d_X0_addSector_52 fk_RX0_23 sh_7 rfl (by decide) (R 7 rfl) ?_
    refine r_dup d_X0_addSector_55 (by decide) ?_
    refine r_getI d_X0_addSector_56 fk_RX0_35 sh_2 rfl (by decide) (by decide) (R 2 rfl) ?_
    refine r_iconst d_X0_addSector_59 ?_
    refine r_iadd d_X0_addSector_60 ?_
    refine c_putI (k := 4) d_X0_addSector_61 pk_RX0_35 sh_2 rfl (by decide) (R 2 rfl) h (fun D4 h => ?_)
    exact c_vret d_X0_addSector_64 rfl h
  refine c_if_ge (tgt := 32) d_X0_addSector_25 (by decide) (nz_w _) h (fun h => ?_) (fun h => ?_)
  · skip
    show Run Γ rg κ Y_X0_addSector 32 [(15, 0), (0, x1), (0, v1), (5, 0)] [] D1 Φ
    refine r_iload_n d_X0_addSector_32 rfl ?_
    exact Run.forget (ls' := [(15, 0), (0, x1), (5, 0), (5, 0)]) ⟨Or.inr rfl, Or.inr rfl, Or.inl rfl, Or.inr rfl, trivial⟩ (hJ1 x1 D1 h)
  · skip
    show Run Γ rg κ Y_X0_addSector 28 [(15, 0), (0, x1), (0, v1), (5, 0)] [] D1 Φ
    refine r_iload_n d_X0_addSector_28 rfl ?_
    refine r_goto (tgt := 33) d_X0_addSector_29 (by decide) ?_
    exact Run.forget (ls' := [(15, 0), (0, x1), (5, 0), (5, 0)]) ⟨Or.inr rfl, Or.inr rfl, Or.inl rfl, Or.inr rfl, trivial⟩ (hJ1 v1 D1 h)
set_option maxRecDepth 20000 in
theorem run_pC_getCell_14 {Γ : GG} {rg : Nat → Bool} {κ : Nat} {Φ : OT → DD → Prop} (R : cov rg rg0) (a1 : Int) {K : Int → DD → Res} (hK : ∀ (z2 : Int) (D : DD), WP (some .int) κ Φ (K z2 D) → Run Γ rg κ Y_X0_getCell 40 [(15, 0), (0, a1), (0, z2), (5, 0)] [] D Φ) : ∀ (n : Nat) (a2 : Int) (a3 : Int) (D : DD), WP (some .int) κ Φ (pC_getCell_14 a1 n a2 a3 D K) → Run Γ rg κ Y_X0_getCell 14 [(15, 0), (0, a1), (0, a2), (0, a3)] [] D Φ := by
  intro n
  induction n with
  | zero => intro a2 a3 D h; exact h.no.elim
  | succ n ih =>
    intro a2 a3 D h
    rw [pC_getCell_14] at h
    show Run Γ rg κ Y_X0_getCell 14 [(15, 0), (0, a1), (0, a2), (0, a3)] [] D Φ
    refine r_iload_n d_X0_getCell_14 rfl ?_
    refine r_bipush d_X0_getCell_15 (by decide) ?_
    refine c_icmp_ge (tgt := 40) d_X0_getCell_17 (by decide) (nz_w _) (nz_k rfl) h (fun h => ?_) (fun h => ?_)
    · skip
      exact Run.forget (ls' := [(15, 0), (0, a1), (0, a2), (5, 0)]) ⟨Or.inr rfl, Or.inr rfl, Or.inr rfl, Or.inl rfl, trivial⟩ (hK a2 D h)
    · skip
      show Run Γ rg κ Y_X0_getCell 20 [(15, 0), (0, a1), (0, a2), (0, a3)] [] D Φ
      refine r_iload_n d_X0_getCell_20 rfl ?_
      refine c_if_ne (tgt := 40) d_X0_getCell_21 (by decide) (nz_w _) h (fun h => ?_) (fun h => ?_)
      · skip
        exact Run.forget (ls' := [(15, 0), (0, a1), (0, a2), (5, 0)]) ⟨Or.inr rfl, Or.inr rfl, Or.inr rfl, Or.inl rfl, trivial⟩ (hK a2 D h)
      · skip
        show Run Γ rg κ Y_X0_getCell 24 [(15, 0), (0, a1), (0, a2), (0, a3)] [] D Φ
        refine r_aload_n d_X0_getCell_24 rfl (by decide) ?_
        refine c_callVv (a := 7) (z := 0) (as := []) (rest := []) (ls' := [(15, 0), (5, 0), (5, 0), (5, 0)]) d_X0_getCell_25 ck_RX0_82 rfl sh_7 rfl (by decide) (R 7 rfl) rfl rfl (Nat.le_of_ble_eq_true rfl) (Nat.le_of_ble_eq_true rfl) (by decide) rfl rfl (fun κ' Ψ hΨ => run_pC_addSector R hΨ) h (fun _ D1 h => ?_)
        show Run Γ rg κ Y_X0_getCell 28 [(15, 0), (0, a1), (0, a2), (0, a3)] [] D1 Φ
        refine r_aload_n d_X0_getCell_28 rfl (by decide) ?_
        refine r_iload_n d_X0_getCell_29 rfl ?_
        refine c_callVi (t' := (some .int)) (a := 7) (z := 0) (as := [(0, a1)]) (rest := []) (ls' := [(15, 0), (0, a1), (5, 0), (5, 0), (5, 0)]) d_X0_getCell_30 ck_RX0_79 rfl sh_7 rfl (by decide) (R 7 rfl) rfl rfl (Nat.le_of_ble_eq_true rfl) (Nat.le_of_ble_eq_true rfl) (by decide) rfl rfl (fun _ => rfl) (fun κ' Ψ hΨ => run_pC_firstFreeFor R _ hΨ) h (fun v1 D2 h => ?_)
        show Run Γ rg κ Y_X0_getCell 33 [(15, 0), (0, a1), (0, a2), (0, a3)] [(0, v1)] D2 Φ
        refine r_istore_n d_X0_getCell_33 (by decide) rfl ?_
        show Run Γ rg κ Y_X0_getCell 34 [(15, 0), (0, a1), (0, v1), (0, a3)] [] D2 Φ
        refine r_iinc d_X0_getCell_34 rfl (by decide) rfl ?_
        show Run Γ rg κ Y_X0_getCell 37 [(15, 0), (0, a1), (0, v1), (0, (a3 + 1))] [] D2 Φ
        refine r_goto (tgt := 14) d_X0_getCell_37 (by decide) ?_
        exact (ih v1 (a3 + 1) D2 h)
set_option maxRecDepth 20000 in
theorem run_pC_getCell {Γ : GG} {rg : Nat → Bool} {κ : Nat} {Φ : OT → DD → Prop} (R : cov rg rg0) (p1 : Int) {D : DD} (h : WP (some .int) κ Φ (pC_getCell p1 D)) : Run Γ rg κ Y_X0_getCell 0 [(15, 0), (0, p1), (5, 0), (5, 0)] [] D Φ := by
  unfold pC_getCell at h
  show Run Γ rg κ Y_X0_getCell 0 [(15, 0), (0, p1), (5, 0), (5, 0)] [] D Φ
  refine r_aload_n d_X0_getCell_0 rfl (by decide) ?_
  refine r_iload_n d_X0_getCell_1 rfl ?_
  refine c_callVi (t' := (some .int)) (a := 7) (z := 0) (as := [(0, p1)]) (rest := []) (ls' := [(15, 0), (0, p1), (5, 0), (5, 0), (5, 0)]) d_X0_getCell_2 ck_RX0_79 rfl sh_7 rfl (by decide) (R 7 rfl) rfl rfl (Nat.le_of_ble_eq_true rfl) (Nat.le_of_ble_eq_true rfl) (by decide) rfl rfl (fun _ => rfl) (fun κ' Ψ hΨ => run_pC_firstFreeFor R _ hΨ) h (fun v1 D1 h => ?_)
  show Run Γ rg κ Y_X0_getCell 5 [(15, 0), (0, p1), (5, 0), (5, 0)] [(0, v1)] D1 Φ
  refine r_istore_n d_X0_getCell_5 (by decide) rfl ?_
  show Run Γ rg κ Y_X0_getCell 6 [(15, 0), (0, p1), (0, v1), (5, 0)] [] D1 Φ
  refine r_aload_n d_X0_getCell_6 rfl (by decide) ?_
  refine r_getR (t := 2) d_X0_getCell_7 fk_RX0_23 sh_7 rfl (by decide) (R 7 rfl) ?_
  refine r_getI d_X0_getCell_10 fk_RX0_35 sh_2 rfl (by decide) (by decide) (R 2 rfl) ?_
  refine c_lt_n d_X0_getCell_13 (by decide) rfl h (fun x1 h => ?_)
  show Run Γ rg κ Y_X0_getCell 14 [(15, 0), (0, p1), (0, v1), (0, x1)] [] D1 Φ
  refine run_pC_getCell_14 R p1 ?_ fu v1 x1 D1 h
  intro x2 D2 h
  show Run Γ rg κ Y_X0_getCell 40 [(15, 0), (0, p1), (0, x2), (5, 0)] [] D2 Φ
  refine r_iload_n d_X0_getCell_40 rfl ?_
  refine c_if_eq (tgt := 88) d_X0_getCell_41 (by decide) (nz_w _) h (fun h => ?_) (fun h => ?_)
  · skip
    show Run Γ rg κ Y_X0_getCell 88 [(15, 0), (0, p1), (0, x2), (5, 0)] [] D2 Φ
    refine r_iload_n d_X0_getCell_88 rfl ?_
    exact c_iret d_X0_getCell_89 rfl h
  · skip
    show Run Γ rg κ Y_X0_getCell 44 [(15, 0), (0, p1), (0, x2), (5, 0)] [] D2 Φ
    refine r_aload_n d_X0_getCell_44 rfl (by decide) ?_
    refine r_getR (t := 2) d_X0_getCell_45 fk_RX0_23 sh_7 rfl (by decide) (R 7 rfl) ?_
    refine r_getR (t := 3) d_X0_getCell_48 fk_RX0_38 sh_2 rfl (by decide) (R 2 rfl) ?_
    refine r_iload_n d_X0_getCell_51 rfl ?_
    refine c_callNPi (as := [(11, 0), (0, x2)]) (rest := []) (ls' := [(11, 0), (0, x2)]) d_X0_getCell_52 ck_RX0_47 rfl rfl rfl (Nat.le_of_ble_eq_true rfl) (Nat.le_of_ble_eq_true rfl) (by decide) rfl rfl (fun Ψ hΨ => run_pH_read sh_3 (by decide) (R 3 rfl) (by decide) _ rfl hΨ) ?_
    show Run Γ rg κ Y_X0_getCell 55 [(15, 0), (0, p1), (0, x2), (5, 0)] [(0, (rd 1024 3 x2 D2))] D2 Φ
    refine r_iload_n d_X0_getCell_55 rfl ?_
    refine r_iadd d_X0_getCell_56 ?_
    refine c_lt_n d_X0_getCell_57 (by decide) rfl h (fun x3 h => ?_)
    show Run Γ rg κ Y_X0_getCell 58 [(15, 0), (0, p1), (0, x2), (0, x3)] [] D2 Φ
    refine r_iload_n d_X0_getCell_58 rfl ?_
    refine c_jn (fun J => ∀ (D3 : DD), WP (some .int) κ Φ (J D3) → Run Γ rg κ Y_X0_getCell 76 [(15, 0), (0, p1), (0, x2), (5, 0)] [] D3 Φ) h ?_ (fun J1 hJ1 h => ?_)
    · intro D3 h
      show Run Γ rg κ Y_X0_getCell 76 [(15, 0), (0, p1), (0, x2), (5, 0)] [] D3 Φ
      refine r_aload_n d_X0_getCell_76 rfl (by decide) ?_
      refine r_getR (t := 2) d_X0_getCell_77 fk_RX0_23 sh_7 rfl (by decide) (R 7 rfl) ?_
      refine r_getR (t := 3) d_X0_getCell_80 fk_RX0_38 sh_2 rfl (by decide) (R 2 rfl) ?_
      refine r_iload_n d_X0_getCell_83 rfl ?_
      refine r_iload_n d_X0_getCell_84 rfl ?_
      refine c_callND (as := [(11, 0), (0, x2), (0, p1)]) (rest := []) (ls' := [(11, 0), (0, x2), (0, p1)]) d_X0_getCell_85 ck_RX0_31 rfl rfl rfl (Nat.le_of_ble_eq_true rfl) (Nat.le_of_ble_eq_true rfl) (by decide) rfl rfl (fun Ψ hΨ => run_pH_store sh_3 (by decide) (R 3 rfl) (by decide) _ _ hΨ) h (fun D4 h => ?_)
      show Run Γ rg κ Y_X0_getCell 88 [(15, 0), (0, p1), (0, x2), (5, 0)] [] D4 Φ
      refine r_iload_n d_X0_getCell_88 rfl ?_
      exact c_iret d_X0_getCell_89 rfl h
    refine c_if_ge (tgt := 76) d_X0_getCell_59 (by decide) (nz_w _) h (fun h => ?_) (fun h => ?_)
    · skip
      exact Run.forget (ls' := [(15, 0), (0, p1), (0, x2), (5, 0)]) ⟨Or.inr rfl, Or.inr rfl, Or.inr rfl, Or.inl rfl, trivial⟩ (hJ1 D2 h)
    · skip
      show Run Γ rg κ Y_X0_getCell 62 [(15, 0), (0, p1), (0, x2), (0, x3)] [] D2 Φ
      refine r_aload_n d_X0_getCell_62 rfl (by decide) ?_
      refine r_getR (t := 2) d_X0_getCell_63 fk_RX0_23 sh_7 rfl (by decide) (R 7 rfl) ?_
      refine r_getR (t := 3) d_X0_getCell_66 fk_RX0_38 sh_2 rfl (by decide) (R 2 rfl) ?_
      refine r_iload_n d_X0_getCell_69 rfl ?_
      refine r_iload_n d_X0_getCell_70 rfl ?_
      refine r_iadd d_X0_getCell_71 ?_
      refine r_iload_n d_X0_getCell_72 rfl ?_
      refine c_callND (as := [(11, 0), (0, (x2 + p1)), (0, x3)]) (rest := []) (ls' := [(11, 0), (0, (x2 + p1)), (0, x3)]) d_X0_getCell_73 ck_RX0_31 rfl rfl rfl (Nat.le_of_ble_eq_true rfl) (Nat.le_of_ble_eq_true rfl) (by decide) rfl rfl (fun Ψ hΨ => run_pH_store sh_3 (by decide) (R 3 rfl) (by decide) _ _ hΨ) h (fun D5 h => ?_)
      show Run Γ rg κ Y_X0_getCell 76 [(15, 0), (0, p1), (0, x2), (0, x3)] [] D5 Φ
      exact Run.forget (ls' := [(15, 0), (0, p1), (0, x2), (5, 0)]) ⟨Or.inr rfl, Or.inr rfl, Or.inr rfl, Or.inl rfl, trivial⟩ (hJ1 D5 h)
set_option maxRecDepth 20000 in
theorem run_pC_getAllWanted_31 {Γ : GG} {rg : Nat → Bool} {κ : Nat} {Φ : OT → DD → Prop} (R : cov rg rg0) (c1 : Int) {K1 : DD → Res} {K2 : DD → Res} (hK0 : ∀ (D : DD), WP (some .boolean) κ Φ (K1 D) → Run Γ rg κ Y_X0_getAllWanted 102 [(15, 0), (5, 0), (5, 0), (5, 0)] [] D Φ) (hK1 : ∀ (D : DD), WP (some .boolean) κ Φ (K2 D) → Run Γ rg κ Y_X0_getAllWanted 56 [(15, 0), (0, c1), (5, 0), (5, 0)] [] D Φ) : ∀ (n : Nat) (a2 : Int) (D : DD), WP (some .boolean) κ Φ (pC_getAllWanted_31 n a2 D K1 K2) → Run Γ rg κ Y_X0_getAllWanted 31 [(15, 0), (0, c1), (0, a2), (5, 0)] [] D Φ := by
  intro n
  induction n with
  | zero => intro a2 D h; exact h.no.elim
  | succ n ih =>
    intro a2 D h
    rw [pC_getAllWanted_31] at h
    show Run Γ rg κ Y_X0_getAllWanted 31 [(15, 0), (0, c1), (0, a2), (5, 0)] [] D Φ
    refine r_iload_n d_X0_getAllWanted_31 rfl ?_
    refine r_aload_n d_X0_getAllWanted_32 rfl (by decide) ?_
    refine r_getI d_X0_getAllWanted_33 fk_RX0_27 sh_7 rfl (by decide) (by decide) (R 7 rfl) ?_
    refine c_icmp_ge (tgt := 102) d_X0_getAllWanted_36 (by decide) (nz_w _) (nz_w _) h (fun h => ?_) (fun h => ?_)
    · skip
      exact Run.forget (ls' := [(15, 0), (5, 0), (5, 0), (5, 0)]) ⟨Or.inr rfl, Or.inl rfl, Or.inl rfl, Or.inr rfl, trivial⟩ (hK0 D h)
    · skip
      show Run Γ rg κ Y_X0_getAllWanted 39 [(15, 0), (0, c1), (0, a2), (5, 0)] [] D Φ
      refine r_aload_n d_X0_getAllWanted_39 rfl (by decide) ?_
      refine r_aload_n d_X0_getAllWanted_40 rfl (by decide) ?_
      refine r_getR (t := 8) d_X0_getAllWanted_41 fk_RX0_11 sh_7 rfl (by decide) (R 7 rfl) ?_
      refine r_iload_n d_X0_getAllWanted_44 rfl ?_
      refine c_callNPi (as := [(16, 0), (0, a2)]) (rest := [(15, 0)]) (ls' := [(16, 0), (0, a2)]) d_X0_getAllWanted_45 ck_RX0_47 rfl rfl rfl (Nat.le_of_ble_eq_true rfl) (Nat.le_of_ble_eq_true rfl) (by decide) rfl rfl (fun Ψ hΨ => run_pH_read sh_8 (by decide) (R 8 rfl) (by decide) _ rfl hΨ) ?_
      show Run Γ rg κ Y_X0_getAllWanted 48 [(15, 0), (0, c1), (0, a2), (5, 0)] [(0, (rd 6 8 a2 D)), (15, 0)] D Φ
      refine c_callVi (t' := (some .int)) (a := 7) (z := 0) (as := [(0, (rd 6 8 a2 D))]) (rest := []) (ls' := [(15, 0), (0, (rd 6 8 a2 D)), (5, 0), (5, 0)]) d_X0_getAllWanted_48 ck_RX0_51 rfl sh_7 rfl (by decide) (R 7 rfl) rfl rfl (Nat.le_of_ble_eq_true rfl) (Nat.le_of_ble_eq_true rfl) (by decide) rfl rfl (fun _ => rfl) (fun κ' Ψ hΨ => run_pC_getCell R _ hΨ) h (fun v1 D1 h => ?_)
      show Run Γ rg κ Y_X0_getAllWanted 51 [(15, 0), (0, c1), (0, a2), (5, 0)] [(0, v1)] D1 Φ
      refine r_istore_n d_X0_getAllWanted_51 (by decide) rfl ?_
      show Run Γ rg κ Y_X0_getAllWanted 52 [(15, 0), (0, c1), (0, a2), (0, v1)] [] D1 Φ
      refine r_iload_n d_X0_getAllWanted_52 rfl ?_
      refine c_if_ne (tgt := 87) d_X0_getAllWanted_53 (by decide) (nz_w _) h (fun h => ?_) (fun h => ?_)
      · skip
        show Run Γ rg κ Y_X0_getAllWanted 87 [(15, 0), (0, c1), (0, a2), (0, v1)] [] D1 Φ
        refine r_aload_n d_X0_getAllWanted_87 rfl (by decide) ?_
        refine r_getR (t := 9) d_X0_getAllWanted_88 fk_RX0_15 sh_7 rfl (by decide) (R 7 rfl) ?_
        refine r_iload_n d_X0_getAllWanted_91 rfl ?_
        refine r_iload_n d_X0_getAllWanted_92 rfl ?_
        refine c_callND (as := [(17, 0), (0, a2), (0, v1)]) (rest := []) (ls' := [(17, 0), (0, a2), (0, v1)]) d_X0_getAllWanted_93 ck_RX0_31 rfl rfl rfl (Nat.le_of_ble_eq_true rfl) (Nat.le_of_ble_eq_true rfl) (by decide) rfl rfl (fun Ψ hΨ => run_pH_store sh_9 (by decide) (R 9 rfl) (by decide) _ _ hΨ) h (fun D2 h => ?_)
        show Run Γ rg κ Y_X0_getAllWanted 96 [(15, 0), (0, c1), (0, a2), (0, v1)] [] D2 Φ
        refine r_iinc d_X0_getAllWanted_96 rfl (by decide) rfl ?_
        show Run Γ rg κ Y_X0_getAllWanted 99 [(15, 0), (0, c1), (0, (a2 + 1)), (0, v1)] [] D2 Φ
        refine r_goto (tgt := 31) d_X0_getAllWanted_99 (by decide) ?_
        exact Run.forget (ls' := [(15, 0), (0, c1), (0, (a2 + 1)), (5, 0)]) ⟨Or.inr rfl, Or.inr rfl, Or.inr rfl, Or.inl rfl, trivial⟩ (ih (a2 + 1) D2 h)
      · skip
        exact Run.forget (ls' := [(15, 0), (0, c1), (5, 0), (5, 0)]) ⟨Or.inr rfl, Or.inr rfl, Or.inl rfl, Or.inl rfl, trivial⟩ (hK1 D1 h)
set_option maxRecDepth 20000 in
theorem run_pC_markWritten_24 {Γ : GG} {rg : Nat → Bool} {κ : Nat} {Φ : OT → DD → Prop} (R : cov rg rg0) (a2 : Int) : ∀ (n : Nat) (a3 : Int) (D : DD), WP none κ Φ (pC_markWritten_24 a2 n a3 D) → Run Γ rg κ Y_X0_markWritten 24 [(15, 0), (5, 0), (0, a2), (0, a3)] [] D Φ := by
  intro n
  induction n with
  | zero => intro a3 D h; exact h.no.elim
  | succ n ih =>
    intro a3 D h
    rw [pC_markWritten_24] at h
    show Run Γ rg κ Y_X0_markWritten 24 [(15, 0), (5, 0), (0, a2), (0, a3)] [] D Φ
    refine r_iload_n d_X0_markWritten_24 rfl ?_
    refine r_iload_n d_X0_markWritten_25 rfl ?_
    refine c_icmp_gt (tgt := 47) d_X0_markWritten_26 (by decide) (nz_w _) (nz_w _) h (fun h => ?_) (fun h => ?_)
    · skip
      show Run Γ rg κ Y_X0_markWritten 47 [(15, 0), (5, 0), (0, a2), (0, a3)] [] D Φ
      exact c_vret d_X0_markWritten_47 rfl h
    · skip
      show Run Γ rg κ Y_X0_markWritten 29 [(15, 0), (5, 0), (0, a2), (0, a3)] [] D Φ
      refine r_aload_n d_X0_markWritten_29 rfl (by decide) ?_
      refine r_dup d_X0_markWritten_30 (by decide) ?_
      refine r_getJ d_X0_markWritten_31 fk_RX0_62 sh_7 rfl (by decide) (R 7 rfl) ?_
      refine c_lconst d_X0_markWritten_34 rfl ?_
      refine r_iload_n d_X0_markWritten_35 rfl ?_
      refine c_lshl d_X0_markWritten_36 ?_
      refine c_lor d_X0_markWritten_37 ?_
      refine c_putJ (k := 5) d_X0_markWritten_38 pk_RX0_62 sh_7 rfl (by decide) (R 7 rfl) h (fun D1 h => ?_)
      refine r_iinc d_X0_markWritten_41 rfl (by decide) rfl ?_
      show Run Γ rg κ Y_X0_markWritten 44 [(15, 0), (5, 0), (0, a2), (0, (a3 + 1))] [] D1 Φ
      refine r_goto (tgt := 24) d_X0_markWritten_44 (by decide) ?_
      exact (ih (a3 + 1) D1 h)
set_option maxRecDepth 20000 in
theorem run_pC_markWritten {Γ : GG} {rg : Nat → Bool} {κ : Nat} {Φ : OT → DD → Prop} (R : cov rg rg0) (p1 : Int) {D : DD} (h : WP none κ Φ (pC_markWritten p1 D)) : Run Γ rg κ Y_X0_markWritten 0 [(15, 0), (0, p1), (5, 0), (5, 0)] [] D Φ := by
  unfold pC_markWritten at h
  show Run Γ rg κ Y_X0_markWritten 0 [(15, 0), (0, p1), (5, 0), (5, 0)] [] D Φ
  refine r_iload_n d_X0_markWritten_0 rfl ?_
  refine r_aload_n d_X0_markWritten_1 rfl (by decide) ?_
  refine r_getR (t := 2) d_X0_markWritten_2 fk_RX0_23 sh_7 rfl (by decide) (R 7 rfl) ?_
  refine r_getR (t := 3) d_X0_markWritten_5 fk_RX0_38 sh_2 rfl (by decide) (R 2 rfl) ?_
  refine r_iload_n d_X0_markWritten_8 rfl ?_
  refine c_callNPi (as := [(11, 0), (0, p1)]) (rest := [(0, p1)]) (ls' := [(11, 0), (0, p1)]) d_X0_markWritten_9 ck_RX0_47 rfl rfl rfl (Nat.le_of_ble_eq_true rfl) (Nat.le_of_ble_eq_true rfl) (by decide) rfl rfl (fun Ψ hΨ => run_pH_read sh_3 (by decide) (R 3 rfl) (by decide) _ rfl hΨ) ?_
  show Run Γ rg κ Y_X0_markWritten 12 [(15, 0), (0, p1), (5, 0), (5, 0)] [(0, (rd 1024 3 p1 D)), (0, p1)] D Φ
  refine r_iadd d_X0_markWritten_12 ?_
  refine r_iconst d_X0_markWritten_13 ?_
  refine r_isub d_X0_markWritten_14 ?_
  refine r_bipush d_X0_markWritten_15 (by decide) ?_
  refine c_idiv d_X0_markWritten_17 (nz_w _) ⟨by decide, by decide⟩ (by decide) ?_
  show Run Γ rg κ Y_X0_markWritten 18 [(15, 0), (0, p1), (5, 0), (5, 0)] [(0, (Int.tdiv (w32 ((p1 + (rd 1024 3 p1 D)) - 1)) 16))] D Φ
  refine c_lt_n d_X0_markWritten_18 (by decide) rfl h (fun x1 h => ?_)
  show Run Γ rg κ Y_X0_markWritten 19 [(15, 0), (0, p1), (0, x1), (5, 0)] [] D Φ
  refine r_iload_n d_X0_markWritten_19 rfl ?_
  refine r_bipush d_X0_markWritten_20 (by decide) ?_
  refine c_idiv d_X0_markWritten_22 (nz_w _) ⟨by decide, by decide⟩ (by decide) ?_
  refine c_lt_n d_X0_markWritten_23 (by decide) rfl h (fun x2 h => ?_)
  show Run Γ rg κ Y_X0_markWritten 24 [(15, 0), (0, p1), (0, x1), (0, x2)] [] D Φ
  refine Run.forget (ls' := [(15, 0), (5, 0), (0, x1), (0, x2)]) ⟨Or.inr rfl, Or.inl rfl, Or.inr rfl, Or.inr rfl, trivial⟩ ?_
  exact run_pC_markWritten_24 R x1 fu x2 D h
set_option maxRecDepth 20000 in
theorem run_pC_getAllWanted_104 {Γ : GG} {rg : Nat → Bool} {κ : Nat} {Φ : OT → DD → Prop} (R : cov rg rg0) : ∀ (n : Nat) (a2 : Int) (D : DD), WP (some .boolean) κ Φ (pC_getAllWanted_104 n a2 D) → Run Γ rg κ Y_X0_getAllWanted 104 [(15, 0), (5, 0), (0, a2), (5, 0)] [] D Φ := by
  intro n
  induction n with
  | zero => intro a2 D h; exact h.no.elim
  | succ n ih =>
    intro a2 D h
    rw [pC_getAllWanted_104] at h
    show Run Γ rg κ Y_X0_getAllWanted 104 [(15, 0), (5, 0), (0, a2), (5, 0)] [] D Φ
    refine r_iload_n d_X0_getAllWanted_104 rfl ?_
    refine r_aload_n d_X0_getAllWanted_105 rfl (by decide) ?_
    refine r_getI d_X0_getAllWanted_106 fk_RX0_27 sh_7 rfl (by decide) (by decide) (R 7 rfl) ?_
    refine c_icmp_ge (tgt := 130) d_X0_getAllWanted_109 (by decide) (nz_w _) (nz_w _) h (fun h => ?_) (fun h => ?_)
    · skip
      show Run Γ rg κ Y_X0_getAllWanted 130 [(15, 0), (5, 0), (0, a2), (5, 0)] [] D Φ
      refine r_iconst d_X0_getAllWanted_130 ?_
      exact c_zret d_X0_getAllWanted_131 rfl (Or.inr rfl) h
    · skip
      show Run Γ rg κ Y_X0_getAllWanted 112 [(15, 0), (5, 0), (0, a2), (5, 0)] [] D Φ
      refine r_aload_n d_X0_getAllWanted_112 rfl (by decide) ?_
      refine r_aload_n d_X0_getAllWanted_113 rfl (by decide) ?_
      refine r_getR (t := 9) d_X0_getAllWanted_114 fk_RX0_15 sh_7 rfl (by decide) (R 7 rfl) ?_
      refine r_iload_n d_X0_getAllWanted_117 rfl ?_
      refine c_callNPi (as := [(17, 0), (0, a2)]) (rest := [(15, 0)]) (ls' := [(17, 0), (0, a2)]) d_X0_getAllWanted_118 ck_RX0_47 rfl rfl rfl (Nat.le_of_ble_eq_true rfl) (Nat.le_of_ble_eq_true rfl) (by decide) rfl rfl (fun Ψ hΨ => run_pH_read sh_9 (by decide) (R 9 rfl) (by decide) _ rfl hΨ) ?_
      show Run Γ rg κ Y_X0_getAllWanted 121 [(15, 0), (5, 0), (0, a2), (5, 0)] [(0, (rd 6 9 a2 D)), (15, 0)] D Φ
      refine c_callVv (a := 7) (z := 0) (as := [(0, (rd 6 9 a2 D))]) (rest := []) (ls' := [(15, 0), (0, (rd 6 9 a2 D)), (5, 0), (5, 0)]) d_X0_getAllWanted_121 ck_RX0_55 rfl sh_7 rfl (by decide) (R 7 rfl) rfl rfl (Nat.le_of_ble_eq_true rfl) (Nat.le_of_ble_eq_true rfl) (by decide) rfl rfl (fun κ' Ψ hΨ => run_pC_markWritten R _ hΨ) h (fun _ D1 h => ?_)
      show Run Γ rg κ Y_X0_getAllWanted 124 [(15, 0), (5, 0), (0, a2), (5, 0)] [] D1 Φ
      refine r_iinc d_X0_getAllWanted_124 rfl (by decide) rfl ?_
      show Run Γ rg κ Y_X0_getAllWanted 127 [(15, 0), (5, 0), (0, (a2 + 1)), (5, 0)] [] D1 Φ
      refine r_goto (tgt := 104) d_X0_getAllWanted_127 (by decide) ?_
      exact (ih (a2 + 1) D1 h)
set_option maxRecDepth 20000 in
theorem run_pC_getAllWanted {Γ : GG} {rg : Nat → Bool} {κ : Nat} {Φ : OT → DD → Prop} (R : cov rg rg0) {D : DD} (h : WP (some .boolean) κ Φ (pC_getAllWanted D)) : Run Γ rg κ Y_X0_getAllWanted 0 [(15, 0), (5, 0), (5, 0), (5, 0)] [] D Φ := by
  unfold pC_getAllWanted at h
  show Run Γ rg κ Y_X0_getAllWanted 0 [(15, 0), (5, 0), (5, 0), (5, 0)] [] D Φ
  refine r_aload_n d_X0_getAllWanted_0 rfl (by decide) ?_
  refine r_getR (t := 2) d_X0_getAllWanted_1 fk_RX0_23 sh_7 rfl (by decide) (R 7 rfl) ?_
  refine r_getI d_X0_getAllWanted_4 fk_RX0_35 sh_2 rfl (by decide) (by decide) (R 2 rfl) ?_
  refine c_lt_n d_X0_getAllWanted_7 (by decide) rfl h (fun x1 h => ?_)
  show Run Γ rg κ Y_X0_getAllWanted 8 [(15, 0), (0, x1), (5, 0), (5, 0)] [] D Φ
  refine r_aload_n d_X0_getAllWanted_8 rfl (by decide) ?_
  refine r_getR (t := 2) d_X0_getAllWanted_9 fk_RX0_23 sh_7 rfl (by decide) (R 7 rfl) ?_
  refine r_getR (t := 3) d_X0_getAllWanted_12 fk_RX0_38 sh_2 rfl (by decide) (R 2 rfl) ?_
  refine r_iconst d_X0_getAllWanted_15 ?_
  refine r_aload_n d_X0_getAllWanted_16 rfl (by decide) ?_
  refine r_getR (t := 10) d_X0_getAllWanted_17 fk_RX0_20 sh_7 rfl (by decide) (R 7 rfl) ?_
  refine r_iconst d_X0_getAllWanted_20 ?_
  show Run Γ rg κ Y_X0_getAllWanted 21 [(15, 0), (0, x1), (5, 0), (5, 0)] [(0, 0), (18, 0), (0, 0), (11, 0)] D Φ
  refine r_aload_n d_X0_getAllWanted_21 rfl (by decide) ?_
  refine r_getR (t := 10) d_X0_getAllWanted_22 fk_RX0_20 sh_7 rfl (by decide) (R 7 rfl) ?_
  refine r_alen d_X0_getAllWanted_25 sh_10 (by decide) (R 10 rfl) ?_
  refine c_acopy (n := 1024) d_X0_getAllWanted_26 ak_RX0_41 sh_3 sh_10 (by decide) (by decide) (R 3 rfl) (R 10 rfl) (by decide) rfl (by decide) (by decide) (Nat.le_of_ble_eq_true rfl) (by decide) h (fun D1 h => ?_)
  refine r_iconst d_X0_getAllWanted_29 ?_
  refine r_istore_n d_X0_getAllWanted_30 (by decide) rfl ?_
  show Run Γ rg κ Y_X0_getAllWanted 31 [(15, 0), (0, x1), (0, 0), (5, 0)] [] D1 Φ
  refine run_pC_getAllWanted_31 R x1 ?_ ?_ fu 0 D1 h
  · intro D2 h
    show Run Γ rg κ Y_X0_getAllWanted 102 [(15, 0), (5, 0), (5, 0), (5, 0)] [] D2 Φ
    refine r_iconst d_X0_getAllWanted_102 ?_
    refine r_istore_n d_X0_getAllWanted_103 (by decide) rfl ?_
    show Run Γ rg κ Y_X0_getAllWanted 104 [(15, 0), (5, 0), (0, 0), (5, 0)] [] D2 Φ
    exact run_pC_getAllWanted_104 R fu 0 D2 h
  · intro D3 h
    show Run Γ rg κ Y_X0_getAllWanted 56 [(15, 0), (0, x1), (5, 0), (5, 0)] [] D3 Φ
    refine r_aload_n d_X0_getAllWanted_56 rfl (by decide) ?_
    refine r_getR (t := 2) d_X0_getAllWanted_57 fk_RX0_23 sh_7 rfl (by decide) (R 7 rfl) ?_
    refine r_iload_n d_X0_getAllWanted_60 rfl ?_
    refine c_putI (k := 4) d_X0_getAllWanted_61 pk_RX0_35 sh_2 rfl (by decide) (R 2 rfl) h (fun D4 h => ?_)
    refine r_aload_n d_X0_getAllWanted_64 rfl (by decide) ?_
    refine r_getR (t := 10) d_X0_getAllWanted_65 fk_RX0_20 sh_7 rfl (by decide) (R 7 rfl) ?_
    refine r_iconst d_X0_getAllWanted_68 ?_
    refine r_aload_n d_X0_getAllWanted_69 rfl (by decide) ?_
    refine r_getR (t := 2) d_X0_getAllWanted_70 fk_RX0_23 sh_7 rfl (by decide) (R 7 rfl) ?_
    refine r_getR (t := 3) d_X0_getAllWanted_73 fk_RX0_38 sh_2 rfl (by decide) (R 2 rfl) ?_
    refine r_iconst d_X0_getAllWanted_76 ?_
    show Run Γ rg κ Y_X0_getAllWanted 77 [(15, 0), (0, x1), (5, 0), (5, 0)] [(0, 0), (11, 0), (0, 0), (18, 0)] D4 Φ
    refine r_aload_n d_X0_getAllWanted_77 rfl (by decide) ?_
    refine r_getR (t := 10) d_X0_getAllWanted_78 fk_RX0_20 sh_7 rfl (by decide) (R 7 rfl) ?_
    refine r_alen d_X0_getAllWanted_81 sh_10 (by decide) (R 10 rfl) ?_
    refine c_acopy (n := 1024) d_X0_getAllWanted_82 ak_RX0_41 sh_10 sh_3 (by decide) (by decide) (R 10 rfl) (R 3 rfl) (by decide) rfl (by decide) (by decide) (Nat.le_of_ble_eq_true rfl) (by decide) h (fun D5 h => ?_)
    refine r_iconst d_X0_getAllWanted_85 ?_
    exact c_zret d_X0_getAllWanted_86 rfl (Or.inl rfl) h
set_option maxRecDepth 20000 in
theorem run_pH_requireRoom {Γ : GG} {rg : Nat → Bool} {κ : Nat} {Φ : OT → DD → Prop} (R : cov rg rg0) (p1 : Int) {D : DD} (h : WP none κ Φ (pH_requireRoom p1 D)) : Run Γ rg κ Y_X7_requireRoom 0 [(0, p1)] [] D Φ := by
  unfold pH_requireRoom at h
  show Run Γ rg κ Y_X7_requireRoom 0 [(0, p1)] [] D Φ
  refine r_iload_n d_X7_requireRoom_0 rfl ?_
  refine c_if_ne (tgt := 15) d_X7_requireRoom_1 (by decide) (nz_w _) h (fun h => ?_) (fun h => ?_)
  · skip
    show Run Γ rg κ Y_X7_requireRoom 15 [(0, p1)] [] D Φ
    exact c_vret d_X7_requireRoom_15 rfl h
  · skip
    show Run Γ rg κ Y_X7_requireRoom 4 [(0, p1)] [] D Φ
    exact c_throwW (text := "there is no room") tk_RX7_204_208 (by decide +kernel) d_X7_requireRoom_4 d_X7_requireRoom_7 d_X7_requireRoom_8 d_X7_requireRoom_11 d_X7_requireRoom_14 rfl (by decide) (Nat.le_of_ble_eq_true rfl) h
set_option maxRecDepth 20000 in
theorem run_pC_got {Γ : GG} {rg : Nat → Bool} {κ : Nat} {Φ : OT → DD → Prop} (R : cov rg rg0) (p1 : Int) {D : DD} {x : Int} (h : EQx x (pC_got p1 D)) (hΦ : Φ (.inl (some (0, x))) D) : Run Γ rg κ Y_X0_got 0 [(15, 0), (0, p1)] [] D Φ := by
  unfold pC_got at h
  show Run Γ rg κ Y_X0_got 0 [(15, 0), (0, p1)] [] D Φ
  refine r_aload_n d_X0_got_0 rfl (by decide) ?_
  refine r_getR (t := 9) d_X0_got_1 fk_RX0_15 sh_7 rfl (by decide) (R 7 rfl) ?_
  refine r_iload_n d_X0_got_4 rfl ?_
  refine c_callNPi (as := [(17, 0), (0, p1)]) (rest := []) (ls' := [(17, 0), (0, p1)]) d_X0_got_5 ck_RX0_47 rfl rfl rfl (Nat.le_of_ble_eq_true rfl) (Nat.le_of_ble_eq_true rfl) (by decide) rfl rfl (fun Ψ hΨ => run_pH_read sh_9 (by decide) (R 9 rfl) (by decide) _ rfl hΨ) ?_
  show Run Γ rg κ Y_X0_got 8 [(15, 0), (0, p1)] [(0, (rd 6 9 p1 D))] D Φ
  exact e_iret d_X0_got_8 rfl h hΦ
set_option maxRecDepth 20000 in
theorem run_pI_putUnit {Γ : GG} {rg : Nat → Bool} {κ : Nat} {Φ : OT → DD → Prop} (R : cov rg rg0) (p1 : Int) (p2 : Int) {D : DD} (h : WPD Φ (pI_putUnit p1 p2 D)) : Run Γ rg κ Y_X2_putUnit 0 [(10, 0), (0, p1), (0, p2)] [] D Φ := by
  unfold pI_putUnit at h
  show Run Γ rg κ Y_X2_putUnit 0 [(10, 0), (0, p1), (0, p2)] [] D Φ
  refine r_aload_n d_X2_putUnit_0 rfl (by decide) ?_
  refine r_getR (t := 4) d_X2_putUnit_1 fk_RX2_15 sh_2 rfl (by decide) (R 2 rfl) ?_
  refine r_iload_n d_X2_putUnit_4 rfl ?_
  refine r_iload_n d_X2_putUnit_5 rfl ?_
  refine c_callND (as := [(12, 0), (0, p1), (0, p2)]) (rest := []) (ls' := [(12, 0), (0, p1), (0, p2)]) d_X2_putUnit_6 ck_RX2_31 rfl rfl rfl (Nat.le_of_ble_eq_true rfl) (Nat.le_of_ble_eq_true rfl) (by decide) rfl rfl (fun Ψ hΨ => run_pH_store sh_4 (by decide) (R 4 rfl) (by decide) _ _ hΨ) h (fun D1 h => ?_)
  show Run Γ rg κ Y_X2_putUnit 9 [(10, 0), (0, p1), (0, p2)] [] D1 Φ
  exact d_vret d_X2_putUnit_9 rfl h
set_option maxRecDepth 20000 in
theorem run_pI_setPlaceOfKey {Γ : GG} {rg : Nat → Bool} {κ : Nat} {Φ : OT → DD → Prop} (R : cov rg rg0) (p1 : Int) (p2 : Int) {D : DD} (h : WPD Φ (pI_setPlaceOfKey p1 p2 D)) : Run Γ rg κ Y_X2_setPlaceOfKey 0 [(10, 0), (0, p1), (0, p2)] [] D Φ := by
  unfold pI_setPlaceOfKey at h
  show Run Γ rg κ Y_X2_setPlaceOfKey 0 [(10, 0), (0, p1), (0, p2)] [] D Φ
  refine r_aload_n d_X2_setPlaceOfKey_0 rfl (by decide) ?_
  refine r_getR (t := 5) d_X2_setPlaceOfKey_1 fk_RX2_18 sh_2 rfl (by decide) (R 2 rfl) ?_
  refine r_iload_n d_X2_setPlaceOfKey_4 rfl ?_
  refine r_iload_n d_X2_setPlaceOfKey_5 rfl ?_
  refine c_callND (as := [(13, 0), (0, p1), (0, p2)]) (rest := []) (ls' := [(13, 0), (0, p1), (0, p2)]) d_X2_setPlaceOfKey_6 ck_RX2_31 rfl rfl rfl (Nat.le_of_ble_eq_true rfl) (Nat.le_of_ble_eq_true rfl) (by decide) rfl rfl (fun Ψ hΨ => run_pH_store sh_5 (by decide) (R 5 rfl) (by decide) _ _ hΨ) h (fun D1 h => ?_)
  show Run Γ rg κ Y_X2_setPlaceOfKey 9 [(10, 0), (0, p1), (0, p2)] [] D1 Φ
  exact d_vret d_X2_setPlaceOfKey_9 rfl h
set_option maxRecDepth 20000 in
theorem run_pH_enterKey {Γ : GG} {rg : Nat → Bool} {κ : Nat} {Φ : OT → DD → Prop} (R : cov rg rg0) (p1 : Int) (p2 : Int) (p3 : Int) (p4 : Int) {D : DD} (h : WPD Φ (pH_enterKey p1 p2 p3 p4 D)) : Run Γ rg κ Y_X7_enterKey 0 [(8, 0), (0, p1), (0, p2), (0, p3), (0, p4)] [] D Φ := by
  unfold pH_enterKey at h
  show Run Γ rg κ Y_X7_enterKey 0 [(8, 0), (0, p1), (0, p2), (0, p3), (0, p4)] [] D Φ
  refine r_aload_n d_X7_enterKey_0 rfl (by decide) ?_
  refine r_getR (t := 2) d_X7_enterKey_1 fk_RX7_21 sh_0 rfl (by decide) (R 0 rfl) ?_
  refine r_iload_n d_X7_enterKey_4 rfl ?_
  refine r_iconst d_X7_enterKey_5 ?_
  refine r_iadd d_X7_enterKey_6 ?_
  refine r_iload_n d_X7_enterKey_7 rfl ?_
  refine c_callVD (a := 2) (z := 0) (as := [(0, (p1 + 0)), (0, p2)]) (rest := []) (ls' := [(10, 0), (0, (p1 + 0)), (0, p2)]) d_X7_enterKey_8 ck_RX7_140 rfl sh_2 rfl (by decide) (R 2 rfl) rfl rfl (Nat.le_of_ble_eq_true rfl) (Nat.le_of_ble_eq_true rfl) (by decide) rfl rfl (fun Ψ hΨ => run_pI_putUnit R _ _ hΨ) h (fun D1 h => ?_)
  show Run Γ rg κ Y_X7_enterKey 11 [(8, 0), (0, p1), (0, p2), (0, p3), (0, p4)] [] D1 Φ
  refine r_aload_n d_X7_enterKey_11 rfl (by decide) ?_
  refine r_getR (t := 2) d_X7_enterKey_12 fk_RX7_21 sh_0 rfl (by decide) (R 0 rfl) ?_
  refine r_iload_n d_X7_enterKey_15 rfl ?_
  refine r_iconst d_X7_enterKey_16 ?_
  show Run Γ rg κ Y_X7_enterKey 17 [(8, 0), (0, p1), (0, p2), (0, p3), (0, p4)] [(0, 1), (0, p1), (10, 0)] D1 Φ
  refine r_iadd d_X7_enterKey_17 ?_
  refine r_iload_n d_X7_enterKey_18 rfl ?_
  refine c_callVD (a := 2) (z := 0) (as := [(0, (p1 + 1)), (0, p3)]) (rest := []) (ls' := [(10, 0), (0, (p1 + 1)), (0, p3)]) d_X7_enterKey_19 ck_RX7_140 rfl sh_2 rfl (by decide) (R 2 rfl) rfl rfl (Nat.le_of_ble_eq_true rfl) (Nat.le_of_ble_eq_true rfl) (by decide) rfl rfl (fun Ψ hΨ => run_pI_putUnit R _ _ hΨ) h (fun D2 h => ?_)
  show Run Γ rg κ Y_X7_enterKey 22 [(8, 0), (0, p1), (0, p2), (0, p3), (0, p4)] [] D2 Φ
  refine r_aload_n d_X7_enterKey_22 rfl (by decide) ?_
  refine r_getR (t := 2) d_X7_enterKey_23 fk_RX7_21 sh_0 rfl (by decide) (R 0 rfl) ?_
  refine r_iload_n d_X7_enterKey_26 rfl ?_
  refine r_iconst d_X7_enterKey_27 ?_
  refine r_iadd d_X7_enterKey_28 ?_
  refine r_iconst d_X7_enterKey_29 ?_
  refine c_callVD (a := 2) (z := 0) (as := [(0, (p1 + 2)), (0, 0)]) (rest := []) (ls' := [(10, 0), (0, (p1 + 2)), (0, 0)]) d_X7_enterKey_30 ck_RX7_140 rfl sh_2 rfl (by decide) (R 2 rfl) rfl rfl (Nat.le_of_ble_eq_true rfl) (Nat.le_of_ble_eq_true rfl) (by decide) rfl rfl (fun Ψ hΨ => run_pI_putUnit R _ _ hΨ) h (fun D3 h => ?_)
  show Run Γ rg κ Y_X7_enterKey 33 [(8, 0), (0, p1), (0, p2), (0, p3), (0, p4)] [] D3 Φ
  refine r_aload_n d_X7_enterKey_33 rfl (by decide) ?_
  refine r_getR (t := 2) d_X7_enterKey_34 fk_RX7_21 sh_0 rfl (by decide) (R 0 rfl) ?_
  show Run Γ rg κ Y_X7_enterKey 37 [(8, 0), (0, p1), (0, p2), (0, p3), (0, p4)] [(10, 0)] D3 Φ
  refine r_iload_n d_X7_enterKey_37 rfl ?_
  refine r_iconst d_X7_enterKey_38 ?_
  refine r_iadd d_X7_enterKey_39 ?_
  refine r_iconst d_X7_enterKey_40 ?_
  refine c_callVD (a := 2) (z := 0) (as := [(0, (p1 + 3)), (0, 0)]) (rest := []) (ls' := [(10, 0), (0, (p1 + 3)), (0, 0)]) d_X7_enterKey_41 ck_RX7_140 rfl sh_2 rfl (by decide) (R 2 rfl) rfl rfl (Nat.le_of_ble_eq_true rfl) (Nat.le_of_ble_eq_true rfl) (by decide) rfl rfl (fun Ψ hΨ => run_pI_putUnit R _ _ hΨ) h (fun D4 h => ?_)
  show Run Γ rg κ Y_X7_enterKey 44 [(8, 0), (0, p1), (0, p2), (0, p3), (0, p4)] [] D4 Φ
  refine r_aload_n d_X7_enterKey_44 rfl (by decide) ?_
  refine r_getR (t := 2) d_X7_enterKey_45 fk_RX7_21 sh_0 rfl (by decide) (R 0 rfl) ?_
  refine r_iload_n d_X7_enterKey_48 rfl ?_
  refine r_iconst d_X7_enterKey_49 ?_
  refine r_iadd d_X7_enterKey_50 ?_
  refine r_iconst d_X7_enterKey_51 ?_
  refine c_callVD (a := 2) (z := 0) (as := [(0, (p1 + 4)), (0, 0)]) (rest := []) (ls' := [(10, 0), (0, (p1 + 4)), (0, 0)]) d_X7_enterKey_52 ck_RX7_140 rfl sh_2 rfl (by decide) (R 2 rfl) rfl rfl (Nat.le_of_ble_eq_true rfl) (Nat.le_of_ble_eq_true rfl) (by decide) rfl rfl (fun Ψ hΨ => run_pI_putUnit R _ _ hΨ) h (fun D5 h => ?_)
  show Run Γ rg κ Y_X7_enterKey 55 [(8, 0), (0, p1), (0, p2), (0, p3), (0, p4)] [] D5 Φ
  show Run Γ rg κ Y_X7_enterKey 55 [(8, 0), (0, p1), (0, p2), (0, p3), (0, p4)] [] D5 Φ
  refine r_aload_n d_X7_enterKey_55 rfl (by decide) ?_
  refine r_getR (t := 2) d_X7_enterKey_56 fk_RX7_21 sh_0 rfl (by decide) (R 0 rfl) ?_
  refine r_iload_n d_X7_enterKey_59 rfl ?_
  refine r_iconst d_X7_enterKey_60 ?_
  refine r_iadd d_X7_enterKey_61 ?_
  refine r_iload d_X7_enterKey_62 rfl ?_
  refine c_callVD (a := 2) (z := 0) (as := [(0, (p1 + 5)), (0, p4)]) (rest := []) (ls' := [(10, 0), (0, (p1 + 5)), (0, p4)]) d_X7_enterKey_64 ck_RX7_140 rfl sh_2 rfl (by decide) (R 2 rfl) rfl rfl (Nat.le_of_ble_eq_true rfl) (Nat.le_of_ble_eq_true rfl) (by decide) rfl rfl (fun Ψ hΨ => run_pI_putUnit R _ _ hΨ) h (fun D6 h => ?_)
  show Run Γ rg κ Y_X7_enterKey 67 [(8, 0), (0, p1), (0, p2), (0, p3), (0, p4)] [] D6 Φ
  refine r_aload_n d_X7_enterKey_67 rfl (by decide) ?_
  refine r_getR (t := 2) d_X7_enterKey_68 fk_RX7_21 sh_0 rfl (by decide) (R 0 rfl) ?_
  refine r_aload_n d_X7_enterKey_71 rfl (by decide) ?_
  refine r_getR (t := 2) d_X7_enterKey_72 fk_RX7_21 sh_0 rfl (by decide) (R 0 rfl) ?_
  refine r_getI d_X7_enterKey_75 fk_RX7_370 sh_2 rfl (by decide) (by decide) (R 2 rfl) ?_
  show Run Γ rg κ Y_X7_enterKey 78 [(8, 0), (0, p1), (0, p2), (0, p3), (0, p4)] [(0, (D6 2 5)), (10, 0)] D6 Φ
  refine r_iload_n d_X7_enterKey_78 rfl ?_
  refine c_callVD (a := 2) (z := 0) (as := [(0, (D6 2 5)), (0, p1)]) (rest := []) (ls' := [(10, 0), (0, (D6 2 5)), (0, p1)]) d_X7_enterKey_79 ck_RX7_158 rfl sh_2 rfl (by decide) (R 2 rfl) rfl rfl (Nat.le_of_ble_eq_true rfl) (Nat.le_of_ble_eq_true rfl) (by decide) rfl rfl (fun Ψ hΨ => run_pI_setPlaceOfKey R _ _ hΨ) h (fun D7 h => ?_)
  show Run Γ rg κ Y_X7_enterKey 82 [(8, 0), (0, p1), (0, p2), (0, p3), (0, p4)] [] D7 Φ
  refine r_aload_n d_X7_enterKey_82 rfl (by decide) ?_
  refine r_getR (t := 2) d_X7_enterKey_83 fk_RX7_21 sh_0 rfl (by decide) (R 0 rfl) ?_
  refine r_dup d_X7_enterKey_86 (by decide) ?_
  refine r_getI d_X7_enterKey_87 fk_RX7_370 sh_2 rfl (by decide) (by decide) (R 2 rfl) ?_
  refine r_iconst d_X7_enterKey_90 ?_
  refine r_iadd d_X7_enterKey_91 ?_
  refine c_putI (k := 5) d_X7_enterKey_92 pk_RX7_370 sh_2 rfl (by decide) (R 2 rfl) h (fun D8 h => ?_)
  exact d_vret d_X7_enterKey_95 rfl h
set_option maxRecDepth 20000 in
theorem run_pI_placeOfRights {Γ : GG} {rg : Nat → Bool} {κ : Nat} {Φ : OT → DD → Prop} (R : cov rg rg0) (p1 : Int) {D : DD} {x : Int} (h : EQx x (pI_placeOfRights p1 D)) (hΦ : Φ (.inl (some (0, x))) D) : Run Γ rg κ Y_X2_placeOfRights 0 [(10, 0), (0, p1)] [] D Φ := by
  unfold pI_placeOfRights at h
  show Run Γ rg κ Y_X2_placeOfRights 0 [(10, 0), (0, p1)] [] D Φ
  refine r_aload_n d_X2_placeOfRights_0 rfl (by decide) ?_
  refine r_getR (t := 6) d_X2_placeOfRights_1 fk_RX2_21 sh_2 rfl (by decide) (R 2 rfl) ?_
  refine r_iload_n d_X2_placeOfRights_4 rfl ?_
  refine c_callNPi (as := [(14, 0), (0, p1)]) (rest := []) (ls' := [(14, 0), (0, p1)]) d_X2_placeOfRights_5 ck_RX2_41 rfl rfl rfl (Nat.le_of_ble_eq_true rfl) (Nat.le_of_ble_eq_true rfl) (by decide) rfl rfl (fun Ψ hΨ => run_pH_read sh_6 (by decide) (R 6 rfl) (by decide) _ rfl hΨ) ?_
  show Run Γ rg κ Y_X2_placeOfRights 8 [(10, 0), (0, p1)] [(0, (rd 256 6 p1 D))] D Φ
  exact e_iret d_X2_placeOfRights_8 rfl h hΦ
set_option maxRecDepth 20000 in
theorem run_pS_changeCount {Γ : GG} {rg : Nat → Bool} {κ : Nat} {Φ : OT → DD → Prop} (R : cov rg rg0) (p1 : Int) (p2 : Int) {D : DD} (h : WP none κ Φ (pS_changeCount p1 p2 D)) : Run Γ rg κ Y_X4_changeCount 0 [(21, 0), (0, p1), (0, p2), (5, 0)] [] D Φ := by
  unfold pS_changeCount at h
  show Run Γ rg κ Y_X4_changeCount 0 [(21, 0), (0, p1), (0, p2), (5, 0)] [] D Φ
  refine r_aload_n d_X4_changeCount_0 rfl (by decide) ?_
  refine r_getR (t := 2) d_X4_changeCount_1 fk_RX4_15 sh_13 rfl (by decide) (R 13 rfl) ?_
  refine r_iload_n d_X4_changeCount_4 rfl ?_
  refine c_callVPi (a := 2) (z := 0) (as := [(0, p1)]) (rest := []) (ls' := [(10, 0), (0, p1)]) d_X4_changeCount_5 ck_RX4_23 rfl sh_2 rfl (by decide) (R 2 rfl) rfl rfl (Nat.le_of_ble_eq_true rfl) (Nat.le_of_ble_eq_true rfl) (by decide) rfl rfl (fun Ψ hΨ => run_pI_placeOfRights R _ rfl hΨ) ?_
  show Run Γ rg κ Y_X4_changeCount 8 [(21, 0), (0, p1), (0, p2), (5, 0)] [(0, (pI_placeOfRights p1 D))] D Φ
  refine c_lt_n d_X4_changeCount_8 (by decide) rfl h (fun x1 h => ?_)
  show Run Γ rg κ Y_X4_changeCount 9 [(21, 0), (0, p1), (0, p2), (0, x1)] [] D Φ
  refine r_aload_n d_X4_changeCount_9 rfl (by decide) ?_
  refine r_getR (t := 2) d_X4_changeCount_10 fk_RX4_15 sh_13 rfl (by decide) (R 13 rfl) ?_
  refine r_iload_n d_X4_changeCount_13 rfl ?_
  refine r_aload_n d_X4_changeCount_14 rfl (by decide) ?_
  refine r_getR (t := 2) d_X4_changeCount_15 fk_RX4_15 sh_13 rfl (by decide) (R 13 rfl) ?_
  refine r_iload_n d_X4_changeCount_18 rfl ?_
  show Run Γ rg κ Y_X4_changeCount 19 [(21, 0), (0, p1), (0, p2), (0, x1)] [(0, x1), (10, 0), (0, x1), (10, 0)] D Φ
  refine c_callVPi (a := 2) (z := 0) (as := [(0, x1)]) (rest := [(0, x1), (10, 0)]) (ls' := [(10, 0), (0, x1)]) d_X4_changeCount_19 ck_RX4_29 rfl sh_2 rfl (by decide) (R 2 rfl) rfl rfl (Nat.le_of_ble_eq_true rfl) (Nat.le_of_ble_eq_true rfl) (by decide) rfl rfl (fun Ψ hΨ => run_pI_unitAt R _ rfl hΨ) ?_
  show Run Γ rg κ Y_X4_changeCount 22 [(21, 0), (0, p1), (0, p2), (0, x1)] [(0, (pI_unitAt x1 D)), (0, x1), (10, 0)] D Φ
  refine r_iload_n d_X4_changeCount_22 rfl ?_
  refine r_iadd d_X4_changeCount_23 ?_
  refine c_callVD (a := 2) (z := 0) (as := [(0, x1), (0, ((pI_unitAt x1 D) + p2))]) (rest := []) (ls' := [(10, 0), (0, x1), (0, ((pI_unitAt x1 D) + p2))]) d_X4_changeCount_24 ck_RX4_32 rfl sh_2 rfl (by decide) (R 2 rfl) rfl rfl (Nat.le_of_ble_eq_true rfl) (Nat.le_of_ble_eq_true rfl) (by decide) rfl rfl (fun Ψ hΨ => run_pI_putUnit R _ _ hΨ) h (fun D1 h => ?_)
  show Run Γ rg κ Y_X4_changeCount 27 [(21, 0), (0, p1), (0, p2), (0, x1)] [] D1 Φ
  refine r_aload_n d_X4_changeCount_27 rfl (by decide) ?_
  refine r_getR (t := 7) d_X4_changeCount_28 fk_RX4_19 sh_13 rfl (by decide) (R 13 rfl) ?_
  refine r_iload_n d_X4_changeCount_31 rfl ?_
  refine c_callVv (a := 7) (z := 0) (as := [(0, x1)]) (rest := []) (ls' := [(15, 0), (0, x1), (5, 0), (5, 0)]) d_X4_changeCount_32 ck_RX4_36 rfl sh_7 rfl (by decide) (R 7 rfl) rfl rfl (Nat.le_of_ble_eq_true rfl) (Nat.le_of_ble_eq_true rfl) (by decide) rfl rfl (fun κ' Ψ hΨ => run_pC_markWritten R _ hΨ) h (fun _ D2 h => ?_)
  show Run Γ rg κ Y_X4_changeCount 35 [(21, 0), (0, p1), (0, p2), (0, x1)] [] D2 Φ
  exact c_vret d_X4_changeCount_35 rfl h
set_option maxRecDepth 20000 in
theorem run_pI_insertItem_11 {Γ : GG} {rg : Nat → Bool} {κ : Nat} {Φ : OT → DD → Prop} (R : cov rg rg0) (a1 : Int) (a2 : Int) (c3 : Int) (c4 : Int) {K : DD → Res} (hK : ∀ (D : DD), WP none κ Φ (K D) → Run Γ rg κ Y_X2_insertItem 45 [(10, 0), (0, a1), (0, a2), (0, c3), (0, c4), (5, 0)] [] D Φ) : ∀ (n : Nat) (a5 : Int) (D : DD), WP none κ Φ (pI_insertItem_11 a1 a2 n a5 D K) → Run Γ rg κ Y_X2_insertItem 11 [(10, 0), (0, a1), (0, a2), (0, c3), (0, c4), (0, a5)] [] D Φ := by
  intro n
  induction n with
  | zero => intro a5 D h; exact h.no.elim
  | succ n ih =>
    intro a5 D h
    rw [pI_insertItem_11] at h
    show Run Γ rg κ Y_X2_insertItem 11 [(10, 0), (0, a1), (0, a2), (0, c3), (0, c4), (0, a5)] [] D Φ
    refine r_iload d_X2_insertItem_11 rfl ?_
    refine r_iload_n d_X2_insertItem_13 rfl ?_
    refine c_icmp_le (tgt := 45) d_X2_insertItem_14 (by decide) (nz_w _) (nz_w _) h (fun h => ?_) (fun h => ?_)
    · skip
      exact Run.forget (ls' := [(10, 0), (0, a1), (0, a2), (0, c3), (0, c4), (5, 0)]) ⟨Or.inr rfl, Or.inr rfl, Or.inr rfl, Or.inr rfl, Or.inr rfl, Or.inl rfl, trivial⟩ (hK D h)
    · skip
      show Run Γ rg κ Y_X2_insertItem 17 [(10, 0), (0, a1), (0, a2), (0, c3), (0, c4), (0, a5)] [] D Φ
      refine r_aload_n d_X2_insertItem_17 rfl (by decide) ?_
      refine r_getR (t := 4) d_X2_insertItem_18 fk_RX2_15 sh_2 rfl (by decide) (R 2 rfl) ?_
      refine r_iload_n d_X2_insertItem_21 rfl ?_
      refine r_iconst d_X2_insertItem_22 ?_
      refine r_iadd d_X2_insertItem_23 ?_
      refine r_iload d_X2_insertItem_24 rfl ?_
      refine r_iadd d_X2_insertItem_26 ?_
      refine r_aload_n d_X2_insertItem_27 rfl (by decide) ?_
      refine r_iload_n d_X2_insertItem_28 rfl ?_
      refine r_iload d_X2_insertItem_29 rfl ?_
      refine r_iconst d_X2_insertItem_31 ?_
      show Run Γ rg κ Y_X2_insertItem 32 [(10, 0), (0, a1), (0, a2), (0, c3), (0, c4), (0, a5)] [(0, 1), (0, a5), (0, a1), (10, 0), (0, ((a1 + 1) + a5)), (12, 0)] D Φ
      refine r_isub d_X2_insertItem_32 ?_
      refine c_callVPi (a := 2) (z := 0) (as := [(0, a1), (0, (a5 - 1))]) (rest := [(0, ((a1 + 1) + a5)), (12, 0)]) (ls' := [(10, 0), (0, a1), (0, (a5 - 1))]) d_X2_insertItem_33 ck_RX2_49 rfl sh_2 rfl (by decide) (R 2 rfl) rfl rfl (Nat.le_of_ble_eq_true rfl) (Nat.le_of_ble_eq_true rfl) (by decide) rfl rfl (fun Ψ hΨ => run_pI_item R _ _ rfl hΨ) ?_
      show Run Γ rg κ Y_X2_insertItem 36 [(10, 0), (0, a1), (0, a2), (0, c3), (0, c4), (0, a5)] [(0, (pI_item a1 (a5 - 1) D)), (0, ((a1 + 1) + a5)), (12, 0)] D Φ
      refine c_callND (as := [(12, 0), (0, ((a1 + 1) + a5)), (0, (pI_item a1 (a5 - 1) D))]) (rest := []) (ls' := [(12, 0), (0, ((a1 + 1) + a5)), (0, (pI_item a1 (a5 - 1) D))]) d_X2_insertItem_36 ck_RX2_31 rfl rfl rfl (Nat.le_of_ble_eq_true rfl) (Nat.le_of_ble_eq_true rfl) (by decide) rfl rfl (fun Ψ hΨ => run_pH_store sh_4 (by decide) (R 4 rfl) (by decide) _ _ hΨ) h (fun D1 h => ?_)
      show Run Γ rg κ Y_X2_insertItem 39 [(10, 0), (0, a1), (0, a2), (0, c3), (0, c4), (0, a5)] [] D1 Φ
      refine r_iinc d_X2_insertItem_39 rfl (by decide) rfl ?_
      show Run Γ rg κ Y_X2_insertItem 42 [(10, 0), (0, a1), (0, a2), (0, c3), (0, c4), (0, (a5 + (-1)))] [] D1 Φ
      refine r_goto (tgt := 11) d_X2_insertItem_42 (by decide) ?_
      exact (ih (a5 + (-1)) D1 h)
set_option maxRecDepth 20000 in
theorem run_pI_insertItem {Γ : GG} {rg : Nat → Bool} {κ : Nat} {Φ : OT → DD → Prop} (R : cov rg rg0) (p1 : Int) (p2 : Int) (p3 : Int) {D : DD} (h : WP none κ Φ (pI_insertItem p1 p2 p3 D)) : Run Γ rg κ Y_X2_insertItem 0 [(10, 0), (0, p1), (0, p2), (0, p3), (5, 0), (5, 0)] [] D Φ := by
  unfold pI_insertItem at h
  show Run Γ rg κ Y_X2_insertItem 0 [(10, 0), (0, p1), (0, p2), (0, p3), (5, 0), (5, 0)] [] D Φ
  refine r_aload_n d_X2_insertItem_0 rfl (by decide) ?_
  refine r_iload_n d_X2_insertItem_1 rfl ?_
  refine c_callVPi (a := 2) (z := 0) (as := [(0, p1)]) (rest := []) (ls' := [(10, 0), (0, p1)]) d_X2_insertItem_2 ck_RX2_45 rfl sh_2 rfl (by decide) (R 2 rfl) rfl rfl (Nat.le_of_ble_eq_true rfl) (Nat.le_of_ble_eq_true rfl) (by decide) rfl rfl (fun Ψ hΨ => run_pI_itemCount R _ rfl hΨ) ?_
  show Run Γ rg κ Y_X2_insertItem 5 [(10, 0), (0, p1), (0, p2), (0, p3), (5, 0), (5, 0)] [(0, (pI_itemCount p1 D))] D Φ
  refine c_lt d_X2_insertItem_5 (by decide) rfl h (fun x1 h => ?_)
  show Run Γ rg κ Y_X2_insertItem 7 [(10, 0), (0, p1), (0, p2), (0, p3), (0, x1), (5, 0)] [] D Φ
  refine r_iload d_X2_insertItem_7 rfl ?_
  refine r_istore d_X2_insertItem_9 (by decide) rfl ?_
  show Run Γ rg κ Y_X2_insertItem 11 [(10, 0), (0, p1), (0, p2), (0, p3), (0, x1), (0, x1)] [] D Φ
  refine run_pI_insertItem_11 R p1 p2 p3 x1 ?_ fu x1 D h
  intro D1 h
  show Run Γ rg κ Y_X2_insertItem 45 [(10, 0), (0, p1), (0, p2), (0, p3), (0, x1), (5, 0)] [] D1 Φ
  refine r_aload_n d_X2_insertItem_45 rfl (by decide) ?_
  refine r_getR (t := 4) d_X2_insertItem_46 fk_RX2_15 sh_2 rfl (by decide) (R 2 rfl) ?_
  refine r_iload_n d_X2_insertItem_49 rfl ?_
  refine r_iconst d_X2_insertItem_50 ?_
  refine r_iadd d_X2_insertItem_51 ?_
  refine r_iload_n d_X2_insertItem_52 rfl ?_
  refine r_iadd d_X2_insertItem_53 ?_
  refine r_iload_n d_X2_insertItem_54 rfl ?_
  refine c_callND (as := [(12, 0), (0, ((p1 + 1) + p2)), (0, p3)]) (rest := []) (ls' := [(12, 0), (0, ((p1 + 1) + p2)), (0, p3)]) d_X2_insertItem_55 ck_RX2_31 rfl rfl rfl (Nat.le_of_ble_eq_true rfl) (Nat.le_of_ble_eq_true rfl) (by decide) rfl rfl (fun Ψ hΨ => run_pH_store sh_4 (by decide) (R 4 rfl) (by decide) _ _ hΨ) h (fun D2 h => ?_)
  show Run Γ rg κ Y_X2_insertItem 58 [(10, 0), (0, p1), (0, p2), (0, p3), (0, x1), (5, 0)] [] D2 Φ
  refine r_aload_n d_X2_insertItem_58 rfl (by decide) ?_
  refine r_getR (t := 4) d_X2_insertItem_59 fk_RX2_15 sh_2 rfl (by decide) (R 2 rfl) ?_
  show Run Γ rg κ Y_X2_insertItem 62 [(10, 0), (0, p1), (0, p2), (0, p3), (0, x1), (5, 0)] [(12, 0)] D2 Φ
  refine r_iload_n d_X2_insertItem_62 rfl ?_
  refine r_iload d_X2_insertItem_63 rfl ?_
  refine r_iconst d_X2_insertItem_65 ?_
  refine r_iadd d_X2_insertItem_66 ?_
  refine c_callND (as := [(12, 0), (0, p1), (0, (x1 + 1))]) (rest := []) (ls' := [(12, 0), (0, p1), (0, (x1 + 1))]) d_X2_insertItem_67 ck_RX2_31 rfl rfl rfl (Nat.le_of_ble_eq_true rfl) (Nat.le_of_ble_eq_true rfl) (by decide) rfl rfl (fun Ψ hΨ => run_pH_store sh_4 (by decide) (R 4 rfl) (by decide) _ _ hΨ) h (fun D3 h => ?_)
  show Run Γ rg κ Y_X2_insertItem 70 [(10, 0), (0, p1), (0, p2), (0, p3), (0, x1), (5, 0)] [] D3 Φ
  exact c_vret d_X2_insertItem_70 rfl h
set_option maxRecDepth 20000 in
theorem run_pL_insertLeafBehind {Γ : GG} {rg : Nat → Bool} {κ : Nat} {Φ : OT → DD → Prop} (R : cov rg rg0) (p1 : Int) (p2 : Int) (p3 : Int) {D : DD} (h : WP (some .int) κ Φ (pL_insertLeafBehind p1 p2 p3 D)) : Run Γ rg κ Y_X3_insertLeafBehind 0 [(19, 0), (0, p1), (0, p2), (0, p3), (5, 0), (5, 0), (5, 0)] [] D Φ := by
  unfold pL_insertLeafBehind at h
  show Run Γ rg κ Y_X3_insertLeafBehind 0 [(19, 0), (0, p1), (0, p2), (0, p3), (5, 0), (5, 0), (5, 0)] [] D Φ
  refine r_aload_n d_X3_insertLeafBehind_0 rfl (by decide) ?_
  refine r_getR (t := 2) d_X3_insertLeafBehind_1 fk_RX3_9 sh_11 rfl (by decide) (R 11 rfl) ?_
  refine r_iload_n d_X3_insertLeafBehind_4 rfl ?_
  refine r_iconst d_X3_insertLeafBehind_5 ?_
  refine r_iadd d_X3_insertLeafBehind_6 ?_
  refine c_callVPi (a := 2) (z := 0) (as := [(0, (p1 + 2))]) (rest := []) (ls' := [(10, 0), (0, (p1 + 2))]) d_X3_insertLeafBehind_7 ck_RX3_23 rfl sh_2 rfl (by decide) (R 2 rfl) rfl rfl (Nat.le_of_ble_eq_true rfl) (Nat.le_of_ble_eq_true rfl) (by decide) rfl rfl (fun Ψ hΨ => run_pI_unitAt R _ rfl hΨ) ?_
  show Run Γ rg κ Y_X3_insertLeafBehind 10 [(19, 0), (0, p1), (0, p2), (0, p3), (5, 0), (5, 0), (5, 0)] [(0, (pI_unitAt (p1 + 2) D))] D Φ
  refine c_lt d_X3_insertLeafBehind_10 (by decide) rfl h (fun x1 h => ?_)
  show Run Γ rg κ Y_X3_insertLeafBehind 12 [(19, 0), (0, p1), (0, p2), (0, p3), (0, x1), (5, 0), (5, 0)] [] D Φ
  refine r_iload_n d_X3_insertLeafBehind_12 rfl ?_
  refine r_istore d_X3_insertLeafBehind_13 (by decide) rfl ?_
  show Run Γ rg κ Y_X3_insertLeafBehind 15 [(19, 0), (0, p1), (0, p2), (0, p3), (0, x1), (0, p3), (5, 0)] [] D Φ
  refine r_aload_n d_X3_insertLeafBehind_15 rfl (by decide) ?_
  refine r_iload d_X3_insertLeafBehind_16 rfl ?_
  show Run Γ rg κ Y_X3_insertLeafBehind 18 [(19, 0), (0, p1), (0, p2), (0, p3), (0, x1), (0, p3), (5, 0)] [(0, x1), (19, 0)] D Φ
  refine c_callVPi (a := 11) (z := 0) (as := [(0, x1)]) (rest := []) (ls' := [(19, 0), (0, x1)]) d_X3_insertLeafBehind_18 ck_RX3_28 rfl sh_11 rfl (by decide) (R 11 rfl) rfl rfl (Nat.le_of_ble_eq_true rfl) (Nat.le_of_ble_eq_true rfl) (by decide) rfl rfl (fun Ψ hΨ => run_pL_isIndex R _ rfl hΨ) ?_
  show Run Γ rg κ Y_X3_insertLeafBehind 21 [(19, 0), (0, p1), (0, p2), (0, p3), (0, x1), (0, p3), (5, 0)] [(0, (pL_isIndex x1 D))] D Φ
  refine c_jn (fun J => ∀ (x2 : Int) (x3 : Int) (D1 : DD), WP (some .int) κ Φ (J x2 x3 D1) → Run Γ rg κ Y_X3_insertLeafBehind 75 [(19, 0), (5, 0), (0, p2), (5, 0), (0, x2), (0, x3), (5, 0)] [] D1 Φ) h ?_ (fun J1 hJ1 h => ?_)
  · intro x2 x3 D1 h
    show Run Γ rg κ Y_X3_insertLeafBehind 75 [(19, 0), (5, 0), (0, p2), (5, 0), (0, x2), (0, x3), (5, 0)] [] D1 Φ
    refine r_aload_n d_X3_insertLeafBehind_75 rfl (by decide) ?_
    refine r_getR (t := 7) d_X3_insertLeafBehind_76 fk_RX3_15 sh_11 rfl (by decide) (R 11 rfl) ?_
    refine r_iload d_X3_insertLeafBehind_79 rfl ?_
    refine c_callVPi (a := 7) (z := 0) (as := [(0, x3)]) (rest := []) (ls' := [(15, 0), (0, x3)]) d_X3_insertLeafBehind_81 ck_RX3_63 rfl sh_7 rfl (by decide) (R 7 rfl) rfl rfl (Nat.le_of_ble_eq_true rfl) (Nat.le_of_ble_eq_true rfl) (by decide) rfl rfl (fun Ψ hΨ => run_pC_got R _ rfl hΨ) ?_
    show Run Γ rg κ Y_X3_insertLeafBehind 84 [(19, 0), (5, 0), (0, p2), (5, 0), (0, x2), (0, x3), (5, 0)] [(0, (pC_got x3 D1))] D1 Φ
    refine c_lt d_X3_insertLeafBehind_84 (by decide) rfl h (fun x4 h => ?_)
    show Run Γ rg κ Y_X3_insertLeafBehind 86 [(19, 0), (5, 0), (0, p2), (5, 0), (0, x2), (0, x3), (0, x4)] [] D1 Φ
    refine r_aload_n d_X3_insertLeafBehind_86 rfl (by decide) ?_
    refine r_getR (t := 2) d_X3_insertLeafBehind_87 fk_RX3_9 sh_11 rfl (by decide) (R 11 rfl) ?_
    refine r_iload d_X3_insertLeafBehind_90 rfl ?_
    refine r_iload_n d_X3_insertLeafBehind_92 rfl ?_
    refine r_iconst d_X3_insertLeafBehind_93 ?_
    refine r_iadd d_X3_insertLeafBehind_94 ?_
    show Run Γ rg κ Y_X3_insertLeafBehind 95 [(19, 0), (5, 0), (0, p2), (5, 0), (0, x2), (0, x3), (0, x4)] [(0, (p2 + 1)), (0, x2), (10, 0)] D1 Φ
    refine r_iload d_X3_insertLeafBehind_95 rfl ?_
    refine c_callVv (a := 2) (z := 0) (as := [(0, x2), (0, (p2 + 1)), (0, x4)]) (rest := []) (ls' := [(10, 0), (0, x2), (0, (p2 + 1)), (0, x4), (5, 0), (5, 0)]) d_X3_insertLeafBehind_97 ck_RX3_70 rfl sh_2 rfl (by decide) (R 2 rfl) rfl rfl (Nat.le_of_ble_eq_true rfl) (Nat.le_of_ble_eq_true rfl) (by decide) rfl rfl (fun κ' Ψ hΨ => run_pI_insertItem R _ _ _ hΨ) h (fun _ D2 h => ?_)
    show Run Γ rg κ Y_X3_insertLeafBehind 100 [(19, 0), (5, 0), (0, p2), (5, 0), (0, x2), (0, x3), (0, x4)] [] D2 Φ
    refine r_aload_n d_X3_insertLeafBehind_100 rfl (by decide) ?_
    refine r_getR (t := 7) d_X3_insertLeafBehind_101 fk_RX3_15 sh_11 rfl (by decide) (R 11 rfl) ?_
    refine r_iload d_X3_insertLeafBehind_104 rfl ?_
    refine c_callVv (a := 7) (z := 0) (as := [(0, x2)]) (rest := []) (ls' := [(15, 0), (0, x2), (5, 0), (5, 0)]) d_X3_insertLeafBehind_106 ck_RX3_60 rfl sh_7 rfl (by decide) (R 7 rfl) rfl rfl (Nat.le_of_ble_eq_true rfl) (Nat.le_of_ble_eq_true rfl) (by decide) rfl rfl (fun κ' Ψ hΨ => run_pC_markWritten R _ hΨ) h (fun _ D3 h => ?_)
    show Run Γ rg κ Y_X3_insertLeafBehind 109 [(19, 0), (5, 0), (0, p2), (5, 0), (0, x2), (0, x3), (0, x4)] [] D3 Φ
    refine r_iload d_X3_insertLeafBehind_109 rfl ?_
    exact c_iret d_X3_insertLeafBehind_111 rfl h
  refine c_if_ne (tgt := 75) d_X3_insertLeafBehind_21 (by decide) (nz_b (pL_isIndex_b x1 D)) h (fun h => ?_) (fun h => ?_)
  · skip
    exact Run.forget (ls' := [(19, 0), (5, 0), (0, p2), (5, 0), (0, x1), (0, p3), (5, 0)]) ⟨Or.inr rfl, Or.inl rfl, Or.inr rfl, Or.inl rfl, Or.inr rfl, Or.inr rfl, Or.inr rfl, trivial⟩ (hJ1 x1 p3 D h)
  · skip
    show Run Γ rg κ Y_X3_insertLeafBehind 24 [(19, 0), (0, p1), (0, p2), (0, p3), (0, x1), (0, p3), (5, 0)] [] D Φ
    refine r_aload_n d_X3_insertLeafBehind_24 rfl (by decide) ?_
    refine r_getR (t := 7) d_X3_insertLeafBehind_25 fk_RX3_15 sh_11 rfl (by decide) (R 11 rfl) ?_
    refine r_iload_n d_X3_insertLeafBehind_28 rfl ?_
    refine c_callVPi (a := 7) (z := 0) (as := [(0, p3)]) (rest := []) (ls' := [(15, 0), (0, p3)]) d_X3_insertLeafBehind_29 ck_RX3_63 rfl sh_7 rfl (by decide) (R 7 rfl) rfl rfl (Nat.le_of_ble_eq_true rfl) (Nat.le_of_ble_eq_true rfl) (by decide) rfl rfl (fun Ψ hΨ => run_pC_got R _ rfl hΨ) ?_
    show Run Γ rg κ Y_X3_insertLeafBehind 32 [(19, 0), (0, p1), (0, p2), (0, p3), (0, x1), (0, p3), (5, 0)] [(0, (pC_got p3 D))] D Φ
    refine c_lt d_X3_insertLeafBehind_32 (by decide) rfl h (fun x5 h => ?_)
    show Run Γ rg κ Y_X3_insertLeafBehind 34 [(19, 0), (0, p1), (0, p2), (0, p3), (0, x1), (0, p3), (0, x5)] [] D Φ
    refine r_aload_n d_X3_insertLeafBehind_34 rfl (by decide) ?_
    refine r_getR (t := 2) d_X3_insertLeafBehind_35 fk_RX3_9 sh_11 rfl (by decide) (R 11 rfl) ?_
    refine r_iload d_X3_insertLeafBehind_38 rfl ?_
    refine r_iconst d_X3_insertLeafBehind_40 ?_
    refine c_callVD (a := 2) (z := 0) (as := [(0, x5), (0, 0)]) (rest := []) (ls' := [(10, 0), (0, x5), (0, 0)]) d_X3_insertLeafBehind_41 ck_RX3_66 rfl sh_2 rfl (by decide) (R 2 rfl) rfl rfl (Nat.le_of_ble_eq_true rfl) (Nat.le_of_ble_eq_true rfl) (by decide) rfl rfl (fun Ψ hΨ => run_pI_putUnit R _ _ hΨ) h (fun D4 h => ?_)
    show Run Γ rg κ Y_X3_insertLeafBehind 44 [(19, 0), (0, p1), (0, p2), (0, p3), (0, x1), (0, p3), (0, x5)] [] D4 Φ
    refine r_aload_n d_X3_insertLeafBehind_44 rfl (by decide) ?_
    show Run Γ rg κ Y_X3_insertLeafBehind 45 [(19, 0), (0, p1), (0, p2), (0, p3), (0, x1), (0, p3), (0, x5)] [(19, 0)] D4 Φ
    refine r_getR (t := 2) d_X3_insertLeafBehind_45 fk_RX3_9 sh_11 rfl (by decide) (R 11 rfl) ?_
    refine r_iload d_X3_insertLeafBehind_48 rfl ?_
    refine r_iconst d_X3_insertLeafBehind_50 ?_
    refine r_iload d_X3_insertLeafBehind_51 rfl ?_
    refine c_callVv (a := 2) (z := 0) (as := [(0, x5), (0, 0), (0, x1)]) (rest := []) (ls' := [(10, 0), (0, x5), (0, 0), (0, x1), (5, 0), (5, 0)]) d_X3_insertLeafBehind_53 ck_RX3_70 rfl sh_2 rfl (by decide) (R 2 rfl) rfl rfl (Nat.le_of_ble_eq_true rfl) (Nat.le_of_ble_eq_true rfl) (by decide) rfl rfl (fun κ' Ψ hΨ => run_pI_insertItem R _ _ _ hΨ) h (fun _ D5 h => ?_)
    show Run Γ rg κ Y_X3_insertLeafBehind 56 [(19, 0), (0, p1), (0, p2), (0, p3), (0, x1), (0, p3), (0, x5)] [] D5 Φ
    refine r_aload_n d_X3_insertLeafBehind_56 rfl (by decide) ?_
    refine r_getR (t := 2) d_X3_insertLeafBehind_57 fk_RX3_9 sh_11 rfl (by decide) (R 11 rfl) ?_
    refine r_iload_n d_X3_insertLeafBehind_60 rfl ?_
    refine r_iconst d_X3_insertLeafBehind_61 ?_
    refine r_iadd d_X3_insertLeafBehind_62 ?_
    refine r_iload d_X3_insertLeafBehind_63 rfl ?_
    refine c_callVD (a := 2) (z := 0) (as := [(0, (p1 + 2)), (0, x5)]) (rest := []) (ls' := [(10, 0), (0, (p1 + 2)), (0, x5)]) d_X3_insertLeafBehind_65 ck_RX3_66 rfl sh_2 rfl (by decide) (R 2 rfl) rfl rfl (Nat.le_of_ble_eq_true rfl) (Nat.le_of_ble_eq_true rfl) (by decide) rfl rfl (fun Ψ hΨ => run_pI_putUnit R _ _ hΨ) h (fun D6 h => ?_)
    show Run Γ rg κ Y_X3_insertLeafBehind 68 [(19, 0), (0, p1), (0, p2), (0, p3), (0, x1), (0, p3), (0, x5)] [] D6 Φ
    show Run Γ rg κ Y_X3_insertLeafBehind 68 [(19, 0), (0, p1), (0, p2), (0, p3), (0, x1), (0, p3), (0, x5)] [] D6 Φ
    refine r_iload d_X3_insertLeafBehind_68 rfl ?_
    refine r_istore d_X3_insertLeafBehind_70 (by decide) rfl ?_
    show Run Γ rg κ Y_X3_insertLeafBehind 72 [(19, 0), (0, p1), (0, p2), (0, p3), (0, x5), (0, p3), (0, x5)] [] D6 Φ
    refine r_iinc d_X3_insertLeafBehind_72 rfl (by decide) rfl ?_
    show Run Γ rg κ Y_X3_insertLeafBehind 75 [(19, 0), (0, p1), (0, p2), (0, p3), (0, x5), (0, (p3 + 1)), (0, x5)] [] D6 Φ
    exact Run.forget (ls' := [(19, 0), (5, 0), (0, p2), (5, 0), (0, x5), (0, (p3 + 1)), (5, 0)]) ⟨Or.inr rfl, Or.inl rfl, Or.inr rfl, Or.inl rfl, Or.inr rfl, Or.inr rfl, Or.inl rfl, trivial⟩ (hJ1 x5 (p3 + 1) D6 h)
set_option maxRecDepth 20000 in
theorem run_pL_entriesAhead_15 {Γ : GG} {rg : Nat → Bool} {κ : Nat} {Φ : OT → DD → Prop} (R : cov rg rg0) (a1 : Int) (a2 : Int) (a3 : Int) : ∀ (n : Nat) (a4 : Int) (a5 : Int) (D : DD), WP (some .int) κ Φ (pL_entriesAhead_15 a1 a2 a3 n a4 a5 D) → Run Γ rg κ Y_X3_entriesAhead 15 [(19, 0), (0, a1), (0, a2), (0, a3), (0, a4), (0, a5)] [] D Φ := by
  intro n
  induction n with
  | zero => intro a4 a5 D h; exact h.no.elim
  | succ n ih =>
    intro a4 a5 D h
    rw [pL_entriesAhead_15] at h
    show Run Γ rg κ Y_X3_entriesAhead 15 [(19, 0), (0, a1), (0, a2), (0, a3), (0, a4), (0, a5)] [] D Φ
    refine r_iload d_X3_entriesAhead_15 rfl ?_
    refine r_iload_n d_X3_entriesAhead_17 rfl ?_
    refine c_icmp_ge (tgt := 44) d_X3_entriesAhead_18 (by decide) (nz_w _) (nz_w _) h (fun h => ?_) (fun h => ?_)
    · skip
      show Run Γ rg κ Y_X3_entriesAhead 44 [(19, 0), (0, a1), (0, a2), (0, a3), (0, a4), (0, a5)] [] D Φ
      refine r_iload d_X3_entriesAhead_44 rfl ?_
      exact c_iret d_X3_entriesAhead_46 rfl h
    · skip
      show Run Γ rg κ Y_X3_entriesAhead 21 [(19, 0), (0, a1), (0, a2), (0, a3), (0, a4), (0, a5)] [] D Φ
      refine r_aload_n d_X3_entriesAhead_21 rfl (by decide) ?_
      refine r_getR (t := 2) d_X3_entriesAhead_22 fk_RX3_9 sh_11 rfl (by decide) (R 11 rfl) ?_
      refine r_iload_n d_X3_entriesAhead_25 rfl ?_
      refine r_iload d_X3_entriesAhead_26 rfl ?_
      refine c_callVPi (a := 2) (z := 0) (as := [(0, a1), (0, a5)]) (rest := []) (ls' := [(10, 0), (0, a1), (0, a5)]) d_X3_entriesAhead_28 ck_RX3_45 rfl sh_2 rfl (by decide) (R 2 rfl) rfl rfl (Nat.le_of_ble_eq_true rfl) (Nat.le_of_ble_eq_true rfl) (by decide) rfl rfl (fun Ψ hΨ => run_pI_item R _ _ rfl hΨ) ?_
      show Run Γ rg κ Y_X3_entriesAhead 31 [(19, 0), (0, a1), (0, a2), (0, a3), (0, a4), (0, a5)] [(0, (pI_item a1 a5 D))] D Φ
      refine r_iload_n d_X3_entriesAhead_31 rfl ?_
      refine c_jn (fun J => ∀ (x1 : Int) (D1 : DD), WP (some .int) κ Φ (J x1 D1) → Run Γ rg κ Y_X3_entriesAhead 38 [(19, 0), (0, a1), (0, a2), (0, a3), (0, x1), (0, a5)] [] D1 Φ) h ?_ (fun J1 hJ1 h => ?_)
      · intro x1 D1 h
        show Run Γ rg κ Y_X3_entriesAhead 38 [(19, 0), (0, a1), (0, a2), (0, a3), (0, x1), (0, a5)] [] D1 Φ
        refine r_iinc d_X3_entriesAhead_38 rfl (by decide) rfl ?_
        show Run Γ rg κ Y_X3_entriesAhead 41 [(19, 0), (0, a1), (0, a2), (0, a3), (0, x1), (0, (a5 + 1))] [] D1 Φ
        refine r_goto (tgt := 15) d_X3_entriesAhead_41 (by decide) ?_
        exact (ih x1 (a5 + 1) D1 h)
      refine c_icmp_ge (tgt := 38) d_X3_entriesAhead_32 (by decide) (nz_w _) (nz_w _) h (fun h => ?_) (fun h => ?_)
      · skip
        exact (hJ1 a4 D h)
      · skip
        show Run Γ rg κ Y_X3_entriesAhead 35 [(19, 0), (0, a1), (0, a2), (0, a3), (0, a4), (0, a5)] [] D Φ
        refine r_iinc d_X3_entriesAhead_35 rfl (by decide) rfl ?_
        show Run Γ rg κ Y_X3_entriesAhead 38 [(19, 0), (0, a1), (0, a2), (0, a3), (0, (a4 + 1)), (0, a5)] [] D Φ
        exact (hJ1 (a4 + 1) D h)
set_option maxRecDepth 20000 in
theorem run_pL_entriesAhead {Γ : GG} {rg : Nat → Bool} {κ : Nat} {Φ : OT → DD → Prop} (R : cov rg rg0) (p1 : Int) (p2 : Int) {D : DD} (h : WP (some .int) κ Φ (pL_entriesAhead p1 p2 D)) : Run Γ rg κ Y_X3_entriesAhead 0 [(19, 0), (0, p1), (0, p2), (5, 0), (5, 0), (5, 0)] [] D Φ := by
  unfold pL_entriesAhead at h
  show Run Γ rg κ Y_X3_entriesAhead 0 [(19, 0), (0, p1), (0, p2), (5, 0), (5, 0), (5, 0)] [] D Φ
  refine r_aload_n d_X3_entriesAhead_0 rfl (by decide) ?_
  refine r_getR (t := 2) d_X3_entriesAhead_1 fk_RX3_9 sh_11 rfl (by decide) (R 11 rfl) ?_
  refine r_iload_n d_X3_entriesAhead_4 rfl ?_
  refine c_callVPi (a := 2) (z := 0) (as := [(0, p1)]) (rest := []) (ls' := [(10, 0), (0, p1)]) d_X3_entriesAhead_5 ck_RX3_32 rfl sh_2 rfl (by decide) (R 2 rfl) rfl rfl (Nat.le_of_ble_eq_true rfl) (Nat.le_of_ble_eq_true rfl) (by decide) rfl rfl (fun Ψ hΨ => run_pI_itemCount R _ rfl hΨ) ?_
  show Run Γ rg κ Y_X3_entriesAhead 8 [(19, 0), (0, p1), (0, p2), (5, 0), (5, 0), (5, 0)] [(0, (pI_itemCount p1 D))] D Φ
  refine c_lt_n d_X3_entriesAhead_8 (by decide) rfl h (fun x1 h => ?_)
  show Run Γ rg κ Y_X3_entriesAhead 9 [(19, 0), (0, p1), (0, p2), (0, x1), (5, 0), (5, 0)] [] D Φ
  refine r_iconst d_X3_entriesAhead_9 ?_
  refine r_istore d_X3_entriesAhead_10 (by decide) rfl ?_
  show Run Γ rg κ Y_X3_entriesAhead 12 [(19, 0), (0, p1), (0, p2), (0, x1), (0, 0), (5, 0)] [] D Φ
  refine r_iconst d_X3_entriesAhead_12 ?_
  refine r_istore d_X3_entriesAhead_13 (by decide) rfl ?_
  show Run Γ rg κ Y_X3_entriesAhead 15 [(19, 0), (0, p1), (0, p2), (0, x1), (0, 0), (0, 0)] [] D Φ
  exact run_pL_entriesAhead_15 R p1 p2 x1 fu 0 0 D h
set_option maxRecDepth 20000 in
theorem run_pI_moveItems_22 {Γ : GG} {rg : Nat → Bool} {κ : Nat} {Φ : OT → DD → Prop} (R : cov rg rg0) (a1 : Int) (a2 : Int) (a3 : Int) (a4 : Int) {K : DD → Res} (hK : ∀ (D : DD), WP none κ Φ (K D) → Run Γ rg κ Y_X2_moveItems 57 [(10, 0), (0, a1), (0, a2), (5, 0), (5, 0), (5, 0)] [] D Φ) : ∀ (n : Nat) (a5 : Int) (D : DD), WP none κ Φ (pI_moveItems_22 a1 a2 a3 a4 n a5 D K) → Run Γ rg κ Y_X2_moveItems 22 [(10, 0), (0, a1), (0, a2), (0, a3), (0, a4), (0, a5)] [] D Φ := by
  intro n
  induction n with
  | zero => intro a5 D h; exact h.no.elim
  | succ n ih =>
    intro a5 D h
    rw [pI_moveItems_22] at h
    show Run Γ rg κ Y_X2_moveItems 22 [(10, 0), (0, a1), (0, a2), (0, a3), (0, a4), (0, a5)] [] D Φ
    refine r_iload d_X2_moveItems_22 rfl ?_
    refine r_iload d_X2_moveItems_24 rfl ?_
    refine c_icmp_ge (tgt := 57) d_X2_moveItems_26 (by decide) (nz_w _) (nz_w _) h (fun h => ?_) (fun h => ?_)
    · skip
      exact Run.forget (ls' := [(10, 0), (0, a1), (0, a2), (5, 0), (5, 0), (5, 0)]) ⟨Or.inr rfl, Or.inr rfl, Or.inr rfl, Or.inl rfl, Or.inl rfl, Or.inl rfl, trivial⟩ (hK D h)
    · skip
      show Run Γ rg κ Y_X2_moveItems 29 [(10, 0), (0, a1), (0, a2), (0, a3), (0, a4), (0, a5)] [] D Φ
      refine r_aload_n d_X2_moveItems_29 rfl (by decide) ?_
      refine r_getR (t := 4) d_X2_moveItems_30 fk_RX2_15 sh_2 rfl (by decide) (R 2 rfl) ?_
      refine r_iload_n d_X2_moveItems_33 rfl ?_
      refine r_iconst d_X2_moveItems_34 ?_
      refine r_iadd d_X2_moveItems_35 ?_
      refine r_iload d_X2_moveItems_36 rfl ?_
      refine r_iadd d_X2_moveItems_38 ?_
      refine r_iload_n d_X2_moveItems_39 rfl ?_
      refine r_isub d_X2_moveItems_40 ?_
      refine r_aload_n d_X2_moveItems_41 rfl (by decide) ?_
      refine r_iload_n d_X2_moveItems_42 rfl ?_
      show Run Γ rg κ Y_X2_moveItems 43 [(10, 0), (0, a1), (0, a2), (0, a3), (0, a4), (0, a5)] [(0, a1), (10, 0), (0, (((a3 + 1) + a5) - a2)), (12, 0)] D Φ
      refine r_iload d_X2_moveItems_43 rfl ?_
      refine c_callVPi (a := 2) (z := 0) (as := [(0, a1), (0, a5)]) (rest := [(0, (((a3 + 1) + a5) - a2)), (12, 0)]) (ls' := [(10, 0), (0, a1), (0, a5)]) d_X2_moveItems_45 ck_RX2_49 rfl sh_2 rfl (by decide) (R 2 rfl) rfl rfl (Nat.le_of_ble_eq_true rfl) (Nat.le_of_ble_eq_true rfl) (by decide) rfl rfl (fun Ψ hΨ => run_pI_item R _ _ rfl hΨ) ?_
      show Run Γ rg κ Y_X2_moveItems 48 [(10, 0), (0, a1), (0, a2), (0, a3), (0, a4), (0, a5)] [(0, (pI_item a1 a5 D)), (0, (((a3 + 1) + a5) - a2)), (12, 0)] D Φ
      refine c_callND (as := [(12, 0), (0, (((a3 + 1) + a5) - a2)), (0, (pI_item a1 a5 D))]) (rest := []) (ls' := [(12, 0), (0, (((a3 + 1) + a5) - a2)), (0, (pI_item a1 a5 D))]) d_X2_moveItems_48 ck_RX2_31 rfl rfl rfl (Nat.le_of_ble_eq_true rfl) (Nat.le_of_ble_eq_true rfl) (by decide) rfl rfl (fun Ψ hΨ => run_pH_store sh_4 (by decide) (R 4 rfl) (by decide) _ _ hΨ) h (fun D1 h => ?_)
      show Run Γ rg κ Y_X2_moveItems 51 [(10, 0), (0, a1), (0, a2), (0, a3), (0, a4), (0, a5)] [] D1 Φ
      refine r_iinc d_X2_moveItems_51 rfl (by decide) rfl ?_
      show Run Γ rg κ Y_X2_moveItems 54 [(10, 0), (0, a1), (0, a2), (0, a3), (0, a4), (0, (a5 + 1))] [] D1 Φ
      refine r_goto (tgt := 22) d_X2_moveItems_54 (by decide) ?_
      exact (ih (a5 + 1) D1 h)
set_option maxRecDepth 20000 in
theorem run_pI_moveItems {Γ : GG} {rg : Nat → Bool} {κ : Nat} {Φ : OT → DD → Prop} (R : cov rg rg0) (p1 : Int) (p2 : Int) (p3 : Int) {D : DD} (h : WP none κ Φ (pI_moveItems p1 p2 p3 D)) : Run Γ rg κ Y_X2_moveItems 0 [(10, 0), (0, p1), (0, p2), (0, p3), (5, 0), (5, 0)] [] D Φ := by
  unfold pI_moveItems at h
  show Run Γ rg κ Y_X2_moveItems 0 [(10, 0), (0, p1), (0, p2), (0, p3), (5, 0), (5, 0)] [] D Φ
  refine r_aload_n d_X2_moveItems_0 rfl (by decide) ?_
  refine r_iload_n d_X2_moveItems_1 rfl ?_
  refine c_callVPi (a := 2) (z := 0) (as := [(0, p1)]) (rest := []) (ls' := [(10, 0), (0, p1)]) d_X2_moveItems_2 ck_RX2_45 rfl sh_2 rfl (by decide) (R 2 rfl) rfl rfl (Nat.le_of_ble_eq_true rfl) (Nat.le_of_ble_eq_true rfl) (by decide) rfl rfl (fun Ψ hΨ => run_pI_itemCount R _ rfl hΨ) ?_
  show Run Γ rg κ Y_X2_moveItems 5 [(10, 0), (0, p1), (0, p2), (0, p3), (5, 0), (5, 0)] [(0, (pI_itemCount p1 D))] D Φ
  refine c_lt d_X2_moveItems_5 (by decide) rfl h (fun x1 h => ?_)
  show Run Γ rg κ Y_X2_moveItems 7 [(10, 0), (0, p1), (0, p2), (0, p3), (0, x1), (5, 0)] [] D Φ
  refine r_aload_n d_X2_moveItems_7 rfl (by decide) ?_
  refine r_getR (t := 4) d_X2_moveItems_8 fk_RX2_15 sh_2 rfl (by decide) (R 2 rfl) ?_
  refine r_iload_n d_X2_moveItems_11 rfl ?_
  refine r_iload d_X2_moveItems_12 rfl ?_
  refine r_iload_n d_X2_moveItems_14 rfl ?_
  refine r_isub d_X2_moveItems_15 ?_
  refine c_callND (as := [(12, 0), (0, p3), (0, (x1 - p2))]) (rest := []) (ls' := [(12, 0), (0, p3), (0, (x1 - p2))]) d_X2_moveItems_16 ck_RX2_31 rfl rfl rfl (Nat.le_of_ble_eq_true rfl) (Nat.le_of_ble_eq_true rfl) (by decide) rfl rfl (fun Ψ hΨ => run_pH_store sh_4 (by decide) (R 4 rfl) (by decide) _ _ hΨ) h (fun D1 h => ?_)
  show Run Γ rg κ Y_X2_moveItems 19 [(10, 0), (0, p1), (0, p2), (0, p3), (0, x1), (5, 0)] [] D1 Φ
  show Run Γ rg κ Y_X2_moveItems 19 [(10, 0), (0, p1), (0, p2), (0, p3), (0, x1), (5, 0)] [] D1 Φ
  refine r_iload_n d_X2_moveItems_19 rfl ?_
  refine r_istore d_X2_moveItems_20 (by decide) rfl ?_
  show Run Γ rg κ Y_X2_moveItems 22 [(10, 0), (0, p1), (0, p2), (0, p3), (0, x1), (0, p2)] [] D1 Φ
  refine run_pI_moveItems_22 R p1 p2 p3 x1 ?_ fu p2 D1 h
  intro D2 h
  show Run Γ rg κ Y_X2_moveItems 57 [(10, 0), (0, p1), (0, p2), (5, 0), (5, 0), (5, 0)] [] D2 Φ
  refine r_aload_n d_X2_moveItems_57 rfl (by decide) ?_
  refine r_getR (t := 4) d_X2_moveItems_58 fk_RX2_15 sh_2 rfl (by decide) (R 2 rfl) ?_
  refine r_iload_n d_X2_moveItems_61 rfl ?_
  refine r_iload_n d_X2_moveItems_62 rfl ?_
  refine c_callND (as := [(12, 0), (0, p1), (0, p2)]) (rest := []) (ls' := [(12, 0), (0, p1), (0, p2)]) d_X2_moveItems_63 ck_RX2_31 rfl rfl rfl (Nat.le_of_ble_eq_true rfl) (Nat.le_of_ble_eq_true rfl) (by decide) rfl rfl (fun Ψ hΨ => run_pH_store sh_4 (by decide) (R 4 rfl) (by decide) _ _ hΨ) h (fun D3 h => ?_)
  show Run Γ rg κ Y_X2_moveItems 66 [(10, 0), (0, p1), (0, p2), (5, 0), (5, 0), (5, 0)] [] D3 Φ
  exact c_vret d_X2_moveItems_66 rfl h
set_option maxRecDepth 20000 in
theorem run_pL_splitLeaf {Γ : GG} {rg : Nat → Bool} {κ : Nat} {Φ : OT → DD → Prop} (R : cov rg rg0) (p1 : Int) (p2 : Int) (p3 : Int) {D : DD} (h : WP none κ Φ (pL_splitLeaf p1 p2 p3 D)) : Run Γ rg κ Y_X3_splitLeaf 0 [(19, 0), (0, p1), (0, p2), (0, p3), (5, 0)] [] D Φ := by
  unfold pL_splitLeaf at h
  show Run Γ rg κ Y_X3_splitLeaf 0 [(19, 0), (0, p1), (0, p2), (0, p3), (5, 0)] [] D Φ
  refine r_aload_n d_X3_splitLeaf_0 rfl (by decide) ?_
  refine r_iload_n d_X3_splitLeaf_1 rfl ?_
  refine r_iload_n d_X3_splitLeaf_2 rfl ?_
  refine c_callVi (t' := (some .int)) (a := 11) (z := 0) (as := [(0, p1), (0, p3)]) (rest := []) (ls' := [(19, 0), (0, p1), (0, p3), (5, 0), (5, 0), (5, 0)]) d_X3_splitLeaf_3 ck_RX3_74 rfl sh_11 rfl (by decide) (R 11 rfl) rfl rfl (Nat.le_of_ble_eq_true rfl) (Nat.le_of_ble_eq_true rfl) (by decide) rfl rfl (fun _ => rfl) (fun κ' Ψ hΨ => run_pL_entriesAhead R _ _ hΨ) h (fun v1 D1 h => ?_)
  show Run Γ rg κ Y_X3_splitLeaf 6 [(19, 0), (0, p1), (0, p2), (0, p3), (5, 0)] [(0, v1)] D1 Φ
  refine r_istore d_X3_splitLeaf_6 (by decide) rfl ?_
  show Run Γ rg κ Y_X3_splitLeaf 8 [(19, 0), (0, p1), (0, p2), (0, p3), (0, v1)] [] D1 Φ
  refine r_iload d_X3_splitLeaf_8 rfl ?_
  refine r_iconst d_X3_splitLeaf_10 ?_
  refine c_icmp_ge (tgt := 38) d_X3_splitLeaf_11 (by decide) (nz_w _) (nz_k rfl) h (fun h => ?_) (fun h => ?_)
  · skip
    show Run Γ rg κ Y_X3_splitLeaf 38 [(19, 0), (0, p1), (0, p2), (0, p3), (0, v1)] [] D1 Φ
    refine r_aload_n d_X3_splitLeaf_38 rfl (by decide) ?_
    refine r_getR (t := 2) d_X3_splitLeaf_39 fk_RX3_9 sh_11 rfl (by decide) (R 11 rfl) ?_
    refine r_iload_n d_X3_splitLeaf_42 rfl ?_
    refine r_iconst d_X3_splitLeaf_43 ?_
    refine r_iload_n d_X3_splitLeaf_44 rfl ?_
    refine c_callVv (a := 2) (z := 0) (as := [(0, p1), (0, 3), (0, p2)]) (rest := []) (ls' := [(10, 0), (0, p1), (0, 3), (0, p2), (5, 0), (5, 0)]) d_X3_splitLeaf_45 ck_RX3_101 rfl sh_2 rfl (by decide) (R 2 rfl) rfl rfl (Nat.le_of_ble_eq_true rfl) (Nat.le_of_ble_eq_true rfl) (by decide) rfl rfl (fun κ' Ψ hΨ => run_pI_moveItems R _ _ _ hΨ) h (fun _ D2 h => ?_)
    show Run Γ rg κ Y_X3_splitLeaf 48 [(19, 0), (0, p1), (0, p2), (0, p3), (0, v1)] [] D2 Φ
    refine r_aload_n d_X3_splitLeaf_48 rfl (by decide) ?_
    refine r_getR (t := 2) d_X3_splitLeaf_49 fk_RX3_9 sh_11 rfl (by decide) (R 11 rfl) ?_
    refine r_iload_n d_X3_splitLeaf_52 rfl ?_
    refine r_iload d_X3_splitLeaf_53 rfl ?_
    refine r_iconst d_X3_splitLeaf_55 ?_
    show Run Γ rg κ Y_X3_splitLeaf 56 [(19, 0), (0, p1), (0, p2), (0, p3), (0, v1)] [(0, 3), (0, v1), (0, p2), (10, 0)] D2 Φ
    refine r_isub d_X3_splitLeaf_56 ?_
    refine r_iload_n d_X3_splitLeaf_57 rfl ?_
    refine c_callVv (a := 2) (z := 0) (as := [(0, p2), (0, (v1 - 3)), (0, p3)]) (rest := []) (ls' := [(10, 0), (0, p2), (0, (v1 - 3)), (0, p3), (5, 0), (5, 0)]) d_X3_splitLeaf_58 ck_RX3_70 rfl sh_2 rfl (by decide) (R 2 rfl) rfl rfl (Nat.le_of_ble_eq_true rfl) (Nat.le_of_ble_eq_true rfl) (by decide) rfl rfl (fun κ' Ψ hΨ => run_pI_insertItem R _ _ _ hΨ) h (fun _ D3 h => ?_)
    show Run Γ rg κ Y_X3_splitLeaf 61 [(19, 0), (0, p1), (0, p2), (0, p3), (0, v1)] [] D3 Φ
    exact c_vret d_X3_splitLeaf_61 rfl h
  · skip
    show Run Γ rg κ Y_X3_splitLeaf 14 [(19, 0), (0, p1), (0, p2), (0, p3), (0, v1)] [] D1 Φ
    refine r_aload_n d_X3_splitLeaf_14 rfl (by decide) ?_
    refine r_getR (t := 2) d_X3_splitLeaf_15 fk_RX3_9 sh_11 rfl (by decide) (R 11 rfl) ?_
    refine r_iload_n d_X3_splitLeaf_18 rfl ?_
    refine r_iconst d_X3_splitLeaf_19 ?_
    refine r_iload_n d_X3_splitLeaf_20 rfl ?_
    refine c_callVv (a := 2) (z := 0) (as := [(0, p1), (0, 2), (0, p2)]) (rest := []) (ls' := [(10, 0), (0, p1), (0, 2), (0, p2), (5, 0), (5, 0)]) d_X3_splitLeaf_21 ck_RX3_101 rfl sh_2 rfl (by decide) (R 2 rfl) rfl rfl (Nat.le_of_ble_eq_true rfl) (Nat.le_of_ble_eq_true rfl) (by decide) rfl rfl (fun κ' Ψ hΨ => run_pI_moveItems R _ _ _ hΨ) h (fun _ D4 h => ?_)
    show Run Γ rg κ Y_X3_splitLeaf 24 [(19, 0), (0, p1), (0, p2), (0, p3), (0, v1)] [] D4 Φ
    refine r_aload_n d_X3_splitLeaf_24 rfl (by decide) ?_
    refine r_getR (t := 2) d_X3_splitLeaf_25 fk_RX3_9 sh_11 rfl (by decide) (R 11 rfl) ?_
    refine r_iload_n d_X3_splitLeaf_28 rfl ?_
    refine r_iload d_X3_splitLeaf_29 rfl ?_
    refine r_iload_n d_X3_splitLeaf_31 rfl ?_
    show Run Γ rg κ Y_X3_splitLeaf 32 [(19, 0), (0, p1), (0, p2), (0, p3), (0, v1)] [(0, p3), (0, v1), (0, p1), (10, 0)] D4 Φ
    refine c_callVv (a := 2) (z := 0) (as := [(0, p1), (0, v1), (0, p3)]) (rest := []) (ls' := [(10, 0), (0, p1), (0, v1), (0, p3), (5, 0), (5, 0)]) d_X3_splitLeaf_32 ck_RX3_70 rfl sh_2 rfl (by decide) (R 2 rfl) rfl rfl (Nat.le_of_ble_eq_true rfl) (Nat.le_of_ble_eq_true rfl) (by decide) rfl rfl (fun κ' Ψ hΨ => run_pI_insertItem R _ _ _ hΨ) h (fun _ D5 h => ?_)
    show Run Γ rg κ Y_X3_splitLeaf 35 [(19, 0), (0, p1), (0, p2), (0, p3), (0, v1)] [] D5 Φ
    refine r_goto (tgt := 61) d_X3_splitLeaf_35 (by decide) ?_
    show Run Γ rg κ Y_X3_splitLeaf 61 [(19, 0), (0, p1), (0, p2), (0, p3), (0, v1)] [] D5 Φ
    exact c_vret d_X3_splitLeaf_61 rfl h
set_option maxRecDepth 20000 in
theorem run_pL_putIn {Γ : GG} {rg : Nat → Bool} {κ : Nat} {Φ : OT → DD → Prop} (R : cov rg rg0) (p1 : Int) (p2 : Int) (p3 : Int) {D : DD} (h : WP none κ Φ (pL_putIn p1 p2 p3 D)) : Run Γ rg κ Y_X3_putIn 0 [(19, 0), (0, p1), (0, p2), (0, p3), (5, 0), (5, 0), (5, 0)] [] D Φ := by
  unfold pL_putIn at h
  show Run Γ rg κ Y_X3_putIn 0 [(19, 0), (0, p1), (0, p2), (0, p3), (5, 0), (5, 0), (5, 0)] [] D Φ
  refine r_aload_n d_X3_putIn_0 rfl (by decide) ?_
  refine r_getR (t := 7) d_X3_putIn_1 fk_RX3_15 sh_11 rfl (by decide) (R 11 rfl) ?_
  refine r_iload_n d_X3_putIn_4 rfl ?_
  refine c_callVv (a := 7) (z := 0) (as := [(0, p1)]) (rest := []) (ls' := [(15, 0), (0, p1), (5, 0), (5, 0)]) d_X3_putIn_5 ck_RX3_60 rfl sh_7 rfl (by decide) (R 7 rfl) rfl rfl (Nat.le_of_ble_eq_true rfl) (Nat.le_of_ble_eq_true rfl) (by decide) rfl rfl (fun κ' Ψ hΨ => run_pC_markWritten R _ hΨ) h (fun _ D1 h => ?_)
  show Run Γ rg κ Y_X3_putIn 8 [(19, 0), (0, p1), (0, p2), (0, p3), (5, 0), (5, 0), (5, 0)] [] D1 Φ
  refine r_aload_n d_X3_putIn_8 rfl (by decide) ?_
  refine r_iload_n d_X3_putIn_9 rfl ?_
  refine c_callVPi (a := 11) (z := 0) (as := [(0, p1)]) (rest := []) (ls' := [(19, 0), (0, p1), (5, 0)]) d_X3_putIn_10 ck_RX3_35 rfl sh_11 rfl (by decide) (R 11 rfl) rfl rfl (Nat.le_of_ble_eq_true rfl) (Nat.le_of_ble_eq_true rfl) (by decide) rfl rfl (fun Ψ hΨ => run_pL_leafCount R _ rfl hΨ) ?_
  show Run Γ rg κ Y_X3_putIn 13 [(19, 0), (0, p1), (0, p2), (0, p3), (5, 0), (5, 0), (5, 0)] [(0, (pL_leafCount p1 D1))] D1 Φ
  refine c_if_ne (tgt := 60) d_X3_putIn_13 (by decide) (nz_w _) h (fun h => ?_) (fun h => ?_)
  · skip
    show Run Γ rg κ Y_X3_putIn 60 [(19, 0), (0, p1), (0, p2), (0, p3), (5, 0), (5, 0), (5, 0)] [] D1 Φ
    refine r_aload_n d_X3_putIn_60 rfl (by decide) ?_
    refine r_iload_n d_X3_putIn_61 rfl ?_
    refine r_iload_n d_X3_putIn_62 rfl ?_
    refine c_callVi (t' := (some .int)) (a := 11) (z := 0) (as := [(0, p1), (0, p2)]) (rest := []) (ls' := [(19, 0), (0, p1), (0, p2), (5, 0), (5, 0), (5, 0)]) d_X3_putIn_63 ck_RX3_51 rfl sh_11 rfl (by decide) (R 11 rfl) rfl rfl (Nat.le_of_ble_eq_true rfl) (Nat.le_of_ble_eq_true rfl) (by decide) rfl rfl (fun _ => rfl) (fun κ' Ψ hΨ => run_pL_leafNumberFor R _ _ hΨ) h (fun v1 D2 h => ?_)
    show Run Γ rg κ Y_X3_putIn 66 [(19, 0), (0, p1), (0, p2), (0, p3), (5, 0), (5, 0), (5, 0)] [(0, v1)] D2 Φ
    refine r_istore d_X3_putIn_66 (by decide) rfl ?_
    show Run Γ rg κ Y_X3_putIn 68 [(19, 0), (0, p1), (0, p2), (0, p3), (0, v1), (5, 0), (5, 0)] [] D2 Φ
    refine r_aload_n d_X3_putIn_68 rfl (by decide) ?_
    refine r_iload_n d_X3_putIn_69 rfl ?_
    refine r_iload d_X3_putIn_70 rfl ?_
    refine c_callVPi (a := 11) (z := 0) (as := [(0, p1), (0, v1)]) (rest := []) (ls' := [(19, 0), (0, p1), (0, v1), (5, 0)]) d_X3_putIn_72 ck_RX3_38 rfl sh_11 rfl (by decide) (R 11 rfl) rfl rfl (Nat.le_of_ble_eq_true rfl) (Nat.le_of_ble_eq_true rfl) (by decide) rfl rfl (fun Ψ hΨ => run_pL_leafNumbered R _ _ rfl hΨ) ?_
    show Run Γ rg κ Y_X3_putIn 75 [(19, 0), (0, p1), (0, p2), (0, p3), (0, v1), (5, 0), (5, 0)] [(0, (pL_leafNumbered p1 v1 D2))] D2 Φ
    refine c_lt d_X3_putIn_75 (by decide) rfl h (fun x1 h => ?_)
    show Run Γ rg κ Y_X3_putIn 77 [(19, 0), (0, p1), (0, p2), (0, p3), (0, v1), (0, x1), (5, 0)] [] D2 Φ
    refine r_aload_n d_X3_putIn_77 rfl (by decide) ?_
    show Run Γ rg κ Y_X3_putIn 78 [(19, 0), (0, p1), (0, p2), (0, p3), (0, v1), (0, x1), (5, 0)] [(19, 0)] D2 Φ
    refine r_getR (t := 7) d_X3_putIn_78 fk_RX3_15 sh_11 rfl (by decide) (R 11 rfl) ?_
    refine r_iload d_X3_putIn_81 rfl ?_
    refine c_callVv (a := 7) (z := 0) (as := [(0, x1)]) (rest := []) (ls' := [(15, 0), (0, x1), (5, 0), (5, 0)]) d_X3_putIn_83 ck_RX3_60 rfl sh_7 rfl (by decide) (R 7 rfl) rfl rfl (Nat.le_of_ble_eq_true rfl) (Nat.le_of_ble_eq_true rfl) (by decide) rfl rfl (fun κ' Ψ hΨ => run_pC_markWritten R _ hΨ) h (fun _ D3 h => ?_)
    show Run Γ rg κ Y_X3_putIn 86 [(19, 0), (0, p1), (0, p2), (0, p3), (0, v1), (0, x1), (5, 0)] [] D3 Φ
    refine r_aload_n d_X3_putIn_86 rfl (by decide) ?_
    refine r_getR (t := 2) d_X3_putIn_87 fk_RX3_9 sh_11 rfl (by decide) (R 11 rfl) ?_
    refine r_iload d_X3_putIn_90 rfl ?_
    refine c_callVPi (a := 2) (z := 0) (as := [(0, x1)]) (rest := []) (ls' := [(10, 0), (0, x1)]) d_X3_putIn_92 ck_RX3_32 rfl sh_2 rfl (by decide) (R 2 rfl) rfl rfl (Nat.le_of_ble_eq_true rfl) (Nat.le_of_ble_eq_true rfl) (by decide) rfl rfl (fun Ψ hΨ => run_pI_itemCount R _ rfl hΨ) ?_
    show Run Γ rg κ Y_X3_putIn 95 [(19, 0), (0, p1), (0, p2), (0, p3), (0, v1), (0, x1), (5, 0)] [(0, (pI_itemCount x1 D3))] D3 Φ
    refine r_iconst d_X3_putIn_95 ?_
    refine c_icmp_ge (tgt := 119) d_X3_putIn_96 (by decide) (nz_w _) (nz_k rfl) h (fun h => ?_) (fun h => ?_)
    · skip
      show Run Γ rg κ Y_X3_putIn 119 [(19, 0), (0, p1), (0, p2), (0, p3), (0, v1), (0, x1), (5, 0)] [] D3 Φ
      refine r_aload_n d_X3_putIn_119 rfl (by decide) ?_
      refine r_iload_n d_X3_putIn_120 rfl ?_
      refine r_iload d_X3_putIn_121 rfl ?_
      refine r_iload_n d_X3_putIn_123 rfl ?_
      refine c_callVi (t' := (some .int)) (a := 11) (z := 0) (as := [(0, p1), (0, v1), (0, p3)]) (rest := []) (ls' := [(19, 0), (0, p1), (0, v1), (0, p3), (5, 0), (5, 0), (5, 0)]) d_X3_putIn_124 ck_RX3_77 rfl sh_11 rfl (by decide) (R 11 rfl) rfl rfl (Nat.le_of_ble_eq_true rfl) (Nat.le_of_ble_eq_true rfl) (by decide) rfl rfl (fun _ => rfl) (fun κ' Ψ hΨ => run_pL_insertLeafBehind R _ _ _ hΨ) h (fun v2 D4 h => ?_)
      show Run Γ rg κ Y_X3_putIn 127 [(19, 0), (0, p1), (0, p2), (0, p3), (0, v1), (0, x1), (5, 0)] [(0, v2)] D4 Φ
      refine r_istore d_X3_putIn_127 (by decide) rfl ?_
      show Run Γ rg κ Y_X3_putIn 129 [(19, 0), (0, p1), (0, p2), (0, p3), (0, v1), (0, x1), (0, v2)] [] D4 Φ
      refine r_aload_n d_X3_putIn_129 rfl (by decide) ?_
      refine r_iload d_X3_putIn_130 rfl ?_
      refine r_iload d_X3_putIn_132 rfl ?_
      refine r_iload_n d_X3_putIn_134 rfl ?_
      refine c_callVv (a := 11) (z := 0) (as := [(0, x1), (0, v2), (0, p2)]) (rest := []) (ls' := [(19, 0), (0, x1), (0, v2), (0, p2), (5, 0)]) d_X3_putIn_135 ck_RX3_81 rfl sh_11 rfl (by decide) (R 11 rfl) rfl rfl (Nat.le_of_ble_eq_true rfl) (Nat.le_of_ble_eq_true rfl) (by decide) rfl rfl (fun κ' Ψ hΨ => run_pL_splitLeaf R _ _ _ hΨ) h (fun _ D5 h => ?_)
      show Run Γ rg κ Y_X3_putIn 138 [(19, 0), (0, p1), (0, p2), (0, p3), (0, v1), (0, x1), (0, v2)] [] D5 Φ
      show Run Γ rg κ Y_X3_putIn 138 [(19, 0), (0, p1), (0, p2), (0, p3), (0, v1), (0, x1), (0, v2)] [] D5 Φ
      exact c_vret d_X3_putIn_138 rfl h
    · skip
      show Run Γ rg κ Y_X3_putIn 99 [(19, 0), (0, p1), (0, p2), (0, p3), (0, v1), (0, x1), (5, 0)] [] D3 Φ
      refine r_aload_n d_X3_putIn_99 rfl (by decide) ?_
      refine r_getR (t := 2) d_X3_putIn_100 fk_RX3_9 sh_11 rfl (by decide) (R 11 rfl) ?_
      refine r_iload d_X3_putIn_103 rfl ?_
      refine r_aload_n d_X3_putIn_105 rfl (by decide) ?_
      refine r_iload d_X3_putIn_106 rfl ?_
      refine r_iload_n d_X3_putIn_108 rfl ?_
      refine c_callVi (t' := (some .int)) (a := 11) (z := 0) (as := [(0, x1), (0, p2)]) (rest := [(0, x1), (10, 0)]) (ls' := [(19, 0), (0, x1), (0, p2), (5, 0), (5, 0), (5, 0)]) d_X3_putIn_109 ck_RX3_74 rfl sh_11 rfl (by decide) (R 11 rfl) rfl rfl (Nat.le_of_ble_eq_true rfl) (Nat.le_of_ble_eq_true rfl) (by decide) rfl rfl (fun _ => rfl) (fun κ' Ψ hΨ => run_pL_entriesAhead R _ _ hΨ) h (fun v3 D6 h => ?_)
      show Run Γ rg κ Y_X3_putIn 112 [(19, 0), (0, p1), (0, p2), (0, p3), (0, v1), (0, x1), (5, 0)] [(0, v3), (0, x1), (10, 0)] D6 Φ
      refine r_iload_n d_X3_putIn_112 rfl ?_
      refine c_callVv (a := 2) (z := 0) (as := [(0, x1), (0, v3), (0, p2)]) (rest := []) (ls' := [(10, 0), (0, x1), (0, v3), (0, p2), (5, 0), (5, 0)]) d_X3_putIn_113 ck_RX3_70 rfl sh_2 rfl (by decide) (R 2 rfl) rfl rfl (Nat.le_of_ble_eq_true rfl) (Nat.le_of_ble_eq_true rfl) (by decide) rfl rfl (fun κ' Ψ hΨ => run_pI_insertItem R _ _ _ hΨ) h (fun _ D7 h => ?_)
      show Run Γ rg κ Y_X3_putIn 116 [(19, 0), (0, p1), (0, p2), (0, p3), (0, v1), (0, x1), (5, 0)] [] D7 Φ
      refine r_goto (tgt := 138) d_X3_putIn_116 (by decide) ?_
      show Run Γ rg κ Y_X3_putIn 138 [(19, 0), (0, p1), (0, p2), (0, p3), (0, v1), (0, x1), (5, 0)] [] D7 Φ
      exact c_vret d_X3_putIn_138 rfl h
  · skip
    show Run Γ rg κ Y_X3_putIn 16 [(19, 0), (0, p1), (0, p2), (0, p3), (5, 0), (5, 0), (5, 0)] [] D1 Φ
    refine r_aload_n d_X3_putIn_16 rfl (by decide) ?_
    refine r_getR (t := 7) d_X3_putIn_17 fk_RX3_15 sh_11 rfl (by decide) (R 11 rfl) ?_
    refine r_iload_n d_X3_putIn_20 rfl ?_
    refine c_callVPi (a := 7) (z := 0) (as := [(0, p3)]) (rest := []) (ls' := [(15, 0), (0, p3)]) d_X3_putIn_21 ck_RX3_63 rfl sh_7 rfl (by decide) (R 7 rfl) rfl rfl (Nat.le_of_ble_eq_true rfl) (Nat.le_of_ble_eq_true rfl) (by decide) rfl rfl (fun Ψ hΨ => run_pC_got R _ rfl hΨ) ?_
    show Run Γ rg κ Y_X3_putIn 24 [(19, 0), (0, p1), (0, p2), (0, p3), (5, 0), (5, 0), (5, 0)] [(0, (pC_got p3 D1))] D1 Φ
    refine c_lt d_X3_putIn_24 (by decide) rfl h (fun x2 h => ?_)
    show Run Γ rg κ Y_X3_putIn 26 [(19, 0), (0, p1), (0, p2), (0, p3), (0, x2), (5, 0), (5, 0)] [] D1 Φ
    refine r_aload_n d_X3_putIn_26 rfl (by decide) ?_
    refine r_getR (t := 2) d_X3_putIn_27 fk_RX3_9 sh_11 rfl (by decide) (R 11 rfl) ?_
    refine r_iload d_X3_putIn_30 rfl ?_
    refine r_iconst d_X3_putIn_32 ?_
    refine c_callVD (a := 2) (z := 0) (as := [(0, x2), (0, 0)]) (rest := []) (ls' := [(10, 0), (0, x2), (0, 0)]) d_X3_putIn_33 ck_RX3_66 rfl sh_2 rfl (by decide) (R 2 rfl) rfl rfl (Nat.le_of_ble_eq_true rfl) (Nat.le_of_ble_eq_true rfl) (by decide) rfl rfl (fun Ψ hΨ => run_pI_putUnit R _ _ hΨ) h (fun D8 h => ?_)
    show Run Γ rg κ Y_X3_putIn 36 [(19, 0), (0, p1), (0, p2), (0, p3), (0, x2), (5, 0), (5, 0)] [] D8 Φ
    refine r_aload_n d_X3_putIn_36 rfl (by decide) ?_
    show Run Γ rg κ Y_X3_putIn 37 [(19, 0), (0, p1), (0, p2), (0, p3), (0, x2), (5, 0), (5, 0)] [(19, 0)] D8 Φ
    refine r_getR (t := 2) d_X3_putIn_37 fk_RX3_9 sh_11 rfl (by decide) (R 11 rfl) ?_
    refine r_iload d_X3_putIn_40 rfl ?_
    refine r_iconst d_X3_putIn_42 ?_
    refine r_iload_n d_X3_putIn_43 rfl ?_
    refine c_callVv (a := 2) (z := 0) (as := [(0, x2), (0, 0), (0, p2)]) (rest := []) (ls' := [(10, 0), (0, x2), (0, 0), (0, p2), (5, 0), (5, 0)]) d_X3_putIn_44 ck_RX3_70 rfl sh_2 rfl (by decide) (R 2 rfl) rfl rfl (Nat.le_of_ble_eq_true rfl) (Nat.le_of_ble_eq_true rfl) (by decide) rfl rfl (fun κ' Ψ hΨ => run_pI_insertItem R _ _ _ hΨ) h (fun _ D9 h => ?_)
    show Run Γ rg κ Y_X3_putIn 47 [(19, 0), (0, p1), (0, p2), (0, p3), (0, x2), (5, 0), (5, 0)] [] D9 Φ
    refine r_aload_n d_X3_putIn_47 rfl (by decide) ?_
    refine r_getR (t := 2) d_X3_putIn_48 fk_RX3_9 sh_11 rfl (by decide) (R 11 rfl) ?_
    refine r_iload_n d_X3_putIn_51 rfl ?_
    refine r_iconst d_X3_putIn_52 ?_
    refine r_iadd d_X3_putIn_53 ?_
    refine r_iload d_X3_putIn_54 rfl ?_
    refine c_callVD (a := 2) (z := 0) (as := [(0, (p1 + 2)), (0, x2)]) (rest := []) (ls' := [(10, 0), (0, (p1 + 2)), (0, x2)]) d_X3_putIn_56 ck_RX3_66 rfl sh_2 rfl (by decide) (R 2 rfl) rfl rfl (Nat.le_of_ble_eq_true rfl) (Nat.le_of_ble_eq_true rfl) (by decide) rfl rfl (fun Ψ hΨ => run_pI_putUnit R _ _ hΨ) h (fun D10 h => ?_)
    show Run Γ rg κ Y_X3_putIn 59 [(19, 0), (0, p1), (0, p2), (0, p3), (0, x2), (5, 0), (5, 0)] [] D10 Φ
    show Run Γ rg κ Y_X3_putIn 59 [(19, 0), (0, p1), (0, p2), (0, p3), (0, x2), (5, 0), (5, 0)] [] D10 Φ
    exact c_vret d_X3_putIn_59 rfl h
set_option maxRecDepth 20000 in
theorem run_pW_tell {Γ : GG} {rg : Nat → Bool} {κ : Nat} {Φ : OT → DD → Prop} (R : cov rg rg0) (p1 : Int) (p2 : Int) (p3 : Int) {D : DD} (h : WPD Φ (pW_tell p1 p2 p3 D)) : Run Γ rg κ Y_X6_tell 0 [(23, 0), (0, p1), (0, p2), (0, p3), (5, 0)] [] D Φ := by
  unfold pW_tell at h
  show Run Γ rg κ Y_X6_tell 0 [(23, 0), (0, p1), (0, p2), (0, p3), (5, 0)] [] D Φ
  refine r_aload_n d_X6_tell_0 rfl (by decide) ?_
  refine r_getR (t := 16) d_X6_tell_1 fk_RX6_9 sh_15 rfl (by decide) (R 15 rfl) ?_
  refine r_iload_n d_X6_tell_4 rfl ?_
  refine c_callNPi (as := [(24, 0), (0, p1)]) (rest := []) (ls' := [(24, 0), (0, p1)]) d_X6_tell_5 ck_RX6_24 rfl rfl rfl (Nat.le_of_ble_eq_true rfl) (Nat.le_of_ble_eq_true rfl) (by decide) rfl rfl (fun Ψ hΨ => run_pH_read sh_16 (by decide) (R 16 rfl) (by decide) _ rfl hΨ) ?_
  show Run Γ rg κ Y_X6_tell 8 [(23, 0), (0, p1), (0, p2), (0, p3), (5, 0)] [(0, (rd 80 16 p1 D))] D Φ
  refine r_iload_n d_X6_tell_8 rfl ?_
  refine c_iand d_X6_tell_9 ?_
  refine c_jn (fun J => ∀ (x1 : Int) (D1 : DD), WPD Φ (J x1 D1) → Run Γ rg κ Y_X6_tell 33 [(23, 0), (0, p1), (0, p2), (5, 0), (5, 0)] [(0, x1)] D1 Φ) h ?_ (fun J1 hJ1 h => ?_)
  · intro x1 D1 h
    show Run Γ rg κ Y_X6_tell 33 [(23, 0), (0, p1), (0, p2), (5, 0), (5, 0)] [(0, x1)] D1 Φ
    refine r_istore d_X6_tell_33 (by decide) rfl ?_
    show Run Γ rg κ Y_X6_tell 35 [(23, 0), (0, p1), (0, p2), (5, 0), (0, x1)] [] D1 Φ
    refine r_iload d_X6_tell_35 rfl ?_
    refine c_if_eq (tgt := 82) d_X6_tell_37 (by decide) (nz_w _) h (fun h => ?_) (fun h => ?_)
    · skip
      show Run Γ rg κ Y_X6_tell 82 [(23, 0), (0, p1), (0, p2), (5, 0), (0, x1)] [] D1 Φ
      exact d_vret d_X6_tell_82 rfl h
    · skip
      show Run Γ rg κ Y_X6_tell 40 [(23, 0), (0, p1), (0, p2), (5, 0), (0, x1)] [] D1 Φ
      refine r_aload_n d_X6_tell_40 rfl (by decide) ?_
      refine r_getR (t := 18) d_X6_tell_41 fk_RX6_18 sh_15 rfl (by decide) (R 15 rfl) ?_
      refine r_iload_n d_X6_tell_44 rfl ?_
      refine c_callNPi (as := [(26, 0), (0, p1)]) (rest := []) (ls' := [(26, 0), (0, p1)]) d_X6_tell_45 ck_RX6_24 rfl rfl rfl (Nat.le_of_ble_eq_true rfl) (Nat.le_of_ble_eq_true rfl) (by decide) rfl rfl (fun Ψ hΨ => run_pH_read sh_18 (by decide) (R 18 rfl) (by decide) _ rfl hΨ) ?_
      show Run Γ rg κ Y_X6_tell 48 [(23, 0), (0, p1), (0, p2), (5, 0), (0, x1)] [(0, (rd 80 18 p1 D1))] D1 Φ
      refine c_if_ne (tgt := 82) d_X6_tell_48 (by decide) (nz_w _) h (fun h => ?_) (fun h => ?_)
      · skip
        show Run Γ rg κ Y_X6_tell 82 [(23, 0), (0, p1), (0, p2), (5, 0), (0, x1)] [] D1 Φ
        exact d_vret d_X6_tell_82 rfl h
      · skip
        show Run Γ rg κ Y_X6_tell 51 [(23, 0), (0, p1), (0, p2), (5, 0), (0, x1)] [] D1 Φ
        refine r_aload_n d_X6_tell_51 rfl (by decide) ?_
        refine r_dup d_X6_tell_52 (by decide) ?_
        refine r_getI d_X6_tell_53 fk_RX6_40 sh_15 rfl (by decide) (by decide) (R 15 rfl) ?_
        refine r_iconst d_X6_tell_56 ?_
        refine r_iadd d_X6_tell_57 ?_
        refine c_putI (k := 4) d_X6_tell_58 pk_RX6_40 sh_15 rfl (by decide) (R 15 rfl) h (fun D2 h => ?_)
        refine r_aload_n d_X6_tell_61 rfl (by decide) ?_
        refine r_getR (t := 18) d_X6_tell_62 fk_RX6_18 sh_15 rfl (by decide) (R 15 rfl) ?_
        refine r_iload_n d_X6_tell_65 rfl ?_
        refine r_iload_n d_X6_tell_66 rfl ?_
        refine c_callND (as := [(26, 0), (0, p1), (0, p2)]) (rest := []) (ls' := [(26, 0), (0, p1), (0, p2)]) d_X6_tell_67 ck_RX6_28 rfl rfl rfl (Nat.le_of_ble_eq_true rfl) (Nat.le_of_ble_eq_true rfl) (by decide) rfl rfl (fun Ψ hΨ => run_pH_store sh_18 (by decide) (R 18 rfl) (by decide) _ _ hΨ) h (fun D3 h => ?_)
        show Run Γ rg κ Y_X6_tell 70 [(23, 0), (0, p1), (0, p2), (5, 0), (0, x1)] [] D3 Φ
        show Run Γ rg κ Y_X6_tell 70 [(23, 0), (0, p1), (0, p2), (5, 0), (0, x1)] [] D3 Φ
        refine r_aload_n d_X6_tell_70 rfl (by decide) ?_
        refine r_getR (t := 19) d_X6_tell_71 fk_RX6_21 sh_15 rfl (by decide) (R 15 rfl) ?_
        refine r_iload_n d_X6_tell_74 rfl ?_
        refine r_aload_n d_X6_tell_75 rfl (by decide) ?_
        refine r_getI d_X6_tell_76 fk_RX6_40 sh_15 rfl (by decide) (by decide) (R 15 rfl) ?_
        refine c_callND (as := [(27, 0), (0, p1), (0, (D3 15 4))]) (rest := []) (ls' := [(27, 0), (0, p1), (0, (D3 15 4))]) d_X6_tell_79 ck_RX6_28 rfl rfl rfl (Nat.le_of_ble_eq_true rfl) (Nat.le_of_ble_eq_true rfl) (by decide) rfl rfl (fun Ψ hΨ => run_pH_store sh_19 (by decide) (R 19 rfl) (by decide) _ _ hΨ) h (fun D4 h => ?_)
        show Run Γ rg κ Y_X6_tell 82 [(23, 0), (0, p1), (0, p2), (5, 0), (0, x1)] [] D4 Φ
        exact d_vret d_X6_tell_82 rfl h
  refine c_jn (fun J => ∀ (D5 : DD), WPD Φ (J D5) → Run Γ rg κ Y_X6_tell 32 [(23, 0), (0, p1), (0, p2), (5, 0), (5, 0)] [] D5 Φ) h ?_ (fun J2 hJ2 h => ?_)
  · intro D5 h
    show Run Γ rg κ Y_X6_tell 32 [(23, 0), (0, p1), (0, p2), (5, 0), (5, 0)] [] D5 Φ
    refine r_iconst d_X6_tell_32 ?_
    exact (hJ1 0 D5 h)
  refine c_if_eq (tgt := 32) d_X6_tell_10 (by decide) (nz_w _) h (fun h => ?_) (fun h => ?_)
  · skip
    exact Run.forget (ls' := [(23, 0), (0, p1), (0, p2), (5, 0), (5, 0)]) ⟨Or.inr rfl, Or.inr rfl, Or.inr rfl, Or.inl rfl, Or.inr rfl, trivial⟩ (hJ2 D h)
  · skip
    show Run Γ rg κ Y_X6_tell 13 [(23, 0), (0, p1), (0, p2), (0, p3), (5, 0)] [] D Φ
    refine r_aload_n d_X6_tell_13 rfl (by decide) ?_
    refine r_getR (t := 17) d_X6_tell_14 fk_RX6_15 sh_15 rfl (by decide) (R 15 rfl) ?_
    refine r_iload_n d_X6_tell_17 rfl ?_
    refine c_callNPi (as := [(25, 0), (0, p1)]) (rest := []) (ls' := [(25, 0), (0, p1)]) d_X6_tell_18 ck_RX6_24 rfl rfl rfl (Nat.le_of_ble_eq_true rfl) (Nat.le_of_ble_eq_true rfl) (by decide) rfl rfl (fun Ψ hΨ => run_pH_read sh_17 (by decide) (R 17 rfl) (by decide) _ rfl hΨ) ?_
    show Run Γ rg κ Y_X6_tell 21 [(23, 0), (0, p1), (0, p2), (0, p3), (5, 0)] [(0, (rd 80 17 p1 D))] D Φ
    refine c_jn (fun J => ∀ (D6 : DD), WPD Φ (J D6) → Run Γ rg κ Y_X6_tell 28 [(23, 0), (0, p1), (0, p2), (5, 0), (5, 0)] [] D6 Φ) h ?_ (fun J3 hJ3 h => ?_)
    · intro D6 h
      show Run Γ rg κ Y_X6_tell 28 [(23, 0), (0, p1), (0, p2), (5, 0), (5, 0)] [] D6 Φ
      refine r_iconst d_X6_tell_28 ?_
      refine r_goto (tgt := 33) d_X6_tell_29 (by decide) ?_
      exact (hJ1 1 D6 h)
    refine c_if_ne (tgt := 28) d_X6_tell_21 (by decide) (nz_w _) h (fun h => ?_) (fun h => ?_)
    · skip
      exact Run.forget (ls' := [(23, 0), (0, p1), (0, p2), (5, 0), (5, 0)]) ⟨Or.inr rfl, Or.inr rfl, Or.inr rfl, Or.inl rfl, Or.inr rfl, trivial⟩ (hJ3 D h)
    · skip
      show Run Γ rg κ Y_X6_tell 24 [(23, 0), (0, p1), (0, p2), (0, p3), (5, 0)] [] D Φ
      refine r_iload_n d_X6_tell_24 rfl ?_
      refine c_if_ne (tgt := 32) d_X6_tell_25 (by decide) (nz_w _) h (fun h => ?_) (fun h => ?_)
      · skip
        exact Run.forget (ls' := [(23, 0), (0, p1), (0, p2), (5, 0), (5, 0)]) ⟨Or.inr rfl, Or.inr rfl, Or.inr rfl, Or.inl rfl, Or.inr rfl, trivial⟩ (hJ2 D h)
      · skip
        exact Run.forget (ls' := [(23, 0), (0, p1), (0, p2), (5, 0), (5, 0)]) ⟨Or.inr rfl, Or.inr rfl, Or.inr rfl, Or.inl rfl, Or.inr rfl, trivial⟩ (hJ3 D h)
set_option maxRecDepth 20000 in
theorem run_pH_tellUpwards_31 {Γ : GG} {rg : Nat → Bool} {κ : Nat} {Φ : OT → DD → Prop} (R : cov rg rg0) (a2 : Int) : ∀ (n : Nat) (a3 : Int) (a4 : Int) (D : DD), WP none κ Φ (pH_tellUpwards_31 a2 n a3 a4 D) → Run Γ rg κ Y_X7_tellUpwards 31 [(8, 0), (5, 0), (0, a2), (0, a3), (0, a4)] [] D Φ := by
  intro n
  induction n with
  | zero => intro a3 a4 D h; exact h.no.elim
  | succ n ih =>
    intro a3 a4 D h
    rw [pH_tellUpwards_31] at h
    show Run Γ rg κ Y_X7_tellUpwards 31 [(8, 0), (5, 0), (0, a2), (0, a3), (0, a4)] [] D Φ
    refine r_iload d_X7_tellUpwards_31 rfl ?_
    refine r_bipush d_X7_tellUpwards_33 (by decide) ?_
    refine c_icmp_ge (tgt := 77) d_X7_tellUpwards_35 (by decide) (nz_w _) (nz_k rfl) h (fun h => ?_) (fun h => ?_)
    · skip
      show Run Γ rg κ Y_X7_tellUpwards 77 [(8, 0), (5, 0), (0, a2), (0, a3), (0, a4)] [] D Φ
      exact c_vret d_X7_tellUpwards_77 rfl h
    · skip
      show Run Γ rg κ Y_X7_tellUpwards 38 [(8, 0), (5, 0), (0, a2), (0, a3), (0, a4)] [] D Φ
      refine r_iload_n d_X7_tellUpwards_38 rfl ?_
      refine r_iconst d_X7_tellUpwards_39 ?_
      refine c_icmp_eq (tgt := 77) d_X7_tellUpwards_40 (by decide) (nz_w _) (nz_k rfl) h (fun h => ?_) (fun h => ?_)
      · skip
        show Run Γ rg κ Y_X7_tellUpwards 77 [(8, 0), (5, 0), (0, a2), (0, a3), (0, a4)] [] D Φ
        exact c_vret d_X7_tellUpwards_77 rfl h
      · skip
        show Run Γ rg κ Y_X7_tellUpwards 43 [(8, 0), (5, 0), (0, a2), (0, a3), (0, a4)] [] D Φ
        refine r_aload_n d_X7_tellUpwards_43 rfl (by decide) ?_
        refine r_getR (t := 15) d_X7_tellUpwards_44 fk_RX7_55 sh_0 rfl (by decide) (R 0 rfl) ?_
        refine r_iload_n d_X7_tellUpwards_47 rfl ?_
        refine r_iload_n d_X7_tellUpwards_48 rfl ?_
        refine r_iconst d_X7_tellUpwards_49 ?_
        refine c_callVD (a := 15) (z := 0) (as := [(0, a3), (0, a2), (0, 1)]) (rest := []) (ls' := [(23, 0), (0, a3), (0, a2), (0, 1), (5, 0)]) d_X7_tellUpwards_50 ck_RX7_378 rfl sh_15 rfl (by decide) (R 15 rfl) rfl rfl (Nat.le_of_ble_eq_true rfl) (Nat.le_of_ble_eq_true rfl) (by decide) rfl rfl (fun Ψ hΨ => run_pW_tell R _ _ _ hΨ) h (fun D1 h => ?_)
        show Run Γ rg κ Y_X7_tellUpwards 53 [(8, 0), (5, 0), (0, a2), (0, a3), (0, a4)] [] D1 Φ
        refine r_aload_n d_X7_tellUpwards_53 rfl (by decide) ?_
        refine r_getR (t := 2) d_X7_tellUpwards_54 fk_RX7_21 sh_0 rfl (by decide) (R 0 rfl) ?_
        refine r_aload_n d_X7_tellUpwards_57 rfl (by decide) ?_
        refine r_getR (t := 2) d_X7_tellUpwards_58 fk_RX7_21 sh_0 rfl (by decide) (R 0 rfl) ?_
        refine r_iload_n d_X7_tellUpwards_61 rfl ?_
        show Run Γ rg κ Y_X7_tellUpwards 62 [(8, 0), (5, 0), (0, a2), (0, a3), (0, a4)] [(0, a3), (10, 0), (10, 0)] D1 Φ
        refine c_callVPi (a := 2) (z := 0) (as := [(0, a3)]) (rest := [(10, 0)]) (ls' := [(10, 0), (0, a3)]) d_X7_tellUpwards_62 ck_RX7_108 rfl sh_2 rfl (by decide) (R 2 rfl) rfl rfl (Nat.le_of_ble_eq_true rfl) (Nat.le_of_ble_eq_true rfl) (by decide) rfl rfl (fun Ψ hΨ => run_pI_placeOfKey R _ rfl hΨ) ?_
        show Run Γ rg κ Y_X7_tellUpwards 65 [(8, 0), (5, 0), (0, a2), (0, a3), (0, a4)] [(0, (pI_placeOfKey a3 D1)), (10, 0)] D1 Φ
        refine r_iconst d_X7_tellUpwards_65 ?_
        refine r_iadd d_X7_tellUpwards_66 ?_
        refine c_callVPi (a := 2) (z := 0) (as := [(0, ((pI_placeOfKey a3 D1) + 1))]) (rest := []) (ls' := [(10, 0), (0, ((pI_placeOfKey a3 D1) + 1))]) d_X7_tellUpwards_67 ck_RX7_111 rfl sh_2 rfl (by decide) (R 2 rfl) rfl rfl (Nat.le_of_ble_eq_true rfl) (Nat.le_of_ble_eq_true rfl) (by decide) rfl rfl (fun Ψ hΨ => run_pI_unitAt R _ rfl hΨ) ?_
        show Run Γ rg κ Y_X7_tellUpwards 70 [(8, 0), (5, 0), (0, a2), (0, a3), (0, a4)] [(0, (pI_unitAt ((pI_placeOfKey a3 D1) + 1) D1))] D1 Φ
        refine c_lt_n d_X7_tellUpwards_70 (by decide) rfl h (fun x1 h => ?_)
        show Run Γ rg κ Y_X7_tellUpwards 71 [(8, 0), (5, 0), (0, a2), (0, x1), (0, a4)] [] D1 Φ
        refine r_iinc d_X7_tellUpwards_71 rfl (by decide) rfl ?_
        show Run Γ rg κ Y_X7_tellUpwards 74 [(8, 0), (5, 0), (0, a2), (0, x1), (0, (a4 + 1))] [] D1 Φ
        refine r_goto (tgt := 31) d_X7_tellUpwards_74 (by decide) ?_
        exact (ih x1 (a4 + 1) D1 h)
set_option maxRecDepth 20000 in
theorem run_pH_tellUpwards {Γ : GG} {rg : Nat → Bool} {κ : Nat} {Φ : OT → DD → Prop} (R : cov rg rg0) (p1 : Int) (p2 : Int) {D : DD} (h : WP none κ Φ (pH_tellUpwards p1 p2 D)) : Run Γ rg κ Y_X7_tellUpwards 0 [(8, 0), (0, p1), (0, p2), (5, 0), (5, 0)] [] D Φ := by
  unfold pH_tellUpwards at h
  show Run Γ rg κ Y_X7_tellUpwards 0 [(8, 0), (0, p1), (0, p2), (5, 0), (5, 0)] [] D Φ
  refine r_aload_n d_X7_tellUpwards_0 rfl (by decide) ?_
  refine r_getR (t := 15) d_X7_tellUpwards_1 fk_RX7_55 sh_0 rfl (by decide) (R 0 rfl) ?_
  refine r_iload_n d_X7_tellUpwards_4 rfl ?_
  refine r_iload_n d_X7_tellUpwards_5 rfl ?_
  refine r_iconst d_X7_tellUpwards_6 ?_
  refine c_callVD (a := 15) (z := 0) (as := [(0, p1), (0, p2), (0, 0)]) (rest := []) (ls' := [(23, 0), (0, p1), (0, p2), (0, 0), (5, 0)]) d_X7_tellUpwards_7 ck_RX7_378 rfl sh_15 rfl (by decide) (R 15 rfl) rfl rfl (Nat.le_of_ble_eq_true rfl) (Nat.le_of_ble_eq_true rfl) (by decide) rfl rfl (fun Ψ hΨ => run_pW_tell R _ _ _ hΨ) h (fun D1 h => ?_)
  show Run Γ rg κ Y_X7_tellUpwards 10 [(8, 0), (0, p1), (0, p2), (5, 0), (5, 0)] [] D1 Φ
  refine r_aload_n d_X7_tellUpwards_10 rfl (by decide) ?_
  refine r_getR (t := 2) d_X7_tellUpwards_11 fk_RX7_21 sh_0 rfl (by decide) (R 0 rfl) ?_
  refine r_aload_n d_X7_tellUpwards_14 rfl (by decide) ?_
  refine r_getR (t := 2) d_X7_tellUpwards_15 fk_RX7_21 sh_0 rfl (by decide) (R 0 rfl) ?_
  refine r_iload_n d_X7_tellUpwards_18 rfl ?_
  show Run Γ rg κ Y_X7_tellUpwards 19 [(8, 0), (0, p1), (0, p2), (5, 0), (5, 0)] [(0, p1), (10, 0), (10, 0)] D1 Φ
  refine c_callVPi (a := 2) (z := 0) (as := [(0, p1)]) (rest := [(10, 0)]) (ls' := [(10, 0), (0, p1)]) d_X7_tellUpwards_19 ck_RX7_108 rfl sh_2 rfl (by decide) (R 2 rfl) rfl rfl (Nat.le_of_ble_eq_true rfl) (Nat.le_of_ble_eq_true rfl) (by decide) rfl rfl (fun Ψ hΨ => run_pI_placeOfKey R _ rfl hΨ) ?_
  show Run Γ rg κ Y_X7_tellUpwards 22 [(8, 0), (0, p1), (0, p2), (5, 0), (5, 0)] [(0, (pI_placeOfKey p1 D1)), (10, 0)] D1 Φ
  refine r_iconst d_X7_tellUpwards_22 ?_
  refine r_iadd d_X7_tellUpwards_23 ?_
  refine c_callVPi (a := 2) (z := 0) (as := [(0, ((pI_placeOfKey p1 D1) + 1))]) (rest := []) (ls' := [(10, 0), (0, ((pI_placeOfKey p1 D1) + 1))]) d_X7_tellUpwards_24 ck_RX7_111 rfl sh_2 rfl (by decide) (R 2 rfl) rfl rfl (Nat.le_of_ble_eq_true rfl) (Nat.le_of_ble_eq_true rfl) (by decide) rfl rfl (fun Ψ hΨ => run_pI_unitAt R _ rfl hΨ) ?_
  show Run Γ rg κ Y_X7_tellUpwards 27 [(8, 0), (0, p1), (0, p2), (5, 0), (5, 0)] [(0, (pI_unitAt ((pI_placeOfKey p1 D1) + 1) D1))] D1 Φ
  refine c_lt_n d_X7_tellUpwards_27 (by decide) rfl h (fun x1 h => ?_)
  show Run Γ rg κ Y_X7_tellUpwards 28 [(8, 0), (0, p1), (0, p2), (0, x1), (5, 0)] [] D1 Φ
  refine r_iconst d_X7_tellUpwards_28 ?_
  refine r_istore d_X7_tellUpwards_29 (by decide) rfl ?_
  show Run Γ rg κ Y_X7_tellUpwards 31 [(8, 0), (0, p1), (0, p2), (0, x1), (0, 0)] [] D1 Φ
  refine Run.forget (ls' := [(8, 0), (5, 0), (0, p2), (0, x1), (0, 0)]) ⟨Or.inr rfl, Or.inl rfl, Or.inr rfl, Or.inr rfl, Or.inr rfl, trivial⟩ ?_
  exact run_pH_tellUpwards_31 R p2 fu x1 0 D1 h
set_option maxRecDepth 20000 in
theorem run_pH_makeSubkey {Γ : GG} {rg : Nat → Bool} {κ : Nat} {Φ : OT → DD → Prop} (R : cov rg rg0) (p1 : Int) (p2 : Int) (p3 : Int) {D : DD} (h : WP (some .int) κ Φ (pH_makeSubkey p1 p2 p3 D)) : Run Γ rg κ Y_X7_makeSubkey 0 [(8, 0), (0, p1), (0, p2), (0, p3), (5, 0), (5, 0), (5, 0), (5, 0), (5, 0)] [] D Φ := by
  unfold pH_makeSubkey at h
  show Run Γ rg κ Y_X7_makeSubkey 0 [(8, 0), (0, p1), (0, p2), (0, p3), (5, 0), (5, 0), (5, 0), (5, 0), (5, 0)] [] D Φ
  refine r_aload_n d_X7_makeSubkey_0 rfl (by decide) ?_
  refine r_getR (t := 2) d_X7_makeSubkey_1 fk_RX7_21 sh_0 rfl (by decide) (R 0 rfl) ?_
  refine r_iload_n d_X7_makeSubkey_4 rfl ?_
  refine c_callVPi (a := 2) (z := 0) (as := [(0, p1)]) (rest := []) (ls' := [(10, 0), (0, p1)]) d_X7_makeSubkey_5 ck_RX7_108 rfl sh_2 rfl (by decide) (R 2 rfl) rfl rfl (Nat.le_of_ble_eq_true rfl) (Nat.le_of_ble_eq_true rfl) (by decide) rfl rfl (fun Ψ hΨ => run_pI_placeOfKey R _ rfl hΨ) ?_
  show Run Γ rg κ Y_X7_makeSubkey 8 [(8, 0), (0, p1), (0, p2), (0, p3), (5, 0), (5, 0), (5, 0), (5, 0), (5, 0)] [(0, (pI_placeOfKey p1 D))] D Φ
  refine c_lt d_X7_makeSubkey_8 (by decide) rfl h (fun x1 h => ?_)
  show Run Γ rg κ Y_X7_makeSubkey 10 [(8, 0), (0, p1), (0, p2), (0, p3), (0, x1), (5, 0), (5, 0), (5, 0), (5, 0)] [] D Φ
  refine r_aload_n d_X7_makeSubkey_10 rfl (by decide) ?_
  refine r_getR (t := 2) d_X7_makeSubkey_11 fk_RX7_21 sh_0 rfl (by decide) (R 0 rfl) ?_
  refine r_getI d_X7_makeSubkey_14 fk_RX7_370 sh_2 rfl (by decide) (by decide) (R 2 rfl) ?_
  refine c_lt d_X7_makeSubkey_17 (by decide) rfl h (fun x2 h => ?_)
  show Run Γ rg κ Y_X7_makeSubkey 19 [(8, 0), (0, p1), (0, p2), (0, p3), (0, x1), (0, x2), (5, 0), (5, 0), (5, 0)] [] D Φ
  refine r_iload d_X7_makeSubkey_19 rfl ?_
  refine r_iload_n d_X7_makeSubkey_21 rfl ?_
  show Run Γ rg κ Y_X7_makeSubkey 22 [(8, 0), (0, p1), (0, p2), (0, p3), (0, x1), (0, x2), (5, 0), (5, 0), (5, 0)] [(0, p2), (0, x2)] D Φ
  refine c_callSPi (as := [(0, x2), (0, p2)]) (rest := []) (ls' := [(0, x2), (0, p2)]) d_X7_makeSubkey_22 ck_RX7_118 rfl rfl rfl (Nat.le_of_ble_eq_true rfl) (Nat.le_of_ble_eq_true rfl) (by decide) rfl rfl (fun Ψ hΨ => run_pL_entryOf R _ _ rfl hΨ) ?_
  show Run Γ rg κ Y_X7_makeSubkey 25 [(8, 0), (0, p1), (0, p2), (0, p3), (0, x1), (0, x2), (5, 0), (5, 0), (5, 0)] [(0, (pL_entryOf x2 p2))] D Φ
  refine c_lt d_X7_makeSubkey_25 (by decide) rfl h (fun x3 h => ?_)
  show Run Γ rg κ Y_X7_makeSubkey 27 [(8, 0), (0, p1), (0, p2), (0, p3), (0, x1), (0, x2), (0, x3), (5, 0), (5, 0)] [] D Φ
  refine r_aload_n d_X7_makeSubkey_27 rfl (by decide) ?_
  refine r_iload_n d_X7_makeSubkey_28 rfl ?_
  refine c_callVv (a := 0) (z := 0) (as := [(0, p1)]) (rest := []) (ls' := [(8, 0), (0, p1)]) d_X7_makeSubkey_29 ck_RX7_198 rfl sh_0 rfl (by decide) (R 0 rfl) rfl rfl (Nat.le_of_ble_eq_true rfl) (Nat.le_of_ble_eq_true rfl) (by decide) rfl rfl (fun κ' Ψ hΨ => run_pH_requireNoLink R _ hΨ) h (fun _ D1 h => ?_)
  show Run Γ rg κ Y_X7_makeSubkey 32 [(8, 0), (0, p1), (0, p2), (0, p3), (0, x1), (0, x2), (0, x3), (5, 0), (5, 0)] [] D1 Φ
  refine r_aload_n d_X7_makeSubkey_32 rfl (by decide) ?_
  refine r_iload d_X7_makeSubkey_33 rfl ?_
  refine r_iload_n d_X7_makeSubkey_35 rfl ?_
  refine c_callVv (a := 0) (z := 0) (as := [(0, x1), (0, p2)]) (rest := []) (ls' := [(8, 0), (0, x1), (0, p2)]) d_X7_makeSubkey_36 ck_RX7_114 rfl sh_0 rfl (by decide) (R 0 rfl) rfl rfl (Nat.le_of_ble_eq_true rfl) (Nat.le_of_ble_eq_true rfl) (by decide) rfl rfl (fun κ' Ψ hΨ => run_pH_requireNameFree R _ _ hΨ) h (fun _ D2 h => ?_)
  show Run Γ rg κ Y_X7_makeSubkey 39 [(8, 0), (0, p1), (0, p2), (0, p3), (0, x1), (0, x2), (0, x3), (5, 0), (5, 0)] [] D2 Φ
  refine r_iload d_X7_makeSubkey_39 rfl ?_
  refine r_bipush d_X7_makeSubkey_41 (by decide) ?_
  refine c_icmp_lt (tgt := 57) d_X7_makeSubkey_43 (by decide) (nz_w _) (nz_k rfl) h (fun h => ?_) (fun h => ?_)
  · skip
    show Run Γ rg κ Y_X7_makeSubkey 57 [(8, 0), (0, p1), (0, p2), (0, p3), (0, x1), (0, x2), (0, x3), (5, 0), (5, 0)] [] D2 Φ
    refine r_aload_n d_X7_makeSubkey_57 rfl (by decide) ?_
    refine r_getR (t := 7) d_X7_makeSubkey_58 fk_RX7_25 sh_0 rfl (by decide) (R 0 rfl) ?_
    refine c_callVD (a := 7) (z := 0) (as := []) (rest := []) (ls' := [(15, 0)]) d_X7_makeSubkey_61 ck_RX7_66 rfl sh_7 rfl (by decide) (R 7 rfl) rfl rfl (Nat.le_of_ble_eq_true rfl) (Nat.le_of_ble_eq_true rfl) (by decide) rfl rfl (fun Ψ hΨ => run_pC_wantNothing R hΨ) h (fun D3 h => ?_)
    show Run Γ rg κ Y_X7_makeSubkey 64 [(8, 0), (0, p1), (0, p2), (0, p3), (0, x1), (0, x2), (0, x3), (5, 0), (5, 0)] [] D3 Φ
    refine r_aload_n d_X7_makeSubkey_64 rfl (by decide) ?_
    refine r_getR (t := 7) d_X7_makeSubkey_65 fk_RX7_25 sh_0 rfl (by decide) (R 0 rfl) ?_
    refine r_bipush d_X7_makeSubkey_68 (by decide) ?_
    refine c_callVD (a := 7) (z := 0) (as := [(0, 6)]) (rest := []) (ls' := [(15, 0), (0, 6)]) d_X7_makeSubkey_70 ck_RX7_69 rfl sh_7 rfl (by decide) (R 7 rfl) rfl rfl (Nat.le_of_ble_eq_true rfl) (Nat.le_of_ble_eq_true rfl) (by decide) rfl rfl (fun Ψ hΨ => run_pC_want R _ hΨ) h (fun D4 h => ?_)
    show Run Γ rg κ Y_X7_makeSubkey 73 [(8, 0), (0, p1), (0, p2), (0, p3), (0, x1), (0, x2), (0, x3), (5, 0), (5, 0)] [] D4 Φ
    refine r_aload_n d_X7_makeSubkey_73 rfl (by decide) ?_
    refine r_getR (t := 11) d_X7_makeSubkey_74 fk_RX7_34 sh_0 rfl (by decide) (R 0 rfl) ?_
    refine r_iload d_X7_makeSubkey_77 rfl ?_
    refine r_iload d_X7_makeSubkey_79 rfl ?_
    show Run Γ rg κ Y_X7_makeSubkey 81 [(8, 0), (0, p1), (0, p2), (0, p3), (0, x1), (0, x2), (0, x3), (5, 0), (5, 0)] [(0, x3), (0, x1), (19, 0)] D4 Φ
    refine c_callVi (t' := (some .boolean)) (a := 11) (z := 0) (as := [(0, x1), (0, x3)]) (rest := []) (ls' := [(19, 0), (0, x1), (0, x3), (5, 0), (5, 0)]) d_X7_makeSubkey_81 ck_RX7_122 rfl sh_11 rfl (by decide) (R 11 rfl) rfl rfl (Nat.le_of_ble_eq_true rfl) (Nat.le_of_ble_eq_true rfl) (by decide) rfl rfl (fun _ => rfl) (fun κ' Ψ hΨ => run_pL_wantFor R _ _ hΨ) h (fun v1 D5 h => ?_)
    show Run Γ rg κ Y_X7_makeSubkey 84 [(8, 0), (0, p1), (0, p2), (0, p3), (0, x1), (0, x2), (0, x3), (5, 0), (5, 0)] [(0, v1)] D5 Φ
    refine c_callSv (as := [(0, v1)]) (rest := []) (ls' := [(0, v1)]) d_X7_makeSubkey_84 ck_RX7_126 rfl rfl rfl (Nat.le_of_ble_eq_true rfl) (Nat.le_of_ble_eq_true rfl) (by decide) rfl rfl (fun κ' Ψ hΨ => run_pH_requireListNotFull R _ hΨ) h (fun _ D6 h => ?_)
    show Run Γ rg κ Y_X7_makeSubkey 87 [(8, 0), (0, p1), (0, p2), (0, p3), (0, x1), (0, x2), (0, x3), (5, 0), (5, 0)] [] D6 Φ
    refine r_aload_n d_X7_makeSubkey_87 rfl (by decide) ?_
    refine r_getR (t := 7) d_X7_makeSubkey_88 fk_RX7_25 sh_0 rfl (by decide) (R 0 rfl) ?_
    refine c_callVi (t' := (some .boolean)) (a := 7) (z := 0) (as := []) (rest := []) (ls' := [(15, 0), (5, 0), (5, 0), (5, 0)]) d_X7_makeSubkey_91 ck_RX7_73 rfl sh_7 rfl (by decide) (R 7 rfl) rfl rfl (Nat.le_of_ble_eq_true rfl) (Nat.le_of_ble_eq_true rfl) (by decide) rfl rfl (fun _ => rfl) (fun κ' Ψ hΨ => run_pC_getAllWanted R hΨ) h (fun v2 D7 h => ?_)
    show Run Γ rg κ Y_X7_makeSubkey 94 [(8, 0), (0, p1), (0, p2), (0, p3), (0, x1), (0, x2), (0, x3), (5, 0), (5, 0)] [(0, v2)] D7 Φ
    refine c_callSv (as := [(0, v2)]) (rest := []) (ls' := [(0, v2)]) d_X7_makeSubkey_94 ck_RX7_130 rfl rfl rfl (Nat.le_of_ble_eq_true rfl) (Nat.le_of_ble_eq_true rfl) (by decide) rfl rfl (fun κ' Ψ hΨ => run_pH_requireRoom R _ hΨ) h (fun _ D8 h => ?_)
    show Run Γ rg κ Y_X7_makeSubkey 97 [(8, 0), (0, p1), (0, p2), (0, p3), (0, x1), (0, x2), (0, x3), (5, 0), (5, 0)] [] D8 Φ
    refine r_aload_n d_X7_makeSubkey_97 rfl (by decide) ?_
    refine r_getR (t := 7) d_X7_makeSubkey_98 fk_RX7_25 sh_0 rfl (by decide) (R 0 rfl) ?_
    refine r_iconst d_X7_makeSubkey_101 ?_
    refine c_callVPi (a := 7) (z := 0) (as := [(0, 0)]) (rest := []) (ls' := [(15, 0), (0, 0)]) d_X7_makeSubkey_102 ck_RX7_77 rfl sh_7 rfl (by decide) (R 7 rfl) rfl rfl (Nat.le_of_ble_eq_true rfl) (Nat.le_of_ble_eq_true rfl) (by decide) rfl rfl (fun Ψ hΨ => run_pC_got R _ rfl hΨ) ?_
    show Run Γ rg κ Y_X7_makeSubkey 105 [(8, 0), (0, p1), (0, p2), (0, p3), (0, x1), (0, x2), (0, x3), (5, 0), (5, 0)] [(0, (pC_got 0 D8))] D8 Φ
    refine c_lt d_X7_makeSubkey_105 (by decide) rfl h (fun x4 h => ?_)
    show Run Γ rg κ Y_X7_makeSubkey 107 [(8, 0), (0, p1), (0, p2), (0, p3), (0, x1), (0, x2), (0, x3), (0, x4), (5, 0)] [] D8 Φ
    refine r_aload_n d_X7_makeSubkey_107 rfl (by decide) ?_
    show Run Γ rg κ Y_X7_makeSubkey 108 [(8, 0), (0, p1), (0, p2), (0, p3), (0, x1), (0, x2), (0, x3), (0, x4), (5, 0)] [(8, 0)] D8 Φ
    refine r_getR (t := 2) d_X7_makeSubkey_108 fk_RX7_21 sh_0 rfl (by decide) (R 0 rfl) ?_
    refine r_iload d_X7_makeSubkey_111 rfl ?_
    refine r_iconst d_X7_makeSubkey_113 ?_
    refine r_iadd d_X7_makeSubkey_114 ?_
    refine c_callVPi (a := 2) (z := 0) (as := [(0, (x1 + 4))]) (rest := []) (ls' := [(10, 0), (0, (x1 + 4))]) d_X7_makeSubkey_115 ck_RX7_111 rfl sh_2 rfl (by decide) (R 2 rfl) rfl rfl (Nat.le_of_ble_eq_true rfl) (Nat.le_of_ble_eq_true rfl) (by decide) rfl rfl (fun Ψ hΨ => run_pI_unitAt R _ rfl hΨ) ?_
    show Run Γ rg κ Y_X7_makeSubkey 118 [(8, 0), (0, p1), (0, p2), (0, p3), (0, x1), (0, x2), (0, x3), (0, x4), (5, 0)] [(0, (pI_unitAt (x1 + 4) D8))] D8 Φ
    refine c_lt d_X7_makeSubkey_118 (by decide) rfl h (fun x5 h => ?_)
    show Run Γ rg κ Y_X7_makeSubkey 120 [(8, 0), (0, p1), (0, p2), (0, p3), (0, x1), (0, x2), (0, x3), (0, x4), (0, x5)] [] D8 Φ
    refine r_aload_n d_X7_makeSubkey_120 rfl (by decide) ?_
    refine r_iload d_X7_makeSubkey_121 rfl ?_
    refine r_iload_n d_X7_makeSubkey_123 rfl ?_
    refine r_iload_n d_X7_makeSubkey_124 rfl ?_
    refine r_iload_n d_X7_makeSubkey_125 rfl ?_
    refine c_callVD (a := 0) (z := 0) (as := [(0, x4), (0, p2), (0, p1), (0, p3)]) (rest := []) (ls' := [(8, 0), (0, x4), (0, p2), (0, p1), (0, p3)]) d_X7_makeSubkey_126 ck_RX7_81 rfl sh_0 rfl (by decide) (R 0 rfl) rfl rfl (Nat.le_of_ble_eq_true rfl) (Nat.le_of_ble_eq_true rfl) (by decide) rfl rfl (fun Ψ hΨ => run_pH_enterKey R _ _ _ _ hΨ) h (fun D9 h => ?_)
    show Run Γ rg κ Y_X7_makeSubkey 129 [(8, 0), (0, p1), (0, p2), (0, p3), (0, x1), (0, x2), (0, x3), (0, x4), (0, x5)] [] D9 Φ
    show Run Γ rg κ Y_X7_makeSubkey 129 [(8, 0), (0, p1), (0, p2), (0, p3), (0, x1), (0, x2), (0, x3), (0, x4), (0, x5)] [] D9 Φ
    refine r_aload_n d_X7_makeSubkey_129 rfl (by decide) ?_
    refine r_getR (t := 2) d_X7_makeSubkey_130 fk_RX7_21 sh_0 rfl (by decide) (R 0 rfl) ?_
    refine r_iload d_X7_makeSubkey_133 rfl ?_
    refine r_iconst d_X7_makeSubkey_135 ?_
    refine r_iadd d_X7_makeSubkey_136 ?_
    refine r_iload d_X7_makeSubkey_137 rfl ?_
    refine c_callVD (a := 2) (z := 0) (as := [(0, (x4 + 4)), (0, x5)]) (rest := []) (ls' := [(10, 0), (0, (x4 + 4)), (0, x5)]) d_X7_makeSubkey_139 ck_RX7_140 rfl sh_2 rfl (by decide) (R 2 rfl) rfl rfl (Nat.le_of_ble_eq_true rfl) (Nat.le_of_ble_eq_true rfl) (by decide) rfl rfl (fun Ψ hΨ => run_pI_putUnit R _ _ hΨ) h (fun D10 h => ?_)
    show Run Γ rg κ Y_X7_makeSubkey 142 [(8, 0), (0, p1), (0, p2), (0, p3), (0, x1), (0, x2), (0, x3), (0, x4), (0, x5)] [] D10 Φ
    refine r_aload_n d_X7_makeSubkey_142 rfl (by decide) ?_
    refine r_getR (t := 13) d_X7_makeSubkey_143 fk_RX7_48 sh_0 rfl (by decide) (R 0 rfl) ?_
    refine r_iload d_X7_makeSubkey_146 rfl ?_
    refine r_iconst d_X7_makeSubkey_148 ?_
    refine c_callVv (a := 13) (z := 0) (as := [(0, x5), (0, 1)]) (rest := []) (ls' := [(21, 0), (0, x5), (0, 1), (5, 0)]) d_X7_makeSubkey_149 ck_RX7_375 rfl sh_13 rfl (by decide) (R 13 rfl) rfl rfl (Nat.le_of_ble_eq_true rfl) (Nat.le_of_ble_eq_true rfl) (by decide) rfl rfl (fun κ' Ψ hΨ => run_pS_changeCount R _ _ hΨ) h (fun _ D11 h => ?_)
    show Run Γ rg κ Y_X7_makeSubkey 152 [(8, 0), (0, p1), (0, p2), (0, p3), (0, x1), (0, x2), (0, x3), (0, x4), (0, x5)] [] D11 Φ
    show Run Γ rg κ Y_X7_makeSubkey 152 [(8, 0), (0, p1), (0, p2), (0, p3), (0, x1), (0, x2), (0, x3), (0, x4), (0, x5)] [] D11 Φ
    refine r_aload_n d_X7_makeSubkey_152 rfl (by decide) ?_
    refine r_getR (t := 11) d_X7_makeSubkey_153 fk_RX7_34 sh_0 rfl (by decide) (R 0 rfl) ?_
    refine r_iload d_X7_makeSubkey_156 rfl ?_
    refine r_iload d_X7_makeSubkey_158 rfl ?_
    refine r_iconst d_X7_makeSubkey_160 ?_
    refine c_callVv (a := 11) (z := 0) (as := [(0, x1), (0, x3), (0, 1)]) (rest := []) (ls' := [(19, 0), (0, x1), (0, x3), (0, 1), (5, 0), (5, 0), (5, 0)]) d_X7_makeSubkey_161 ck_RX7_133 rfl sh_11 rfl (by decide) (R 11 rfl) rfl rfl (Nat.le_of_ble_eq_true rfl) (Nat.le_of_ble_eq_true rfl) (by decide) rfl rfl (fun κ' Ψ hΨ => run_pL_putIn R _ _ _ hΨ) h (fun _ D12 h => ?_)
    show Run Γ rg κ Y_X7_makeSubkey 164 [(8, 0), (0, p1), (0, p2), (0, p3), (0, x1), (0, x2), (0, x3), (0, x4), (0, x5)] [] D12 Φ
    refine r_aload_n d_X7_makeSubkey_164 rfl (by decide) ?_
    refine r_iload_n d_X7_makeSubkey_165 rfl ?_
    refine r_iconst d_X7_makeSubkey_166 ?_
    refine c_callVv (a := 0) (z := 0) (as := [(0, p1), (0, 1)]) (rest := []) (ls' := [(8, 0), (0, p1), (0, 1), (5, 0), (5, 0)]) d_X7_makeSubkey_167 ck_RX7_146 rfl sh_0 rfl (by decide) (R 0 rfl) rfl rfl (Nat.le_of_ble_eq_true rfl) (Nat.le_of_ble_eq_true rfl) (by decide) rfl rfl (fun κ' Ψ hΨ => run_pH_tellUpwards R _ _ hΨ) h (fun _ D13 h => ?_)
    show Run Γ rg κ Y_X7_makeSubkey 170 [(8, 0), (0, p1), (0, p2), (0, p3), (0, x1), (0, x2), (0, x3), (0, x4), (0, x5)] [] D13 Φ
    refine r_iload d_X7_makeSubkey_170 rfl ?_
    exact c_iret d_X7_makeSubkey_172 rfl h
  · skip
    show Run Γ rg κ Y_X7_makeSubkey 46 [(8, 0), (0, p1), (0, p2), (0, p3), (0, x1), (0, x2), (0, x3), (5, 0), (5, 0)] [] D2 Φ
    exact c_throwW (text := "all keys were made") tk_RX7_204_208 (by decide +kernel) d_X7_makeSubkey_46 d_X7_makeSubkey_49 d_X7_makeSubkey_50 d_X7_makeSubkey_53 d_X7_makeSubkey_56 rfl (by decide) (Nat.le_of_ble_eq_true rfl) h
set_option maxRecDepth 20000 in
theorem run_pH_make {Γ : GG} {rg : Nat → Bool} {κ : Nat} {Φ : OT → DD → Prop} (R : cov rg rg0) (p1 : Int) (p2 : Int) {D : DD} (h : WP (some .int) κ Φ (pH_make p1 p2 D)) : Run Γ rg κ Y_X7_make 0 [(8, 0), (0, p1), (0, p2)] [] D Φ := by
  unfold pH_make at h
  show Run Γ rg κ Y_X7_make 0 [(8, 0), (0, p1), (0, p2)] [] D Φ
  refine r_aload_n d_X7_make_0 rfl (by decide) ?_
  refine r_iload_n d_X7_make_1 rfl ?_
  refine c_callVv (a := 0) (z := 0) (as := [(0, p1)]) (rest := []) (ls' := [(8, 0), (0, p1)]) d_X7_make_2 ck_RX7_95 rfl sh_0 rfl (by decide) (R 0 rfl) rfl rfl (Nat.le_of_ble_eq_true rfl) (Nat.le_of_ble_eq_true rfl) (by decide) rfl rfl (fun κ' Ψ hΨ => run_pH_requireKey R _ hΨ) h (fun _ D1 h => ?_)
  show Run Γ rg κ Y_X7_make 5 [(8, 0), (0, p1), (0, p2)] [] D1 Φ
  refine r_iload_n d_X7_make_5 rfl ?_
  refine c_callSv (as := [(0, p2)]) (rest := []) (ls' := [(0, p2)]) d_X7_make_6 ck_RX7_98 rfl rfl rfl (Nat.le_of_ble_eq_true rfl) (Nat.le_of_ble_eq_true rfl) (by decide) rfl rfl (fun κ' Ψ hΨ => run_pH_requireName R _ hΨ) h (fun _ D2 h => ?_)
  show Run Γ rg κ Y_X7_make 9 [(8, 0), (0, p1), (0, p2)] [] D2 Φ
  refine r_aload_n d_X7_make_9 rfl (by decide) ?_
  refine r_iload_n d_X7_make_10 rfl ?_
  refine r_iload_n d_X7_make_11 rfl ?_
  refine r_iconst d_X7_make_12 ?_
  refine c_callVi (t' := (some .int)) (a := 0) (z := 0) (as := [(0, p1), (0, p2), (0, (-1))]) (rest := []) (ls' := [(8, 0), (0, p1), (0, p2), (0, (-1)), (5, 0), (5, 0), (5, 0), (5, 0), (5, 0)]) d_X7_make_13 ck_RX7_101 rfl sh_0 rfl (by decide) (R 0 rfl) rfl rfl (Nat.le_of_ble_eq_true rfl) (Nat.le_of_ble_eq_true rfl) (by decide) rfl rfl (fun _ => rfl) (fun κ' Ψ hΨ => run_pH_makeSubkey R _ _ _ hΨ) h (fun v1 D3 h => ?_)
  show Run Γ rg κ Y_X7_make 16 [(8, 0), (0, p1), (0, p2)] [(0, v1)] D3 Φ
  exact c_iret d_X7_make_16 rfl h
set_option maxRecDepth 20000 in
theorem run_pH_makeLink {Γ : GG} {rg : Nat → Bool} {κ : Nat} {Φ : OT → DD → Prop} (R : cov rg rg0) (p1 : Int) (p2 : Int) (p3 : Int) {D : DD} (h : WP (some .int) κ Φ (pH_makeLink p1 p2 p3 D)) : Run Γ rg κ Y_X7_makeLink 0 [(8, 0), (0, p1), (0, p2), (0, p3)] [] D Φ := by
  unfold pH_makeLink at h
  show Run Γ rg κ Y_X7_makeLink 0 [(8, 0), (0, p1), (0, p2), (0, p3)] [] D Φ
  refine r_aload_n d_X7_makeLink_0 rfl (by decide) ?_
  refine r_iload_n d_X7_makeLink_1 rfl ?_
  refine c_callVv (a := 0) (z := 0) (as := [(0, p1)]) (rest := []) (ls' := [(8, 0), (0, p1)]) d_X7_makeLink_2 ck_RX7_95 rfl sh_0 rfl (by decide) (R 0 rfl) rfl rfl (Nat.le_of_ble_eq_true rfl) (Nat.le_of_ble_eq_true rfl) (by decide) rfl rfl (fun κ' Ψ hΨ => run_pH_requireKey R _ hΨ) h (fun _ D1 h => ?_)
  show Run Γ rg κ Y_X7_makeLink 5 [(8, 0), (0, p1), (0, p2), (0, p3)] [] D1 Φ
  refine r_aload_n d_X7_makeLink_5 rfl (by decide) ?_
  refine r_iload_n d_X7_makeLink_6 rfl ?_
  refine c_callVv (a := 0) (z := 0) (as := [(0, p3)]) (rest := []) (ls' := [(8, 0), (0, p3)]) d_X7_makeLink_7 ck_RX7_95 rfl sh_0 rfl (by decide) (R 0 rfl) rfl rfl (Nat.le_of_ble_eq_true rfl) (Nat.le_of_ble_eq_true rfl) (by decide) rfl rfl (fun κ' Ψ hΨ => run_pH_requireKey R _ hΨ) h (fun _ D2 h => ?_)
  show Run Γ rg κ Y_X7_makeLink 10 [(8, 0), (0, p1), (0, p2), (0, p3)] [] D2 Φ
  refine r_iload_n d_X7_makeLink_10 rfl ?_
  refine c_callSv (as := [(0, p2)]) (rest := []) (ls' := [(0, p2)]) d_X7_makeLink_11 ck_RX7_98 rfl rfl rfl (Nat.le_of_ble_eq_true rfl) (Nat.le_of_ble_eq_true rfl) (by decide) rfl rfl (fun κ' Ψ hΨ => run_pH_requireName R _ hΨ) h (fun _ D3 h => ?_)
  show Run Γ rg κ Y_X7_makeLink 14 [(8, 0), (0, p1), (0, p2), (0, p3)] [] D3 Φ
  refine r_aload_n d_X7_makeLink_14 rfl (by decide) ?_
  refine r_iload_n d_X7_makeLink_15 rfl ?_
  refine r_iload_n d_X7_makeLink_16 rfl ?_
  show Run Γ rg κ Y_X7_makeLink 17 [(8, 0), (0, p1), (0, p2), (0, p3)] [(0, p2), (0, p1), (8, 0)] D3 Φ
  refine r_iload_n d_X7_makeLink_17 rfl ?_
  refine c_callVi (t' := (some .int)) (a := 0) (z := 0) (as := [(0, p1), (0, p2), (0, p3)]) (rest := []) (ls' := [(8, 0), (0, p1), (0, p2), (0, p3), (5, 0), (5, 0), (5, 0), (5, 0), (5, 0)]) d_X7_makeLink_18 ck_RX7_101 rfl sh_0 rfl (by decide) (R 0 rfl) rfl rfl (Nat.le_of_ble_eq_true rfl) (Nat.le_of_ble_eq_true rfl) (by decide) rfl rfl (fun _ => rfl) (fun κ' Ψ hΨ => run_pH_makeSubkey R _ _ _ hΨ) h (fun v1 D4 h => ?_)
  show Run Γ rg κ Y_X7_makeLink 21 [(8, 0), (0, p1), (0, p2), (0, p3)] [(0, v1)] D4 Φ
  exact c_iret d_X7_makeLink_21 rfl h
set_option maxRecDepth 20000 in
theorem run_pH_requireNotRoot {Γ : GG} {rg : Nat → Bool} {κ : Nat} {Φ : OT → DD → Prop} (R : cov rg rg0) (p1 : Int) {D : DD} (h : WP none κ Φ (pH_requireNotRoot p1 D)) : Run Γ rg κ Y_X7_requireNotRoot 0 [(0, p1)] [] D Φ := by
  unfold pH_requireNotRoot at h
  show Run Γ rg κ Y_X7_requireNotRoot 0 [(0, p1)] [] D Φ
  refine r_iload_n d_X7_requireNotRoot_0 rfl ?_
  refine c_if_ne (tgt := 15) d_X7_requireNotRoot_1 (by decide) (nz_w _) h (fun h => ?_) (fun h => ?_)
  · skip
    show Run Γ rg κ Y_X7_requireNotRoot 15 [(0, p1)] [] D Φ
    exact c_vret d_X7_requireNotRoot_15 rfl h
  · skip
    show Run Γ rg κ Y_X7_requireNotRoot 4 [(0, p1)] [] D Φ
    exact c_throwW (text := "the root stays as it is") tk_RX7_204_208 (by decide +kernel) d_X7_requireNotRoot_4 d_X7_requireNotRoot_7 d_X7_requireNotRoot_8 d_X7_requireNotRoot_11 d_X7_requireNotRoot_14 rfl (by decide) (Nat.le_of_ble_eq_true rfl) h
set_option maxRecDepth 20000 in
theorem run_pI_removeItem_11 {Γ : GG} {rg : Nat → Bool} {κ : Nat} {Φ : OT → DD → Prop} (R : cov rg rg0) (a1 : Int) (a3 : Int) {K : DD → Res} (hK : ∀ (D : DD), WP none κ Φ (K D) → Run Γ rg κ Y_X2_removeItem 45 [(10, 0), (0, a1), (5, 0), (0, a3), (5, 0)] [] D Φ) : ∀ (n : Nat) (a4 : Int) (D : DD), WP none κ Φ (pI_removeItem_11 a1 a3 n a4 D K) → Run Γ rg κ Y_X2_removeItem 11 [(10, 0), (0, a1), (5, 0), (0, a3), (0, a4)] [] D Φ := by
  intro n
  induction n with
  | zero => intro a4 D h; exact h.no.elim
  | succ n ih =>
    intro a4 D h
    rw [pI_removeItem_11] at h
    show Run Γ rg κ Y_X2_removeItem 11 [(10, 0), (0, a1), (5, 0), (0, a3), (0, a4)] [] D Φ
    refine r_iload d_X2_removeItem_11 rfl ?_
    refine r_iload_n d_X2_removeItem_13 rfl ?_
    refine c_icmp_ge (tgt := 45) d_X2_removeItem_14 (by decide) (nz_w _) (nz_w _) h (fun h => ?_) (fun h => ?_)
    · skip
      exact Run.forget (ls' := [(10, 0), (0, a1), (5, 0), (0, a3), (5, 0)]) ⟨Or.inr rfl, Or.inr rfl, Or.inr rfl, Or.inr rfl, Or.inl rfl, trivial⟩ (hK D h)
    · skip
      show Run Γ rg κ Y_X2_removeItem 17 [(10, 0), (0, a1), (5, 0), (0, a3), (0, a4)] [] D Φ
      refine r_aload_n d_X2_removeItem_17 rfl (by decide) ?_
      refine r_getR (t := 4) d_X2_removeItem_18 fk_RX2_15 sh_2 rfl (by decide) (R 2 rfl) ?_
      refine r_iload_n d_X2_removeItem_21 rfl ?_
      refine r_iconst d_X2_removeItem_22 ?_
      refine r_iadd d_X2_removeItem_23 ?_
      refine r_iload d_X2_removeItem_24 rfl ?_
      refine r_iadd d_X2_removeItem_26 ?_
      refine r_aload_n d_X2_removeItem_27 rfl (by decide) ?_
      refine r_iload_n d_X2_removeItem_28 rfl ?_
      refine r_iload d_X2_removeItem_29 rfl ?_
      refine r_iconst d_X2_removeItem_31 ?_
      show Run Γ rg κ Y_X2_removeItem 32 [(10, 0), (0, a1), (5, 0), (0, a3), (0, a4)] [(0, 1), (0, a4), (0, a1), (10, 0), (0, ((a1 + 1) + a4)), (12, 0)] D Φ
      refine r_iadd d_X2_removeItem_32 ?_
      refine c_callVPi (a := 2) (z := 0) (as := [(0, a1), (0, (a4 + 1))]) (rest := [(0, ((a1 + 1) + a4)), (12, 0)]) (ls' := [(10, 0), (0, a1), (0, (a4 + 1))]) d_X2_removeItem_33 ck_RX2_49 rfl sh_2 rfl (by decide) (R 2 rfl) rfl rfl (Nat.le_of_ble_eq_true rfl) (Nat.le_of_ble_eq_true rfl) (by decide) rfl rfl (fun Ψ hΨ => run_pI_item R _ _ rfl hΨ) ?_
      show Run Γ rg κ Y_X2_removeItem 36 [(10, 0), (0, a1), (5, 0), (0, a3), (0, a4)] [(0, (pI_item a1 (a4 + 1) D)), (0, ((a1 + 1) + a4)), (12, 0)] D Φ
      refine c_callND (as := [(12, 0), (0, ((a1 + 1) + a4)), (0, (pI_item a1 (a4 + 1) D))]) (rest := []) (ls' := [(12, 0), (0, ((a1 + 1) + a4)), (0, (pI_item a1 (a4 + 1) D))]) d_X2_removeItem_36 ck_RX2_31 rfl rfl rfl (Nat.le_of_ble_eq_true rfl) (Nat.le_of_ble_eq_true rfl) (by decide) rfl rfl (fun Ψ hΨ => run_pH_store sh_4 (by decide) (R 4 rfl) (by decide) _ _ hΨ) h (fun D1 h => ?_)
      show Run Γ rg κ Y_X2_removeItem 39 [(10, 0), (0, a1), (5, 0), (0, a3), (0, a4)] [] D1 Φ
      refine r_iinc d_X2_removeItem_39 rfl (by decide) rfl ?_
      show Run Γ rg κ Y_X2_removeItem 42 [(10, 0), (0, a1), (5, 0), (0, a3), (0, (a4 + 1))] [] D1 Φ
      refine r_goto (tgt := 11) d_X2_removeItem_42 (by decide) ?_
      exact (ih (a4 + 1) D1 h)
