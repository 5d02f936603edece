/-! the class: each run keeps to its reading -/
set_option maxRecDepth 20000 in
theorem run_pI_removeItem {Γ : GG} {rg : Nat → Bool} {κ : Nat} {Φ : OT → DD → Prop} (R : cov rg rg0) (p1 : Int) (p2 : Int) {D : DD} (h : WP none κ Φ (pI_removeItem p1 p2 D)) : Run Γ rg κ Y_X2_removeItem 0 [(10, 0), (0, p1), (0, p2), (5, 0), (5, 0)] [] D Φ := by
  unfold pI_removeItem at h
  show Run Γ rg κ Y_X2_removeItem 0 [(10, 0), (0, p1), (0, p2), (5, 0), (5, 0)] [] D Φ
  refine r_aload_n d_X2_removeItem_0 rfl (by decide) ?_
  refine r_iload_n d_X2_removeItem_1 rfl ?_
  refine c_callVPi (a := 2) (z := 0) (as := [(0, p1)]) (rest := []) (ls' := [(10, 0), (0, p1)]) d_X2_removeItem_2 ck_RX2_45 rfl sh_2 rfl (by decide) (R 2 rfl) rfl rfl (Nat.le_of_ble_eq_true rfl) (Nat.le_of_ble_eq_true rfl) (by decide) rfl rfl (fun Ψ hΨ => run_pI_itemCount R _ rfl hΨ) ?_
  show Run Γ rg κ Y_X2_removeItem 5 [(10, 0), (0, p1), (0, p2), (5, 0), (5, 0)] [(0, (pI_itemCount p1 D))] D Φ
  refine r_iconst d_X2_removeItem_5 ?_
  refine r_isub d_X2_removeItem_6 ?_
  refine c_lt_n d_X2_removeItem_7 (by decide) rfl h (fun x1 h => ?_)
  show Run Γ rg κ Y_X2_removeItem 8 [(10, 0), (0, p1), (0, p2), (0, x1), (5, 0)] [] D Φ
  refine r_iload_n d_X2_removeItem_8 rfl ?_
  refine r_istore d_X2_removeItem_9 (by decide) rfl ?_
  show Run Γ rg κ Y_X2_removeItem 11 [(10, 0), (0, p1), (0, p2), (0, x1), (0, p2)] [] D Φ
  refine Run.forget (ls' := [(10, 0), (0, p1), (5, 0), (0, x1), (0, p2)]) ⟨Or.inr rfl, Or.inr rfl, Or.inl rfl, Or.inr rfl, Or.inr rfl, trivial⟩ ?_
  refine run_pI_removeItem_11 R p1 x1 ?_ fu p2 D h
  intro D1 h
  show Run Γ rg κ Y_X2_removeItem 45 [(10, 0), (0, p1), (5, 0), (0, x1), (5, 0)] [] D1 Φ
  refine r_aload_n d_X2_removeItem_45 rfl (by decide) ?_
  refine r_getR (t := 4) d_X2_removeItem_46 fk_RX2_15 sh_2 rfl (by decide) (R 2 rfl) ?_
  refine r_iload_n d_X2_removeItem_49 rfl ?_
  refine r_iload_n d_X2_removeItem_50 rfl ?_
  refine c_callND (as := [(12, 0), (0, p1), (0, x1)]) (rest := []) (ls' := [(12, 0), (0, p1), (0, x1)]) d_X2_removeItem_51 ck_RX2_31 rfl rfl rfl (Nat.le_of_ble_eq_true rfl) (Nat.le_of_ble_eq_true rfl) (by decide) rfl rfl (fun Ψ hΨ => run_pH_store sh_4 (by decide) (R 4 rfl) (by decide) _ _ hΨ) h (fun D2 h => ?_)
  show Run Γ rg κ Y_X2_removeItem 54 [(10, 0), (0, p1), (5, 0), (0, x1), (5, 0)] [] D2 Φ
  exact c_vret d_X2_removeItem_54 rfl h
set_option maxRecDepth 20000 in
theorem run_pC_giveBack {Γ : GG} {rg : Nat → Bool} {κ : Nat} {Φ : OT → DD → Prop} (R : cov rg rg0) (p1 : Int) {D : DD} (h : WP (some .int) κ Φ (pC_giveBack p1 D)) : Run Γ rg κ Y_X0_giveBack 0 [(15, 0), (0, p1), (5, 0), (5, 0), (5, 0), (5, 0), (5, 0)] [] D Φ := by
  unfold pC_giveBack at h
  show Run Γ rg κ Y_X0_giveBack 0 [(15, 0), (0, p1), (5, 0), (5, 0), (5, 0), (5, 0), (5, 0)] [] D Φ
  refine r_aload_n d_X0_giveBack_0 rfl (by decide) ?_
  refine r_iload_n d_X0_giveBack_1 rfl ?_
  refine c_callVv (a := 7) (z := 0) (as := [(0, p1)]) (rest := []) (ls' := [(15, 0), (0, p1), (5, 0), (5, 0)]) d_X0_giveBack_2 ck_RX0_55 rfl sh_7 rfl (by decide) (R 7 rfl) rfl rfl (Nat.le_of_ble_eq_true rfl) (Nat.le_of_ble_eq_true rfl) (by decide) rfl rfl (fun κ' Ψ hΨ => run_pC_markWritten R _ hΨ) h (fun _ D1 h => ?_)
  show Run Γ rg κ Y_X0_giveBack 5 [(15, 0), (0, p1), (5, 0), (5, 0), (5, 0), (5, 0), (5, 0)] [] D1 Φ
  refine r_aload_n d_X0_giveBack_5 rfl (by decide) ?_
  refine r_getR (t := 2) d_X0_giveBack_6 fk_RX0_23 sh_7 rfl (by decide) (R 7 rfl) ?_
  refine r_getR (t := 3) d_X0_giveBack_9 fk_RX0_38 sh_2 rfl (by decide) (R 2 rfl) ?_
  refine r_iload_n d_X0_giveBack_12 rfl ?_
  refine c_callNPi (as := [(11, 0), (0, p1)]) (rest := []) (ls' := [(11, 0), (0, p1)]) d_X0_giveBack_13 ck_RX0_47 rfl rfl rfl (Nat.le_of_ble_eq_true rfl) (Nat.le_of_ble_eq_true rfl) (by decide) rfl rfl (fun Ψ hΨ => run_pH_read sh_3 (by decide) (R 3 rfl) (by decide) _ rfl hΨ) ?_
  show Run Γ rg κ Y_X0_giveBack 16 [(15, 0), (0, p1), (5, 0), (5, 0), (5, 0), (5, 0), (5, 0)] [(0, (rd 1024 3 p1 D1))] D1 Φ
  refine c_lt_n d_X0_giveBack_16 (by decide) rfl h (fun x1 h => ?_)
  show Run Γ rg κ Y_X0_giveBack 17 [(15, 0), (0, p1), (0, x1), (5, 0), (5, 0), (5, 0), (5, 0)] [] D1 Φ
  refine r_iload_n d_X0_giveBack_17 rfl ?_
  refine r_istore_n d_X0_giveBack_18 (by decide) rfl ?_
  show Run Γ rg κ Y_X0_giveBack 19 [(15, 0), (0, p1), (0, x1), (0, p1), (5, 0), (5, 0), (5, 0)] [] D1 Φ
  show Run Γ rg κ Y_X0_giveBack 19 [(15, 0), (0, p1), (0, x1), (0, p1), (5, 0), (5, 0), (5, 0)] [] D1 Φ
  refine r_iload_n d_X0_giveBack_19 rfl ?_
  refine r_istore d_X0_giveBack_20 (by decide) rfl ?_
  show Run Γ rg κ Y_X0_giveBack 22 [(15, 0), (0, p1), (0, x1), (0, p1), (0, x1), (5, 0), (5, 0)] [] D1 Φ
  refine r_iload_n d_X0_giveBack_22 rfl ?_
  refine r_iload_n d_X0_giveBack_23 rfl ?_
  refine r_iadd d_X0_giveBack_24 ?_
  refine c_lt d_X0_giveBack_25 (by decide) rfl h (fun x2 h => ?_)
  show Run Γ rg κ Y_X0_giveBack 27 [(15, 0), (0, p1), (0, x1), (0, p1), (0, x1), (0, x2), (5, 0)] [] D1 Φ
  refine r_aload_n d_X0_giveBack_27 rfl (by decide) ?_
  refine r_getR (t := 2) d_X0_giveBack_28 fk_RX0_23 sh_7 rfl (by decide) (R 7 rfl) ?_
  refine r_getR (t := 3) d_X0_giveBack_31 fk_RX0_38 sh_2 rfl (by decide) (R 2 rfl) ?_
  refine r_iload d_X0_giveBack_34 rfl ?_
  refine c_callNPi (as := [(11, 0), (0, x2)]) (rest := []) (ls' := [(11, 0), (0, x2)]) d_X0_giveBack_36 ck_RX0_47 rfl rfl rfl (Nat.le_of_ble_eq_true rfl) (Nat.le_of_ble_eq_true rfl) (by decide) rfl rfl (fun Ψ hΨ => run_pH_read sh_3 (by decide) (R 3 rfl) (by decide) _ rfl hΨ) ?_
  show Run Γ rg κ Y_X0_giveBack 39 [(15, 0), (0, p1), (0, x1), (0, p1), (0, x1), (0, x2), (5, 0)] [(0, (rd 1024 3 x2 D1))] D1 Φ
  refine c_jn (fun J => ∀ (x3 : Int) (D2 : DD), WP (some .int) κ Φ (J x3 D2) → Run Γ rg κ Y_X0_giveBack 72 [(15, 0), (0, p1), (0, x1), (0, p1), (0, x3), (5, 0), (5, 0)] [] D2 Φ) h ?_ (fun J1 hJ1 h => ?_)
  · intro x3 D2 h
    show Run Γ rg κ Y_X0_giveBack 72 [(15, 0), (0, p1), (0, x1), (0, p1), (0, x3), (5, 0), (5, 0)] [] D2 Φ
    refine r_aload_n d_X0_giveBack_72 rfl (by decide) ?_
    refine r_iload_n d_X0_giveBack_73 rfl ?_
    refine c_callVi (t' := (some .int)) (a := 7) (z := 0) (as := [(0, p1)]) (rest := []) (ls' := [(15, 0), (0, p1), (5, 0)]) d_X0_giveBack_74 ck_RX0_59 rfl sh_7 rfl (by decide) (R 7 rfl) rfl rfl (Nat.le_of_ble_eq_true rfl) (Nat.le_of_ble_eq_true rfl) (by decide) rfl rfl (fun _ => rfl) (fun κ' Ψ hΨ => run_pC_cellAhead R _ hΨ) h (fun v1 D3 h => ?_)
    show Run Γ rg κ Y_X0_giveBack 77 [(15, 0), (0, p1), (0, x1), (0, p1), (0, x3), (5, 0), (5, 0)] [(0, v1)] D3 Φ
    refine r_istore d_X0_giveBack_77 (by decide) rfl ?_
    show Run Γ rg κ Y_X0_giveBack 79 [(15, 0), (0, p1), (0, x1), (0, p1), (0, x3), (5, 0), (0, v1)] [] D3 Φ
    refine r_aload_n d_X0_giveBack_79 rfl (by decide) ?_
    refine r_getR (t := 2) d_X0_giveBack_80 fk_RX0_23 sh_7 rfl (by decide) (R 7 rfl) ?_
    refine r_getR (t := 3) d_X0_giveBack_83 fk_RX0_38 sh_2 rfl (by decide) (R 2 rfl) ?_
    refine r_iload d_X0_giveBack_86 rfl ?_
    refine c_callNPi (as := [(11, 0), (0, v1)]) (rest := []) (ls' := [(11, 0), (0, v1)]) d_X0_giveBack_88 ck_RX0_47 rfl rfl rfl (Nat.le_of_ble_eq_true rfl) (Nat.le_of_ble_eq_true rfl) (by decide) rfl rfl (fun Ψ hΨ => run_pH_read sh_3 (by decide) (R 3 rfl) (by decide) _ rfl hΨ) ?_
    show Run Γ rg κ Y_X0_giveBack 91 [(15, 0), (0, p1), (0, x1), (0, p1), (0, x3), (5, 0), (0, v1)] [(0, (rd 1024 3 v1 D3))] D3 Φ
    refine c_jn (fun J => ∀ (x4 : Int) (x5 : Int) (D4 : DD), WP (some .int) κ Φ (J x4 x5 D4) → Run Γ rg κ Y_X0_giveBack 126 [(15, 0), (5, 0), (0, x1), (0, x4), (0, x5), (5, 0), (5, 0)] [] D4 Φ) h ?_ (fun J2 hJ2 h => ?_)
    · intro x4 x5 D4 h
      show Run Γ rg κ Y_X0_giveBack 126 [(15, 0), (5, 0), (0, x1), (0, x4), (0, x5), (5, 0), (5, 0)] [] D4 Φ
      refine r_aload_n d_X0_giveBack_126 rfl (by decide) ?_
      refine r_getR (t := 2) d_X0_giveBack_127 fk_RX0_23 sh_7 rfl (by decide) (R 7 rfl) ?_
      refine r_getR (t := 3) d_X0_giveBack_130 fk_RX0_38 sh_2 rfl (by decide) (R 2 rfl) ?_
      refine r_iload_n d_X0_giveBack_133 rfl ?_
      refine r_iload d_X0_giveBack_134 rfl ?_
      refine r_ineg d_X0_giveBack_136 ?_
      refine c_callND (as := [(11, 0), (0, x4), (0, (-x5))]) (rest := []) (ls' := [(11, 0), (0, x4), (0, (-x5))]) d_X0_giveBack_137 ck_RX0_31 rfl rfl rfl (Nat.le_of_ble_eq_true rfl) (Nat.le_of_ble_eq_true rfl) (by decide) rfl rfl (fun Ψ hΨ => run_pH_store sh_3 (by decide) (R 3 rfl) (by decide) _ _ hΨ) h (fun D5 h => ?_)
      show Run Γ rg κ Y_X0_giveBack 140 [(15, 0), (5, 0), (0, x1), (0, x4), (0, x5), (5, 0), (5, 0)] [] D5 Φ
      refine r_iload_n d_X0_giveBack_140 rfl ?_
      exact c_iret d_X0_giveBack_141 rfl h
    refine c_if_ge (tgt := 126) d_X0_giveBack_91 (by decide) (nz_w _) h (fun h => ?_) (fun h => ?_)
    · skip
      exact Run.forget (ls' := [(15, 0), (5, 0), (0, x1), (0, p1), (0, x3), (5, 0), (5, 0)]) ⟨Or.inr rfl, Or.inl rfl, Or.inr rfl, Or.inr rfl, Or.inr rfl, Or.inr rfl, Or.inl rfl, trivial⟩ (hJ2 p1 x3 D3 h)
    · skip
      show Run Γ rg κ Y_X0_giveBack 94 [(15, 0), (0, p1), (0, x1), (0, p1), (0, x3), (5, 0), (0, v1)] [] D3 Φ
      refine r_iload d_X0_giveBack_94 rfl ?_
      refine r_aload_n d_X0_giveBack_96 rfl (by decide) ?_
      refine r_getR (t := 2) d_X0_giveBack_97 fk_RX0_23 sh_7 rfl (by decide) (R 7 rfl) ?_
      refine r_getR (t := 3) d_X0_giveBack_100 fk_RX0_38 sh_2 rfl (by decide) (R 2 rfl) ?_
      refine r_iload d_X0_giveBack_103 rfl ?_
      refine c_callNPi (as := [(11, 0), (0, v1)]) (rest := [(0, x3)]) (ls' := [(11, 0), (0, v1)]) d_X0_giveBack_105 ck_RX0_47 rfl rfl rfl (Nat.le_of_ble_eq_true rfl) (Nat.le_of_ble_eq_true rfl) (by decide) rfl rfl (fun Ψ hΨ => run_pH_read sh_3 (by decide) (R 3 rfl) (by decide) _ rfl hΨ) ?_
      show Run Γ rg κ Y_X0_giveBack 108 [(15, 0), (0, p1), (0, x1), (0, p1), (0, x3), (5, 0), (0, v1)] [(0, (rd 1024 3 v1 D3)), (0, x3)] D3 Φ
      refine r_isub d_X0_giveBack_108 ?_
      refine c_lt d_X0_giveBack_109 (by decide) rfl h (fun x6 h => ?_)
      show Run Γ rg κ Y_X0_giveBack 111 [(15, 0), (0, p1), (0, x1), (0, p1), (0, x6), (5, 0), (0, v1)] [] D3 Φ
      refine r_aload_n d_X0_giveBack_111 rfl (by decide) ?_
      refine r_getR (t := 2) d_X0_giveBack_112 fk_RX0_23 sh_7 rfl (by decide) (R 7 rfl) ?_
      refine r_getR (t := 3) d_X0_giveBack_115 fk_RX0_38 sh_2 rfl (by decide) (R 2 rfl) ?_
      show Run Γ rg κ Y_X0_giveBack 118 [(15, 0), (0, p1), (0, x1), (0, p1), (0, x6), (5, 0), (0, v1)] [(11, 0)] D3 Φ
      refine r_iload_n d_X0_giveBack_118 rfl ?_
      refine r_iconst d_X0_giveBack_119 ?_
      refine c_callND (as := [(11, 0), (0, p1), (0, 0)]) (rest := []) (ls' := [(11, 0), (0, p1), (0, 0)]) d_X0_giveBack_120 ck_RX0_31 rfl rfl rfl (Nat.le_of_ble_eq_true rfl) (Nat.le_of_ble_eq_true rfl) (by decide) rfl rfl (fun Ψ hΨ => run_pH_store sh_3 (by decide) (R 3 rfl) (by decide) _ _ hΨ) h (fun D6 h => ?_)
      show Run Γ rg κ Y_X0_giveBack 123 [(15, 0), (0, p1), (0, x1), (0, p1), (0, x6), (5, 0), (0, v1)] [] D6 Φ
      refine r_iload d_X0_giveBack_123 rfl ?_
      refine r_istore_n d_X0_giveBack_125 (by decide) rfl ?_
      show Run Γ rg κ Y_X0_giveBack 126 [(15, 0), (0, p1), (0, x1), (0, v1), (0, x6), (5, 0), (0, v1)] [] D6 Φ
      exact Run.forget (ls' := [(15, 0), (5, 0), (0, x1), (0, v1), (0, x6), (5, 0), (5, 0)]) ⟨Or.inr rfl, Or.inl rfl, Or.inr rfl, Or.inr rfl, Or.inr rfl, Or.inr rfl, Or.inl rfl, trivial⟩ (hJ2 v1 x6 D6 h)
  refine c_if_ge (tgt := 72) d_X0_giveBack_39 (by decide) (nz_w _) h (fun h => ?_) (fun h => ?_)
  · skip
    exact Run.forget (ls' := [(15, 0), (0, p1), (0, x1), (0, p1), (0, x1), (5, 0), (5, 0)]) ⟨Or.inr rfl, Or.inr rfl, Or.inr rfl, Or.inr rfl, Or.inr rfl, Or.inl rfl, Or.inr rfl, trivial⟩ (hJ1 x1 D1 h)
  · skip
    show Run Γ rg κ Y_X0_giveBack 42 [(15, 0), (0, p1), (0, x1), (0, p1), (0, x1), (0, x2), (5, 0)] [] D1 Φ
    refine r_iload d_X0_giveBack_42 rfl ?_
    refine r_aload_n d_X0_giveBack_44 rfl (by decide) ?_
    refine r_getR (t := 2) d_X0_giveBack_45 fk_RX0_23 sh_7 rfl (by decide) (R 7 rfl) ?_
    refine r_getR (t := 3) d_X0_giveBack_48 fk_RX0_38 sh_2 rfl (by decide) (R 2 rfl) ?_
    refine r_iload d_X0_giveBack_51 rfl ?_
    refine c_callNPi (as := [(11, 0), (0, x2)]) (rest := [(0, x1)]) (ls' := [(11, 0), (0, x2)]) d_X0_giveBack_53 ck_RX0_47 rfl rfl rfl (Nat.le_of_ble_eq_true rfl) (Nat.le_of_ble_eq_true rfl) (by decide) rfl rfl (fun Ψ hΨ => run_pH_read sh_3 (by decide) (R 3 rfl) (by decide) _ rfl hΨ) ?_
    show Run Γ rg κ Y_X0_giveBack 56 [(15, 0), (0, p1), (0, x1), (0, p1), (0, x1), (0, x2), (5, 0)] [(0, (rd 1024 3 x2 D1)), (0, x1)] D1 Φ
    refine r_isub d_X0_giveBack_56 ?_
    refine c_lt d_X0_giveBack_57 (by decide) rfl h (fun x7 h => ?_)
    show Run Γ rg κ Y_X0_giveBack 59 [(15, 0), (0, p1), (0, x1), (0, p1), (0, x7), (0, x2), (5, 0)] [] D1 Φ
    refine r_aload_n d_X0_giveBack_59 rfl (by decide) ?_
    refine r_getR (t := 2) d_X0_giveBack_60 fk_RX0_23 sh_7 rfl (by decide) (R 7 rfl) ?_
    refine r_getR (t := 3) d_X0_giveBack_63 fk_RX0_38 sh_2 rfl (by decide) (R 2 rfl) ?_
    show Run Γ rg κ Y_X0_giveBack 66 [(15, 0), (0, p1), (0, x1), (0, p1), (0, x7), (0, x2), (5, 0)] [(11, 0)] D1 Φ
    refine r_iload d_X0_giveBack_66 rfl ?_
    refine r_iconst d_X0_giveBack_68 ?_
    refine c_callND (as := [(11, 0), (0, x2), (0, 0)]) (rest := []) (ls' := [(11, 0), (0, x2), (0, 0)]) d_X0_giveBack_69 ck_RX0_31 rfl rfl rfl (Nat.le_of_ble_eq_true rfl) (Nat.le_of_ble_eq_true rfl) (by decide) rfl rfl (fun Ψ hΨ => run_pH_store sh_3 (by decide) (R 3 rfl) (by decide) _ _ hΨ) h (fun D7 h => ?_)
    show Run Γ rg κ Y_X0_giveBack 72 [(15, 0), (0, p1), (0, x1), (0, p1), (0, x7), (0, x2), (5, 0)] [] D7 Φ
    exact Run.forget (ls' := [(15, 0), (0, p1), (0, x1), (0, p1), (0, x7), (5, 0), (5, 0)]) ⟨Or.inr rfl, Or.inr rfl, Or.inr rfl, Or.inr rfl, Or.inr rfl, Or.inl rfl, Or.inr rfl, trivial⟩ (hJ1 x7 D7 h)
set_option maxRecDepth 20000 in
theorem run_pL_removeLeaf {Γ : GG} {rg : Nat → Bool} {κ : Nat} {Φ : OT → DD → Prop} (R : cov rg rg0) (p1 : Int) (p2 : Int) {D : DD} (h : WP (some .int) κ Φ (pL_removeLeaf p1 p2 D)) : Run Γ rg κ Y_X3_removeLeaf 0 [(19, 0), (0, p1), (0, p2), (5, 0)] [] D Φ := by
  unfold pL_removeLeaf at h
  show Run Γ rg κ Y_X3_removeLeaf 0 [(19, 0), (0, p1), (0, p2), (5, 0)] [] D Φ
  refine r_aload_n d_X3_removeLeaf_0 rfl (by decide) ?_
  refine r_getR (t := 2) d_X3_removeLeaf_1 fk_RX3_9 sh_11 rfl (by decide) (R 11 rfl) ?_
  refine r_iload_n d_X3_removeLeaf_4 rfl ?_
  refine r_iconst d_X3_removeLeaf_5 ?_
  refine r_iadd d_X3_removeLeaf_6 ?_
  refine c_callVPi (a := 2) (z := 0) (as := [(0, (p1 + 2))]) (rest := []) (ls' := [(10, 0), (0, (p1 + 2))]) d_X3_removeLeaf_7 ck_RX3_23 rfl sh_2 rfl (by decide) (R 2 rfl) rfl rfl (Nat.le_of_ble_eq_true rfl) (Nat.le_of_ble_eq_true rfl) (by decide) rfl rfl (fun Ψ hΨ => run_pI_unitAt R _ rfl hΨ) ?_
  show Run Γ rg κ Y_X3_removeLeaf 10 [(19, 0), (0, p1), (0, p2), (5, 0)] [(0, (pI_unitAt (p1 + 2) D))] D Φ
  refine c_lt_n d_X3_removeLeaf_10 (by decide) rfl h (fun x1 h => ?_)
  show Run Γ rg κ Y_X3_removeLeaf 11 [(19, 0), (0, p1), (0, p2), (0, x1)] [] D Φ
  refine r_aload_n d_X3_removeLeaf_11 rfl (by decide) ?_
  refine r_iload_n d_X3_removeLeaf_12 rfl ?_
  refine c_callVPi (a := 11) (z := 0) (as := [(0, x1)]) (rest := []) (ls' := [(19, 0), (0, x1)]) d_X3_removeLeaf_13 ck_RX3_28 rfl sh_11 rfl (by decide) (R 11 rfl) rfl rfl (Nat.le_of_ble_eq_true rfl) (Nat.le_of_ble_eq_true rfl) (by decide) rfl rfl (fun Ψ hΨ => run_pL_isIndex R _ rfl hΨ) ?_
  show Run Γ rg κ Y_X3_removeLeaf 16 [(19, 0), (0, p1), (0, p2), (0, x1)] [(0, (pL_isIndex x1 D))] D Φ
  refine c_if_ne (tgt := 32) d_X3_removeLeaf_16 (by decide) (nz_b (pL_isIndex_b x1 D)) h (fun h => ?_) (fun h => ?_)
  · skip
    show Run Γ rg κ Y_X3_removeLeaf 32 [(19, 0), (0, p1), (0, p2), (0, x1)] [] D Φ
    refine r_aload_n d_X3_removeLeaf_32 rfl (by decide) ?_
    refine r_getR (t := 2) d_X3_removeLeaf_33 fk_RX3_9 sh_11 rfl (by decide) (R 11 rfl) ?_
    refine r_iload_n d_X3_removeLeaf_36 rfl ?_
    refine r_iload_n d_X3_removeLeaf_37 rfl ?_
    refine c_callVv (a := 2) (z := 0) (as := [(0, x1), (0, p2)]) (rest := []) (ls' := [(10, 0), (0, x1), (0, p2), (5, 0), (5, 0)]) d_X3_removeLeaf_38 ck_RX3_84 rfl sh_2 rfl (by decide) (R 2 rfl) rfl rfl (Nat.le_of_ble_eq_true rfl) (Nat.le_of_ble_eq_true rfl) (by decide) rfl rfl (fun κ' Ψ hΨ => run_pI_removeItem R _ _ hΨ) h (fun _ D1 h => ?_)
    show Run Γ rg κ Y_X3_removeLeaf 41 [(19, 0), (0, p1), (0, p2), (0, x1)] [] D1 Φ
    refine r_aload_n d_X3_removeLeaf_41 rfl (by decide) ?_
    refine r_getR (t := 7) d_X3_removeLeaf_42 fk_RX3_15 sh_11 rfl (by decide) (R 11 rfl) ?_
    refine r_iload_n d_X3_removeLeaf_45 rfl ?_
    refine c_callVv (a := 7) (z := 0) (as := [(0, x1)]) (rest := []) (ls' := [(15, 0), (0, x1), (5, 0), (5, 0)]) d_X3_removeLeaf_46 ck_RX3_60 rfl sh_7 rfl (by decide) (R 7 rfl) rfl rfl (Nat.le_of_ble_eq_true rfl) (Nat.le_of_ble_eq_true rfl) (by decide) rfl rfl (fun κ' Ψ hΨ => run_pC_markWritten R _ hΨ) h (fun _ D2 h => ?_)
    show Run Γ rg κ Y_X3_removeLeaf 49 [(19, 0), (0, p1), (0, p2), (0, x1)] [] D2 Φ
    refine r_aload_n d_X3_removeLeaf_49 rfl (by decide) ?_
    refine r_getR (t := 2) d_X3_removeLeaf_50 fk_RX3_9 sh_11 rfl (by decide) (R 11 rfl) ?_
    show Run Γ rg κ Y_X3_removeLeaf 53 [(19, 0), (0, p1), (0, p2), (0, x1)] [(10, 0)] D2 Φ
    refine r_iload_n d_X3_removeLeaf_53 rfl ?_
    refine c_callVPi (a := 2) (z := 0) (as := [(0, x1)]) (rest := []) (ls' := [(10, 0), (0, x1)]) d_X3_removeLeaf_54 ck_RX3_32 rfl sh_2 rfl (by decide) (R 2 rfl) rfl rfl (Nat.le_of_ble_eq_true rfl) (Nat.le_of_ble_eq_true rfl) (by decide) rfl rfl (fun Ψ hΨ => run_pI_itemCount R _ rfl hΨ) ?_
    show Run Γ rg κ Y_X3_removeLeaf 57 [(19, 0), (0, p1), (0, p2), (0, x1)] [(0, (pI_itemCount x1 D2))] D2 Φ
    refine r_iconst d_X3_removeLeaf_57 ?_
    refine c_icmp_le (tgt := 63) d_X3_removeLeaf_58 (by decide) (nz_w _) (nz_k rfl) h (fun h => ?_) (fun h => ?_)
    · skip
      show Run Γ rg κ Y_X3_removeLeaf 63 [(19, 0), (0, p1), (0, p2), (0, x1)] [] D2 Φ
      refine r_aload_n d_X3_removeLeaf_63 rfl (by decide) ?_
      refine r_getR (t := 2) d_X3_removeLeaf_64 fk_RX3_9 sh_11 rfl (by decide) (R 11 rfl) ?_
      refine r_iload_n d_X3_removeLeaf_67 rfl ?_
      refine r_iconst d_X3_removeLeaf_68 ?_
      refine r_iadd d_X3_removeLeaf_69 ?_
      refine r_aload_n d_X3_removeLeaf_70 rfl (by decide) ?_
      refine r_getR (t := 2) d_X3_removeLeaf_71 fk_RX3_9 sh_11 rfl (by decide) (R 11 rfl) ?_
      refine r_iload_n d_X3_removeLeaf_74 rfl ?_
      refine r_iconst d_X3_removeLeaf_75 ?_
      refine c_callVPi (a := 2) (z := 0) (as := [(0, x1), (0, 0)]) (rest := [(0, (p1 + 2)), (10, 0)]) (ls' := [(10, 0), (0, x1), (0, 0)]) d_X3_removeLeaf_76 ck_RX3_45 rfl sh_2 rfl (by decide) (R 2 rfl) rfl rfl (Nat.le_of_ble_eq_true rfl) (Nat.le_of_ble_eq_true rfl) (by decide) rfl rfl (fun Ψ hΨ => run_pI_item R _ _ rfl hΨ) ?_
      show Run Γ rg κ Y_X3_removeLeaf 79 [(19, 0), (0, p1), (0, p2), (0, x1)] [(0, (pI_item x1 0 D2)), (0, (p1 + 2)), (10, 0)] D2 Φ
      refine c_callVD (a := 2) (z := 0) (as := [(0, (p1 + 2)), (0, (pI_item x1 0 D2))]) (rest := []) (ls' := [(10, 0), (0, (p1 + 2)), (0, (pI_item x1 0 D2))]) d_X3_removeLeaf_79 ck_RX3_66 rfl sh_2 rfl (by decide) (R 2 rfl) rfl rfl (Nat.le_of_ble_eq_true rfl) (Nat.le_of_ble_eq_true rfl) (by decide) rfl rfl (fun Ψ hΨ => run_pI_putUnit R _ _ hΨ) h (fun D3 h => ?_)
      show Run Γ rg κ Y_X3_removeLeaf 82 [(19, 0), (0, p1), (0, p2), (0, x1)] [] D3 Φ
      show Run Γ rg κ Y_X3_removeLeaf 82 [(19, 0), (0, p1), (0, p2), (0, x1)] [] D3 Φ
      refine r_aload_n d_X3_removeLeaf_82 rfl (by decide) ?_
      refine r_getR (t := 7) d_X3_removeLeaf_83 fk_RX3_15 sh_11 rfl (by decide) (R 11 rfl) ?_
      refine r_iload_n d_X3_removeLeaf_86 rfl ?_
      refine c_callVi (t' := (some .int)) (a := 7) (z := 0) (as := [(0, x1)]) (rest := []) (ls' := [(15, 0), (0, x1), (5, 0), (5, 0), (5, 0), (5, 0), (5, 0)]) d_X3_removeLeaf_87 ck_RX3_87 rfl sh_7 rfl (by decide) (R 7 rfl) rfl rfl (Nat.le_of_ble_eq_true rfl) (Nat.le_of_ble_eq_true rfl) (by decide) rfl rfl (fun _ => rfl) (fun κ' Ψ hΨ => run_pC_giveBack R _ hΨ) h (fun v1 D4 h => ?_)
      show Run Γ rg κ Y_X3_removeLeaf 90 [(19, 0), (0, p1), (0, p2), (0, x1)] [(0, v1)] D4 Φ
      exact c_iret d_X3_removeLeaf_90 rfl h
    · skip
      show Run Γ rg κ Y_X3_removeLeaf 61 [(19, 0), (0, p1), (0, p2), (0, x1)] [] D2 Φ
      refine r_iconst d_X3_removeLeaf_61 ?_
      exact c_iret d_X3_removeLeaf_62 rfl h
  · skip
    show Run Γ rg κ Y_X3_removeLeaf 19 [(19, 0), (0, p1), (0, p2), (0, x1)] [] D Φ
    refine r_aload_n d_X3_removeLeaf_19 rfl (by decide) ?_
    refine r_getR (t := 2) d_X3_removeLeaf_20 fk_RX3_9 sh_11 rfl (by decide) (R 11 rfl) ?_
    refine r_iload_n d_X3_removeLeaf_23 rfl ?_
    refine r_iconst d_X3_removeLeaf_24 ?_
    refine r_iadd d_X3_removeLeaf_25 ?_
    refine r_iconst d_X3_removeLeaf_26 ?_
    refine c_callVD (a := 2) (z := 0) (as := [(0, (p1 + 2)), (0, 0)]) (rest := []) (ls' := [(10, 0), (0, (p1 + 2)), (0, 0)]) d_X3_removeLeaf_27 ck_RX3_66 rfl sh_2 rfl (by decide) (R 2 rfl) rfl rfl (Nat.le_of_ble_eq_true rfl) (Nat.le_of_ble_eq_true rfl) (by decide) rfl rfl (fun Ψ hΨ => run_pI_putUnit R _ _ hΨ) h (fun D5 h => ?_)
    show Run Γ rg κ Y_X3_removeLeaf 30 [(19, 0), (0, p1), (0, p2), (0, x1)] [] D5 Φ
    refine r_iconst d_X3_removeLeaf_30 ?_
    exact c_iret d_X3_removeLeaf_31 rfl h
set_option maxRecDepth 20000 in
theorem run_pL_takeOut {Γ : GG} {rg : Nat → Bool} {κ : Nat} {Φ : OT → DD → Prop} (R : cov rg rg0) (p1 : Int) (p2 : Int) {D : DD} (h : WP (some .int) κ Φ (pL_takeOut p1 p2 D)) : Run Γ rg κ Y_X3_takeOut 0 [(19, 0), (0, p1), (0, p2), (5, 0), (5, 0)] [] D Φ := by
  unfold pL_takeOut at h
  show Run Γ rg κ Y_X3_takeOut 0 [(19, 0), (0, p1), (0, p2), (5, 0), (5, 0)] [] D Φ
  refine r_aload_n d_X3_takeOut_0 rfl (by decide) ?_
  refine r_getR (t := 7) d_X3_takeOut_1 fk_RX3_15 sh_11 rfl (by decide) (R 11 rfl) ?_
  refine r_iload_n d_X3_takeOut_4 rfl ?_
  refine c_callVv (a := 7) (z := 0) (as := [(0, p1)]) (rest := []) (ls' := [(15, 0), (0, p1), (5, 0), (5, 0)]) d_X3_takeOut_5 ck_RX3_60 rfl sh_7 rfl (by decide) (R 7 rfl) rfl rfl (Nat.le_of_ble_eq_true rfl) (Nat.le_of_ble_eq_true rfl) (by decide) rfl rfl (fun κ' Ψ hΨ => run_pC_markWritten R _ hΨ) h (fun _ D1 h => ?_)
  show Run Γ rg κ Y_X3_takeOut 8 [(19, 0), (0, p1), (0, p2), (5, 0), (5, 0)] [] D1 Φ
  refine r_aload_n d_X3_takeOut_8 rfl (by decide) ?_
  refine r_iload_n d_X3_takeOut_9 rfl ?_
  refine r_iload_n d_X3_takeOut_10 rfl ?_
  refine c_callVi (t' := (some .int)) (a := 11) (z := 0) (as := [(0, p1), (0, p2)]) (rest := []) (ls' := [(19, 0), (0, p1), (0, p2), (5, 0), (5, 0), (5, 0)]) d_X3_takeOut_11 ck_RX3_51 rfl sh_11 rfl (by decide) (R 11 rfl) rfl rfl (Nat.le_of_ble_eq_true rfl) (Nat.le_of_ble_eq_true rfl) (by decide) rfl rfl (fun _ => rfl) (fun κ' Ψ hΨ => run_pL_leafNumberFor R _ _ hΨ) h (fun v1 D2 h => ?_)
  show Run Γ rg κ Y_X3_takeOut 14 [(19, 0), (0, p1), (0, p2), (5, 0), (5, 0)] [(0, v1)] D2 Φ
  refine r_istore_n d_X3_takeOut_14 (by decide) rfl ?_
  show Run Γ rg κ Y_X3_takeOut 15 [(19, 0), (0, p1), (0, p2), (0, v1), (5, 0)] [] D2 Φ
  refine r_aload_n d_X3_takeOut_15 rfl (by decide) ?_
  refine r_iload_n d_X3_takeOut_16 rfl ?_
  show Run Γ rg κ Y_X3_takeOut 17 [(19, 0), (0, p1), (0, p2), (0, v1), (5, 0)] [(0, p1), (19, 0)] D2 Φ
  refine r_iload_n d_X3_takeOut_17 rfl ?_
  refine c_callVPi (a := 11) (z := 0) (as := [(0, p1), (0, v1)]) (rest := []) (ls' := [(19, 0), (0, p1), (0, v1), (5, 0)]) d_X3_takeOut_18 ck_RX3_38 rfl sh_11 rfl (by decide) (R 11 rfl) rfl rfl (Nat.le_of_ble_eq_true rfl) (Nat.le_of_ble_eq_true rfl) (by decide) rfl rfl (fun Ψ hΨ => run_pL_leafNumbered R _ _ rfl hΨ) ?_
  show Run Γ rg κ Y_X3_takeOut 21 [(19, 0), (0, p1), (0, p2), (0, v1), (5, 0)] [(0, (pL_leafNumbered p1 v1 D2))] D2 Φ
  refine c_lt d_X3_takeOut_21 (by decide) rfl h (fun x1 h => ?_)
  show Run Γ rg κ Y_X3_takeOut 23 [(19, 0), (0, p1), (0, p2), (0, v1), (0, x1)] [] D2 Φ
  refine r_aload_n d_X3_takeOut_23 rfl (by decide) ?_
  refine r_getR (t := 7) d_X3_takeOut_24 fk_RX3_15 sh_11 rfl (by decide) (R 11 rfl) ?_
  refine r_iload d_X3_takeOut_27 rfl ?_
  refine c_callVv (a := 7) (z := 0) (as := [(0, x1)]) (rest := []) (ls' := [(15, 0), (0, x1), (5, 0), (5, 0)]) d_X3_takeOut_29 ck_RX3_60 rfl sh_7 rfl (by decide) (R 7 rfl) rfl rfl (Nat.le_of_ble_eq_true rfl) (Nat.le_of_ble_eq_true rfl) (by decide) rfl rfl (fun κ' Ψ hΨ => run_pC_markWritten R _ hΨ) h (fun _ D3 h => ?_)
  show Run Γ rg κ Y_X3_takeOut 32 [(19, 0), (0, p1), (0, p2), (0, v1), (0, x1)] [] D3 Φ
  refine r_aload_n d_X3_takeOut_32 rfl (by decide) ?_
  refine r_getR (t := 2) d_X3_takeOut_33 fk_RX3_9 sh_11 rfl (by decide) (R 11 rfl) ?_
  refine r_iload d_X3_takeOut_36 rfl ?_
  refine r_aload_n d_X3_takeOut_38 rfl (by decide) ?_
  refine r_iload d_X3_takeOut_39 rfl ?_
  show Run Γ rg κ Y_X3_takeOut 41 [(19, 0), (0, p1), (0, p2), (0, v1), (0, x1)] [(0, x1), (19, 0), (0, x1), (10, 0)] D3 Φ
  refine r_iload_n d_X3_takeOut_41 rfl ?_
  refine c_callVi (t' := (some .int)) (a := 11) (z := 0) (as := [(0, x1), (0, p2)]) (rest := [(0, x1), (10, 0)]) (ls' := [(19, 0), (0, x1), (0, p2), (5, 0), (5, 0), (5, 0)]) d_X3_takeOut_42 ck_RX3_74 rfl sh_11 rfl (by decide) (R 11 rfl) rfl rfl (Nat.le_of_ble_eq_true rfl) (Nat.le_of_ble_eq_true rfl) (by decide) rfl rfl (fun _ => rfl) (fun κ' Ψ hΨ => run_pL_entriesAhead R _ _ hΨ) h (fun v2 D4 h => ?_)
  show Run Γ rg κ Y_X3_takeOut 45 [(19, 0), (0, p1), (0, p2), (0, v1), (0, x1)] [(0, v2), (0, x1), (10, 0)] D4 Φ
  refine c_callVv (a := 2) (z := 0) (as := [(0, x1), (0, v2)]) (rest := []) (ls' := [(10, 0), (0, x1), (0, v2), (5, 0), (5, 0)]) d_X3_takeOut_45 ck_RX3_84 rfl sh_2 rfl (by decide) (R 2 rfl) rfl rfl (Nat.le_of_ble_eq_true rfl) (Nat.le_of_ble_eq_true rfl) (by decide) rfl rfl (fun κ' Ψ hΨ => run_pI_removeItem R _ _ hΨ) h (fun _ D5 h => ?_)
  show Run Γ rg κ Y_X3_takeOut 48 [(19, 0), (0, p1), (0, p2), (0, v1), (0, x1)] [] D5 Φ
  refine r_aload_n d_X3_takeOut_48 rfl (by decide) ?_
  refine r_getR (t := 2) d_X3_takeOut_49 fk_RX3_9 sh_11 rfl (by decide) (R 11 rfl) ?_
  refine r_iload d_X3_takeOut_52 rfl ?_
  refine c_callVPi (a := 2) (z := 0) (as := [(0, x1)]) (rest := []) (ls' := [(10, 0), (0, x1)]) d_X3_takeOut_54 ck_RX3_32 rfl sh_2 rfl (by decide) (R 2 rfl) rfl rfl (Nat.le_of_ble_eq_true rfl) (Nat.le_of_ble_eq_true rfl) (by decide) rfl rfl (fun Ψ hΨ => run_pI_itemCount R _ rfl hΨ) ?_
  show Run Γ rg κ Y_X3_takeOut 57 [(19, 0), (0, p1), (0, p2), (0, v1), (0, x1)] [(0, (pI_itemCount x1 D5))] D5 Φ
  refine c_if_le (tgt := 62) d_X3_takeOut_57 (by decide) (nz_w _) h (fun h => ?_) (fun h => ?_)
  · skip
    show Run Γ rg κ Y_X3_takeOut 62 [(19, 0), (0, p1), (0, p2), (0, v1), (0, x1)] [] D5 Φ
    refine r_aload_n d_X3_takeOut_62 rfl (by decide) ?_
    refine r_getR (t := 7) d_X3_takeOut_63 fk_RX3_15 sh_11 rfl (by decide) (R 11 rfl) ?_
    refine r_iload d_X3_takeOut_66 rfl ?_
    refine c_callVi (t' := (some .int)) (a := 7) (z := 0) (as := [(0, x1)]) (rest := []) (ls' := [(15, 0), (0, x1), (5, 0), (5, 0), (5, 0), (5, 0), (5, 0)]) d_X3_takeOut_68 ck_RX3_87 rfl sh_7 rfl (by decide) (R 7 rfl) rfl rfl (Nat.le_of_ble_eq_true rfl) (Nat.le_of_ble_eq_true rfl) (by decide) rfl rfl (fun _ => rfl) (fun κ' Ψ hΨ => run_pC_giveBack R _ hΨ) h (fun v3 D6 h => ?_)
    show Run Γ rg κ Y_X3_takeOut 71 [(19, 0), (0, p1), (0, p2), (0, v1), (0, x1)] [(0, v3)] D6 Φ
    refine r_aload_n d_X3_takeOut_71 rfl (by decide) ?_
    refine r_iload_n d_X3_takeOut_72 rfl ?_
    refine r_iload_n d_X3_takeOut_73 rfl ?_
    refine c_callVi (t' := (some .int)) (a := 11) (z := 0) (as := [(0, p1), (0, v1)]) (rest := [(0, v3)]) (ls' := [(19, 0), (0, p1), (0, v1), (5, 0)]) d_X3_takeOut_74 ck_RX3_90 rfl sh_11 rfl (by decide) (R 11 rfl) rfl rfl (Nat.le_of_ble_eq_true rfl) (Nat.le_of_ble_eq_true rfl) (by decide) rfl rfl (fun _ => rfl) (fun κ' Ψ hΨ => run_pL_removeLeaf R _ _ hΨ) h (fun v4 D7 h => ?_)
    show Run Γ rg κ Y_X3_takeOut 77 [(19, 0), (0, p1), (0, p2), (0, v1), (0, x1)] [(0, v4), (0, v3)] D7 Φ
    refine r_iadd d_X3_takeOut_77 ?_
    exact c_iret d_X3_takeOut_78 rfl h
  · skip
    show Run Γ rg κ Y_X3_takeOut 60 [(19, 0), (0, p1), (0, p2), (0, v1), (0, x1)] [] D5 Φ
    refine r_iconst d_X3_takeOut_60 ?_
    exact c_iret d_X3_takeOut_61 rfl h
set_option maxRecDepth 20000 in
theorem run_pH_rename {Γ : GG} {rg : Nat → Bool} {κ : Nat} {Φ : OT → DD → Prop} (R : cov rg rg0) (p1 : Int) (p2 : Int) {D : DD} (h : WP (some .int) κ Φ (pH_rename p1 p2 D)) : Run Γ rg κ Y_X7_rename 0 [(8, 0), (0, p1), (0, p2), (5, 0), (5, 0), (5, 0), (5, 0)] [] D Φ := by
  unfold pH_rename at h
  show Run Γ rg κ Y_X7_rename 0 [(8, 0), (0, p1), (0, p2), (5, 0), (5, 0), (5, 0), (5, 0)] [] D Φ
  refine r_aload_n d_X7_rename_0 rfl (by decide) ?_
  refine r_iload_n d_X7_rename_1 rfl ?_
  refine c_callVv (a := 0) (z := 0) (as := [(0, p1)]) (rest := []) (ls' := [(8, 0), (0, p1)]) d_X7_rename_2 ck_RX7_95 rfl sh_0 rfl (by decide) (R 0 rfl) rfl rfl (Nat.le_of_ble_eq_true rfl) (Nat.le_of_ble_eq_true rfl) (by decide) rfl rfl (fun κ' Ψ hΨ => run_pH_requireKey R _ hΨ) h (fun _ D1 h => ?_)
  show Run Γ rg κ Y_X7_rename 5 [(8, 0), (0, p1), (0, p2), (5, 0), (5, 0), (5, 0), (5, 0)] [] D1 Φ
  refine r_iload_n d_X7_rename_5 rfl ?_
  refine c_callSv (as := [(0, p2)]) (rest := []) (ls' := [(0, p2)]) d_X7_rename_6 ck_RX7_98 rfl rfl rfl (Nat.le_of_ble_eq_true rfl) (Nat.le_of_ble_eq_true rfl) (by decide) rfl rfl (fun κ' Ψ hΨ => run_pH_requireName R _ hΨ) h (fun _ D2 h => ?_)
  show Run Γ rg κ Y_X7_rename 9 [(8, 0), (0, p1), (0, p2), (5, 0), (5, 0), (5, 0), (5, 0)] [] D2 Φ
  refine r_iload_n d_X7_rename_9 rfl ?_
  refine c_callSv (as := [(0, p1)]) (rest := []) (ls' := [(0, p1)]) d_X7_rename_10 ck_RX7_105 rfl rfl rfl (Nat.le_of_ble_eq_true rfl) (Nat.le_of_ble_eq_true rfl) (by decide) rfl rfl (fun κ' Ψ hΨ => run_pH_requireNotRoot R _ hΨ) h (fun _ D3 h => ?_)
  show Run Γ rg κ Y_X7_rename 13 [(8, 0), (0, p1), (0, p2), (5, 0), (5, 0), (5, 0), (5, 0)] [] D3 Φ
  refine r_aload_n d_X7_rename_13 rfl (by decide) ?_
  refine r_getR (t := 2) d_X7_rename_14 fk_RX7_21 sh_0 rfl (by decide) (R 0 rfl) ?_
  refine r_iload_n d_X7_rename_17 rfl ?_
  refine c_callVPi (a := 2) (z := 0) (as := [(0, p1)]) (rest := []) (ls' := [(10, 0), (0, p1)]) d_X7_rename_18 ck_RX7_108 rfl sh_2 rfl (by decide) (R 2 rfl) rfl rfl (Nat.le_of_ble_eq_true rfl) (Nat.le_of_ble_eq_true rfl) (by decide) rfl rfl (fun Ψ hΨ => run_pI_placeOfKey R _ rfl hΨ) ?_
  show Run Γ rg κ Y_X7_rename 21 [(8, 0), (0, p1), (0, p2), (5, 0), (5, 0), (5, 0), (5, 0)] [(0, (pI_placeOfKey p1 D3))] D3 Φ
  show Run Γ rg κ Y_X7_rename 21 [(8, 0), (0, p1), (0, p2), (5, 0), (5, 0), (5, 0), (5, 0)] [(0, (pI_placeOfKey p1 D3))] D3 Φ
  refine c_lt_n d_X7_rename_21 (by decide) rfl h (fun x1 h => ?_)
  show Run Γ rg κ Y_X7_rename 22 [(8, 0), (0, p1), (0, p2), (0, x1), (5, 0), (5, 0), (5, 0)] [] D3 Φ
  refine r_aload_n d_X7_rename_22 rfl (by decide) ?_
  refine r_getR (t := 2) d_X7_rename_23 fk_RX7_21 sh_0 rfl (by decide) (R 0 rfl) ?_
  refine r_iload_n d_X7_rename_26 rfl ?_
  refine r_iconst d_X7_rename_27 ?_
  refine r_iadd d_X7_rename_28 ?_
  refine c_callVPi (a := 2) (z := 0) (as := [(0, (x1 + 1))]) (rest := []) (ls' := [(10, 0), (0, (x1 + 1))]) d_X7_rename_29 ck_RX7_111 rfl sh_2 rfl (by decide) (R 2 rfl) rfl rfl (Nat.le_of_ble_eq_true rfl) (Nat.le_of_ble_eq_true rfl) (by decide) rfl rfl (fun Ψ hΨ => run_pI_unitAt R _ rfl hΨ) ?_
  show Run Γ rg κ Y_X7_rename 32 [(8, 0), (0, p1), (0, p2), (0, x1), (5, 0), (5, 0), (5, 0)] [(0, (pI_unitAt (x1 + 1) D3))] D3 Φ
  refine c_lt d_X7_rename_32 (by decide) rfl h (fun x2 h => ?_)
  show Run Γ rg κ Y_X7_rename 34 [(8, 0), (0, p1), (0, p2), (0, x1), (0, x2), (5, 0), (5, 0)] [] D3 Φ
  refine r_aload_n d_X7_rename_34 rfl (by decide) ?_
  refine r_getR (t := 2) d_X7_rename_35 fk_RX7_21 sh_0 rfl (by decide) (R 0 rfl) ?_
  refine r_iload d_X7_rename_38 rfl ?_
  refine c_callVPi (a := 2) (z := 0) (as := [(0, x2)]) (rest := []) (ls' := [(10, 0), (0, x2)]) d_X7_rename_40 ck_RX7_108 rfl sh_2 rfl (by decide) (R 2 rfl) rfl rfl (Nat.le_of_ble_eq_true rfl) (Nat.le_of_ble_eq_true rfl) (by decide) rfl rfl (fun Ψ hΨ => run_pI_placeOfKey R _ rfl hΨ) ?_
  show Run Γ rg κ Y_X7_rename 43 [(8, 0), (0, p1), (0, p2), (0, x1), (0, x2), (5, 0), (5, 0)] [(0, (pI_placeOfKey x2 D3))] D3 Φ
  show Run Γ rg κ Y_X7_rename 43 [(8, 0), (0, p1), (0, p2), (0, x1), (0, x2), (5, 0), (5, 0)] [(0, (pI_placeOfKey x2 D3))] D3 Φ
  refine c_lt d_X7_rename_43 (by decide) rfl h (fun x3 h => ?_)
  show Run Γ rg κ Y_X7_rename 45 [(8, 0), (0, p1), (0, p2), (0, x1), (0, x2), (0, x3), (5, 0)] [] D3 Φ
  refine r_aload_n d_X7_rename_45 rfl (by decide) ?_
  refine r_getR (t := 2) d_X7_rename_46 fk_RX7_21 sh_0 rfl (by decide) (R 0 rfl) ?_
  refine r_iload_n d_X7_rename_49 rfl ?_
  refine r_iconst d_X7_rename_50 ?_
  refine r_iadd d_X7_rename_51 ?_
  refine c_callVPi (a := 2) (z := 0) (as := [(0, (x1 + 0))]) (rest := []) (ls' := [(10, 0), (0, (x1 + 0))]) d_X7_rename_52 ck_RX7_111 rfl sh_2 rfl (by decide) (R 2 rfl) rfl rfl (Nat.le_of_ble_eq_true rfl) (Nat.le_of_ble_eq_true rfl) (by decide) rfl rfl (fun Ψ hΨ => run_pI_unitAt R _ rfl hΨ) ?_
  show Run Γ rg κ Y_X7_rename 55 [(8, 0), (0, p1), (0, p2), (0, x1), (0, x2), (0, x3), (5, 0)] [(0, (pI_unitAt (x1 + 0) D3))] D3 Φ
  refine c_lt d_X7_rename_55 (by decide) rfl h (fun x4 h => ?_)
  show Run Γ rg κ Y_X7_rename 57 [(8, 0), (0, p1), (0, p2), (0, x1), (0, x2), (0, x3), (0, x4)] [] D3 Φ
  refine r_aload_n d_X7_rename_57 rfl (by decide) ?_
  refine r_iload d_X7_rename_58 rfl ?_
  refine r_iload_n d_X7_rename_60 rfl ?_
  refine c_callVv (a := 0) (z := 0) (as := [(0, x3), (0, p2)]) (rest := []) (ls' := [(8, 0), (0, x3), (0, p2)]) d_X7_rename_61 ck_RX7_114 rfl sh_0 rfl (by decide) (R 0 rfl) rfl rfl (Nat.le_of_ble_eq_true rfl) (Nat.le_of_ble_eq_true rfl) (by decide) rfl rfl (fun κ' Ψ hΨ => run_pH_requireNameFree R _ _ hΨ) h (fun _ D4 h => ?_)
  show Run Γ rg κ Y_X7_rename 64 [(8, 0), (0, p1), (0, p2), (0, x1), (0, x2), (0, x3), (0, x4)] [] D4 Φ
  show Run Γ rg κ Y_X7_rename 64 [(8, 0), (0, p1), (0, p2), (0, x1), (0, x2), (0, x3), (0, x4)] [] D4 Φ
  refine r_aload_n d_X7_rename_64 rfl (by decide) ?_
  refine r_getR (t := 7) d_X7_rename_65 fk_RX7_25 sh_0 rfl (by decide) (R 0 rfl) ?_
  refine c_callVD (a := 7) (z := 0) (as := []) (rest := []) (ls' := [(15, 0)]) d_X7_rename_68 ck_RX7_66 rfl sh_7 rfl (by decide) (R 7 rfl) rfl rfl (Nat.le_of_ble_eq_true rfl) (Nat.le_of_ble_eq_true rfl) (by decide) rfl rfl (fun Ψ hΨ => run_pC_wantNothing R hΨ) h (fun D5 h => ?_)
  show Run Γ rg κ Y_X7_rename 71 [(8, 0), (0, p1), (0, p2), (0, x1), (0, x2), (0, x3), (0, x4)] [] D5 Φ
  refine r_aload_n d_X7_rename_71 rfl (by decide) ?_
  refine r_getR (t := 11) d_X7_rename_72 fk_RX7_34 sh_0 rfl (by decide) (R 0 rfl) ?_
  refine r_iload d_X7_rename_75 rfl ?_
  refine r_iload_n d_X7_rename_77 rfl ?_
  refine r_iload_n d_X7_rename_78 rfl ?_
  refine c_callSPi (as := [(0, p1), (0, p2)]) (rest := [(0, x3), (19, 0)]) (ls' := [(0, p1), (0, p2)]) d_X7_rename_79 ck_RX7_118 rfl rfl rfl (Nat.le_of_ble_eq_true rfl) (Nat.le_of_ble_eq_true rfl) (by decide) rfl rfl (fun Ψ hΨ => run_pL_entryOf R _ _ rfl hΨ) ?_
  show Run Γ rg κ Y_X7_rename 82 [(8, 0), (0, p1), (0, p2), (0, x1), (0, x2), (0, x3), (0, x4)] [(0, (pL_entryOf p1 p2)), (0, x3), (19, 0)] D5 Φ
  refine c_callVi (t' := (some .boolean)) (a := 11) (z := 0) (as := [(0, x3), (0, (pL_entryOf p1 p2))]) (rest := []) (ls' := [(19, 0), (0, x3), (0, (pL_entryOf p1 p2)), (5, 0), (5, 0)]) d_X7_rename_82 ck_RX7_122 rfl sh_11 rfl (by decide) (R 11 rfl) rfl rfl (Nat.le_of_ble_eq_true rfl) (Nat.le_of_ble_eq_true rfl) (by decide) rfl rfl (fun _ => rfl) (fun κ' Ψ hΨ => run_pL_wantFor R _ _ hΨ) h (fun v1 D6 h => ?_)
  show Run Γ rg κ Y_X7_rename 85 [(8, 0), (0, p1), (0, p2), (0, x1), (0, x2), (0, x3), (0, x4)] [(0, v1)] D6 Φ
  refine c_callSv (as := [(0, v1)]) (rest := []) (ls' := [(0, v1)]) d_X7_rename_85 ck_RX7_126 rfl rfl rfl (Nat.le_of_ble_eq_true rfl) (Nat.le_of_ble_eq_true rfl) (by decide) rfl rfl (fun κ' Ψ hΨ => run_pH_requireListNotFull R _ hΨ) h (fun _ D7 h => ?_)
  show Run Γ rg κ Y_X7_rename 88 [(8, 0), (0, p1), (0, p2), (0, x1), (0, x2), (0, x3), (0, x4)] [] D7 Φ
  refine r_aload_n d_X7_rename_88 rfl (by decide) ?_
  show Run Γ rg κ Y_X7_rename 89 [(8, 0), (0, p1), (0, p2), (0, x1), (0, x2), (0, x3), (0, x4)] [(8, 0)] D7 Φ
  refine r_getR (t := 7) d_X7_rename_89 fk_RX7_25 sh_0 rfl (by decide) (R 0 rfl) ?_
  refine c_callVi (t' := (some .boolean)) (a := 7) (z := 0) (as := []) (rest := []) (ls' := [(15, 0), (5, 0), (5, 0), (5, 0)]) d_X7_rename_92 ck_RX7_73 rfl sh_7 rfl (by decide) (R 7 rfl) rfl rfl (Nat.le_of_ble_eq_true rfl) (Nat.le_of_ble_eq_true rfl) (by decide) rfl rfl (fun _ => rfl) (fun κ' Ψ hΨ => run_pC_getAllWanted R hΨ) h (fun v2 D8 h => ?_)
  show Run Γ rg κ Y_X7_rename 95 [(8, 0), (0, p1), (0, p2), (0, x1), (0, x2), (0, x3), (0, x4)] [(0, v2)] D8 Φ
  refine c_callSv (as := [(0, v2)]) (rest := []) (ls' := [(0, v2)]) d_X7_rename_95 ck_RX7_130 rfl rfl rfl (Nat.le_of_ble_eq_true rfl) (Nat.le_of_ble_eq_true rfl) (by decide) rfl rfl (fun κ' Ψ hΨ => run_pH_requireRoom R _ hΨ) h (fun _ D9 h => ?_)
  show Run Γ rg κ Y_X7_rename 98 [(8, 0), (0, p1), (0, p2), (0, x1), (0, x2), (0, x3), (0, x4)] [] D9 Φ
  refine r_aload_n d_X7_rename_98 rfl (by decide) ?_
  refine r_getR (t := 11) d_X7_rename_99 fk_RX7_34 sh_0 rfl (by decide) (R 0 rfl) ?_
  refine r_iload d_X7_rename_102 rfl ?_
  refine r_iload_n d_X7_rename_104 rfl ?_
  refine r_iload_n d_X7_rename_105 rfl ?_
  refine c_callSPi (as := [(0, p1), (0, p2)]) (rest := [(0, x3), (19, 0)]) (ls' := [(0, p1), (0, p2)]) d_X7_rename_106 ck_RX7_118 rfl rfl rfl (Nat.le_of_ble_eq_true rfl) (Nat.le_of_ble_eq_true rfl) (by decide) rfl rfl (fun Ψ hΨ => run_pL_entryOf R _ _ rfl hΨ) ?_
  show Run Γ rg κ Y_X7_rename 109 [(8, 0), (0, p1), (0, p2), (0, x1), (0, x2), (0, x3), (0, x4)] [(0, (pL_entryOf p1 p2)), (0, x3), (19, 0)] D9 Φ
  refine r_iconst d_X7_rename_109 ?_
  refine c_callVv (a := 11) (z := 0) (as := [(0, x3), (0, (pL_entryOf p1 p2)), (0, 0)]) (rest := []) (ls' := [(19, 0), (0, x3), (0, (pL_entryOf p1 p2)), (0, 0), (5, 0), (5, 0), (5, 0)]) d_X7_rename_110 ck_RX7_133 rfl sh_11 rfl (by decide) (R 11 rfl) rfl rfl (Nat.le_of_ble_eq_true rfl) (Nat.le_of_ble_eq_true rfl) (by decide) rfl rfl (fun κ' Ψ hΨ => run_pL_putIn R _ _ _ hΨ) h (fun _ D10 h => ?_)
  show Run Γ rg κ Y_X7_rename 113 [(8, 0), (0, p1), (0, p2), (0, x1), (0, x2), (0, x3), (0, x4)] [] D10 Φ
  refine r_aload_n d_X7_rename_113 rfl (by decide) ?_
  show Run Γ rg κ Y_X7_rename 114 [(8, 0), (0, p1), (0, p2), (0, x1), (0, x2), (0, x3), (0, x4)] [(8, 0)] D10 Φ
  refine r_getR (t := 11) d_X7_rename_114 fk_RX7_34 sh_0 rfl (by decide) (R 0 rfl) ?_
  refine r_iload d_X7_rename_117 rfl ?_
  refine r_iload_n d_X7_rename_119 rfl ?_
  refine r_iload d_X7_rename_120 rfl ?_
  refine c_callSPi (as := [(0, p1), (0, x4)]) (rest := [(0, x3), (19, 0)]) (ls' := [(0, p1), (0, x4)]) d_X7_rename_122 ck_RX7_118 rfl rfl rfl (Nat.le_of_ble_eq_true rfl) (Nat.le_of_ble_eq_true rfl) (by decide) rfl rfl (fun Ψ hΨ => run_pL_entryOf R _ _ rfl hΨ) ?_
  show Run Γ rg κ Y_X7_rename 125 [(8, 0), (0, p1), (0, p2), (0, x1), (0, x2), (0, x3), (0, x4)] [(0, (pL_entryOf p1 x4)), (0, x3), (19, 0)] D10 Φ
  refine c_callVi (t' := (some .int)) (a := 11) (z := 0) (as := [(0, x3), (0, (pL_entryOf p1 x4))]) (rest := []) (ls' := [(19, 0), (0, x3), (0, (pL_entryOf p1 x4)), (5, 0), (5, 0)]) d_X7_rename_125 ck_RX7_137 rfl sh_11 rfl (by decide) (R 11 rfl) rfl rfl (Nat.le_of_ble_eq_true rfl) (Nat.le_of_ble_eq_true rfl) (by decide) rfl rfl (fun _ => rfl) (fun κ' Ψ hΨ => run_pL_takeOut R _ _ hΨ) h (fun v3 D11 h => ?_)
  show Run Γ rg κ Y_X7_rename 128 [(8, 0), (0, p1), (0, p2), (0, x1), (0, x2), (0, x3), (0, x4)] [(0, v3)] D11 Φ
  refine r_pop d_X7_rename_128 (show (0 : Nat) ≠ 1 by decide) ?_
  refine r_aload_n d_X7_rename_129 rfl (by decide) ?_
  refine r_getR (t := 2) d_X7_rename_130 fk_RX7_21 sh_0 rfl (by decide) (R 0 rfl) ?_
  refine r_iload_n d_X7_rename_133 rfl ?_
  refine r_iconst d_X7_rename_134 ?_
  refine r_iadd d_X7_rename_135 ?_
  show Run Γ rg κ Y_X7_rename 136 [(8, 0), (0, p1), (0, p2), (0, x1), (0, x2), (0, x3), (0, x4)] [(0, (x1 + 0)), (10, 0)] D11 Φ
  refine r_iload_n d_X7_rename_136 rfl ?_
  refine c_callVD (a := 2) (z := 0) (as := [(0, (x1 + 0)), (0, p2)]) (rest := []) (ls' := [(10, 0), (0, (x1 + 0)), (0, p2)]) d_X7_rename_137 ck_RX7_140 rfl sh_2 rfl (by decide) (R 2 rfl) rfl rfl (Nat.le_of_ble_eq_true rfl) (Nat.le_of_ble_eq_true rfl) (by decide) rfl rfl (fun Ψ hΨ => run_pI_putUnit R _ _ hΨ) h (fun D12 h => ?_)
  show Run Γ rg κ Y_X7_rename 140 [(8, 0), (0, p1), (0, p2), (0, x1), (0, x2), (0, x3), (0, x4)] [] D12 Φ
  refine r_aload_n d_X7_rename_140 rfl (by decide) ?_
  refine r_getR (t := 7) d_X7_rename_141 fk_RX7_25 sh_0 rfl (by decide) (R 0 rfl) ?_
  refine r_iload_n d_X7_rename_144 rfl ?_
  refine c_callVv (a := 7) (z := 0) (as := [(0, x1)]) (rest := []) (ls' := [(15, 0), (0, x1), (5, 0), (5, 0)]) d_X7_rename_145 ck_RX7_143 rfl sh_7 rfl (by decide) (R 7 rfl) rfl rfl (Nat.le_of_ble_eq_true rfl) (Nat.le_of_ble_eq_true rfl) (by decide) rfl rfl (fun κ' Ψ hΨ => run_pC_markWritten R _ hΨ) h (fun _ D13 h => ?_)
  show Run Γ rg κ Y_X7_rename 148 [(8, 0), (0, p1), (0, p2), (0, x1), (0, x2), (0, x3), (0, x4)] [] D13 Φ
  refine r_aload_n d_X7_rename_148 rfl (by decide) ?_
  refine r_iload d_X7_rename_149 rfl ?_
  refine r_iconst d_X7_rename_151 ?_
  refine c_callVv (a := 0) (z := 0) (as := [(0, x2), (0, 1)]) (rest := []) (ls' := [(8, 0), (0, x2), (0, 1), (5, 0), (5, 0)]) d_X7_rename_152 ck_RX7_146 rfl sh_0 rfl (by decide) (R 0 rfl) rfl rfl (Nat.le_of_ble_eq_true rfl) (Nat.le_of_ble_eq_true rfl) (by decide) rfl rfl (fun κ' Ψ hΨ => run_pH_tellUpwards R _ _ hΨ) h (fun _ D14 h => ?_)
  show Run Γ rg κ Y_X7_rename 155 [(8, 0), (0, p1), (0, p2), (0, x1), (0, x2), (0, x3), (0, x4)] [] D14 Φ
  refine r_iload d_X7_rename_155 rfl ?_
  exact c_iret d_X7_rename_157 rfl h
set_option maxRecDepth 20000 in
theorem run_pH_requireNoSubkeys {Γ : GG} {rg : Nat → Bool} {κ : Nat} {Φ : OT → DD → Prop} (R : cov rg rg0) (p1 : Int) {D : DD} (h : WP none κ Φ (pH_requireNoSubkeys p1 D)) : Run Γ rg κ Y_X7_requireNoSubkeys 0 [(8, 0), (0, p1)] [] D Φ := by
  unfold pH_requireNoSubkeys at h
  show Run Γ rg κ Y_X7_requireNoSubkeys 0 [(8, 0), (0, p1)] [] D Φ
  refine r_aload_n d_X7_requireNoSubkeys_0 rfl (by decide) ?_
  refine r_getR (t := 11) d_X7_requireNoSubkeys_1 fk_RX7_34 sh_0 rfl (by decide) (R 0 rfl) ?_
  refine r_iload_n d_X7_requireNoSubkeys_4 rfl ?_
  refine c_callVPi (a := 11) (z := 0) (as := [(0, p1)]) (rest := []) (ls' := [(19, 0), (0, p1), (5, 0)]) d_X7_requireNoSubkeys_5 ck_RX7_183 rfl sh_11 rfl (by decide) (R 11 rfl) rfl rfl (Nat.le_of_ble_eq_true rfl) (Nat.le_of_ble_eq_true rfl) (by decide) rfl rfl (fun Ψ hΨ => run_pL_leafCount R _ rfl hΨ) ?_
  show Run Γ rg κ Y_X7_requireNoSubkeys 8 [(8, 0), (0, p1)] [(0, (pL_leafCount p1 D))] D Φ
  refine c_if_eq (tgt := 22) d_X7_requireNoSubkeys_8 (by decide) (nz_w _) h (fun h => ?_) (fun h => ?_)
  · skip
    show Run Γ rg κ Y_X7_requireNoSubkeys 22 [(8, 0), (0, p1)] [] D Φ
    exact c_vret d_X7_requireNoSubkeys_22 rfl h
  · skip
    show Run Γ rg κ Y_X7_requireNoSubkeys 11 [(8, 0), (0, p1)] [] D Φ
    exact c_throwW (text := "the key has subkeys") tk_RX7_204_208 (by decide +kernel) d_X7_requireNoSubkeys_11 d_X7_requireNoSubkeys_14 d_X7_requireNoSubkeys_15 d_X7_requireNoSubkeys_18 d_X7_requireNoSubkeys_21 rfl (by decide) (Nat.le_of_ble_eq_true rfl) h
set_option maxRecDepth 20000 in
theorem run_pV_valueCount {Γ : GG} {rg : Nat → Bool} {κ : Nat} {Φ : OT → DD → Prop} (R : cov rg rg0) (p1 : Int) {D : DD} {x : Int} (h : EQx x (pV_valueCount p1 D)) (hΦ : Φ (.inl (some (0, x))) D) : Run Γ rg κ Y_X5_valueCount 0 [(20, 0), (0, p1), (5, 0)] [] D Φ := by
  unfold pV_valueCount at h
  show Run Γ rg κ Y_X5_valueCount 0 [(20, 0), (0, p1), (5, 0)] [] D Φ
  refine r_aload_n d_X5_valueCount_0 rfl (by decide) ?_
  refine r_getR (t := 2) d_X5_valueCount_1 fk_RX5_9 sh_12 rfl (by decide) (R 12 rfl) ?_
  refine r_iload_n d_X5_valueCount_4 rfl ?_
  refine r_iconst d_X5_valueCount_5 ?_
  refine r_iadd d_X5_valueCount_6 ?_
  refine c_callVPi (a := 2) (z := 0) (as := [(0, (p1 + 3))]) (rest := []) (ls' := [(10, 0), (0, (p1 + 3))]) d_X5_valueCount_7 ck_RX5_19 rfl sh_2 rfl (by decide) (R 2 rfl) rfl rfl (Nat.le_of_ble_eq_true rfl) (Nat.le_of_ble_eq_true rfl) (by decide) rfl rfl (fun Ψ hΨ => run_pI_unitAt R _ rfl hΨ) ?_
  show Run Γ rg κ Y_X5_valueCount 10 [(20, 0), (0, p1), (5, 0)] [(0, (pI_unitAt (p1 + 3) D))] D Φ
  refine c_lt_n d_X5_valueCount_10 (by decide) rfl h (fun x1 h => ?_)
  show Run Γ rg κ Y_X5_valueCount 11 [(20, 0), (0, p1), (0, x1)] [] D Φ
  refine r_iload_n d_X5_valueCount_11 rfl ?_
  refine c_if_ne (tgt := 19) d_X5_valueCount_12 (by decide) (nz_w _) h (fun h => ?_) (fun h => ?_)
  · skip
    show Run Γ rg κ Y_X5_valueCount 19 [(20, 0), (0, p1), (0, x1)] [] D Φ
    refine r_aload_n d_X5_valueCount_19 rfl (by decide) ?_
    refine r_getR (t := 2) d_X5_valueCount_20 fk_RX5_9 sh_12 rfl (by decide) (R 12 rfl) ?_
    refine r_iload_n d_X5_valueCount_23 rfl ?_
    refine c_callVPi (a := 2) (z := 0) (as := [(0, x1)]) (rest := []) (ls' := [(10, 0), (0, x1)]) d_X5_valueCount_24 ck_RX5_25 rfl sh_2 rfl (by decide) (R 2 rfl) rfl rfl (Nat.le_of_ble_eq_true rfl) (Nat.le_of_ble_eq_true rfl) (by decide) rfl rfl (fun Ψ hΨ => run_pI_itemCount R _ rfl hΨ) ?_
    show Run Γ rg κ Y_X5_valueCount 27 [(20, 0), (0, p1), (0, x1)] [(0, (pI_itemCount x1 D))] D Φ
    exact e_iret d_X5_valueCount_27 rfl h hΦ
  · skip
    show Run Γ rg κ Y_X5_valueCount 15 [(20, 0), (0, p1), (0, x1)] [] D Φ
    refine r_iconst d_X5_valueCount_15 ?_
    refine r_goto (tgt := 27) d_X5_valueCount_16 (by decide) ?_
    show Run Γ rg κ Y_X5_valueCount 27 [(20, 0), (0, p1), (0, x1)] [(0, 0)] D Φ
    exact e_iret d_X5_valueCount_27 rfl h hΦ
set_option maxRecDepth 20000 in
theorem run_pV_cellNumbered {Γ : GG} {rg : Nat → Bool} {κ : Nat} {Φ : OT → DD → Prop} (R : cov rg rg0) (p1 : Int) (p2 : Int) {D : DD} {x : Int} (h : EQx x (pV_cellNumbered p1 p2 D)) (hΦ : Φ (.inl (some (0, x))) D) : Run Γ rg κ Y_X5_cellNumbered 0 [(20, 0), (0, p1), (0, p2)] [] D Φ := by
  unfold pV_cellNumbered at h
  show Run Γ rg κ Y_X5_cellNumbered 0 [(20, 0), (0, p1), (0, p2)] [] D Φ
  refine r_aload_n d_X5_cellNumbered_0 rfl (by decide) ?_
  refine r_getR (t := 2) d_X5_cellNumbered_1 fk_RX5_9 sh_12 rfl (by decide) (R 12 rfl) ?_
  refine r_aload_n d_X5_cellNumbered_4 rfl (by decide) ?_
  refine r_getR (t := 2) d_X5_cellNumbered_5 fk_RX5_9 sh_12 rfl (by decide) (R 12 rfl) ?_
  refine r_iload_n d_X5_cellNumbered_8 rfl ?_
  refine r_iconst d_X5_cellNumbered_9 ?_
  refine r_iadd d_X5_cellNumbered_10 ?_
  refine c_callVPi (a := 2) (z := 0) (as := [(0, (p1 + 3))]) (rest := [(10, 0)]) (ls' := [(10, 0), (0, (p1 + 3))]) d_X5_cellNumbered_11 ck_RX5_19 rfl sh_2 rfl (by decide) (R 2 rfl) rfl rfl (Nat.le_of_ble_eq_true rfl) (Nat.le_of_ble_eq_true rfl) (by decide) rfl rfl (fun Ψ hΨ => run_pI_unitAt R _ rfl hΨ) ?_
  show Run Γ rg κ Y_X5_cellNumbered 14 [(20, 0), (0, p1), (0, p2)] [(0, (pI_unitAt (p1 + 3) D)), (10, 0)] D Φ
  refine r_iload_n d_X5_cellNumbered_14 rfl ?_
  refine c_callVPi (a := 2) (z := 0) (as := [(0, (pI_unitAt (p1 + 3) D)), (0, p2)]) (rest := []) (ls' := [(10, 0), (0, (pI_unitAt (p1 + 3) D)), (0, p2)]) d_X5_cellNumbered_15 ck_RX5_104 rfl sh_2 rfl (by decide) (R 2 rfl) rfl rfl (Nat.le_of_ble_eq_true rfl) (Nat.le_of_ble_eq_true rfl) (by decide) rfl rfl (fun Ψ hΨ => run_pI_item R _ _ rfl hΨ) ?_
  show Run Γ rg κ Y_X5_cellNumbered 18 [(20, 0), (0, p1), (0, p2)] [(0, (pI_item (pI_unitAt (p1 + 3) D) p2 D))] D Φ
  exact e_iret d_X5_cellNumbered_18 rfl h hΦ
set_option maxRecDepth 20000 in
theorem run_pV_giveBackPieces_7 {Γ : GG} {rg : Nat → Bool} {κ : Nat} {Φ : OT → DD → Prop} (R : cov rg rg0) : ∀ (n : Nat) (a2 : Int) (a3 : Int) (a4 : Int) (D : DD), WP (some .int) κ Φ (pV_giveBackPieces_7 n a2 a3 a4 D) → Run Γ rg κ Y_X5_giveBackPieces 7 [(20, 0), (5, 0), (0, a2), (0, a3), (0, a4), (5, 0)] [] D Φ := by
  intro n
  induction n with
  | zero => intro a2 a3 a4 D h; exact h.no.elim
  | succ n ih =>
    intro a2 a3 a4 D h
    rw [pV_giveBackPieces_7] at h
    show Run Γ rg κ Y_X5_giveBackPieces 7 [(20, 0), (5, 0), (0, a2), (0, a3), (0, a4), (5, 0)] [] D Φ
    refine r_iload d_X5_giveBackPieces_7 rfl ?_
    refine r_iconst d_X5_giveBackPieces_9 ?_
    refine c_icmp_ge (tgt := 47) d_X5_giveBackPieces_10 (by decide) (nz_w _) (nz_k rfl) h (fun h => ?_) (fun h => ?_)
    · skip
      show Run Γ rg κ Y_X5_giveBackPieces 47 [(20, 0), (5, 0), (0, a2), (0, a3), (0, a4), (5, 0)] [] D Φ
      refine r_iload_n d_X5_giveBackPieces_47 rfl ?_
      exact c_iret d_X5_giveBackPieces_48 rfl h
    · skip
      show Run Γ rg κ Y_X5_giveBackPieces 13 [(20, 0), (5, 0), (0, a2), (0, a3), (0, a4), (5, 0)] [] D Φ
      refine r_iload_n d_X5_giveBackPieces_13 rfl ?_
      refine c_if_eq (tgt := 47) d_X5_giveBackPieces_14 (by decide) (nz_w _) h (fun h => ?_) (fun h => ?_)
      · skip
        show Run Γ rg κ Y_X5_giveBackPieces 47 [(20, 0), (5, 0), (0, a2), (0, a3), (0, a4), (5, 0)] [] D Φ
        refine r_iload_n d_X5_giveBackPieces_47 rfl ?_
        exact c_iret d_X5_giveBackPieces_48 rfl h
      · skip
        show Run Γ rg κ Y_X5_giveBackPieces 17 [(20, 0), (5, 0), (0, a2), (0, a3), (0, a4), (5, 0)] [] D Φ
        refine r_aload_n d_X5_giveBackPieces_17 rfl (by decide) ?_
        refine r_getR (t := 2) d_X5_giveBackPieces_18 fk_RX5_9 sh_12 rfl (by decide) (R 12 rfl) ?_
        refine r_iload_n d_X5_giveBackPieces_21 rfl ?_
        refine c_callVPi (a := 2) (z := 0) (as := [(0, a3)]) (rest := []) (ls' := [(10, 0), (0, a3)]) d_X5_giveBackPieces_22 ck_RX5_19 rfl sh_2 rfl (by decide) (R 2 rfl) rfl rfl (Nat.le_of_ble_eq_true rfl) (Nat.le_of_ble_eq_true rfl) (by decide) rfl rfl (fun Ψ hΨ => run_pI_unitAt R _ rfl hΨ) ?_
        show Run Γ rg κ Y_X5_giveBackPieces 25 [(20, 0), (5, 0), (0, a2), (0, a3), (0, a4), (5, 0)] [(0, (pI_unitAt a3 D))] D Φ
        refine c_lt d_X5_giveBackPieces_25 (by decide) rfl h (fun x1 h => ?_)
        show Run Γ rg κ Y_X5_giveBackPieces 27 [(20, 0), (5, 0), (0, a2), (0, a3), (0, a4), (0, x1)] [] D Φ
        refine r_iload_n d_X5_giveBackPieces_27 rfl ?_
        refine r_aload_n d_X5_giveBackPieces_28 rfl (by decide) ?_
        refine r_getR (t := 7) d_X5_giveBackPieces_29 fk_RX5_15 sh_12 rfl (by decide) (R 12 rfl) ?_
        refine r_iload_n d_X5_giveBackPieces_32 rfl ?_
        refine c_callVi (t' := (some .int)) (a := 7) (z := 0) (as := [(0, a3)]) (rest := [(0, a2)]) (ls' := [(15, 0), (0, a3), (5, 0), (5, 0), (5, 0), (5, 0), (5, 0)]) d_X5_giveBackPieces_33 ck_RX5_115 rfl sh_7 rfl (by decide) (R 7 rfl) rfl rfl (Nat.le_of_ble_eq_true rfl) (Nat.le_of_ble_eq_true rfl) (by decide) rfl rfl (fun _ => rfl) (fun κ' Ψ hΨ => run_pC_giveBack R _ hΨ) h (fun v1 D1 h => ?_)
        show Run Γ rg κ Y_X5_giveBackPieces 36 [(20, 0), (5, 0), (0, a2), (0, a3), (0, a4), (0, x1)] [(0, v1), (0, a2)] D1 Φ
        refine r_iadd d_X5_giveBackPieces_36 ?_
        show Run Γ rg κ Y_X5_giveBackPieces 37 [(20, 0), (5, 0), (0, a2), (0, a3), (0, a4), (0, x1)] [(0, (a2 + v1))] D1 Φ
        refine c_lt_n d_X5_giveBackPieces_37 (by decide) rfl h (fun x2 h => ?_)
        show Run Γ rg κ Y_X5_giveBackPieces 38 [(20, 0), (5, 0), (0, x2), (0, a3), (0, a4), (0, x1)] [] D1 Φ
        refine r_iload d_X5_giveBackPieces_38 rfl ?_
        refine r_istore_n d_X5_giveBackPieces_40 (by decide) rfl ?_
        show Run Γ rg κ Y_X5_giveBackPieces 41 [(20, 0), (5, 0), (0, x2), (0, x1), (0, a4), (0, x1)] [] D1 Φ
        refine r_iinc d_X5_giveBackPieces_41 rfl (by decide) rfl ?_
        show Run Γ rg κ Y_X5_giveBackPieces 44 [(20, 0), (5, 0), (0, x2), (0, x1), (0, (a4 + 1)), (0, x1)] [] D1 Φ
        refine r_goto (tgt := 7) d_X5_giveBackPieces_44 (by decide) ?_
        exact Run.forget (ls' := [(20, 0), (5, 0), (0, x2), (0, x1), (0, (a4 + 1)), (5, 0)]) ⟨Or.inr rfl, Or.inr rfl, Or.inr rfl, Or.inr rfl, Or.inr rfl, Or.inl rfl, trivial⟩ (ih x2 x1 (a4 + 1) D1 h)
set_option maxRecDepth 20000 in
theorem run_pV_giveBackPieces {Γ : GG} {rg : Nat → Bool} {κ : Nat} {Φ : OT → DD → Prop} (R : cov rg rg0) (p1 : Int) {D : DD} (h : WP (some .int) κ Φ (pV_giveBackPieces p1 D)) : Run Γ rg κ Y_X5_giveBackPieces 0 [(20, 0), (0, p1), (5, 0), (5, 0), (5, 0), (5, 0)] [] D Φ := by
  unfold pV_giveBackPieces at h
  show Run Γ rg κ Y_X5_giveBackPieces 0 [(20, 0), (0, p1), (5, 0), (5, 0), (5, 0), (5, 0)] [] D Φ
  refine r_iconst d_X5_giveBackPieces_0 ?_
  refine r_istore_n d_X5_giveBackPieces_1 (by decide) rfl ?_
  show Run Γ rg κ Y_X5_giveBackPieces 2 [(20, 0), (0, p1), (0, 0), (5, 0), (5, 0), (5, 0)] [] D Φ
  refine r_iload_n d_X5_giveBackPieces_2 rfl ?_
  refine r_istore_n d_X5_giveBackPieces_3 (by decide) rfl ?_
  show Run Γ rg κ Y_X5_giveBackPieces 4 [(20, 0), (0, p1), (0, 0), (0, p1), (5, 0), (5, 0)] [] D Φ
  refine r_iconst d_X5_giveBackPieces_4 ?_
  refine r_istore d_X5_giveBackPieces_5 (by decide) rfl ?_
  show Run Γ rg κ Y_X5_giveBackPieces 7 [(20, 0), (0, p1), (0, 0), (0, p1), (0, 0), (5, 0)] [] D Φ
  refine Run.forget (ls' := [(20, 0), (5, 0), (0, 0), (0, p1), (0, 0), (5, 0)]) ⟨Or.inr rfl, Or.inl rfl, Or.inr rfl, Or.inr rfl, Or.inr rfl, Or.inr rfl, trivial⟩ ?_
  exact run_pV_giveBackPieces_7 R fu 0 p1 0 D h
set_option maxRecDepth 20000 in
theorem run_pV_giveBackValue {Γ : GG} {rg : Nat → Bool} {κ : Nat} {Φ : OT → DD → Prop} (R : cov rg rg0) (p1 : Int) {D : DD} (h : WP (some .int) κ Φ (pV_giveBackValue p1 D)) : Run Γ rg κ Y_X5_giveBackValue 0 [(20, 0), (0, p1)] [] D Φ := by
  unfold pV_giveBackValue at h
  show Run Γ rg κ Y_X5_giveBackValue 0 [(20, 0), (0, p1)] [] D Φ
  refine r_aload_n d_X5_giveBackValue_0 rfl (by decide) ?_
  refine r_aload_n d_X5_giveBackValue_1 rfl (by decide) ?_
  refine r_getR (t := 2) d_X5_giveBackValue_2 fk_RX5_9 sh_12 rfl (by decide) (R 12 rfl) ?_
  refine r_iload_n d_X5_giveBackValue_5 rfl ?_
  refine r_iconst d_X5_giveBackValue_6 ?_
  refine r_iadd d_X5_giveBackValue_7 ?_
  refine c_callVPi (a := 2) (z := 0) (as := [(0, (p1 + 2))]) (rest := [(20, 0)]) (ls' := [(10, 0), (0, (p1 + 2))]) d_X5_giveBackValue_8 ck_RX5_19 rfl sh_2 rfl (by decide) (R 2 rfl) rfl rfl (Nat.le_of_ble_eq_true rfl) (Nat.le_of_ble_eq_true rfl) (by decide) rfl rfl (fun Ψ hΨ => run_pI_unitAt R _ rfl hΨ) ?_
  show Run Γ rg κ Y_X5_giveBackValue 11 [(20, 0), (0, p1)] [(0, (pI_unitAt (p1 + 2) D)), (20, 0)] D Φ
  refine c_callVi (t' := (some .int)) (a := 12) (z := 0) (as := [(0, (pI_unitAt (p1 + 2) D))]) (rest := []) (ls' := [(20, 0), (0, (pI_unitAt (p1 + 2) D)), (5, 0), (5, 0), (5, 0), (5, 0)]) d_X5_giveBackValue_11 ck_RX5_80 rfl sh_12 rfl (by decide) (R 12 rfl) rfl rfl (Nat.le_of_ble_eq_true rfl) (Nat.le_of_ble_eq_true rfl) (by decide) rfl rfl (fun _ => rfl) (fun κ' Ψ hΨ => run_pV_giveBackPieces R _ hΨ) h (fun v1 D1 h => ?_)
  show Run Γ rg κ Y_X5_giveBackValue 14 [(20, 0), (0, p1)] [(0, v1)] D1 Φ
  refine r_aload_n d_X5_giveBackValue_14 rfl (by decide) ?_
  refine r_getR (t := 7) d_X5_giveBackValue_15 fk_RX5_15 sh_12 rfl (by decide) (R 12 rfl) ?_
  refine r_iload_n d_X5_giveBackValue_18 rfl ?_
  show Run Γ rg κ Y_X5_giveBackValue 19 [(20, 0), (0, p1)] [(0, p1), (15, 0), (0, v1)] D1 Φ
  refine c_callVi (t' := (some .int)) (a := 7) (z := 0) (as := [(0, p1)]) (rest := [(0, v1)]) (ls' := [(15, 0), (0, p1), (5, 0), (5, 0), (5, 0), (5, 0), (5, 0)]) d_X5_giveBackValue_19 ck_RX5_115 rfl sh_7 rfl (by decide) (R 7 rfl) rfl rfl (Nat.le_of_ble_eq_true rfl) (Nat.le_of_ble_eq_true rfl) (by decide) rfl rfl (fun _ => rfl) (fun κ' Ψ hΨ => run_pC_giveBack R _ hΨ) h (fun v2 D2 h => ?_)
  show Run Γ rg κ Y_X5_giveBackValue 22 [(20, 0), (0, p1)] [(0, v2), (0, v1)] D2 Φ
  refine r_iadd d_X5_giveBackValue_22 ?_
  exact c_iret d_X5_giveBackValue_23 rfl h
set_option maxRecDepth 20000 in
theorem run_pV_dropAll_11 {Γ : GG} {rg : Nat → Bool} {κ : Nat} {Φ : OT → DD → Prop} (R : cov rg rg0) (a1 : Int) (a2 : Int) {K : Int → DD → Res} (hK : ∀ (z3 : Int) (D : DD), WP (some .int) κ Φ (K z3 D) → Run Γ rg κ Y_X5_dropAll 37 [(20, 0), (0, a1), (0, a2), (0, z3), (5, 0)] [] D Φ) : ∀ (n : Nat) (a3 : Int) (a4 : Int) (D : DD), WP (some .int) κ Φ (pV_dropAll_11 a1 a2 n a3 a4 D K) → Run Γ rg κ Y_X5_dropAll 11 [(20, 0), (0, a1), (0, a2), (0, a3), (0, a4)] [] D Φ := by
  intro n
  induction n with
  | zero => intro a3 a4 D h; exact h.no.elim
  | succ n ih =>
    intro a3 a4 D h
    rw [pV_dropAll_11] at h
    show Run Γ rg κ Y_X5_dropAll 11 [(20, 0), (0, a1), (0, a2), (0, a3), (0, a4)] [] D Φ
    refine r_iload d_X5_dropAll_11 rfl ?_
    refine r_iload_n d_X5_dropAll_13 rfl ?_
    refine c_icmp_ge (tgt := 37) d_X5_dropAll_14 (by decide) (nz_w _) (nz_w _) h (fun h => ?_) (fun h => ?_)
    · skip
      exact Run.forget (ls' := [(20, 0), (0, a1), (0, a2), (0, a3), (5, 0)]) ⟨Or.inr rfl, Or.inr rfl, Or.inr rfl, Or.inr rfl, Or.inl rfl, trivial⟩ (hK a3 D h)
    · skip
      show Run Γ rg κ Y_X5_dropAll 17 [(20, 0), (0, a1), (0, a2), (0, a3), (0, a4)] [] D Φ
      refine r_iload_n d_X5_dropAll_17 rfl ?_
      refine r_aload_n d_X5_dropAll_18 rfl (by decide) ?_
      refine r_aload_n d_X5_dropAll_19 rfl (by decide) ?_
      refine r_iload_n d_X5_dropAll_20 rfl ?_
      refine r_iload d_X5_dropAll_21 rfl ?_
      refine c_callVPi (a := 12) (z := 0) (as := [(0, a1), (0, a4)]) (rest := [(20, 0), (0, a3)]) (ls' := [(20, 0), (0, a1), (0, a4)]) d_X5_dropAll_23 ck_RX5_31 rfl sh_12 rfl (by decide) (R 12 rfl) rfl rfl (Nat.le_of_ble_eq_true rfl) (Nat.le_of_ble_eq_true rfl) (by decide) rfl rfl (fun Ψ hΨ => run_pV_cellNumbered R _ _ rfl hΨ) ?_
      show Run Γ rg κ Y_X5_dropAll 26 [(20, 0), (0, a1), (0, a2), (0, a3), (0, a4)] [(0, (pV_cellNumbered a1 a4 D)), (20, 0), (0, a3)] D Φ
      refine c_callVi (t' := (some .int)) (a := 12) (z := 0) (as := [(0, (pV_cellNumbered a1 a4 D))]) (rest := [(0, a3)]) (ls' := [(20, 0), (0, (pV_cellNumbered a1 a4 D))]) d_X5_dropAll_26 ck_RX5_92 rfl sh_12 rfl (by decide) (R 12 rfl) rfl rfl (Nat.le_of_ble_eq_true rfl) (Nat.le_of_ble_eq_true rfl) (by decide) rfl rfl (fun _ => rfl) (fun κ' Ψ hΨ => run_pV_giveBackValue R _ hΨ) h (fun v1 D1 h => ?_)
      show Run Γ rg κ Y_X5_dropAll 29 [(20, 0), (0, a1), (0, a2), (0, a3), (0, a4)] [(0, v1), (0, a3)] D1 Φ
      refine r_iadd d_X5_dropAll_29 ?_
      refine c_lt_n d_X5_dropAll_30 (by decide) rfl h (fun x1 h => ?_)
      show Run Γ rg κ Y_X5_dropAll 31 [(20, 0), (0, a1), (0, a2), (0, x1), (0, a4)] [] D1 Φ
      refine r_iinc d_X5_dropAll_31 rfl (by decide) rfl ?_
      show Run Γ rg κ Y_X5_dropAll 34 [(20, 0), (0, a1), (0, a2), (0, x1), (0, (a4 + 1))] [] D1 Φ
      refine r_goto (tgt := 11) d_X5_dropAll_34 (by decide) ?_
      exact (ih x1 (a4 + 1) D1 h)
set_option maxRecDepth 20000 in
theorem run_pV_giveBackList {Γ : GG} {rg : Nat → Bool} {κ : Nat} {Φ : OT → DD → Prop} (R : cov rg rg0) (p1 : Int) {D : DD} (h : WP (some .int) κ Φ (pV_giveBackList p1 D)) : Run Γ rg κ Y_X5_giveBackList 0 [(20, 0), (0, p1), (5, 0)] [] D Φ := by
  unfold pV_giveBackList at h
  show Run Γ rg κ Y_X5_giveBackList 0 [(20, 0), (0, p1), (5, 0)] [] D Φ
  refine r_aload_n d_X5_giveBackList_0 rfl (by decide) ?_
  refine r_getR (t := 2) d_X5_giveBackList_1 fk_RX5_9 sh_12 rfl (by decide) (R 12 rfl) ?_
  refine r_iload_n d_X5_giveBackList_4 rfl ?_
  refine r_iconst d_X5_giveBackList_5 ?_
  refine r_iadd d_X5_giveBackList_6 ?_
  refine c_callVPi (a := 2) (z := 0) (as := [(0, (p1 + 3))]) (rest := []) (ls' := [(10, 0), (0, (p1 + 3))]) d_X5_giveBackList_7 ck_RX5_19 rfl sh_2 rfl (by decide) (R 2 rfl) rfl rfl (Nat.le_of_ble_eq_true rfl) (Nat.le_of_ble_eq_true rfl) (by decide) rfl rfl (fun Ψ hΨ => run_pI_unitAt R _ rfl hΨ) ?_
  show Run Γ rg κ Y_X5_giveBackList 10 [(20, 0), (0, p1), (5, 0)] [(0, (pI_unitAt (p1 + 3) D))] D Φ
  refine c_lt_n d_X5_giveBackList_10 (by decide) rfl h (fun x1 h => ?_)
  show Run Γ rg κ Y_X5_giveBackList 11 [(20, 0), (0, p1), (0, x1)] [] D Φ
  refine r_aload_n d_X5_giveBackList_11 rfl (by decide) ?_
  refine r_getR (t := 2) d_X5_giveBackList_12 fk_RX5_9 sh_12 rfl (by decide) (R 12 rfl) ?_
  refine r_iload_n d_X5_giveBackList_15 rfl ?_
  refine r_iconst d_X5_giveBackList_16 ?_
  show Run Γ rg κ Y_X5_giveBackList 17 [(20, 0), (0, p1), (0, x1)] [(0, 3), (0, p1), (10, 0)] D Φ
  refine r_iadd d_X5_giveBackList_17 ?_
  refine r_iconst d_X5_giveBackList_18 ?_
  refine c_callVD (a := 2) (z := 0) (as := [(0, (p1 + 3)), (0, 0)]) (rest := []) (ls' := [(10, 0), (0, (p1 + 3)), (0, 0)]) d_X5_giveBackList_19 ck_RX5_74 rfl sh_2 rfl (by decide) (R 2 rfl) rfl rfl (Nat.le_of_ble_eq_true rfl) (Nat.le_of_ble_eq_true rfl) (by decide) rfl rfl (fun Ψ hΨ => run_pI_putUnit R _ _ hΨ) h (fun D1 h => ?_)
  show Run Γ rg κ Y_X5_giveBackList 22 [(20, 0), (0, p1), (0, x1)] [] D1 Φ
  refine r_aload_n d_X5_giveBackList_22 rfl (by decide) ?_
  refine r_getR (t := 7) d_X5_giveBackList_23 fk_RX5_15 sh_12 rfl (by decide) (R 12 rfl) ?_
  refine r_iload_n d_X5_giveBackList_26 rfl ?_
  refine c_callVi (t' := (some .int)) (a := 7) (z := 0) (as := [(0, x1)]) (rest := []) (ls' := [(15, 0), (0, x1), (5, 0), (5, 0), (5, 0), (5, 0), (5, 0)]) d_X5_giveBackList_27 ck_RX5_115 rfl sh_7 rfl (by decide) (R 7 rfl) rfl rfl (Nat.le_of_ble_eq_true rfl) (Nat.le_of_ble_eq_true rfl) (by decide) rfl rfl (fun _ => rfl) (fun κ' Ψ hΨ => run_pC_giveBack R _ hΨ) h (fun v1 D2 h => ?_)
  show Run Γ rg κ Y_X5_giveBackList 30 [(20, 0), (0, p1), (0, x1)] [(0, v1)] D2 Φ
  exact c_iret d_X5_giveBackList_30 rfl h
set_option maxRecDepth 20000 in
theorem run_pV_dropAll {Γ : GG} {rg : Nat → Bool} {κ : Nat} {Φ : OT → DD → Prop} (R : cov rg rg0) (p1 : Int) {D : DD} (h : WP (some .int) κ Φ (pV_dropAll p1 D)) : Run Γ rg κ Y_X5_dropAll 0 [(20, 0), (0, p1), (5, 0), (5, 0), (5, 0)] [] D Φ := by
  unfold pV_dropAll at h
  show Run Γ rg κ Y_X5_dropAll 0 [(20, 0), (0, p1), (5, 0), (5, 0), (5, 0)] [] D Φ
  refine r_aload_n d_X5_dropAll_0 rfl (by decide) ?_
  refine r_iload_n d_X5_dropAll_1 rfl ?_
  refine c_callVPi (a := 12) (z := 0) (as := [(0, p1)]) (rest := []) (ls' := [(20, 0), (0, p1), (5, 0)]) d_X5_dropAll_2 ck_RX5_28 rfl sh_12 rfl (by decide) (R 12 rfl) rfl rfl (Nat.le_of_ble_eq_true rfl) (Nat.le_of_ble_eq_true rfl) (by decide) rfl rfl (fun Ψ hΨ => run_pV_valueCount R _ rfl hΨ) ?_
  show Run Γ rg κ Y_X5_dropAll 5 [(20, 0), (0, p1), (5, 0), (5, 0), (5, 0)] [(0, (pV_valueCount p1 D))] D Φ
  refine c_lt_n d_X5_dropAll_5 (by decide) rfl h (fun x1 h => ?_)
  show Run Γ rg κ Y_X5_dropAll 6 [(20, 0), (0, p1), (0, x1), (5, 0), (5, 0)] [] D Φ
  refine r_iconst d_X5_dropAll_6 ?_
  refine r_istore_n d_X5_dropAll_7 (by decide) rfl ?_
  show Run Γ rg κ Y_X5_dropAll 8 [(20, 0), (0, p1), (0, x1), (0, 0), (5, 0)] [] D Φ
  refine r_iconst d_X5_dropAll_8 ?_
  refine r_istore d_X5_dropAll_9 (by decide) rfl ?_
  show Run Γ rg κ Y_X5_dropAll 11 [(20, 0), (0, p1), (0, x1), (0, 0), (0, 0)] [] D Φ
  refine run_pV_dropAll_11 R p1 x1 ?_ fu 0 0 D h
  intro x2 D1 h
  show Run Γ rg κ Y_X5_dropAll 37 [(20, 0), (0, p1), (0, x1), (0, x2), (5, 0)] [] D1 Φ
  refine r_iload_n d_X5_dropAll_37 rfl ?_
  refine r_iload_n d_X5_dropAll_38 rfl ?_
  refine c_jn (fun J => ∀ (x3 : Int) (D2 : DD), WP (some .int) κ Φ (J x3 D2) → Run Γ rg κ Y_X5_dropAll 51 [(5, 0), (5, 0), (5, 0), (5, 0), (5, 0)] [(0, x3), (0, x2)] D2 Φ) h ?_ (fun J1 hJ1 h => ?_)
  · intro x3 D2 h
    show Run Γ rg κ Y_X5_dropAll 51 [(5, 0), (5, 0), (5, 0), (5, 0), (5, 0)] [(0, x3), (0, x2)] D2 Φ
    refine r_iadd d_X5_dropAll_51 ?_
    exact c_iret d_X5_dropAll_52 rfl h
  refine c_if_ne (tgt := 46) d_X5_dropAll_39 (by decide) (nz_w _) h (fun h => ?_) (fun h => ?_)
  · skip
    show Run Γ rg κ Y_X5_dropAll 46 [(20, 0), (0, p1), (0, x1), (0, x2), (5, 0)] [(0, x2)] D1 Φ
    refine r_aload_n d_X5_dropAll_46 rfl (by decide) ?_
    refine r_iload_n d_X5_dropAll_47 rfl ?_
    refine c_callVi (t' := (some .int)) (a := 12) (z := 0) (as := [(0, p1)]) (rest := [(0, x2)]) (ls' := [(20, 0), (0, p1), (5, 0)]) d_X5_dropAll_48 ck_RX5_101 rfl sh_12 rfl (by decide) (R 12 rfl) rfl rfl (Nat.le_of_ble_eq_true rfl) (Nat.le_of_ble_eq_true rfl) (by decide) rfl rfl (fun _ => rfl) (fun κ' Ψ hΨ => run_pV_giveBackList R _ hΨ) h (fun v1 D3 h => ?_)
    show Run Γ rg κ Y_X5_dropAll 51 [(20, 0), (0, p1), (0, x1), (0, x2), (5, 0)] [(0, v1), (0, x2)] D3 Φ
    exact Run.forget (ls' := [(5, 0), (5, 0), (5, 0), (5, 0), (5, 0)]) ⟨Or.inl rfl, Or.inl rfl, Or.inl rfl, Or.inl rfl, Or.inr rfl, trivial⟩ (hJ1 v1 D3 h)
  · skip
    show Run Γ rg κ Y_X5_dropAll 42 [(20, 0), (0, p1), (0, x1), (0, x2), (5, 0)] [(0, x2)] D1 Φ
    refine r_iconst d_X5_dropAll_42 ?_
    refine r_goto (tgt := 51) d_X5_dropAll_43 (by decide) ?_
    exact Run.forget (ls' := [(5, 0), (5, 0), (5, 0), (5, 0), (5, 0)]) ⟨Or.inl rfl, Or.inl rfl, Or.inl rfl, Or.inl rfl, Or.inr rfl, trivial⟩ (hJ1 0 D1 h)
set_option maxRecDepth 20000 in
theorem run_pS_keysWith {Γ : GG} {rg : Nat → Bool} {κ : Nat} {Φ : OT → DD → Prop} (R : cov rg rg0) (p1 : Int) {D : DD} {x : Int} (h : EQx x (pS_keysWith p1 D)) (hΦ : Φ (.inl (some (0, x))) D) : Run Γ rg κ Y_X4_keysWith 0 [(21, 0), (0, p1), (5, 0)] [] D Φ := by
  unfold pS_keysWith at h
  show Run Γ rg κ Y_X4_keysWith 0 [(21, 0), (0, p1), (5, 0)] [] D Φ
  refine r_aload_n d_X4_keysWith_0 rfl (by decide) ?_
  refine r_getR (t := 2) d_X4_keysWith_1 fk_RX4_15 sh_13 rfl (by decide) (R 13 rfl) ?_
  refine r_iload_n d_X4_keysWith_4 rfl ?_
  refine c_callVPi (a := 2) (z := 0) (as := [(0, p1)]) (rest := []) (ls' := [(10, 0), (0, p1)]) d_X4_keysWith_5 ck_RX4_23 rfl sh_2 rfl (by decide) (R 2 rfl) rfl rfl (Nat.le_of_ble_eq_true rfl) (Nat.le_of_ble_eq_true rfl) (by decide) rfl rfl (fun Ψ hΨ => run_pI_placeOfRights R _ rfl hΨ) ?_
  show Run Γ rg κ Y_X4_keysWith 8 [(21, 0), (0, p1), (5, 0)] [(0, (pI_placeOfRights p1 D))] D Φ
  refine c_lt_n d_X4_keysWith_8 (by decide) rfl h (fun x1 h => ?_)
  show Run Γ rg κ Y_X4_keysWith 9 [(21, 0), (0, p1), (0, x1)] [] D Φ
  refine r_iload_n d_X4_keysWith_9 rfl ?_
  refine c_if_ne (tgt := 17) d_X4_keysWith_10 (by decide) (nz_w _) h (fun h => ?_) (fun h => ?_)
  · skip
    show Run Γ rg κ Y_X4_keysWith 17 [(21, 0), (0, p1), (0, x1)] [] D Φ
    refine r_aload_n d_X4_keysWith_17 rfl (by decide) ?_
    refine r_getR (t := 2) d_X4_keysWith_18 fk_RX4_15 sh_13 rfl (by decide) (R 13 rfl) ?_
    refine r_iload_n d_X4_keysWith_21 rfl ?_
    refine c_callVPi (a := 2) (z := 0) (as := [(0, x1)]) (rest := []) (ls' := [(10, 0), (0, x1)]) d_X4_keysWith_22 ck_RX4_29 rfl sh_2 rfl (by decide) (R 2 rfl) rfl rfl (Nat.le_of_ble_eq_true rfl) (Nat.le_of_ble_eq_true rfl) (by decide) rfl rfl (fun Ψ hΨ => run_pI_unitAt R _ rfl hΨ) ?_
    show Run Γ rg κ Y_X4_keysWith 25 [(21, 0), (0, p1), (0, x1)] [(0, (pI_unitAt x1 D))] D Φ
    exact e_iret d_X4_keysWith_25 rfl h hΦ
  · skip
    show Run Γ rg κ Y_X4_keysWith 13 [(21, 0), (0, p1), (0, x1)] [] D Φ
    refine r_iconst d_X4_keysWith_13 ?_
    refine r_goto (tgt := 25) d_X4_keysWith_14 (by decide) ?_
    show Run Γ rg κ Y_X4_keysWith 25 [(21, 0), (0, p1), (0, x1)] [(0, 0)] D Φ
    exact e_iret d_X4_keysWith_25 rfl h hΦ
set_option maxRecDepth 20000 in
theorem run_pI_setPlaceOfRights {Γ : GG} {rg : Nat → Bool} {κ : Nat} {Φ : OT → DD → Prop} (R : cov rg rg0) (p1 : Int) (p2 : Int) {D : DD} (h : WPD Φ (pI_setPlaceOfRights p1 p2 D)) : Run Γ rg κ Y_X2_setPlaceOfRights 0 [(10, 0), (0, p1), (0, p2)] [] D Φ := by
  unfold pI_setPlaceOfRights at h
  show Run Γ rg κ Y_X2_setPlaceOfRights 0 [(10, 0), (0, p1), (0, p2)] [] D Φ
  refine r_aload_n d_X2_setPlaceOfRights_0 rfl (by decide) ?_
  refine r_getR (t := 6) d_X2_setPlaceOfRights_1 fk_RX2_21 sh_2 rfl (by decide) (R 2 rfl) ?_
  refine r_iload_n d_X2_setPlaceOfRights_4 rfl ?_
  refine r_iload_n d_X2_setPlaceOfRights_5 rfl ?_
  refine c_callND (as := [(14, 0), (0, p1), (0, p2)]) (rest := []) (ls' := [(14, 0), (0, p1), (0, p2)]) d_X2_setPlaceOfRights_6 ck_RX2_31 rfl rfl rfl (Nat.le_of_ble_eq_true rfl) (Nat.le_of_ble_eq_true rfl) (by decide) rfl rfl (fun Ψ hΨ => run_pH_store sh_6 (by decide) (R 6 rfl) (by decide) _ _ hΨ) h (fun D1 h => ?_)
  show Run Γ rg κ Y_X2_setPlaceOfRights 9 [(10, 0), (0, p1), (0, p2)] [] D1 Φ
  exact d_vret d_X2_setPlaceOfRights_9 rfl h
set_option maxRecDepth 20000 in
theorem run_pS_leave {Γ : GG} {rg : Nat → Bool} {κ : Nat} {Φ : OT → DD → Prop} (R : cov rg rg0) (p1 : Int) {D : DD} (h : WP (some .int) κ Φ (pS_leave p1 D)) : Run Γ rg κ Y_X4_leave 0 [(21, 0), (0, p1), (5, 0)] [] D Φ := by
  unfold pS_leave at h
  show Run Γ rg κ Y_X4_leave 0 [(21, 0), (0, p1), (5, 0)] [] D Φ
  refine r_aload_n d_X4_leave_0 rfl (by decide) ?_
  refine r_iload_n d_X4_leave_1 rfl ?_
  refine r_iconst d_X4_leave_2 ?_
  refine c_callVv (a := 13) (z := 0) (as := [(0, p1), (0, (-1))]) (rest := []) (ls' := [(21, 0), (0, p1), (0, (-1)), (5, 0)]) d_X4_leave_3 ck_RX4_58 rfl sh_13 rfl (by decide) (R 13 rfl) rfl rfl (Nat.le_of_ble_eq_true rfl) (Nat.le_of_ble_eq_true rfl) (by decide) rfl rfl (fun κ' Ψ hΨ => run_pS_changeCount R _ _ hΨ) h (fun _ D1 h => ?_)
  show Run Γ rg κ Y_X4_leave 6 [(21, 0), (0, p1), (5, 0)] [] D1 Φ
  refine r_aload_n d_X4_leave_6 rfl (by decide) ?_
  refine r_iload_n d_X4_leave_7 rfl ?_
  refine c_callVPi (a := 13) (z := 0) (as := [(0, p1)]) (rest := []) (ls' := [(21, 0), (0, p1), (5, 0)]) d_X4_leave_8 ck_RX4_61 rfl sh_13 rfl (by decide) (R 13 rfl) rfl rfl (Nat.le_of_ble_eq_true rfl) (Nat.le_of_ble_eq_true rfl) (by decide) rfl rfl (fun Ψ hΨ => run_pS_keysWith R _ rfl hΨ) ?_
  show Run Γ rg κ Y_X4_leave 11 [(21, 0), (0, p1), (5, 0)] [(0, (pS_keysWith p1 D1))] D1 Φ
  refine c_if_le (tgt := 16) d_X4_leave_11 (by decide) (nz_w _) h (fun h => ?_) (fun h => ?_)
  · skip
    show Run Γ rg κ Y_X4_leave 16 [(21, 0), (0, p1), (5, 0)] [] D1 Φ
    refine r_aload_n d_X4_leave_16 rfl (by decide) ?_
    refine r_getR (t := 2) d_X4_leave_17 fk_RX4_15 sh_13 rfl (by decide) (R 13 rfl) ?_
    refine r_iload_n d_X4_leave_20 rfl ?_
    refine c_callVPi (a := 2) (z := 0) (as := [(0, p1)]) (rest := []) (ls' := [(10, 0), (0, p1)]) d_X4_leave_21 ck_RX4_23 rfl sh_2 rfl (by decide) (R 2 rfl) rfl rfl (Nat.le_of_ble_eq_true rfl) (Nat.le_of_ble_eq_true rfl) (by decide) rfl rfl (fun Ψ hΨ => run_pI_placeOfRights R _ rfl hΨ) ?_
    show Run Γ rg κ Y_X4_leave 24 [(21, 0), (0, p1), (5, 0)] [(0, (pI_placeOfRights p1 D1))] D1 Φ
    refine c_lt_n d_X4_leave_24 (by decide) rfl h (fun x1 h => ?_)
    show Run Γ rg κ Y_X4_leave 25 [(21, 0), (0, p1), (0, x1)] [] D1 Φ
    refine r_aload_n d_X4_leave_25 rfl (by decide) ?_
    refine r_getR (t := 2) d_X4_leave_26 fk_RX4_15 sh_13 rfl (by decide) (R 13 rfl) ?_
    refine r_iload_n d_X4_leave_29 rfl ?_
    refine r_iconst d_X4_leave_30 ?_
    refine c_callVD (a := 2) (z := 0) (as := [(0, p1), (0, 0)]) (rest := []) (ls' := [(10, 0), (0, p1), (0, 0)]) d_X4_leave_31 ck_RX4_55 rfl sh_2 rfl (by decide) (R 2 rfl) rfl rfl (Nat.le_of_ble_eq_true rfl) (Nat.le_of_ble_eq_true rfl) (by decide) rfl rfl (fun Ψ hΨ => run_pI_setPlaceOfRights R _ _ hΨ) h (fun D2 h => ?_)
    show Run Γ rg κ Y_X4_leave 34 [(21, 0), (0, p1), (0, x1)] [] D2 Φ
    refine r_aload_n d_X4_leave_34 rfl (by decide) ?_
    show Run Γ rg κ Y_X4_leave 35 [(21, 0), (0, p1), (0, x1)] [(21, 0)] D2 Φ
    refine r_getR (t := 7) d_X4_leave_35 fk_RX4_19 sh_13 rfl (by decide) (R 13 rfl) ?_
    refine r_iload_n d_X4_leave_38 rfl ?_
    refine c_callVi (t' := (some .int)) (a := 7) (z := 0) (as := [(0, x1)]) (rest := []) (ls' := [(15, 0), (0, x1), (5, 0), (5, 0), (5, 0), (5, 0), (5, 0)]) d_X4_leave_39 ck_RX4_64 rfl sh_7 rfl (by decide) (R 7 rfl) rfl rfl (Nat.le_of_ble_eq_true rfl) (Nat.le_of_ble_eq_true rfl) (by decide) rfl rfl (fun _ => rfl) (fun κ' Ψ hΨ => run_pC_giveBack R _ hΨ) h (fun v1 D3 h => ?_)
    show Run Γ rg κ Y_X4_leave 42 [(21, 0), (0, p1), (0, x1)] [(0, v1)] D3 Φ
    exact c_iret d_X4_leave_42 rfl h
  · skip
    show Run Γ rg κ Y_X4_leave 14 [(21, 0), (0, p1), (5, 0)] [] D1 Φ
    refine r_iconst d_X4_leave_14 ?_
    exact c_iret d_X4_leave_15 rfl h
set_option maxRecDepth 20000 in
theorem run_pW_start {Γ : GG} {rg : Nat → Bool} {κ : Nat} {Φ : OT → DD → Prop} (R : cov rg rg0) (p1 : Int) (p2 : Int) (p3 : Int) {D : DD} (h : WPD Φ (pW_start p1 p2 p3 D)) : Run Γ rg κ Y_X6_start 0 [(23, 0), (0, p1), (0, p2), (0, p3)] [] D Φ := by
  unfold pW_start at h
  show Run Γ rg κ Y_X6_start 0 [(23, 0), (0, p1), (0, p2), (0, p3)] [] D Φ
  refine r_aload_n d_X6_start_0 rfl (by decide) ?_
  refine r_getR (t := 16) d_X6_start_1 fk_RX6_9 sh_15 rfl (by decide) (R 15 rfl) ?_
  refine r_iload_n d_X6_start_4 rfl ?_
  refine r_iload_n d_X6_start_5 rfl ?_
  refine c_callND (as := [(24, 0), (0, p1), (0, p2)]) (rest := []) (ls' := [(24, 0), (0, p1), (0, p2)]) d_X6_start_6 ck_RX6_28 rfl rfl rfl (Nat.le_of_ble_eq_true rfl) (Nat.le_of_ble_eq_true rfl) (by decide) rfl rfl (fun Ψ hΨ => run_pH_store sh_16 (by decide) (R 16 rfl) (by decide) _ _ hΨ) h (fun D1 h => ?_)
  show Run Γ rg κ Y_X6_start 9 [(23, 0), (0, p1), (0, p2), (0, p3)] [] D1 Φ
  refine r_aload_n d_X6_start_9 rfl (by decide) ?_
  refine r_getR (t := 17) d_X6_start_10 fk_RX6_15 sh_15 rfl (by decide) (R 15 rfl) ?_
  refine r_iload_n d_X6_start_13 rfl ?_
  refine r_iload_n d_X6_start_14 rfl ?_
  refine c_jn (fun J => ∀ (x1 : Int) (D2 : DD), WPD Φ (J x1 D2) → Run Γ rg κ Y_X6_start 23 [(23, 0), (0, p1), (5, 0), (5, 0)] [(0, x1), (0, p1), (25, 0)] D2 Φ) h ?_ (fun J1 hJ1 h => ?_)
  · intro x1 D2 h
    show Run Γ rg κ Y_X6_start 23 [(23, 0), (0, p1), (5, 0), (5, 0)] [(0, x1), (0, p1), (25, 0)] D2 Φ
    refine c_callND (as := [(25, 0), (0, p1), (0, x1)]) (rest := []) (ls' := [(25, 0), (0, p1), (0, x1)]) d_X6_start_23 ck_RX6_28 rfl rfl rfl (Nat.le_of_ble_eq_true rfl) (Nat.le_of_ble_eq_true rfl) (by decide) rfl rfl (fun Ψ hΨ => run_pH_store sh_17 (by decide) (R 17 rfl) (by decide) _ _ hΨ) h (fun D3 h => ?_)
    show Run Γ rg κ Y_X6_start 26 [(23, 0), (0, p1), (5, 0), (5, 0)] [] D3 Φ
    refine r_aload_n d_X6_start_26 rfl (by decide) ?_
    refine r_getR (t := 18) d_X6_start_27 fk_RX6_18 sh_15 rfl (by decide) (R 15 rfl) ?_
    refine r_iload_n d_X6_start_30 rfl ?_
    refine r_iconst d_X6_start_31 ?_
    refine c_callND (as := [(26, 0), (0, p1), (0, 0)]) (rest := []) (ls' := [(26, 0), (0, p1), (0, 0)]) d_X6_start_32 ck_RX6_28 rfl rfl rfl (Nat.le_of_ble_eq_true rfl) (Nat.le_of_ble_eq_true rfl) (by decide) rfl rfl (fun Ψ hΨ => run_pH_store sh_18 (by decide) (R 18 rfl) (by decide) _ _ hΨ) h (fun D4 h => ?_)
    show Run Γ rg κ Y_X6_start 35 [(23, 0), (0, p1), (5, 0), (5, 0)] [] D4 Φ
    refine r_aload_n d_X6_start_35 rfl (by decide) ?_
    refine r_getR (t := 19) d_X6_start_36 fk_RX6_21 sh_15 rfl (by decide) (R 15 rfl) ?_
    refine r_iload_n d_X6_start_39 rfl ?_
    refine r_iconst d_X6_start_40 ?_
    refine c_callND (as := [(27, 0), (0, p1), (0, 0)]) (rest := []) (ls' := [(27, 0), (0, p1), (0, 0)]) d_X6_start_41 ck_RX6_28 rfl rfl rfl (Nat.le_of_ble_eq_true rfl) (Nat.le_of_ble_eq_true rfl) (by decide) rfl rfl (fun Ψ hΨ => run_pH_store sh_19 (by decide) (R 19 rfl) (by decide) _ _ hΨ) h (fun D5 h => ?_)
    show Run Γ rg κ Y_X6_start 44 [(23, 0), (0, p1), (5, 0), (5, 0)] [] D5 Φ
    show Run Γ rg κ Y_X6_start 44 [(23, 0), (0, p1), (5, 0), (5, 0)] [] D5 Φ
    exact d_vret d_X6_start_44 rfl h
  refine c_if_eq (tgt := 22) d_X6_start_15 (by decide) (nz_w _) h (fun h => ?_) (fun h => ?_)
  · skip
    show Run Γ rg κ Y_X6_start 22 [(23, 0), (0, p1), (0, p2), (0, p3)] [(0, p1), (25, 0)] D1 Φ
    refine r_iconst d_X6_start_22 ?_
    exact Run.forget (ls' := [(23, 0), (0, p1), (5, 0), (5, 0)]) ⟨Or.inr rfl, Or.inr rfl, Or.inl rfl, Or.inl rfl, trivial⟩ (hJ1 0 D1 h)
  · skip
    show Run Γ rg κ Y_X6_start 18 [(23, 0), (0, p1), (0, p2), (0, p3)] [(0, p1), (25, 0)] D1 Φ
    refine r_iconst d_X6_start_18 ?_
    refine r_goto (tgt := 23) d_X6_start_19 (by decide) ?_
    exact Run.forget (ls' := [(23, 0), (0, p1), (5, 0), (5, 0)]) ⟨Or.inr rfl, Or.inr rfl, Or.inl rfl, Or.inl rfl, trivial⟩ (hJ1 1 D1 h)
set_option maxRecDepth 20000 in
theorem run_pW_end {Γ : GG} {rg : Nat → Bool} {κ : Nat} {Φ : OT → DD → Prop} (R : cov rg rg0) (p1 : Int) {D : DD} (h : WPD Φ (pW_end p1 D)) : Run Γ rg κ Y_X6_end 0 [(23, 0), (0, p1)] [] D Φ := by
  unfold pW_end at h
  show Run Γ rg κ Y_X6_end 0 [(23, 0), (0, p1)] [] D Φ
  refine r_aload_n d_X6_end_0 rfl (by decide) ?_
  refine r_iload_n d_X6_end_1 rfl ?_
  refine r_iconst d_X6_end_2 ?_
  refine r_iconst d_X6_end_3 ?_
  refine c_callVD (a := 15) (z := 0) (as := [(0, p1), (0, 0), (0, 0)]) (rest := []) (ls' := [(23, 0), (0, p1), (0, 0), (0, 0)]) d_X6_end_4 ck_RX6_32 rfl sh_15 rfl (by decide) (R 15 rfl) rfl rfl (Nat.le_of_ble_eq_true rfl) (Nat.le_of_ble_eq_true rfl) (by decide) rfl rfl (fun Ψ hΨ => run_pW_start R _ _ _ hΨ) h (fun D1 h => ?_)
  show Run Γ rg κ Y_X6_end 7 [(23, 0), (0, p1)] [] D1 Φ
  exact d_vret d_X6_end_7 rfl h
set_option maxRecDepth 20000 in
theorem run_pH_delete {Γ : GG} {rg : Nat → Bool} {κ : Nat} {Φ : OT → DD → Prop} (R : cov rg rg0) (p1 : Int) {D : DD} (h : WP (some .int) κ Φ (pH_delete p1 D)) : Run Γ rg κ Y_X7_delete 0 [(8, 0), (0, p1), (5, 0), (5, 0), (5, 0), (5, 0), (5, 0)] [] D Φ := by
  unfold pH_delete at h
  show Run Γ rg κ Y_X7_delete 0 [(8, 0), (0, p1), (5, 0), (5, 0), (5, 0), (5, 0), (5, 0)] [] D Φ
  refine r_aload_n d_X7_delete_0 rfl (by decide) ?_
  refine r_iload_n d_X7_delete_1 rfl ?_
  refine c_callVv (a := 0) (z := 0) (as := [(0, p1)]) (rest := []) (ls' := [(8, 0), (0, p1)]) d_X7_delete_2 ck_RX7_95 rfl sh_0 rfl (by decide) (R 0 rfl) rfl rfl (Nat.le_of_ble_eq_true rfl) (Nat.le_of_ble_eq_true rfl) (by decide) rfl rfl (fun κ' Ψ hΨ => run_pH_requireKey R _ hΨ) h (fun _ D1 h => ?_)
  show Run Γ rg κ Y_X7_delete 5 [(8, 0), (0, p1), (5, 0), (5, 0), (5, 0), (5, 0), (5, 0)] [] D1 Φ
  refine r_iload_n d_X7_delete_5 rfl ?_
  refine c_callSv (as := [(0, p1)]) (rest := []) (ls' := [(0, p1)]) d_X7_delete_6 ck_RX7_105 rfl rfl rfl (Nat.le_of_ble_eq_true rfl) (Nat.le_of_ble_eq_true rfl) (by decide) rfl rfl (fun κ' Ψ hΨ => run_pH_requireNotRoot R _ hΨ) h (fun _ D2 h => ?_)
  show Run Γ rg κ Y_X7_delete 9 [(8, 0), (0, p1), (5, 0), (5, 0), (5, 0), (5, 0), (5, 0)] [] D2 Φ
  refine r_aload_n d_X7_delete_9 rfl (by decide) ?_
  refine r_getR (t := 2) d_X7_delete_10 fk_RX7_21 sh_0 rfl (by decide) (R 0 rfl) ?_
  refine r_iload_n d_X7_delete_13 rfl ?_
  refine c_callVPi (a := 2) (z := 0) (as := [(0, p1)]) (rest := []) (ls' := [(10, 0), (0, p1)]) d_X7_delete_14 ck_RX7_108 rfl sh_2 rfl (by decide) (R 2 rfl) rfl rfl (Nat.le_of_ble_eq_true rfl) (Nat.le_of_ble_eq_true rfl) (by decide) rfl rfl (fun Ψ hΨ => run_pI_placeOfKey R _ rfl hΨ) ?_
  show Run Γ rg κ Y_X7_delete 17 [(8, 0), (0, p1), (5, 0), (5, 0), (5, 0), (5, 0), (5, 0)] [(0, (pI_placeOfKey p1 D2))] D2 Φ
  refine c_lt_n d_X7_delete_17 (by decide) rfl h (fun x1 h => ?_)
  show Run Γ rg κ Y_X7_delete 18 [(8, 0), (0, p1), (0, x1), (5, 0), (5, 0), (5, 0), (5, 0)] [] D2 Φ
  refine r_aload_n d_X7_delete_18 rfl (by decide) ?_
  show Run Γ rg κ Y_X7_delete 19 [(8, 0), (0, p1), (0, x1), (5, 0), (5, 0), (5, 0), (5, 0)] [(8, 0)] D2 Φ
  refine r_iload_n d_X7_delete_19 rfl ?_
  refine c_callVv (a := 0) (z := 0) (as := [(0, x1)]) (rest := []) (ls' := [(8, 0), (0, x1)]) d_X7_delete_20 ck_RX7_149 rfl sh_0 rfl (by decide) (R 0 rfl) rfl rfl (Nat.le_of_ble_eq_true rfl) (Nat.le_of_ble_eq_true rfl) (by decide) rfl rfl (fun κ' Ψ hΨ => run_pH_requireNoSubkeys R _ hΨ) h (fun _ D3 h => ?_)
  show Run Γ rg κ Y_X7_delete 23 [(8, 0), (0, p1), (0, x1), (5, 0), (5, 0), (5, 0), (5, 0)] [] D3 Φ
  refine r_aload_n d_X7_delete_23 rfl (by decide) ?_
  refine r_getR (t := 2) d_X7_delete_24 fk_RX7_21 sh_0 rfl (by decide) (R 0 rfl) ?_
  refine r_iload_n d_X7_delete_27 rfl ?_
  refine r_iconst d_X7_delete_28 ?_
  refine r_iadd d_X7_delete_29 ?_
  refine c_callVPi (a := 2) (z := 0) (as := [(0, (x1 + 1))]) (rest := []) (ls' := [(10, 0), (0, (x1 + 1))]) d_X7_delete_30 ck_RX7_111 rfl sh_2 rfl (by decide) (R 2 rfl) rfl rfl (Nat.le_of_ble_eq_true rfl) (Nat.le_of_ble_eq_true rfl) (by decide) rfl rfl (fun Ψ hΨ => run_pI_unitAt R _ rfl hΨ) ?_
  show Run Γ rg κ Y_X7_delete 33 [(8, 0), (0, p1), (0, x1), (5, 0), (5, 0), (5, 0), (5, 0)] [(0, (pI_unitAt (x1 + 1) D3))] D3 Φ
  refine c_lt_n d_X7_delete_33 (by decide) rfl h (fun x2 h => ?_)
  show Run Γ rg κ Y_X7_delete 34 [(8, 0), (0, p1), (0, x1), (0, x2), (5, 0), (5, 0), (5, 0)] [] D3 Φ
  refine r_iload_n d_X7_delete_34 rfl ?_
  refine r_aload_n d_X7_delete_35 rfl (by decide) ?_
  refine r_getR (t := 2) d_X7_delete_36 fk_RX7_21 sh_0 rfl (by decide) (R 0 rfl) ?_
  show Run Γ rg κ Y_X7_delete 39 [(8, 0), (0, p1), (0, x1), (0, x2), (5, 0), (5, 0), (5, 0)] [(10, 0), (0, p1)] D3 Φ
  refine r_iload_n d_X7_delete_39 rfl ?_
  refine r_iconst d_X7_delete_40 ?_
  refine r_iadd d_X7_delete_41 ?_
  refine c_callVPi (a := 2) (z := 0) (as := [(0, (x1 + 0))]) (rest := [(0, p1)]) (ls' := [(10, 0), (0, (x1 + 0))]) d_X7_delete_42 ck_RX7_111 rfl sh_2 rfl (by decide) (R 2 rfl) rfl rfl (Nat.le_of_ble_eq_true rfl) (Nat.le_of_ble_eq_true rfl) (by decide) rfl rfl (fun Ψ hΨ => run_pI_unitAt R _ rfl hΨ) ?_
  show Run Γ rg κ Y_X7_delete 45 [(8, 0), (0, p1), (0, x1), (0, x2), (5, 0), (5, 0), (5, 0)] [(0, (pI_unitAt (x1 + 0) D3)), (0, p1)] D3 Φ
  refine c_callSPi (as := [(0, p1), (0, (pI_unitAt (x1 + 0) D3))]) (rest := []) (ls' := [(0, p1), (0, (pI_unitAt (x1 + 0) D3))]) d_X7_delete_45 ck_RX7_118 rfl rfl rfl (Nat.le_of_ble_eq_true rfl) (Nat.le_of_ble_eq_true rfl) (by decide) rfl rfl (fun Ψ hΨ => run_pL_entryOf R _ _ rfl hΨ) ?_
  show Run Γ rg κ Y_X7_delete 48 [(8, 0), (0, p1), (0, x1), (0, x2), (5, 0), (5, 0), (5, 0)] [(0, (pL_entryOf p1 (pI_unitAt (x1 + 0) D3)))] D3 Φ
  refine c_lt d_X7_delete_48 (by decide) rfl h (fun x3 h => ?_)
  show Run Γ rg κ Y_X7_delete 50 [(8, 0), (0, p1), (0, x1), (0, x2), (0, x3), (5, 0), (5, 0)] [] D3 Φ
  refine r_aload_n d_X7_delete_50 rfl (by decide) ?_
  refine r_getR (t := 2) d_X7_delete_51 fk_RX7_21 sh_0 rfl (by decide) (R 0 rfl) ?_
  refine r_iload_n d_X7_delete_54 rfl ?_
  refine r_iconst d_X7_delete_55 ?_
  refine r_iadd d_X7_delete_56 ?_
  refine c_callVPi (a := 2) (z := 0) (as := [(0, (x1 + 4))]) (rest := []) (ls' := [(10, 0), (0, (x1 + 4))]) d_X7_delete_57 ck_RX7_111 rfl sh_2 rfl (by decide) (R 2 rfl) rfl rfl (Nat.le_of_ble_eq_true rfl) (Nat.le_of_ble_eq_true rfl) (by decide) rfl rfl (fun Ψ hΨ => run_pI_unitAt R _ rfl hΨ) ?_
  show Run Γ rg κ Y_X7_delete 60 [(8, 0), (0, p1), (0, x1), (0, x2), (0, x3), (5, 0), (5, 0)] [(0, (pI_unitAt (x1 + 4) D3))] D3 Φ
  show Run Γ rg κ Y_X7_delete 60 [(8, 0), (0, p1), (0, x1), (0, x2), (0, x3), (5, 0), (5, 0)] [(0, (pI_unitAt (x1 + 4) D3))] D3 Φ
  refine c_lt d_X7_delete_60 (by decide) rfl h (fun x4 h => ?_)
  show Run Γ rg κ Y_X7_delete 62 [(8, 0), (0, p1), (0, x1), (0, x2), (0, x3), (0, x4), (5, 0)] [] D3 Φ
  refine r_aload_n d_X7_delete_62 rfl (by decide) ?_
  refine r_getR (t := 12) d_X7_delete_63 fk_RX7_41 sh_0 rfl (by decide) (R 0 rfl) ?_
  refine r_iload_n d_X7_delete_66 rfl ?_
  refine c_callVi (t' := (some .int)) (a := 12) (z := 0) (as := [(0, x1)]) (rest := []) (ls' := [(20, 0), (0, x1), (5, 0), (5, 0), (5, 0)]) d_X7_delete_67 ck_RX7_152 rfl sh_12 rfl (by decide) (R 12 rfl) rfl rfl (Nat.le_of_ble_eq_true rfl) (Nat.le_of_ble_eq_true rfl) (by decide) rfl rfl (fun _ => rfl) (fun κ' Ψ hΨ => run_pV_dropAll R _ hΨ) h (fun v1 D4 h => ?_)
  show Run Γ rg κ Y_X7_delete 70 [(8, 0), (0, p1), (0, x1), (0, x2), (0, x3), (0, x4), (5, 0)] [(0, v1)] D4 Φ
  refine r_istore d_X7_delete_70 (by decide) rfl ?_
  show Run Γ rg κ Y_X7_delete 72 [(8, 0), (0, p1), (0, x1), (0, x2), (0, x3), (0, x4), (0, v1)] [] D4 Φ
  refine r_iload d_X7_delete_72 rfl ?_
  refine r_aload_n d_X7_delete_74 rfl (by decide) ?_
  refine r_getR (t := 7) d_X7_delete_75 fk_RX7_25 sh_0 rfl (by decide) (R 0 rfl) ?_
  refine r_iload_n d_X7_delete_78 rfl ?_
  refine c_callVi (t' := (some .int)) (a := 7) (z := 0) (as := [(0, x1)]) (rest := [(0, v1)]) (ls' := [(15, 0), (0, x1), (5, 0), (5, 0), (5, 0), (5, 0), (5, 0)]) d_X7_delete_79 ck_RX7_155 rfl sh_7 rfl (by decide) (R 7 rfl) rfl rfl (Nat.le_of_ble_eq_true rfl) (Nat.le_of_ble_eq_true rfl) (by decide) rfl rfl (fun _ => rfl) (fun κ' Ψ hΨ => run_pC_giveBack R _ hΨ) h (fun v2 D5 h => ?_)
  show Run Γ rg κ Y_X7_delete 82 [(8, 0), (0, p1), (0, x1), (0, x2), (0, x3), (0, x4), (0, v1)] [(0, v2), (0, v1)] D5 Φ
  refine r_iadd d_X7_delete_82 ?_
  show Run Γ rg κ Y_X7_delete 83 [(8, 0), (0, p1), (0, x1), (0, x2), (0, x3), (0, x4), (0, v1)] [(0, (v1 + v2))] D5 Φ
  refine c_lt d_X7_delete_83 (by decide) rfl h (fun x5 h => ?_)
  show Run Γ rg κ Y_X7_delete 85 [(8, 0), (0, p1), (0, x1), (0, x2), (0, x3), (0, x4), (0, x5)] [] D5 Φ
  refine r_aload_n d_X7_delete_85 rfl (by decide) ?_
  refine r_getR (t := 2) d_X7_delete_86 fk_RX7_21 sh_0 rfl (by decide) (R 0 rfl) ?_
  refine r_iload_n d_X7_delete_89 rfl ?_
  refine r_iconst d_X7_delete_90 ?_
  refine c_callVD (a := 2) (z := 0) (as := [(0, p1), (0, 0)]) (rest := []) (ls' := [(10, 0), (0, p1), (0, 0)]) d_X7_delete_91 ck_RX7_158 rfl sh_2 rfl (by decide) (R 2 rfl) rfl rfl (Nat.le_of_ble_eq_true rfl) (Nat.le_of_ble_eq_true rfl) (by decide) rfl rfl (fun Ψ hΨ => run_pI_setPlaceOfKey R _ _ hΨ) h (fun D6 h => ?_)
  show Run Γ rg κ Y_X7_delete 94 [(8, 0), (0, p1), (0, x1), (0, x2), (0, x3), (0, x4), (0, x5)] [] D6 Φ
  refine r_iload d_X7_delete_94 rfl ?_
  refine r_aload_n d_X7_delete_96 rfl (by decide) ?_
  refine r_getR (t := 13) d_X7_delete_97 fk_RX7_48 sh_0 rfl (by decide) (R 0 rfl) ?_
  refine r_iload d_X7_delete_100 rfl ?_
  refine c_callVi (t' := (some .int)) (a := 13) (z := 0) (as := [(0, x4)]) (rest := [(0, x5)]) (ls' := [(21, 0), (0, x4), (5, 0)]) d_X7_delete_102 ck_RX7_161 rfl sh_13 rfl (by decide) (R 13 rfl) rfl rfl (Nat.le_of_ble_eq_true rfl) (Nat.le_of_ble_eq_true rfl) (by decide) rfl rfl (fun _ => rfl) (fun κ' Ψ hΨ => run_pS_leave R _ hΨ) h (fun v3 D7 h => ?_)
  show Run Γ rg κ Y_X7_delete 105 [(8, 0), (0, p1), (0, x1), (0, x2), (0, x3), (0, x4), (0, x5)] [(0, v3), (0, x5)] D7 Φ
  refine r_iadd d_X7_delete_105 ?_
  show Run Γ rg κ Y_X7_delete 106 [(8, 0), (0, p1), (0, x1), (0, x2), (0, x3), (0, x4), (0, x5)] [(0, (x5 + v3))] D7 Φ
  refine c_lt d_X7_delete_106 (by decide) rfl h (fun x6 h => ?_)
  show Run Γ rg κ Y_X7_delete 108 [(8, 0), (0, p1), (0, x1), (0, x2), (0, x3), (0, x4), (0, x6)] [] D7 Φ
  refine r_iload d_X7_delete_108 rfl ?_
  refine r_aload_n d_X7_delete_110 rfl (by decide) ?_
  refine r_getR (t := 11) d_X7_delete_111 fk_RX7_34 sh_0 rfl (by decide) (R 0 rfl) ?_
  refine r_aload_n d_X7_delete_114 rfl (by decide) ?_
  refine r_getR (t := 2) d_X7_delete_115 fk_RX7_21 sh_0 rfl (by decide) (R 0 rfl) ?_
  refine r_iload_n d_X7_delete_118 rfl ?_
  refine c_callVPi (a := 2) (z := 0) (as := [(0, x2)]) (rest := [(19, 0), (0, x6)]) (ls' := [(10, 0), (0, x2)]) d_X7_delete_119 ck_RX7_108 rfl sh_2 rfl (by decide) (R 2 rfl) rfl rfl (Nat.le_of_ble_eq_true rfl) (Nat.le_of_ble_eq_true rfl) (by decide) rfl rfl (fun Ψ hΨ => run_pI_placeOfKey R _ rfl hΨ) ?_
  show Run Γ rg κ Y_X7_delete 122 [(8, 0), (0, p1), (0, x1), (0, x2), (0, x3), (0, x4), (0, x6)] [(0, (pI_placeOfKey x2 D7)), (19, 0), (0, x6)] D7 Φ
  refine r_iload d_X7_delete_122 rfl ?_
  refine c_callVi (t' := (some .int)) (a := 11) (z := 0) (as := [(0, (pI_placeOfKey x2 D7)), (0, x3)]) (rest := [(0, x6)]) (ls' := [(19, 0), (0, (pI_placeOfKey x2 D7)), (0, x3), (5, 0), (5, 0)]) d_X7_delete_124 ck_RX7_137 rfl sh_11 rfl (by decide) (R 11 rfl) rfl rfl (Nat.le_of_ble_eq_true rfl) (Nat.le_of_ble_eq_true rfl) (by decide) rfl rfl (fun _ => rfl) (fun κ' Ψ hΨ => run_pL_takeOut R _ _ hΨ) h (fun v4 D8 h => ?_)
  show Run Γ rg κ Y_X7_delete 127 [(8, 0), (0, p1), (0, x1), (0, x2), (0, x3), (0, x4), (0, x6)] [(0, v4), (0, x6)] D8 Φ
  refine r_iadd d_X7_delete_127 ?_
  refine c_lt d_X7_delete_128 (by decide) rfl h (fun x7 h => ?_)
  show Run Γ rg κ Y_X7_delete 130 [(8, 0), (0, p1), (0, x1), (0, x2), (0, x3), (0, x4), (0, x7)] [] D8 Φ
  show Run Γ rg κ Y_X7_delete 130 [(8, 0), (0, p1), (0, x1), (0, x2), (0, x3), (0, x4), (0, x7)] [] D8 Φ
  refine r_aload_n d_X7_delete_130 rfl (by decide) ?_
  refine r_getR (t := 15) d_X7_delete_131 fk_RX7_55 sh_0 rfl (by decide) (R 0 rfl) ?_
  refine r_iload_n d_X7_delete_134 rfl ?_
  refine c_callVD (a := 15) (z := 0) (as := [(0, p1)]) (rest := []) (ls' := [(23, 0), (0, p1)]) d_X7_delete_135 ck_RX7_164 rfl sh_15 rfl (by decide) (R 15 rfl) rfl rfl (Nat.le_of_ble_eq_true rfl) (Nat.le_of_ble_eq_true rfl) (by decide) rfl rfl (fun Ψ hΨ => run_pW_end R _ hΨ) h (fun D9 h => ?_)
  show Run Γ rg κ Y_X7_delete 138 [(8, 0), (0, p1), (0, x1), (0, x2), (0, x3), (0, x4), (0, x7)] [] D9 Φ
  refine r_aload_n d_X7_delete_138 rfl (by decide) ?_
  refine r_iload_n d_X7_delete_139 rfl ?_
  refine r_iconst d_X7_delete_140 ?_
  refine c_callVv (a := 0) (z := 0) (as := [(0, x2), (0, 1)]) (rest := []) (ls' := [(8, 0), (0, x2), (0, 1), (5, 0), (5, 0)]) d_X7_delete_141 ck_RX7_146 rfl sh_0 rfl (by decide) (R 0 rfl) rfl rfl (Nat.le_of_ble_eq_true rfl) (Nat.le_of_ble_eq_true rfl) (by decide) rfl rfl (fun κ' Ψ hΨ => run_pH_tellUpwards R _ _ hΨ) h (fun _ D10 h => ?_)
  show Run Γ rg κ Y_X7_delete 144 [(8, 0), (0, p1), (0, x1), (0, x2), (0, x3), (0, x4), (0, x7)] [] D10 Φ
  refine r_iload d_X7_delete_144 rfl ?_
  exact c_iret d_X7_delete_146 rfl h
set_option maxRecDepth 20000 in
theorem run_pH_find {Γ : GG} {rg : Nat → Bool} {κ : Nat} {Φ : OT → DD → Prop} (R : cov rg rg0) (p1 : Int) (p2 : Int) {D : DD} (h : WP (some .int) κ Φ (pH_find p1 p2 D)) : Run Γ rg κ Y_X7_find 0 [(8, 0), (0, p1), (0, p2)] [] D Φ := by
  unfold pH_find at h
  show Run Γ rg κ Y_X7_find 0 [(8, 0), (0, p1), (0, p2)] [] D Φ
  refine r_aload_n d_X7_find_0 rfl (by decide) ?_
  refine r_iload_n d_X7_find_1 rfl ?_
  refine c_callVv (a := 0) (z := 0) (as := [(0, p1)]) (rest := []) (ls' := [(8, 0), (0, p1)]) d_X7_find_2 ck_RX7_95 rfl sh_0 rfl (by decide) (R 0 rfl) rfl rfl (Nat.le_of_ble_eq_true rfl) (Nat.le_of_ble_eq_true rfl) (by decide) rfl rfl (fun κ' Ψ hΨ => run_pH_requireKey R _ hΨ) h (fun _ D1 h => ?_)
  show Run Γ rg κ Y_X7_find 5 [(8, 0), (0, p1), (0, p2)] [] D1 Φ
  refine r_iload_n d_X7_find_5 rfl ?_
  refine c_callSv (as := [(0, p2)]) (rest := []) (ls' := [(0, p2)]) d_X7_find_6 ck_RX7_98 rfl rfl rfl (Nat.le_of_ble_eq_true rfl) (Nat.le_of_ble_eq_true rfl) (by decide) rfl rfl (fun κ' Ψ hΨ => run_pH_requireName R _ hΨ) h (fun _ D2 h => ?_)
  show Run Γ rg κ Y_X7_find 9 [(8, 0), (0, p1), (0, p2)] [] D2 Φ
  refine r_aload_n d_X7_find_9 rfl (by decide) ?_
  refine r_getR (t := 11) d_X7_find_10 fk_RX7_34 sh_0 rfl (by decide) (R 0 rfl) ?_
  refine r_aload_n d_X7_find_13 rfl (by decide) ?_
  refine r_getR (t := 2) d_X7_find_14 fk_RX7_21 sh_0 rfl (by decide) (R 0 rfl) ?_
  refine r_iload_n d_X7_find_17 rfl ?_
  refine c_callVPi (a := 2) (z := 0) (as := [(0, p1)]) (rest := [(19, 0)]) (ls' := [(10, 0), (0, p1)]) d_X7_find_18 ck_RX7_108 rfl sh_2 rfl (by decide) (R 2 rfl) rfl rfl (Nat.le_of_ble_eq_true rfl) (Nat.le_of_ble_eq_true rfl) (by decide) rfl rfl (fun Ψ hΨ => run_pI_placeOfKey R _ rfl hΨ) ?_
  show Run Γ rg κ Y_X7_find 21 [(8, 0), (0, p1), (0, p2)] [(0, (pI_placeOfKey p1 D2)), (19, 0)] D2 Φ
  show Run Γ rg κ Y_X7_find 21 [(8, 0), (0, p1), (0, p2)] [(0, (pI_placeOfKey p1 D2)), (19, 0)] D2 Φ
  refine r_iload_n d_X7_find_21 rfl ?_
  refine c_callVi (t' := (some .int)) (a := 11) (z := 0) (as := [(0, (pI_placeOfKey p1 D2)), (0, p2)]) (rest := []) (ls' := [(19, 0), (0, (pI_placeOfKey p1 D2)), (0, p2), (5, 0), (5, 0), (5, 0)]) d_X7_find_22 ck_RX7_167 rfl sh_11 rfl (by decide) (R 11 rfl) rfl rfl (Nat.le_of_ble_eq_true rfl) (Nat.le_of_ble_eq_true rfl) (by decide) rfl rfl (fun _ => rfl) (fun κ' Ψ hΨ => run_pL_subkeyNamed R _ _ hΨ) h (fun v1 D3 h => ?_)
  show Run Γ rg κ Y_X7_find 25 [(8, 0), (0, p1), (0, p2)] [(0, v1)] D3 Φ
  exact c_iret d_X7_find_25 rfl h
set_option maxRecDepth 20000 in
theorem run_pL_entryCount_11 {Γ : GG} {rg : Nat → Bool} {κ : Nat} {Φ : OT → DD → Prop} (R : cov rg rg0) (a1 : Int) (a2 : Int) : ∀ (n : Nat) (a3 : Int) (a4 : Int) (D : DD), WP (some .int) κ Φ (pL_entryCount_11 a1 a2 n a3 a4 D) → Run Γ rg κ Y_X3_entryCount 11 [(19, 0), (0, a1), (0, a2), (0, a3), (0, a4)] [] D Φ := by
  intro n
  induction n with
  | zero => intro a3 a4 D h; exact h.no.elim
  | succ n ih =>
    intro a3 a4 D h
    rw [pL_entryCount_11] at h
    show Run Γ rg κ Y_X3_entryCount 11 [(19, 0), (0, a1), (0, a2), (0, a3), (0, a4)] [] D Φ
    refine r_iload d_X3_entryCount_11 rfl ?_
    refine r_iload_n d_X3_entryCount_13 rfl ?_
    refine c_icmp_ge (tgt := 40) d_X3_entryCount_14 (by decide) (nz_w _) (nz_w _) h (fun h => ?_) (fun h => ?_)
    · skip
      show Run Γ rg κ Y_X3_entryCount 40 [(19, 0), (0, a1), (0, a2), (0, a3), (0, a4)] [] D Φ
      refine r_iload_n d_X3_entryCount_40 rfl ?_
      exact c_iret d_X3_entryCount_41 rfl h
    · skip
      show Run Γ rg κ Y_X3_entryCount 17 [(19, 0), (0, a1), (0, a2), (0, a3), (0, a4)] [] D Φ
      refine r_iload_n d_X3_entryCount_17 rfl ?_
      refine r_aload_n d_X3_entryCount_18 rfl (by decide) ?_
      refine r_getR (t := 2) d_X3_entryCount_19 fk_RX3_9 sh_11 rfl (by decide) (R 11 rfl) ?_
      refine r_aload_n d_X3_entryCount_22 rfl (by decide) ?_
      refine r_iload_n d_X3_entryCount_23 rfl ?_
      refine r_iload d_X3_entryCount_24 rfl ?_
      refine c_callVPi (a := 11) (z := 0) (as := [(0, a1), (0, a4)]) (rest := [(10, 0), (0, a3)]) (ls' := [(19, 0), (0, a1), (0, a4), (5, 0)]) d_X3_entryCount_26 ck_RX3_38 rfl sh_11 rfl (by decide) (R 11 rfl) rfl rfl (Nat.le_of_ble_eq_true rfl) (Nat.le_of_ble_eq_true rfl) (by decide) rfl rfl (fun Ψ hΨ => run_pL_leafNumbered R _ _ rfl hΨ) ?_
      show Run Γ rg κ Y_X3_entryCount 29 [(19, 0), (0, a1), (0, a2), (0, a3), (0, a4)] [(0, (pL_leafNumbered a1 a4 D)), (10, 0), (0, a3)] D Φ
      refine c_callVPi (a := 2) (z := 0) (as := [(0, (pL_leafNumbered a1 a4 D))]) (rest := [(0, a3)]) (ls' := [(10, 0), (0, (pL_leafNumbered a1 a4 D))]) d_X3_entryCount_29 ck_RX3_32 rfl sh_2 rfl (by decide) (R 2 rfl) rfl rfl (Nat.le_of_ble_eq_true rfl) (Nat.le_of_ble_eq_true rfl) (by decide) rfl rfl (fun Ψ hΨ => run_pI_itemCount R _ rfl hΨ) ?_
      show Run Γ rg κ Y_X3_entryCount 32 [(19, 0), (0, a1), (0, a2), (0, a3), (0, a4)] [(0, (pI_itemCount (pL_leafNumbered a1 a4 D) D)), (0, a3)] D Φ
      refine r_iadd d_X3_entryCount_32 ?_
      refine c_lt_n d_X3_entryCount_33 (by decide) rfl h (fun x1 h => ?_)
      show Run Γ rg κ Y_X3_entryCount 34 [(19, 0), (0, a1), (0, a2), (0, x1), (0, a4)] [] D Φ
      refine r_iinc d_X3_entryCount_34 rfl (by decide) rfl ?_
      show Run Γ rg κ Y_X3_entryCount 37 [(19, 0), (0, a1), (0, a2), (0, x1), (0, (a4 + 1))] [] D Φ
      show Run Γ rg κ Y_X3_entryCount 37 [(19, 0), (0, a1), (0, a2), (0, x1), (0, (a4 + 1))] [] D Φ
      refine r_goto (tgt := 11) d_X3_entryCount_37 (by decide) ?_
      exact (ih x1 (a4 + 1) D h)
set_option maxRecDepth 20000 in
theorem run_pL_entryCount {Γ : GG} {rg : Nat → Bool} {κ : Nat} {Φ : OT → DD → Prop} (R : cov rg rg0) (p1 : Int) {D : DD} (h : WP (some .int) κ Φ (pL_entryCount p1 D)) : Run Γ rg κ Y_X3_entryCount 0 [(19, 0), (0, p1), (5, 0), (5, 0), (5, 0)] [] D Φ := by
  unfold pL_entryCount at h
  show Run Γ rg κ Y_X3_entryCount 0 [(19, 0), (0, p1), (5, 0), (5, 0), (5, 0)] [] D Φ
  refine r_aload_n d_X3_entryCount_0 rfl (by decide) ?_
  refine r_iload_n d_X3_entryCount_1 rfl ?_
  refine c_callVPi (a := 11) (z := 0) (as := [(0, p1)]) (rest := []) (ls' := [(19, 0), (0, p1), (5, 0)]) d_X3_entryCount_2 ck_RX3_35 rfl sh_11 rfl (by decide) (R 11 rfl) rfl rfl (Nat.le_of_ble_eq_true rfl) (Nat.le_of_ble_eq_true rfl) (by decide) rfl rfl (fun Ψ hΨ => run_pL_leafCount R _ rfl hΨ) ?_
  show Run Γ rg κ Y_X3_entryCount 5 [(19, 0), (0, p1), (5, 0), (5, 0), (5, 0)] [(0, (pL_leafCount p1 D))] D Φ
  refine c_lt_n d_X3_entryCount_5 (by decide) rfl h (fun x1 h => ?_)
  show Run Γ rg κ Y_X3_entryCount 6 [(19, 0), (0, p1), (0, x1), (5, 0), (5, 0)] [] D Φ
  refine r_iconst d_X3_entryCount_6 ?_
  refine r_istore_n d_X3_entryCount_7 (by decide) rfl ?_
  show Run Γ rg κ Y_X3_entryCount 8 [(19, 0), (0, p1), (0, x1), (0, 0), (5, 0)] [] D Φ
  refine r_iconst d_X3_entryCount_8 ?_
  refine r_istore d_X3_entryCount_9 (by decide) rfl ?_
  show Run Γ rg κ Y_X3_entryCount 11 [(19, 0), (0, p1), (0, x1), (0, 0), (0, 0)] [] D Φ
  exact run_pL_entryCount_11 R p1 x1 fu 0 0 D h
set_option maxRecDepth 20000 in
theorem run_pL_subkeyNumbered_12 {Γ : GG} {rg : Nat → Bool} {κ : Nat} {Φ : OT → DD → Prop} (R : cov rg rg0) (a1 : Int) (a3 : Int) {K : Int → Int → DD → Res} (hK : ∀ (z4 : Int) (z6 : Int) (D : DD), WP (some .int) κ Φ (K z4 z6 D) → Run Γ rg κ Y_X3_subkeyNumbered 41 [(19, 0), (5, 0), (5, 0), (5, 0), (0, z4), (5, 0), (0, z6)] [] D Φ) : ∀ (n : Nat) (a4 : Int) (a5 : Int) (D : DD), WP (some .int) κ Φ (pL_subkeyNumbered_12 a1 a3 n a4 a5 D K) → Run Γ rg κ Y_X3_subkeyNumbered 12 [(19, 0), (0, a1), (5, 0), (0, a3), (0, a4), (0, a5), (5, 0)] [] D Φ := by
  intro n
  induction n with
  | zero => intro a4 a5 D h; exact h.no.elim
  | succ n ih =>
    intro a4 a5 D h
    rw [pL_subkeyNumbered_12] at h
    show Run Γ rg κ Y_X3_subkeyNumbered 12 [(19, 0), (0, a1), (5, 0), (0, a3), (0, a4), (0, a5), (5, 0)] [] D Φ
    refine r_iload d_X3_subkeyNumbered_12 rfl ?_
    refine r_iload_n d_X3_subkeyNumbered_14 rfl ?_
    refine c_icmp_ge (tgt := 76) d_X3_subkeyNumbered_15 (by decide) (nz_w _) (nz_w _) h (fun h => ?_) (fun h => ?_)
    · skip
      show Run Γ rg κ Y_X3_subkeyNumbered 76 [(19, 0), (0, a1), (5, 0), (0, a3), (0, a4), (0, a5), (5, 0)] [] D Φ
      refine r_iconst d_X3_subkeyNumbered_76 ?_
      exact c_iret d_X3_subkeyNumbered_77 rfl h
    · skip
      show Run Γ rg κ Y_X3_subkeyNumbered 18 [(19, 0), (0, a1), (5, 0), (0, a3), (0, a4), (0, a5), (5, 0)] [] D Φ
      refine r_aload_n d_X3_subkeyNumbered_18 rfl (by decide) ?_
      refine r_iload_n d_X3_subkeyNumbered_19 rfl ?_
      refine r_iload d_X3_subkeyNumbered_20 rfl ?_
      refine c_callVPi (a := 11) (z := 0) (as := [(0, a1), (0, a5)]) (rest := []) (ls' := [(19, 0), (0, a1), (0, a5), (5, 0)]) d_X3_subkeyNumbered_22 ck_RX3_38 rfl sh_11 rfl (by decide) (R 11 rfl) rfl rfl (Nat.le_of_ble_eq_true rfl) (Nat.le_of_ble_eq_true rfl) (by decide) rfl rfl (fun Ψ hΨ => run_pL_leafNumbered R _ _ rfl hΨ) ?_
      show Run Γ rg κ Y_X3_subkeyNumbered 25 [(19, 0), (0, a1), (5, 0), (0, a3), (0, a4), (0, a5), (5, 0)] [(0, (pL_leafNumbered a1 a5 D))] D Φ
      refine c_lt d_X3_subkeyNumbered_25 (by decide) rfl h (fun x1 h => ?_)
      show Run Γ rg κ Y_X3_subkeyNumbered 27 [(19, 0), (0, a1), (5, 0), (0, a3), (0, a4), (0, a5), (0, x1)] [] D Φ
      refine r_iload d_X3_subkeyNumbered_27 rfl ?_
      refine r_aload_n d_X3_subkeyNumbered_29 rfl (by decide) ?_
      refine r_getR (t := 2) d_X3_subkeyNumbered_30 fk_RX3_9 sh_11 rfl (by decide) (R 11 rfl) ?_
      refine r_iload d_X3_subkeyNumbered_33 rfl ?_
      refine c_callVPi (a := 2) (z := 0) (as := [(0, x1)]) (rest := [(0, a4)]) (ls' := [(10, 0), (0, x1)]) d_X3_subkeyNumbered_35 ck_RX3_32 rfl sh_2 rfl (by decide) (R 2 rfl) rfl rfl (Nat.le_of_ble_eq_true rfl) (Nat.le_of_ble_eq_true rfl) (by decide) rfl rfl (fun Ψ hΨ => run_pI_itemCount R _ rfl hΨ) ?_
      show Run Γ rg κ Y_X3_subkeyNumbered 38 [(19, 0), (0, a1), (5, 0), (0, a3), (0, a4), (0, a5), (0, x1)] [(0, (pI_itemCount x1 D)), (0, a4)] D Φ
      refine c_icmp_ge (tgt := 56) d_X3_subkeyNumbered_38 (by decide) (nz_w _) (nz_w _) h (fun h => ?_) (fun h => ?_)
      · skip
        show Run Γ rg κ Y_X3_subkeyNumbered 56 [(19, 0), (0, a1), (5, 0), (0, a3), (0, a4), (0, a5), (0, x1)] [] D Φ
        refine r_iload d_X3_subkeyNumbered_56 rfl ?_
        refine r_aload_n d_X3_subkeyNumbered_58 rfl (by decide) ?_
        refine r_getR (t := 2) d_X3_subkeyNumbered_59 fk_RX3_9 sh_11 rfl (by decide) (R 11 rfl) ?_
        refine r_iload d_X3_subkeyNumbered_62 rfl ?_
        refine c_callVPi (a := 2) (z := 0) (as := [(0, x1)]) (rest := [(0, a4)]) (ls' := [(10, 0), (0, x1)]) d_X3_subkeyNumbered_64 ck_RX3_32 rfl sh_2 rfl (by decide) (R 2 rfl) rfl rfl (Nat.le_of_ble_eq_true rfl) (Nat.le_of_ble_eq_true rfl) (by decide) rfl rfl (fun Ψ hΨ => run_pI_itemCount R _ rfl hΨ) ?_
        show Run Γ rg κ Y_X3_subkeyNumbered 67 [(19, 0), (0, a1), (5, 0), (0, a3), (0, a4), (0, a5), (0, x1)] [(0, (pI_itemCount x1 D)), (0, a4)] D Φ
        refine r_isub d_X3_subkeyNumbered_67 ?_
        refine c_lt d_X3_subkeyNumbered_68 (by decide) rfl h (fun x2 h => ?_)
        show Run Γ rg κ Y_X3_subkeyNumbered 70 [(19, 0), (0, a1), (5, 0), (0, a3), (0, x2), (0, a5), (0, x1)] [] D Φ
        refine r_iinc d_X3_subkeyNumbered_70 rfl (by decide) rfl ?_
        show Run Γ rg κ Y_X3_subkeyNumbered 73 [(19, 0), (0, a1), (5, 0), (0, a3), (0, x2), (0, (a5 + 1)), (0, x1)] [] D Φ
        refine r_goto (tgt := 12) d_X3_subkeyNumbered_73 (by decide) ?_
        exact Run.forget (ls' := [(19, 0), (0, a1), (5, 0), (0, a3), (0, x2), (0, (a5 + 1)), (5, 0)]) ⟨Or.inr rfl, Or.inr rfl, Or.inr rfl, Or.inr rfl, Or.inr rfl, Or.inr rfl, Or.inl rfl, trivial⟩ (ih x2 (a5 + 1) D h)
      · skip
        exact Run.forget (ls' := [(19, 0), (5, 0), (5, 0), (5, 0), (0, a4), (5, 0), (0, x1)]) ⟨Or.inr rfl, Or.inl rfl, Or.inr rfl, Or.inl rfl, Or.inr rfl, Or.inl rfl, Or.inr rfl, trivial⟩ (hK a4 x1 D h)
set_option maxRecDepth 20000 in
theorem run_pL_subkeyNumbered {Γ : GG} {rg : Nat → Bool} {κ : Nat} {Φ : OT → DD → Prop} (R : cov rg rg0) (p1 : Int) (p2 : Int) {D : DD} (h : WP (some .int) κ Φ (pL_subkeyNumbered p1 p2 D)) : Run Γ rg κ Y_X3_subkeyNumbered 0 [(19, 0), (0, p1), (0, p2), (5, 0), (5, 0), (5, 0), (5, 0)] [] D Φ := by
  unfold pL_subkeyNumbered at h
  show Run Γ rg κ Y_X3_subkeyNumbered 0 [(19, 0), (0, p1), (0, p2), (5, 0), (5, 0), (5, 0), (5, 0)] [] D Φ
  refine r_aload_n d_X3_subkeyNumbered_0 rfl (by decide) ?_
  refine r_iload_n d_X3_subkeyNumbered_1 rfl ?_
  refine c_callVPi (a := 11) (z := 0) (as := [(0, p1)]) (rest := []) (ls' := [(19, 0), (0, p1), (5, 0)]) d_X3_subkeyNumbered_2 ck_RX3_35 rfl sh_11 rfl (by decide) (R 11 rfl) rfl rfl (Nat.le_of_ble_eq_true rfl) (Nat.le_of_ble_eq_true rfl) (by decide) rfl rfl (fun Ψ hΨ => run_pL_leafCount R _ rfl hΨ) ?_
  show Run Γ rg κ Y_X3_subkeyNumbered 5 [(19, 0), (0, p1), (0, p2), (5, 0), (5, 0), (5, 0), (5, 0)] [(0, (pL_leafCount p1 D))] D Φ
  refine c_lt_n d_X3_subkeyNumbered_5 (by decide) rfl h (fun x1 h => ?_)
  show Run Γ rg κ Y_X3_subkeyNumbered 6 [(19, 0), (0, p1), (0, p2), (0, x1), (5, 0), (5, 0), (5, 0)] [] D Φ
  refine r_iload_n d_X3_subkeyNumbered_6 rfl ?_
  refine r_istore d_X3_subkeyNumbered_7 (by decide) rfl ?_
  show Run Γ rg κ Y_X3_subkeyNumbered 9 [(19, 0), (0, p1), (0, p2), (0, x1), (0, p2), (5, 0), (5, 0)] [] D Φ
  refine r_iconst d_X3_subkeyNumbered_9 ?_
  refine r_istore d_X3_subkeyNumbered_10 (by decide) rfl ?_
  show Run Γ rg κ Y_X3_subkeyNumbered 12 [(19, 0), (0, p1), (0, p2), (0, x1), (0, p2), (0, 0), (5, 0)] [] D Φ
  refine Run.forget (ls' := [(19, 0), (0, p1), (5, 0), (0, x1), (0, p2), (0, 0), (5, 0)]) ⟨Or.inr rfl, Or.inr rfl, Or.inl rfl, Or.inr rfl, Or.inr rfl, Or.inr rfl, Or.inr rfl, trivial⟩ ?_
  refine run_pL_subkeyNumbered_12 R p1 x1 ?_ fu p2 0 D h
  intro x2 x3 D1 h
  show Run Γ rg κ Y_X3_subkeyNumbered 41 [(19, 0), (5, 0), (5, 0), (5, 0), (0, x2), (5, 0), (0, x3)] [] D1 Φ
  refine r_aload_n d_X3_subkeyNumbered_41 rfl (by decide) ?_
  refine r_getR (t := 2) d_X3_subkeyNumbered_42 fk_RX3_9 sh_11 rfl (by decide) (R 11 rfl) ?_
  refine r_iload d_X3_subkeyNumbered_45 rfl ?_
  refine r_iload d_X3_subkeyNumbered_47 rfl ?_
  refine c_callVPi (a := 2) (z := 0) (as := [(0, x3), (0, x2)]) (rest := []) (ls' := [(10, 0), (0, x3), (0, x2)]) d_X3_subkeyNumbered_49 ck_RX3_45 rfl sh_2 rfl (by decide) (R 2 rfl) rfl rfl (Nat.le_of_ble_eq_true rfl) (Nat.le_of_ble_eq_true rfl) (by decide) rfl rfl (fun Ψ hΨ => run_pI_item R _ _ rfl hΨ) ?_
  show Run Γ rg κ Y_X3_subkeyNumbered 52 [(19, 0), (5, 0), (5, 0), (5, 0), (0, x2), (5, 0), (0, x3)] [(0, (pI_item x3 x2 D1))] D1 Φ
  refine r_bipush d_X3_subkeyNumbered_52 (by decide) ?_
  refine c_irem d_X3_subkeyNumbered_54 (nz_w _) ⟨by decide, by decide⟩ (by decide) ?_
  exact c_iret d_X3_subkeyNumbered_55 rfl h
set_option maxRecDepth 20000 in
theorem run_pH_subkeyAt {Γ : GG} {rg : Nat → Bool} {κ : Nat} {Φ : OT → DD → Prop} (R : cov rg rg0) (p1 : Int) (p2 : Int) {D : DD} (h : WP (some .int) κ Φ (pH_subkeyAt p1 p2 D)) : Run Γ rg κ Y_X7_subkeyAt 0 [(8, 0), (0, p1), (0, p2), (5, 0)] [] D Φ := by
  unfold pH_subkeyAt at h
  show Run Γ rg κ Y_X7_subkeyAt 0 [(8, 0), (0, p1), (0, p2), (5, 0)] [] D Φ
  refine r_aload_n d_X7_subkeyAt_0 rfl (by decide) ?_
  refine r_iload_n d_X7_subkeyAt_1 rfl ?_
  refine c_callVv (a := 0) (z := 0) (as := [(0, p1)]) (rest := []) (ls' := [(8, 0), (0, p1)]) d_X7_subkeyAt_2 ck_RX7_95 rfl sh_0 rfl (by decide) (R 0 rfl) rfl rfl (Nat.le_of_ble_eq_true rfl) (Nat.le_of_ble_eq_true rfl) (by decide) rfl rfl (fun κ' Ψ hΨ => run_pH_requireKey R _ hΨ) h (fun _ D1 h => ?_)
  show Run Γ rg κ Y_X7_subkeyAt 5 [(8, 0), (0, p1), (0, p2), (5, 0)] [] D1 Φ
  refine r_aload_n d_X7_subkeyAt_5 rfl (by decide) ?_
  refine r_getR (t := 2) d_X7_subkeyAt_6 fk_RX7_21 sh_0 rfl (by decide) (R 0 rfl) ?_
  refine r_iload_n d_X7_subkeyAt_9 rfl ?_
  refine c_callVPi (a := 2) (z := 0) (as := [(0, p1)]) (rest := []) (ls' := [(10, 0), (0, p1)]) d_X7_subkeyAt_10 ck_RX7_108 rfl sh_2 rfl (by decide) (R 2 rfl) rfl rfl (Nat.le_of_ble_eq_true rfl) (Nat.le_of_ble_eq_true rfl) (by decide) rfl rfl (fun Ψ hΨ => run_pI_placeOfKey R _ rfl hΨ) ?_
  show Run Γ rg κ Y_X7_subkeyAt 13 [(8, 0), (0, p1), (0, p2), (5, 0)] [(0, (pI_placeOfKey p1 D1))] D1 Φ
  refine c_lt_n d_X7_subkeyAt_13 (by decide) rfl h (fun x1 h => ?_)
  show Run Γ rg κ Y_X7_subkeyAt 14 [(8, 0), (0, p1), (0, p2), (0, x1)] [] D1 Φ
  refine r_iload_n d_X7_subkeyAt_14 rfl ?_
  refine c_jn (fun J => ∀ (D2 : DD), WP (some .int) κ Φ (J D2) → Run Γ rg κ Y_X7_subkeyAt 30 [(5, 0), (5, 0), (5, 0), (5, 0)] [] D2 Φ) h ?_ (fun J1 hJ1 h => ?_)
  · intro D2 h
    show Run Γ rg κ Y_X7_subkeyAt 30 [(5, 0), (5, 0), (5, 0), (5, 0)] [] D2 Φ
    exact c_throw (text := "there is no such subkey") tk_RX7_173_177 (by decide +kernel) d_X7_subkeyAt_30 d_X7_subkeyAt_33 d_X7_subkeyAt_34 d_X7_subkeyAt_36 d_X7_subkeyAt_39 rfl (by decide) (Nat.le_of_ble_eq_true rfl) h
  refine c_if_lt (tgt := 30) d_X7_subkeyAt_15 (by decide) (nz_w _) h (fun h => ?_) (fun h => ?_)
  · skip
    exact Run.forget (ls' := [(5, 0), (5, 0), (5, 0), (5, 0)]) ⟨Or.inl rfl, Or.inl rfl, Or.inl rfl, Or.inl rfl, trivial⟩ (hJ1 D1 h)
  · skip
    show Run Γ rg κ Y_X7_subkeyAt 18 [(8, 0), (0, p1), (0, p2), (0, x1)] [] D1 Φ
    refine r_iload_n d_X7_subkeyAt_18 rfl ?_
    refine r_aload_n d_X7_subkeyAt_19 rfl (by decide) ?_
    refine r_getR (t := 11) d_X7_subkeyAt_20 fk_RX7_34 sh_0 rfl (by decide) (R 0 rfl) ?_
    refine r_iload_n d_X7_subkeyAt_23 rfl ?_
    refine c_callVi (t' := (some .int)) (a := 11) (z := 0) (as := [(0, x1)]) (rest := [(0, p2)]) (ls' := [(19, 0), (0, x1), (5, 0), (5, 0), (5, 0)]) d_X7_subkeyAt_24 ck_RX7_170 rfl sh_11 rfl (by decide) (R 11 rfl) rfl rfl (Nat.le_of_ble_eq_true rfl) (Nat.le_of_ble_eq_true rfl) (by decide) rfl rfl (fun _ => rfl) (fun κ' Ψ hΨ => run_pL_entryCount R _ hΨ) h (fun v1 D3 h => ?_)
    show Run Γ rg κ Y_X7_subkeyAt 27 [(8, 0), (0, p1), (0, p2), (0, x1)] [(0, v1), (0, p2)] D3 Φ
    refine c_icmp_lt (tgt := 40) d_X7_subkeyAt_27 (by decide) (nz_w _) (nz_w _) h (fun h => ?_) (fun h => ?_)
    · skip
      show Run Γ rg κ Y_X7_subkeyAt 40 [(8, 0), (0, p1), (0, p2), (0, x1)] [] D3 Φ
      refine r_aload_n d_X7_subkeyAt_40 rfl (by decide) ?_
      refine r_getR (t := 11) d_X7_subkeyAt_41 fk_RX7_34 sh_0 rfl (by decide) (R 0 rfl) ?_
      refine r_iload_n d_X7_subkeyAt_44 rfl ?_
      refine r_iload_n d_X7_subkeyAt_45 rfl ?_
      refine c_callVi (t' := (some .int)) (a := 11) (z := 0) (as := [(0, x1), (0, p2)]) (rest := []) (ls' := [(19, 0), (0, x1), (0, p2), (5, 0), (5, 0), (5, 0), (5, 0)]) d_X7_subkeyAt_46 ck_RX7_180 rfl sh_11 rfl (by decide) (R 11 rfl) rfl rfl (Nat.le_of_ble_eq_true rfl) (Nat.le_of_ble_eq_true rfl) (by decide) rfl rfl (fun _ => rfl) (fun κ' Ψ hΨ => run_pL_subkeyNumbered R _ _ hΨ) h (fun v2 D4 h => ?_)
      show Run Γ rg κ Y_X7_subkeyAt 49 [(8, 0), (0, p1), (0, p2), (0, x1)] [(0, v2)] D4 Φ
      exact c_iret d_X7_subkeyAt_49 rfl h
    · skip
      exact Run.forget (ls' := [(5, 0), (5, 0), (5, 0), (5, 0)]) ⟨Or.inl rfl, Or.inl rfl, Or.inl rfl, Or.inl rfl, trivial⟩ (hJ1 D3 h)
set_option maxRecDepth 20000 in
theorem run_pH_list {Γ : GG} {rg : Nat → Bool} {κ : Nat} {Φ : OT → DD → Prop} (R : cov rg rg0) (p1 : Int) {D : DD} (h : WP (some .int) κ Φ (pH_list p1 D)) : Run Γ rg κ Y_X7_list 0 [(8, 0), (0, p1), (5, 0)] [] D Φ := by
  unfold pH_list at h
  show Run Γ rg κ Y_X7_list 0 [(8, 0), (0, p1), (5, 0)] [] D Φ
  refine r_aload_n d_X7_list_0 rfl (by decide) ?_
  refine r_iload_n d_X7_list_1 rfl ?_
  refine c_callVv (a := 0) (z := 0) (as := [(0, p1)]) (rest := []) (ls' := [(8, 0), (0, p1)]) d_X7_list_2 ck_RX7_95 rfl sh_0 rfl (by decide) (R 0 rfl) rfl rfl (Nat.le_of_ble_eq_true rfl) (Nat.le_of_ble_eq_true rfl) (by decide) rfl rfl (fun κ' Ψ hΨ => run_pH_requireKey R _ hΨ) h (fun _ D1 h => ?_)
  show Run Γ rg κ Y_X7_list 5 [(8, 0), (0, p1), (5, 0)] [] D1 Φ
  refine r_aload_n d_X7_list_5 rfl (by decide) ?_
  refine r_getR (t := 2) d_X7_list_6 fk_RX7_21 sh_0 rfl (by decide) (R 0 rfl) ?_
  refine r_iload_n d_X7_list_9 rfl ?_
  refine c_callVPi (a := 2) (z := 0) (as := [(0, p1)]) (rest := []) (ls' := [(10, 0), (0, p1)]) d_X7_list_10 ck_RX7_108 rfl sh_2 rfl (by decide) (R 2 rfl) rfl rfl (Nat.le_of_ble_eq_true rfl) (Nat.le_of_ble_eq_true rfl) (by decide) rfl rfl (fun Ψ hΨ => run_pI_placeOfKey R _ rfl hΨ) ?_
  show Run Γ rg κ Y_X7_list 13 [(8, 0), (0, p1), (5, 0)] [(0, (pI_placeOfKey p1 D1))] D1 Φ
  refine c_lt_n d_X7_list_13 (by decide) rfl h (fun x1 h => ?_)
  show Run Γ rg κ Y_X7_list 14 [(8, 0), (0, p1), (0, x1)] [] D1 Φ
  refine r_bipush d_X7_list_14 (by decide) ?_
  refine r_aload_n d_X7_list_16 rfl (by decide) ?_
  refine r_getR (t := 11) d_X7_list_17 fk_RX7_34 sh_0 rfl (by decide) (R 0 rfl) ?_
  show Run Γ rg κ Y_X7_list 20 [(8, 0), (0, p1), (0, x1)] [(19, 0), (0, 10)] D1 Φ
  refine r_iload_n d_X7_list_20 rfl ?_
  refine c_callVi (t' := (some .int)) (a := 11) (z := 0) (as := [(0, x1)]) (rest := [(0, 10)]) (ls' := [(19, 0), (0, x1), (5, 0), (5, 0), (5, 0)]) d_X7_list_21 ck_RX7_170 rfl sh_11 rfl (by decide) (R 11 rfl) rfl rfl (Nat.le_of_ble_eq_true rfl) (Nat.le_of_ble_eq_true rfl) (by decide) rfl rfl (fun _ => rfl) (fun κ' Ψ hΨ => run_pL_entryCount R _ hΨ) h (fun v1 D2 h => ?_)
  show Run Γ rg κ Y_X7_list 24 [(8, 0), (0, p1), (0, x1)] [(0, v1), (0, 10)] D2 Φ
  refine r_imul d_X7_list_24 ?_
  refine r_aload_n d_X7_list_25 rfl (by decide) ?_
  refine r_getR (t := 11) d_X7_list_26 fk_RX7_34 sh_0 rfl (by decide) (R 0 rfl) ?_
  refine r_iload_n d_X7_list_29 rfl ?_
  refine c_callVPi (a := 11) (z := 0) (as := [(0, x1)]) (rest := [(0, (10 * v1))]) (ls' := [(19, 0), (0, x1), (5, 0)]) d_X7_list_30 ck_RX7_183 rfl sh_11 rfl (by decide) (R 11 rfl) rfl rfl (Nat.le_of_ble_eq_true rfl) (Nat.le_of_ble_eq_true rfl) (by decide) rfl rfl (fun Ψ hΨ => run_pL_leafCount R _ rfl hΨ) ?_
  show Run Γ rg κ Y_X7_list 33 [(8, 0), (0, p1), (0, x1)] [(0, (pL_leafCount x1 D2)), (0, (10 * v1))] D2 Φ
  refine r_iadd d_X7_list_33 ?_
  exact c_iret d_X7_list_34 rfl h
set_option maxRecDepth 20000 in
theorem run_pH_follow_9 {Γ : GG} {rg : Nat → Bool} {κ : Nat} {Φ : OT → DD → Prop} (R : cov rg rg0) {K : Int → DD → Res} (hK : ∀ (z2 : Int) (D : DD), WP (some .int) κ Φ (K z2 D) → Run Γ rg κ Y_X7_follow 46 [(8, 0), (5, 0), (0, z2), (5, 0)] [] D Φ) : ∀ (n : Nat) (a2 : Int) (a3 : Int) (D : DD), WP (some .int) κ Φ (pH_follow_9 n a2 a3 D K) → Run Γ rg κ Y_X7_follow 9 [(8, 0), (5, 0), (0, a2), (0, a3)] [] D Φ := by
  intro n
  induction n with
  | zero => intro a2 a3 D h; exact h.no.elim
  | succ n ih =>
    intro a2 a3 D h
    rw [pH_follow_9] at h
    show Run Γ rg κ Y_X7_follow 9 [(8, 0), (5, 0), (0, a2), (0, a3)] [] D Φ
    refine r_iload_n d_X7_follow_9 rfl ?_
    refine r_iconst d_X7_follow_10 ?_
    refine c_icmp_ge (tgt := 46) d_X7_follow_11 (by decide) (nz_w _) (nz_k rfl) h (fun h => ?_) (fun h => ?_)
    · skip
      exact Run.forget (ls' := [(8, 0), (5, 0), (0, a2), (5, 0)]) ⟨Or.inr rfl, Or.inr rfl, Or.inr rfl, Or.inl rfl, trivial⟩ (hK a2 D h)
    · skip
      show Run Γ rg κ Y_X7_follow 14 [(8, 0), (5, 0), (0, a2), (0, a3)] [] D Φ
      refine r_aload_n d_X7_follow_14 rfl (by decide) ?_
      refine r_iload_n d_X7_follow_15 rfl ?_
      refine c_callVPi (a := 0) (z := 0) (as := [(0, a2)]) (rest := []) (ls' := [(8, 0), (0, a2)]) d_X7_follow_16 ck_RX7_186 rfl sh_0 rfl (by decide) (R 0 rfl) rfl rfl (Nat.le_of_ble_eq_true rfl) (Nat.le_of_ble_eq_true rfl) (by decide) rfl rfl (fun Ψ hΨ => run_pH_isLink R _ rfl hΨ) ?_
      show Run Γ rg κ Y_X7_follow 19 [(8, 0), (5, 0), (0, a2), (0, a3)] [(0, (pH_isLink a2 D))] D Φ
      refine c_if_eq (tgt := 46) d_X7_follow_19 (by decide) (nz_b (pH_isLink_b a2 D)) h (fun h => ?_) (fun h => ?_)
      · skip
        exact Run.forget (ls' := [(8, 0), (5, 0), (0, a2), (5, 0)]) ⟨Or.inr rfl, Or.inr rfl, Or.inr rfl, Or.inl rfl, trivial⟩ (hK a2 D h)
      · skip
        show Run Γ rg κ Y_X7_follow 22 [(8, 0), (5, 0), (0, a2), (0, a3)] [] D Φ
        refine r_aload_n d_X7_follow_22 rfl (by decide) ?_
        refine r_getR (t := 2) d_X7_follow_23 fk_RX7_21 sh_0 rfl (by decide) (R 0 rfl) ?_
        refine r_aload_n d_X7_follow_26 rfl (by decide) ?_
        refine r_getR (t := 2) d_X7_follow_27 fk_RX7_21 sh_0 rfl (by decide) (R 0 rfl) ?_
        refine r_iload_n d_X7_follow_30 rfl ?_
        refine c_callVPi (a := 2) (z := 0) (as := [(0, a2)]) (rest := [(10, 0)]) (ls' := [(10, 0), (0, a2)]) d_X7_follow_31 ck_RX7_108 rfl sh_2 rfl (by decide) (R 2 rfl) rfl rfl (Nat.le_of_ble_eq_true rfl) (Nat.le_of_ble_eq_true rfl) (by decide) rfl rfl (fun Ψ hΨ => run_pI_placeOfKey R _ rfl hΨ) ?_
        show Run Γ rg κ Y_X7_follow 34 [(8, 0), (5, 0), (0, a2), (0, a3)] [(0, (pI_placeOfKey a2 D)), (10, 0)] D Φ
        refine r_iconst d_X7_follow_34 ?_
        refine r_iadd d_X7_follow_35 ?_
        refine c_callVPi (a := 2) (z := 0) (as := [(0, ((pI_placeOfKey a2 D) + 5))]) (rest := []) (ls' := [(10, 0), (0, ((pI_placeOfKey a2 D) + 5))]) d_X7_follow_36 ck_RX7_111 rfl sh_2 rfl (by decide) (R 2 rfl) rfl rfl (Nat.le_of_ble_eq_true rfl) (Nat.le_of_ble_eq_true rfl) (by decide) rfl rfl (fun Ψ hΨ => run_pI_unitAt R _ rfl hΨ) ?_
        show Run Γ rg κ Y_X7_follow 39 [(8, 0), (5, 0), (0, a2), (0, a3)] [(0, (pI_unitAt ((pI_placeOfKey a2 D) + 5) D))] D Φ
        refine c_lt_n d_X7_follow_39 (by decide) rfl h (fun x1 h => ?_)
        show Run Γ rg κ Y_X7_follow 40 [(8, 0), (5, 0), (0, x1), (0, a3)] [] D Φ
        refine r_iinc d_X7_follow_40 rfl (by decide) rfl ?_
        show Run Γ rg κ Y_X7_follow 43 [(8, 0), (5, 0), (0, x1), (0, (a3 + 1))] [] D Φ
        show Run Γ rg κ Y_X7_follow 43 [(8, 0), (5, 0), (0, x1), (0, (a3 + 1))] [] D Φ
        refine r_goto (tgt := 9) d_X7_follow_43 (by decide) ?_
        exact (ih x1 (a3 + 1) D h)
set_option maxRecDepth 20000 in
theorem run_pH_follow {Γ : GG} {rg : Nat → Bool} {κ : Nat} {Φ : OT → DD → Prop} (R : cov rg rg0) (p1 : Int) {D : DD} (h : WP (some .int) κ Φ (pH_follow p1 D)) : Run Γ rg κ Y_X7_follow 0 [(8, 0), (0, p1), (5, 0), (5, 0)] [] D Φ := by
  unfold pH_follow at h
  show Run Γ rg κ Y_X7_follow 0 [(8, 0), (0, p1), (5, 0), (5, 0)] [] D Φ
  refine r_aload_n d_X7_follow_0 rfl (by decide) ?_
  refine r_iload_n d_X7_follow_1 rfl ?_
  refine c_callVv (a := 0) (z := 0) (as := [(0, p1)]) (rest := []) (ls' := [(8, 0), (0, p1)]) d_X7_follow_2 ck_RX7_95 rfl sh_0 rfl (by decide) (R 0 rfl) rfl rfl (Nat.le_of_ble_eq_true rfl) (Nat.le_of_ble_eq_true rfl) (by decide) rfl rfl (fun κ' Ψ hΨ => run_pH_requireKey R _ hΨ) h (fun _ D1 h => ?_)
  show Run Γ rg κ Y_X7_follow 5 [(8, 0), (0, p1), (5, 0), (5, 0)] [] D1 Φ
  refine r_iload_n d_X7_follow_5 rfl ?_
  refine r_istore_n d_X7_follow_6 (by decide) rfl ?_
  show Run Γ rg κ Y_X7_follow 7 [(8, 0), (0, p1), (0, p1), (5, 0)] [] D1 Φ
  refine r_iconst d_X7_follow_7 ?_
  refine r_istore_n d_X7_follow_8 (by decide) rfl ?_
  show Run Γ rg κ Y_X7_follow 9 [(8, 0), (0, p1), (0, p1), (0, 0)] [] D1 Φ
  refine Run.forget (ls' := [(8, 0), (5, 0), (0, p1), (0, 0)]) ⟨Or.inr rfl, Or.inl rfl, Or.inr rfl, Or.inr rfl, trivial⟩ ?_
  refine run_pH_follow_9 R ?_ fu p1 0 D1 h
  intro x1 D2 h
  show Run Γ rg κ Y_X7_follow 46 [(8, 0), (5, 0), (0, x1), (5, 0)] [] D2 Φ
  refine r_aload_n d_X7_follow_46 rfl (by decide) ?_
  refine r_iload_n d_X7_follow_47 rfl ?_
  refine c_callVPi (a := 0) (z := 0) (as := [(0, x1)]) (rest := []) (ls' := [(8, 0), (0, x1)]) d_X7_follow_48 ck_RX7_189 rfl sh_0 rfl (by decide) (R 0 rfl) rfl rfl (Nat.le_of_ble_eq_true rfl) (Nat.le_of_ble_eq_true rfl) (by decide) rfl rfl (fun Ψ hΨ => run_pH_hasKey R _ rfl hΨ) ?_
  show Run Γ rg κ Y_X7_follow 51 [(8, 0), (5, 0), (0, x1), (5, 0)] [(0, (pH_hasKey x1 D2))] D2 Φ
  refine c_if_eq (tgt := 66) d_X7_follow_51 (by decide) (nz_b (pH_hasKey_b x1 D2)) h (fun h => ?_) (fun h => ?_)
  · skip
    show Run Γ rg κ Y_X7_follow 66 [(8, 0), (5, 0), (0, x1), (5, 0)] [] D2 Φ
    refine r_iconst d_X7_follow_66 ?_
    exact c_iret d_X7_follow_67 rfl h
  · skip
    show Run Γ rg κ Y_X7_follow 54 [(8, 0), (5, 0), (0, x1), (5, 0)] [] D2 Φ
    refine r_aload_n d_X7_follow_54 rfl (by decide) ?_
    refine r_iload_n d_X7_follow_55 rfl ?_
    refine c_callVPi (a := 0) (z := 0) (as := [(0, x1)]) (rest := []) (ls' := [(8, 0), (0, x1)]) d_X7_follow_56 ck_RX7_186 rfl sh_0 rfl (by decide) (R 0 rfl) rfl rfl (Nat.le_of_ble_eq_true rfl) (Nat.le_of_ble_eq_true rfl) (by decide) rfl rfl (fun Ψ hΨ => run_pH_isLink R _ rfl hΨ) ?_
    show Run Γ rg κ Y_X7_follow 59 [(8, 0), (5, 0), (0, x1), (5, 0)] [(0, (pH_isLink x1 D2))] D2 Φ
    refine c_if_ne (tgt := 66) d_X7_follow_59 (by decide) (nz_b (pH_isLink_b x1 D2)) h (fun h => ?_) (fun h => ?_)
    · skip
      show Run Γ rg κ Y_X7_follow 66 [(8, 0), (5, 0), (0, x1), (5, 0)] [] D2 Φ
      refine r_iconst d_X7_follow_66 ?_
      exact c_iret d_X7_follow_67 rfl h
    · skip
      show Run Γ rg κ Y_X7_follow 62 [(8, 0), (5, 0), (0, x1), (5, 0)] [] D2 Φ
      refine r_iload_n d_X7_follow_62 rfl ?_
      refine r_goto (tgt := 67) d_X7_follow_63 (by decide) ?_
      show Run Γ rg κ Y_X7_follow 67 [(8, 0), (5, 0), (0, x1), (5, 0)] [(0, x1)] D2 Φ
      exact c_iret d_X7_follow_67 rfl h
set_option maxRecDepth 20000 in
theorem run_pH_requireValueName {Γ : GG} {rg : Nat → Bool} {κ : Nat} {Φ : OT → DD → Prop} (R : cov rg rg0) (p1 : Int) {D : DD} (h : WP none κ Φ (pH_requireValueName p1 D)) : Run Γ rg κ Y_X7_requireValueName 0 [(0, p1)] [] D Φ := by
  unfold pH_requireValueName at h
  show Run Γ rg κ Y_X7_requireValueName 0 [(0, p1)] [] D Φ
  refine r_iload_n d_X7_requireValueName_0 rfl ?_
  refine c_jn (fun J => ∀ (D1 : DD), WP none κ Φ (J D1) → Run Γ rg κ Y_X7_requireValueName 10 [(5, 0)] [] D1 Φ) h ?_ (fun J1 hJ1 h => ?_)
  · intro D1 h
    show Run Γ rg κ Y_X7_requireValueName 10 [(5, 0)] [] D1 Φ
    exact c_throwW (text := "the name of a value is out of range") tk_RX7_279_283 (by decide +kernel) d_X7_requireValueName_10 d_X7_requireValueName_13 d_X7_requireValueName_14 d_X7_requireValueName_17 d_X7_requireValueName_20 rfl (by decide) (Nat.le_of_ble_eq_true rfl) h
  refine c_if_lt (tgt := 10) d_X7_requireValueName_1 (by decide) (nz_w _) h (fun h => ?_) (fun h => ?_)
  · skip
    exact Run.forget (ls' := [(5, 0)]) ⟨Or.inl rfl, trivial⟩ (hJ1 D h)
  · skip
    show Run Γ rg κ Y_X7_requireValueName 4 [(0, p1)] [] D Φ
    refine r_iload_n d_X7_requireValueName_4 rfl ?_
    refine r_bipush d_X7_requireValueName_5 (by decide) ?_
    refine c_icmp_le (tgt := 21) d_X7_requireValueName_7 (by decide) (nz_w _) (nz_k rfl) h (fun h => ?_) (fun h => ?_)
    · skip
      show Run Γ rg κ Y_X7_requireValueName 21 [(0, p1)] [] D Φ
      exact c_vret d_X7_requireValueName_21 rfl h
    · skip
      exact Run.forget (ls' := [(5, 0)]) ⟨Or.inl rfl, trivial⟩ (hJ1 D h)
set_option maxRecDepth 20000 in
theorem run_pH_requireLength {Γ : GG} {rg : Nat → Bool} {κ : Nat} {Φ : OT → DD → Prop} (R : cov rg rg0) (p1 : Int) {D : DD} (h : WP none κ Φ (pH_requireLength p1 D)) : Run Γ rg κ Y_X7_requireLength 0 [(0, p1)] [] D Φ := by
  unfold pH_requireLength at h
  show Run Γ rg κ Y_X7_requireLength 0 [(0, p1)] [] D Φ
  refine r_iload_n d_X7_requireLength_0 rfl ?_
  refine c_jn (fun J => ∀ (D1 : DD), WP none κ Φ (J D1) → Run Γ rg κ Y_X7_requireLength 10 [(5, 0)] [] D1 Φ) h ?_ (fun J1 hJ1 h => ?_)
  · intro D1 h
    show Run Γ rg κ Y_X7_requireLength 10 [(5, 0)] [] D1 Φ
    exact c_throwW (text := "the length is out of range") tk_RX7_279_283 (by decide +kernel) d_X7_requireLength_10 d_X7_requireLength_13 d_X7_requireLength_14 d_X7_requireLength_17 d_X7_requireLength_20 rfl (by decide) (Nat.le_of_ble_eq_true rfl) h
  refine c_if_lt (tgt := 10) d_X7_requireLength_1 (by decide) (nz_w _) h (fun h => ?_) (fun h => ?_)
  · skip
    exact Run.forget (ls' := [(5, 0)]) ⟨Or.inl rfl, trivial⟩ (hJ1 D h)
  · skip
    show Run Γ rg κ Y_X7_requireLength 4 [(0, p1)] [] D Φ
    refine r_iload_n d_X7_requireLength_4 rfl ?_
    refine r_bipush d_X7_requireLength_5 (by decide) ?_
    refine c_icmp_le (tgt := 21) d_X7_requireLength_7 (by decide) (nz_w _) (nz_k rfl) h (fun h => ?_) (fun h => ?_)
    · skip
      show Run Γ rg κ Y_X7_requireLength 21 [(0, p1)] [] D Φ
      exact c_vret d_X7_requireLength_21 rfl h
    · skip
      exact Run.forget (ls' := [(5, 0)]) ⟨Or.inl rfl, trivial⟩ (hJ1 D h)
set_option maxRecDepth 20000 in
theorem run_pV_cellNamed_9 {Γ : GG} {rg : Nat → Bool} {κ : Nat} {Φ : OT → DD → Prop} (R : cov rg rg0) (a1 : Int) (a2 : Int) (a3 : Int) : ∀ (n : Nat) (a4 : Int) (D : DD), WP (some .int) κ Φ (pV_cellNamed_9 a1 a2 a3 n a4 D) → Run Γ rg κ Y_X5_cellNamed 9 [(20, 0), (0, a1), (0, a2), (0, a3), (0, a4), (5, 0)] [] D Φ := by
  intro n
  induction n with
  | zero => intro a4 D h; exact h.no.elim
  | succ n ih =>
    intro a4 D h
    rw [pV_cellNamed_9] at h
    show Run Γ rg κ Y_X5_cellNamed 9 [(20, 0), (0, a1), (0, a2), (0, a3), (0, a4), (5, 0)] [] D Φ
    refine r_iload d_X5_cellNamed_9 rfl ?_
    refine r_iload_n d_X5_cellNamed_11 rfl ?_
    refine c_icmp_ge (tgt := 51) d_X5_cellNamed_12 (by decide) (nz_w _) (nz_w _) h (fun h => ?_) (fun h => ?_)
    · skip
      show Run Γ rg κ Y_X5_cellNamed 51 [(20, 0), (0, a1), (0, a2), (0, a3), (0, a4), (5, 0)] [] D Φ
      refine r_iconst d_X5_cellNamed_51 ?_
      exact c_iret d_X5_cellNamed_52 rfl h
    · skip
      show Run Γ rg κ Y_X5_cellNamed 15 [(20, 0), (0, a1), (0, a2), (0, a3), (0, a4), (5, 0)] [] D Φ
      refine r_aload_n d_X5_cellNamed_15 rfl (by decide) ?_
      refine r_iload_n d_X5_cellNamed_16 rfl ?_
      refine r_iload d_X5_cellNamed_17 rfl ?_
      refine c_callVPi (a := 12) (z := 0) (as := [(0, a1), (0, a4)]) (rest := []) (ls' := [(20, 0), (0, a1), (0, a4)]) d_X5_cellNamed_19 ck_RX5_31 rfl sh_12 rfl (by decide) (R 12 rfl) rfl rfl (Nat.le_of_ble_eq_true rfl) (Nat.le_of_ble_eq_true rfl) (by decide) rfl rfl (fun Ψ hΨ => run_pV_cellNumbered R _ _ rfl hΨ) ?_
      show Run Γ rg κ Y_X5_cellNamed 22 [(20, 0), (0, a1), (0, a2), (0, a3), (0, a4), (5, 0)] [(0, (pV_cellNumbered a1 a4 D))] D Φ
      refine c_lt d_X5_cellNamed_22 (by decide) rfl h (fun x1 h => ?_)
      show Run Γ rg κ Y_X5_cellNamed 24 [(20, 0), (0, a1), (0, a2), (0, a3), (0, a4), (0, x1)] [] D Φ
      refine r_aload_n d_X5_cellNamed_24 rfl (by decide) ?_
      refine r_getR (t := 2) d_X5_cellNamed_25 fk_RX5_9 sh_12 rfl (by decide) (R 12 rfl) ?_
      refine r_iload d_X5_cellNamed_28 rfl ?_
      refine r_iconst d_X5_cellNamed_30 ?_
      refine r_iadd d_X5_cellNamed_31 ?_
      refine c_callVPi (a := 2) (z := 0) (as := [(0, (x1 + 0))]) (rest := []) (ls' := [(10, 0), (0, (x1 + 0))]) d_X5_cellNamed_32 ck_RX5_19 rfl sh_2 rfl (by decide) (R 2 rfl) rfl rfl (Nat.le_of_ble_eq_true rfl) (Nat.le_of_ble_eq_true rfl) (by decide) rfl rfl (fun Ψ hΨ => run_pI_unitAt R _ rfl hΨ) ?_
      show Run Γ rg κ Y_X5_cellNamed 35 [(20, 0), (0, a1), (0, a2), (0, a3), (0, a4), (0, x1)] [(0, (pI_unitAt (x1 + 0) D))] D Φ
      show Run Γ rg κ Y_X5_cellNamed 35 [(20, 0), (0, a1), (0, a2), (0, a3), (0, a4), (0, x1)] [(0, (pI_unitAt (x1 + 0) D))] D Φ
      refine r_bipush d_X5_cellNamed_35 (by decide) ?_
      refine c_idiv d_X5_cellNamed_37 (nz_w _) ⟨by decide, by decide⟩ (by decide) ?_
      refine r_iload_n d_X5_cellNamed_38 rfl ?_
      refine c_icmp_ne (tgt := 45) d_X5_cellNamed_39 (by decide) (nz_w _) (nz_w _) h (fun h => ?_) (fun h => ?_)
      · skip
        show Run Γ rg κ Y_X5_cellNamed 45 [(20, 0), (0, a1), (0, a2), (0, a3), (0, a4), (0, x1)] [] D Φ
        refine r_iinc d_X5_cellNamed_45 rfl (by decide) rfl ?_
        show Run Γ rg κ Y_X5_cellNamed 48 [(20, 0), (0, a1), (0, a2), (0, a3), (0, (a4 + 1)), (0, x1)] [] D Φ
        refine r_goto (tgt := 9) d_X5_cellNamed_48 (by decide) ?_
        exact Run.forget (ls' := [(20, 0), (0, a1), (0, a2), (0, a3), (0, (a4 + 1)), (5, 0)]) ⟨Or.inr rfl, Or.inr rfl, Or.inr rfl, Or.inr rfl, Or.inr rfl, Or.inl rfl, trivial⟩ (ih (a4 + 1) D h)
      · skip
        show Run Γ rg κ Y_X5_cellNamed 42 [(20, 0), (0, a1), (0, a2), (0, a3), (0, a4), (0, x1)] [] D Φ
        refine r_iload d_X5_cellNamed_42 rfl ?_
        exact c_iret d_X5_cellNamed_44 rfl h
set_option maxRecDepth 20000 in
theorem run_pV_cellNamed {Γ : GG} {rg : Nat → Bool} {κ : Nat} {Φ : OT → DD → Prop} (R : cov rg rg0) (p1 : Int) (p2 : Int) {D : DD} (h : WP (some .int) κ Φ (pV_cellNamed p1 p2 D)) : Run Γ rg κ Y_X5_cellNamed 0 [(20, 0), (0, p1), (0, p2), (5, 0), (5, 0), (5, 0)] [] D Φ := by
  unfold pV_cellNamed at h
  show Run Γ rg κ Y_X5_cellNamed 0 [(20, 0), (0, p1), (0, p2), (5, 0), (5, 0), (5, 0)] [] D Φ
  refine r_aload_n d_X5_cellNamed_0 rfl (by decide) ?_
  refine r_iload_n d_X5_cellNamed_1 rfl ?_
  refine c_callVPi (a := 12) (z := 0) (as := [(0, p1)]) (rest := []) (ls' := [(20, 0), (0, p1), (5, 0)]) d_X5_cellNamed_2 ck_RX5_28 rfl sh_12 rfl (by decide) (R 12 rfl) rfl rfl (Nat.le_of_ble_eq_true rfl) (Nat.le_of_ble_eq_true rfl) (by decide) rfl rfl (fun Ψ hΨ => run_pV_valueCount R _ rfl hΨ) ?_
  show Run Γ rg κ Y_X5_cellNamed 5 [(20, 0), (0, p1), (0, p2), (5, 0), (5, 0), (5, 0)] [(0, (pV_valueCount p1 D))] D Φ
  refine c_lt_n d_X5_cellNamed_5 (by decide) rfl h (fun x1 h => ?_)
  show Run Γ rg κ Y_X5_cellNamed 6 [(20, 0), (0, p1), (0, p2), (0, x1), (5, 0), (5, 0)] [] D Φ
  refine r_iconst d_X5_cellNamed_6 ?_
  refine r_istore d_X5_cellNamed_7 (by decide) rfl ?_
  show Run Γ rg κ Y_X5_cellNamed 9 [(20, 0), (0, p1), (0, p2), (0, x1), (0, 0), (5, 0)] [] D Φ
  exact run_pV_cellNamed_9 R p1 p2 x1 fu 0 D h
set_option maxRecDepth 20000 in
theorem run_pV_canHold {Γ : GG} {rg : Nat → Bool} {κ : Nat} {Φ : OT → DD → Prop} (R : cov rg rg0) (p1 : Int) (p2 : Int) {D : DD} (h : WP (some .boolean) κ Φ (pV_canHold p1 p2 D)) : Run Γ rg κ Y_X5_canHold 0 [(20, 0), (0, p1), (0, p2)] [] D Φ := by
  unfold pV_canHold at h
  show Run Γ rg κ Y_X5_canHold 0 [(20, 0), (0, p1), (0, p2)] [] D Φ
  refine r_aload_n d_X5_canHold_0 rfl (by decide) ?_
  refine r_iload_n d_X5_canHold_1 rfl ?_
  refine c_callVPi (a := 12) (z := 0) (as := [(0, p1)]) (rest := []) (ls' := [(20, 0), (0, p1), (5, 0)]) d_X5_canHold_2 ck_RX5_28 rfl sh_12 rfl (by decide) (R 12 rfl) rfl rfl (Nat.le_of_ble_eq_true rfl) (Nat.le_of_ble_eq_true rfl) (by decide) rfl rfl (fun Ψ hΨ => run_pV_valueCount R _ rfl hΨ) ?_
  show Run Γ rg κ Y_X5_canHold 5 [(20, 0), (0, p1), (0, p2)] [(0, (pV_valueCount p1 D))] D Φ
  refine r_bipush d_X5_canHold_5 (by decide) ?_
  refine c_icmp_lt (tgt := 19) d_X5_canHold_7 (by decide) (nz_w _) (nz_k rfl) h (fun h => ?_) (fun h => ?_)
  · skip
    show Run Γ rg κ Y_X5_canHold 19 [(20, 0), (0, p1), (0, p2)] [] D Φ
    refine r_iconst d_X5_canHold_19 ?_
    refine r_goto (tgt := 24) d_X5_canHold_20 (by decide) ?_
    show Run Γ rg κ Y_X5_canHold 24 [(20, 0), (0, p1), (0, p2)] [(0, 1)] D Φ
    exact c_zret d_X5_canHold_24 rfl (Or.inr rfl) h
  · skip
    show Run Γ rg κ Y_X5_canHold 10 [(20, 0), (0, p1), (0, p2)] [] D Φ
    refine r_aload_n d_X5_canHold_10 rfl (by decide) ?_
    refine r_iload_n d_X5_canHold_11 rfl ?_
    refine r_iload_n d_X5_canHold_12 rfl ?_
    refine c_callVi (t' := (some .int)) (a := 12) (z := 0) (as := [(0, p1), (0, p2)]) (rest := []) (ls' := [(20, 0), (0, p1), (0, p2), (5, 0), (5, 0), (5, 0)]) d_X5_canHold_13 ck_RX5_38 rfl sh_12 rfl (by decide) (R 12 rfl) rfl rfl (Nat.le_of_ble_eq_true rfl) (Nat.le_of_ble_eq_true rfl) (by decide) rfl rfl (fun _ => rfl) (fun κ' Ψ hΨ => run_pV_cellNamed R _ _ hΨ) h (fun v1 D1 h => ?_)
    show Run Γ rg κ Y_X5_canHold 16 [(20, 0), (0, p1), (0, p2)] [(0, v1)] D1 Φ
    refine c_if_eq (tgt := 23) d_X5_canHold_16 (by decide) (nz_w _) h (fun h => ?_) (fun h => ?_)
    · skip
      show Run Γ rg κ Y_X5_canHold 23 [(20, 0), (0, p1), (0, p2)] [] D1 Φ
      refine r_iconst d_X5_canHold_23 ?_
      exact c_zret d_X5_canHold_24 rfl (Or.inl rfl) h
    · skip
      show Run Γ rg κ Y_X5_canHold 19 [(20, 0), (0, p1), (0, p2)] [] D1 Φ
      refine r_iconst d_X5_canHold_19 ?_
      refine r_goto (tgt := 24) d_X5_canHold_20 (by decide) ?_
      show Run Γ rg κ Y_X5_canHold 24 [(20, 0), (0, p1), (0, p2)] [(0, 1)] D1 Φ
      exact c_zret d_X5_canHold_24 rfl (Or.inr rfl) h
set_option maxRecDepth 20000 in
theorem run_pV_pieceCount {Γ : GG} {rg : Nat → Bool} {κ : Nat} {Φ : OT → DD → Prop} (R : cov rg rg0) (p1 : Int) {D : DD} {x : Int} (h : EQx x (pV_pieceCount p1)) (hΦ : Φ (.inl (some (0, x))) D) : Run Γ rg κ Y_X5_pieceCount 0 [(0, p1)] [] D Φ := by
  unfold pV_pieceCount at h
  show Run Γ rg κ Y_X5_pieceCount 0 [(0, p1)] [] D Φ
  refine r_iload_n d_X5_pieceCount_0 rfl ?_
  refine r_iconst d_X5_pieceCount_1 ?_
  refine c_icmp_gt (tgt := 9) d_X5_pieceCount_2 (by decide) (nz_w _) (nz_k rfl) h (fun h => ?_) (fun h => ?_)
  · skip
    show Run Γ rg κ Y_X5_pieceCount 9 [(0, p1)] [] D Φ
    refine r_iload_n d_X5_pieceCount_9 rfl ?_
    refine r_bipush d_X5_pieceCount_10 (by decide) ?_
    refine r_iadd d_X5_pieceCount_12 ?_
    refine r_iconst d_X5_pieceCount_13 ?_
    refine r_isub d_X5_pieceCount_14 ?_
    refine r_bipush d_X5_pieceCount_15 (by decide) ?_
    refine c_idiv d_X5_pieceCount_17 (nz_w _) ⟨by decide, by decide⟩ (by decide) ?_
    exact e_iret d_X5_pieceCount_18 rfl h hΦ
  · skip
    show Run Γ rg κ Y_X5_pieceCount 5 [(0, p1)] [] D Φ
    refine r_iconst d_X5_pieceCount_5 ?_
    refine r_goto (tgt := 18) d_X5_pieceCount_6 (by decide) ?_
    show Run Γ rg κ Y_X5_pieceCount 18 [(0, p1)] [(0, 0)] D Φ
    exact e_iret d_X5_pieceCount_18 rfl h hΦ
set_option maxRecDepth 20000 in
theorem run_pV_unitsInPiece {Γ : GG} {rg : Nat → Bool} {κ : Nat} {Φ : OT → DD → Prop} (R : cov rg rg0) (p1 : Int) (p2 : Int) {D : DD} {x : Int} (h : EQx x (pV_unitsInPiece p1 p2)) (hΦ : Φ (.inl (some (0, x))) D) : Run Γ rg κ Y_X5_unitsInPiece 0 [(0, p1), (0, p2)] [] D Φ := by
  unfold pV_unitsInPiece at h
  show Run Γ rg κ Y_X5_unitsInPiece 0 [(0, p1), (0, p2)] [] D Φ
  refine r_bipush d_X5_unitsInPiece_0 (by decide) ?_
  refine r_iload_n d_X5_unitsInPiece_2 rfl ?_
  refine r_bipush d_X5_unitsInPiece_3 (by decide) ?_
  refine r_iload_n d_X5_unitsInPiece_5 rfl ?_
  refine r_imul d_X5_unitsInPiece_6 ?_
  refine r_isub d_X5_unitsInPiece_7 ?_
  refine c_mmin d_X5_unitsInPiece_8 mx_RX5_107 (Nat.le_of_ble_eq_true rfl) (by decide) ?_
  exact e_iret d_X5_unitsInPiece_11 rfl h hΦ
set_option maxRecDepth 20000 in
theorem run_pV_wantPieces_8 {Γ : GG} {rg : Nat → Bool} {κ : Nat} {Φ : OT → DD → Prop} (R : cov rg rg0) (a1 : Int) (a3 : Int) : ∀ (n : Nat) (a4 : Int) (D : DD), WP none κ Φ (pV_wantPieces_8 a1 a3 n a4 D) → Run Γ rg κ Y_X5_wantPieces 8 [(20, 0), (0, a1), (5, 0), (0, a3), (0, a4)] [] D Φ := by
  intro n
  induction n with
  | zero => intro a4 D h; exact h.no.elim
  | succ n ih =>
    intro a4 D h
    rw [pV_wantPieces_8] at h
    show Run Γ rg κ Y_X5_wantPieces 8 [(20, 0), (0, a1), (5, 0), (0, a3), (0, a4)] [] D Φ
    refine r_iload d_X5_wantPieces_8 rfl ?_
    refine r_iload_n d_X5_wantPieces_10 rfl ?_
    refine c_icmp_ge (tgt := 35) d_X5_wantPieces_11 (by decide) (nz_w _) (nz_w _) h (fun h => ?_) (fun h => ?_)
    · skip
      show Run Γ rg κ Y_X5_wantPieces 35 [(20, 0), (0, a1), (5, 0), (0, a3), (0, a4)] [] D Φ
      exact c_vret d_X5_wantPieces_35 rfl h
    · skip
      show Run Γ rg κ Y_X5_wantPieces 14 [(20, 0), (0, a1), (5, 0), (0, a3), (0, a4)] [] D Φ
      refine r_aload_n d_X5_wantPieces_14 rfl (by decide) ?_
      refine r_getR (t := 7) d_X5_wantPieces_15 fk_RX5_15 sh_12 rfl (by decide) (R 12 rfl) ?_
      refine r_iconst d_X5_wantPieces_18 ?_
      refine r_iload_n d_X5_wantPieces_19 rfl ?_
      refine r_iload d_X5_wantPieces_20 rfl ?_
      refine c_callSPi (as := [(0, a1), (0, a4)]) (rest := [(0, 2), (15, 0)]) (ls' := [(0, a1), (0, a4)]) d_X5_wantPieces_22 ck_RX5_112 rfl rfl rfl (Nat.le_of_ble_eq_true rfl) (Nat.le_of_ble_eq_true rfl) (by decide) rfl rfl (fun Ψ hΨ => run_pV_unitsInPiece R _ _ rfl hΨ) ?_
      show Run Γ rg κ Y_X5_wantPieces 25 [(20, 0), (0, a1), (5, 0), (0, a3), (0, a4)] [(0, (pV_unitsInPiece a1 a4)), (0, 2), (15, 0)] D Φ
      refine r_iadd d_X5_wantPieces_25 ?_
      refine c_callVD (a := 7) (z := 0) (as := [(0, (2 + (pV_unitsInPiece a1 a4)))]) (rest := []) (ls' := [(15, 0), (0, (2 + (pV_unitsInPiece a1 a4)))]) d_X5_wantPieces_26 ck_RX5_53 rfl sh_7 rfl (by decide) (R 7 rfl) rfl rfl (Nat.le_of_ble_eq_true rfl) (Nat.le_of_ble_eq_true rfl) (by decide) rfl rfl (fun Ψ hΨ => run_pC_want R _ hΨ) h (fun D1 h => ?_)
      show Run Γ rg κ Y_X5_wantPieces 29 [(20, 0), (0, a1), (5, 0), (0, a3), (0, a4)] [] D1 Φ
      refine r_iinc d_X5_wantPieces_29 rfl (by decide) rfl ?_
      show Run Γ rg κ Y_X5_wantPieces 32 [(20, 0), (0, a1), (5, 0), (0, a3), (0, (a4 + 1))] [] D1 Φ
      refine r_goto (tgt := 8) d_X5_wantPieces_32 (by decide) ?_
      exact (ih (a4 + 1) D1 h)
set_option maxRecDepth 20000 in
theorem run_pV_wantPieces {Γ : GG} {rg : Nat → Bool} {κ : Nat} {Φ : OT → DD → Prop} (R : cov rg rg0) (p1 : Int) (p2 : Int) {D : DD} (h : WP none κ Φ (pV_wantPieces p1 p2 D)) : Run Γ rg κ Y_X5_wantPieces 0 [(20, 0), (0, p1), (0, p2), (5, 0), (5, 0)] [] D Φ := by
  unfold pV_wantPieces at h
  show Run Γ rg κ Y_X5_wantPieces 0 [(20, 0), (0, p1), (0, p2), (5, 0), (5, 0)] [] D Φ
  refine r_iload_n d_X5_wantPieces_0 rfl ?_
  refine c_callSPi (as := [(0, p1)]) (rest := []) (ls' := [(0, p1)]) d_X5_wantPieces_1 ck_RX5_41 rfl rfl rfl (Nat.le_of_ble_eq_true rfl) (Nat.le_of_ble_eq_true rfl) (by decide) rfl rfl (fun Ψ hΨ => run_pV_pieceCount R _ rfl hΨ) ?_
  show Run Γ rg κ Y_X5_wantPieces 4 [(20, 0), (0, p1), (0, p2), (5, 0), (5, 0)] [(0, (pV_pieceCount p1))] D Φ
  refine c_lt_n d_X5_wantPieces_4 (by decide) rfl h (fun x1 h => ?_)
  show Run Γ rg κ Y_X5_wantPieces 5 [(20, 0), (0, p1), (0, p2), (0, x1), (5, 0)] [] D Φ
  refine r_iload_n d_X5_wantPieces_5 rfl ?_
  refine r_istore d_X5_wantPieces_6 (by decide) rfl ?_
  show Run Γ rg κ Y_X5_wantPieces 8 [(20, 0), (0, p1), (0, p2), (0, x1), (0, p2)] [] D Φ
  refine Run.forget (ls' := [(20, 0), (0, p1), (5, 0), (0, x1), (0, p2)]) ⟨Or.inr rfl, Or.inr rfl, Or.inl rfl, Or.inr rfl, Or.inr rfl, trivial⟩ ?_
  exact run_pV_wantPieces_8 R p1 x1 fu p2 D h
set_option maxRecDepth 20000 in
theorem run_pV_putHead {Γ : GG} {rg : Nat → Bool} {κ : Nat} {Φ : OT → DD → Prop} (R : cov rg rg0) (p1 : Int) (p2 : Int) (p3 : Int) {D : DD} (h : WPD Φ (pV_putHead p1 p2 p3 D)) : Run Γ rg κ Y_X5_putHead 0 [(20, 0), (0, p1), (0, p2), (0, p3)] [] D Φ := by
  unfold pV_putHead at h
  show Run Γ rg κ Y_X5_putHead 0 [(20, 0), (0, p1), (0, p2), (0, p3)] [] D Φ
  refine r_aload_n d_X5_putHead_0 rfl (by decide) ?_
  refine r_getR (t := 2) d_X5_putHead_1 fk_RX5_9 sh_12 rfl (by decide) (R 12 rfl) ?_
  refine r_iload_n d_X5_putHead_4 rfl ?_
  refine r_iconst d_X5_putHead_5 ?_
  refine r_iadd d_X5_putHead_6 ?_
  refine r_iload_n d_X5_putHead_7 rfl ?_
  refine r_bipush d_X5_putHead_8 (by decide) ?_
  refine r_imul d_X5_putHead_10 ?_
  refine r_iload_n d_X5_putHead_11 rfl ?_
  refine r_iadd d_X5_putHead_12 ?_
  refine c_callVD (a := 2) (z := 0) (as := [(0, (p1 + 0)), (0, ((p2 * 31) + p3))]) (rest := []) (ls' := [(10, 0), (0, (p1 + 0)), (0, ((p2 * 31) + p3))]) d_X5_putHead_13 ck_RX5_74 rfl sh_2 rfl (by decide) (R 2 rfl) rfl rfl (Nat.le_of_ble_eq_true rfl) (Nat.le_of_ble_eq_true rfl) (by decide) rfl rfl (fun Ψ hΨ => run_pI_putUnit R _ _ hΨ) h (fun D1 h => ?_)
  show Run Γ rg κ Y_X5_putHead 16 [(20, 0), (0, p1), (0, p2), (0, p3)] [] D1 Φ
  show Run Γ rg κ Y_X5_putHead 16 [(20, 0), (0, p1), (0, p2), (0, p3)] [] D1 Φ
  exact d_vret d_X5_putHead_16 rfl h
set_option maxRecDepth 20000 in
theorem run_pV_chainPieces_5 {Γ : GG} {rg : Nat → Bool} {κ : Nat} {Φ : OT → DD → Prop} (R : cov rg rg0) (a2 : Int) {K : Int → DD → Res} (hK : ∀ (z3 : Int) (D : DD), WP none κ Φ (K z3 D) → Run Γ rg κ Y_X5_chainPieces 44 [(20, 0), (5, 0), (5, 0), (0, z3), (5, 0)] [] D Φ) : ∀ (n : Nat) (a3 : Int) (a4 : Int) (D : DD), WP none κ Φ (pV_chainPieces_5 a2 n a3 a4 D K) → Run Γ rg κ Y_X5_chainPieces 5 [(20, 0), (5, 0), (0, a2), (0, a3), (0, a4)] [] D Φ := by
  intro n
  induction n with
  | zero => intro a3 a4 D h; exact h.no.elim
  | succ n ih =>
    intro a3 a4 D h
    rw [pV_chainPieces_5] at h
    show Run Γ rg κ Y_X5_chainPieces 5 [(20, 0), (5, 0), (0, a2), (0, a3), (0, a4)] [] D Φ
    refine r_iload d_X5_chainPieces_5 rfl ?_
    refine r_iload_n d_X5_chainPieces_7 rfl ?_
    refine c_icmp_ge (tgt := 44) d_X5_chainPieces_8 (by decide) (nz_w _) (nz_w _) h (fun h => ?_) (fun h => ?_)
    · skip
      exact Run.forget (ls' := [(20, 0), (5, 0), (5, 0), (0, a3), (5, 0)]) ⟨Or.inr rfl, Or.inr rfl, Or.inl rfl, Or.inr rfl, Or.inl rfl, trivial⟩ (hK a3 D h)
    · skip
      show Run Γ rg κ Y_X5_chainPieces 11 [(20, 0), (5, 0), (0, a2), (0, a3), (0, a4)] [] D Φ
      refine r_aload_n d_X5_chainPieces_11 rfl (by decide) ?_
      refine r_getR (t := 2) d_X5_chainPieces_12 fk_RX5_9 sh_12 rfl (by decide) (R 12 rfl) ?_
      refine r_iload_n d_X5_chainPieces_15 rfl ?_
      refine r_aload_n d_X5_chainPieces_16 rfl (by decide) ?_
      refine r_getR (t := 7) d_X5_chainPieces_17 fk_RX5_15 sh_12 rfl (by decide) (R 12 rfl) ?_
      refine r_iload d_X5_chainPieces_20 rfl ?_
      refine c_callVPi (a := 7) (z := 0) (as := [(0, a4)]) (rest := [(0, a3), (10, 0)]) (ls' := [(15, 0), (0, a4)]) d_X5_chainPieces_22 ck_RX5_64 rfl sh_7 rfl (by decide) (R 7 rfl) rfl rfl (Nat.le_of_ble_eq_true rfl) (Nat.le_of_ble_eq_true rfl) (by decide) rfl rfl (fun Ψ hΨ => run_pC_got R _ rfl hΨ) ?_
      show Run Γ rg κ Y_X5_chainPieces 25 [(20, 0), (5, 0), (0, a2), (0, a3), (0, a4)] [(0, (pC_got a4 D)), (0, a3), (10, 0)] D Φ
      refine c_callVD (a := 2) (z := 0) (as := [(0, a3), (0, (pC_got a4 D))]) (rest := []) (ls' := [(10, 0), (0, a3), (0, (pC_got a4 D))]) d_X5_chainPieces_25 ck_RX5_74 rfl sh_2 rfl (by decide) (R 2 rfl) rfl rfl (Nat.le_of_ble_eq_true rfl) (Nat.le_of_ble_eq_true rfl) (by decide) rfl rfl (fun Ψ hΨ => run_pI_putUnit R _ _ hΨ) h (fun D1 h => ?_)
      show Run Γ rg κ Y_X5_chainPieces 28 [(20, 0), (5, 0), (0, a2), (0, a3), (0, a4)] [] D1 Φ
      refine r_aload_n d_X5_chainPieces_28 rfl (by decide) ?_
      refine r_getR (t := 7) d_X5_chainPieces_29 fk_RX5_15 sh_12 rfl (by decide) (R 12 rfl) ?_
      refine r_iload d_X5_chainPieces_32 rfl ?_
      show Run Γ rg κ Y_X5_chainPieces 34 [(20, 0), (5, 0), (0, a2), (0, a3), (0, a4)] [(0, a4), (15, 0)] D1 Φ
      refine c_callVPi (a := 7) (z := 0) (as := [(0, a4)]) (rest := []) (ls' := [(15, 0), (0, a4)]) d_X5_chainPieces_34 ck_RX5_64 rfl sh_7 rfl (by decide) (R 7 rfl) rfl rfl (Nat.le_of_ble_eq_true rfl) (Nat.le_of_ble_eq_true rfl) (by decide) rfl rfl (fun Ψ hΨ => run_pC_got R _ rfl hΨ) ?_
      show Run Γ rg κ Y_X5_chainPieces 37 [(20, 0), (5, 0), (0, a2), (0, a3), (0, a4)] [(0, (pC_got a4 D1))] D1 Φ
      refine c_lt_n d_X5_chainPieces_37 (by decide) rfl h (fun x1 h => ?_)
      show Run Γ rg κ Y_X5_chainPieces 38 [(20, 0), (5, 0), (0, a2), (0, x1), (0, a4)] [] D1 Φ
      refine r_iinc d_X5_chainPieces_38 rfl (by decide) rfl ?_
      show Run Γ rg κ Y_X5_chainPieces 41 [(20, 0), (5, 0), (0, a2), (0, x1), (0, (a4 + 1))] [] D1 Φ
      refine r_goto (tgt := 5) d_X5_chainPieces_41 (by decide) ?_
      exact (ih x1 (a4 + 1) D1 h)
set_option maxRecDepth 20000 in
theorem run_pV_chainPieces {Γ : GG} {rg : Nat → Bool} {κ : Nat} {Φ : OT → DD → Prop} (R : cov rg rg0) (p1 : Int) (p2 : Int) {D : DD} (h : WP none κ Φ (pV_chainPieces p1 p2 D)) : Run Γ rg κ Y_X5_chainPieces 0 [(20, 0), (0, p1), (0, p2), (5, 0), (5, 0)] [] D Φ := by
  unfold pV_chainPieces at h
  show Run Γ rg κ Y_X5_chainPieces 0 [(20, 0), (0, p1), (0, p2), (5, 0), (5, 0)] [] D Φ
  refine r_iload_n d_X5_chainPieces_0 rfl ?_
  refine r_istore_n d_X5_chainPieces_1 (by decide) rfl ?_
  show Run Γ rg κ Y_X5_chainPieces 2 [(20, 0), (0, p1), (0, p2), (0, p1), (5, 0)] [] D Φ
  refine r_iconst d_X5_chainPieces_2 ?_
  refine r_istore d_X5_chainPieces_3 (by decide) rfl ?_
  show Run Γ rg κ Y_X5_chainPieces 5 [(20, 0), (0, p1), (0, p2), (0, p1), (0, 0)] [] D Φ
  refine Run.forget (ls' := [(20, 0), (5, 0), (0, p2), (0, p1), (0, 0)]) ⟨Or.inr rfl, Or.inl rfl, Or.inr rfl, Or.inr rfl, Or.inr rfl, trivial⟩ ?_
  refine run_pV_chainPieces_5 R p2 ?_ fu p1 0 D h
  intro x1 D1 h
  show Run Γ rg κ Y_X5_chainPieces 44 [(20, 0), (5, 0), (5, 0), (0, x1), (5, 0)] [] D1 Φ
  refine r_aload_n d_X5_chainPieces_44 rfl (by decide) ?_
  refine r_getR (t := 2) d_X5_chainPieces_45 fk_RX5_9 sh_12 rfl (by decide) (R 12 rfl) ?_
  refine r_iload_n d_X5_chainPieces_48 rfl ?_
  refine r_iconst d_X5_chainPieces_49 ?_
  refine c_callVD (a := 2) (z := 0) (as := [(0, x1), (0, 0)]) (rest := []) (ls' := [(10, 0), (0, x1), (0, 0)]) d_X5_chainPieces_50 ck_RX5_74 rfl sh_2 rfl (by decide) (R 2 rfl) rfl rfl (Nat.le_of_ble_eq_true rfl) (Nat.le_of_ble_eq_true rfl) (by decide) rfl rfl (fun Ψ hΨ => run_pI_putUnit R _ _ hΨ) h (fun D2 h => ?_)
  show Run Γ rg κ Y_X5_chainPieces 53 [(20, 0), (5, 0), (5, 0), (0, x1), (5, 0)] [] D2 Φ
  exact c_vret d_X5_chainPieces_53 rfl h
set_option maxRecDepth 20000 in
theorem run_pI_sizeAt {Γ : GG} {rg : Nat → Bool} {κ : Nat} {Φ : OT → DD → Prop} (R : cov rg rg0) (p1 : Int) {D : DD} {x : Int} (h : EQx x (pI_sizeAt p1 D)) (hΦ : Φ (.inl (some (0, x))) D) : Run Γ rg κ Y_X2_sizeAt 0 [(10, 0), (0, p1)] [] D Φ := by
  unfold pI_sizeAt at h
  show Run Γ rg κ Y_X2_sizeAt 0 [(10, 0), (0, p1)] [] D Φ
  refine r_aload_n d_X2_sizeAt_0 rfl (by decide) ?_
  refine r_getR (t := 3) d_X2_sizeAt_1 fk_RX2_11 sh_2 rfl (by decide) (R 2 rfl) ?_
  refine r_iload_n d_X2_sizeAt_4 rfl ?_
  refine c_callNPi (as := [(11, 0), (0, p1)]) (rest := []) (ls' := [(11, 0), (0, p1)]) d_X2_sizeAt_5 ck_RX2_41 rfl rfl rfl (Nat.le_of_ble_eq_true rfl) (Nat.le_of_ble_eq_true rfl) (by decide) rfl rfl (fun Ψ hΨ => run_pH_read sh_3 (by decide) (R 3 rfl) (by decide) _ rfl hΨ) ?_
  show Run Γ rg κ Y_X2_sizeAt 8 [(10, 0), (0, p1)] [(0, (rd 1024 3 p1 D))] D Φ
  exact e_iret d_X2_sizeAt_8 rfl h hΦ
set_option maxRecDepth 20000 in
theorem run_pV_needsListForOneMore {Γ : GG} {rg : Nat → Bool} {κ : Nat} {Φ : OT → DD → Prop} (R : cov rg rg0) (p1 : Int) {D : DD} {x : Int} (h : EQx x (pV_needsListForOneMore p1 D)) (hΦ : Φ (.inl (some (0, x))) D) : Run Γ rg κ Y_X5_needsListForOneMore 0 [(20, 0), (0, p1), (5, 0)] [] D Φ := by
  unfold pV_needsListForOneMore at h
  show Run Γ rg κ Y_X5_needsListForOneMore 0 [(20, 0), (0, p1), (5, 0)] [] D Φ
  refine r_aload_n d_X5_needsListForOneMore_0 rfl (by decide) ?_
  refine r_getR (t := 2) d_X5_needsListForOneMore_1 fk_RX5_9 sh_12 rfl (by decide) (R 12 rfl) ?_
  refine r_iload_n d_X5_needsListForOneMore_4 rfl ?_
  refine r_iconst d_X5_needsListForOneMore_5 ?_
  refine r_iadd d_X5_needsListForOneMore_6 ?_
  refine c_callVPi (a := 2) (z := 0) (as := [(0, (p1 + 3))]) (rest := []) (ls' := [(10, 0), (0, (p1 + 3))]) d_X5_needsListForOneMore_7 ck_RX5_19 rfl sh_2 rfl (by decide) (R 2 rfl) rfl rfl (Nat.le_of_ble_eq_true rfl) (Nat.le_of_ble_eq_true rfl) (by decide) rfl rfl (fun Ψ hΨ => run_pI_unitAt R _ rfl hΨ) ?_
  show Run Γ rg κ Y_X5_needsListForOneMore 10 [(20, 0), (0, p1), (5, 0)] [(0, (pI_unitAt (p1 + 3) D))] D Φ
  refine c_lt_n d_X5_needsListForOneMore_10 (by decide) rfl h (fun x1 h => ?_)
  show Run Γ rg κ Y_X5_needsListForOneMore 11 [(20, 0), (0, p1), (0, x1)] [] D Φ
  refine r_iload_n d_X5_needsListForOneMore_11 rfl ?_
  refine c_if_eq (tgt := 36) d_X5_needsListForOneMore_12 (by decide) (nz_w _) h (fun h => ?_) (fun h => ?_)
  · skip
    show Run Γ rg κ Y_X5_needsListForOneMore 36 [(20, 0), (0, p1), (0, x1)] [] D Φ
    refine r_iconst d_X5_needsListForOneMore_36 ?_
    refine r_goto (tgt := 41) d_X5_needsListForOneMore_37 (by decide) ?_
    show Run Γ rg κ Y_X5_needsListForOneMore 41 [(20, 0), (0, p1), (0, x1)] [(0, 1)] D Φ
    exact e_zret d_X5_needsListForOneMore_41 rfl (Or.inr rfl) h hΦ
  · skip
    show Run Γ rg κ Y_X5_needsListForOneMore 15 [(20, 0), (0, p1), (0, x1)] [] D Φ
    refine r_iconst d_X5_needsListForOneMore_15 ?_
    refine r_aload_n d_X5_needsListForOneMore_16 rfl (by decide) ?_
    refine r_getR (t := 2) d_X5_needsListForOneMore_17 fk_RX5_9 sh_12 rfl (by decide) (R 12 rfl) ?_
    refine r_iload_n d_X5_needsListForOneMore_20 rfl ?_
    refine c_callVPi (a := 2) (z := 0) (as := [(0, x1)]) (rest := [(0, 1)]) (ls' := [(10, 0), (0, x1)]) d_X5_needsListForOneMore_21 ck_RX5_25 rfl sh_2 rfl (by decide) (R 2 rfl) rfl rfl (Nat.le_of_ble_eq_true rfl) (Nat.le_of_ble_eq_true rfl) (by decide) rfl rfl (fun Ψ hΨ => run_pI_itemCount R _ rfl hΨ) ?_
    show Run Γ rg κ Y_X5_needsListForOneMore 24 [(20, 0), (0, p1), (0, x1)] [(0, (pI_itemCount x1 D)), (0, 1)] D Φ
    refine r_iadd d_X5_needsListForOneMore_24 ?_
    refine r_aload_n d_X5_needsListForOneMore_25 rfl (by decide) ?_
    refine r_getR (t := 2) d_X5_needsListForOneMore_26 fk_RX5_9 sh_12 rfl (by decide) (R 12 rfl) ?_
    refine r_iload_n d_X5_needsListForOneMore_29 rfl ?_
    refine c_callVPi (a := 2) (z := 0) (as := [(0, x1)]) (rest := [(0, (1 + (pI_itemCount x1 D)))]) (ls' := [(10, 0), (0, x1)]) d_X5_needsListForOneMore_30 ck_RX5_35 rfl sh_2 rfl (by decide) (R 2 rfl) rfl rfl (Nat.le_of_ble_eq_true rfl) (Nat.le_of_ble_eq_true rfl) (by decide) rfl rfl (fun Ψ hΨ => run_pI_sizeAt R _ rfl hΨ) ?_
    show Run Γ rg κ Y_X5_needsListForOneMore 33 [(20, 0), (0, p1), (0, x1)] [(0, (pI_sizeAt x1 D)), (0, (1 + (pI_itemCount x1 D)))] D Φ
    refine c_icmp_ne (tgt := 40) d_X5_needsListForOneMore_33 (by decide) (nz_w _) (nz_w _) h (fun h => ?_) (fun h => ?_)
    · skip
      show Run Γ rg κ Y_X5_needsListForOneMore 40 [(20, 0), (0, p1), (0, x1)] [] D Φ
      refine r_iconst d_X5_needsListForOneMore_40 ?_
      exact e_zret d_X5_needsListForOneMore_41 rfl (Or.inl rfl) h hΦ
    · skip
      show Run Γ rg κ Y_X5_needsListForOneMore 36 [(20, 0), (0, p1), (0, x1)] [] D Φ
      refine r_iconst d_X5_needsListForOneMore_36 ?_
      refine r_goto (tgt := 41) d_X5_needsListForOneMore_37 (by decide) ?_
      show Run Γ rg κ Y_X5_needsListForOneMore 41 [(20, 0), (0, p1), (0, x1)] [(0, 1)] D Φ
      exact e_zret d_X5_needsListForOneMore_41 rfl (Or.inr rfl) h hΦ
set_option maxRecDepth 20000 in
theorem run_pV_addToList {Γ : GG} {rg : Nat → Bool} {κ : Nat} {Φ : OT → DD → Prop} (R : cov rg rg0) (p1 : Int) (p2 : Int) (p3 : Int) {D : DD} (h : WP none κ Φ (pV_addToList p1 p2 p3 D)) : Run Γ rg κ Y_X5_addToList 0 [(20, 0), (0, p1), (0, p2), (0, p3), (5, 0)] [] D Φ := by
  unfold pV_addToList at h
  show Run Γ rg κ Y_X5_addToList 0 [(20, 0), (0, p1), (0, p2), (0, p3), (5, 0)] [] D Φ
  refine r_aload_n d_X5_addToList_0 rfl (by decide) ?_
  refine r_getR (t := 2) d_X5_addToList_1 fk_RX5_9 sh_12 rfl (by decide) (R 12 rfl) ?_
  refine r_iload_n d_X5_addToList_4 rfl ?_
  refine r_iconst d_X5_addToList_5 ?_
  refine r_iadd d_X5_addToList_6 ?_
  refine c_callVPi (a := 2) (z := 0) (as := [(0, (p1 + 3))]) (rest := []) (ls' := [(10, 0), (0, (p1 + 3))]) d_X5_addToList_7 ck_RX5_19 rfl sh_2 rfl (by decide) (R 2 rfl) rfl rfl (Nat.le_of_ble_eq_true rfl) (Nat.le_of_ble_eq_true rfl) (by decide) rfl rfl (fun Ψ hΨ => run_pI_unitAt R _ rfl hΨ) ?_
  show Run Γ rg κ Y_X5_addToList 10 [(20, 0), (0, p1), (0, p2), (0, p3), (5, 0)] [(0, (pI_unitAt (p1 + 3) D))] D Φ
  refine c_lt d_X5_addToList_10 (by decide) rfl h (fun x1 h => ?_)
  show Run Γ rg κ Y_X5_addToList 12 [(20, 0), (0, p1), (0, p2), (0, p3), (0, x1)] [] D Φ
  refine r_aload_n d_X5_addToList_12 rfl (by decide) ?_
  refine r_iload_n d_X5_addToList_13 rfl ?_
  refine c_callVPi (a := 12) (z := 0) (as := [(0, p1)]) (rest := []) (ls' := [(20, 0), (0, p1), (5, 0)]) d_X5_addToList_14 ck_RX5_118 rfl sh_12 rfl (by decide) (R 12 rfl) rfl rfl (Nat.le_of_ble_eq_true rfl) (Nat.le_of_ble_eq_true rfl) (by decide) rfl rfl (fun Ψ hΨ => run_pV_needsListForOneMore R _ rfl hΨ) ?_
  show Run Γ rg κ Y_X5_addToList 17 [(20, 0), (0, p1), (0, p2), (0, p3), (0, x1)] [(0, (pV_needsListForOneMore p1 D))] D Φ
  refine c_jn (fun J => ∀ (x2 : Int) (D1 : DD), WP none κ Φ (J x2 D1) → Run Γ rg κ Y_X5_addToList 69 [(20, 0), (5, 0), (0, p2), (5, 0), (0, x2)] [] D1 Φ) h ?_ (fun J1 hJ1 h => ?_)
  · intro x2 D1 h
    show Run Γ rg κ Y_X5_addToList 69 [(20, 0), (5, 0), (0, p2), (5, 0), (0, x2)] [] D1 Φ
    refine r_aload_n d_X5_addToList_69 rfl (by decide) ?_
    refine r_getR (t := 2) d_X5_addToList_70 fk_RX5_9 sh_12 rfl (by decide) (R 12 rfl) ?_
    refine r_iload d_X5_addToList_73 rfl ?_
    refine r_aload_n d_X5_addToList_75 rfl (by decide) ?_
    refine r_getR (t := 2) d_X5_addToList_76 fk_RX5_9 sh_12 rfl (by decide) (R 12 rfl) ?_
    refine r_iload d_X5_addToList_79 rfl ?_
    refine c_callVPi (a := 2) (z := 0) (as := [(0, x2)]) (rest := [(0, x2), (10, 0)]) (ls' := [(10, 0), (0, x2)]) d_X5_addToList_81 ck_RX5_25 rfl sh_2 rfl (by decide) (R 2 rfl) rfl rfl (Nat.le_of_ble_eq_true rfl) (Nat.le_of_ble_eq_true rfl) (by decide) rfl rfl (fun Ψ hΨ => run_pI_itemCount R _ rfl hΨ) ?_
    show Run Γ rg κ Y_X5_addToList 84 [(20, 0), (5, 0), (0, p2), (5, 0), (0, x2)] [(0, (pI_itemCount x2 D1)), (0, x2), (10, 0)] D1 Φ
    refine r_iload_n d_X5_addToList_84 rfl ?_
    refine c_callVv (a := 2) (z := 0) (as := [(0, x2), (0, (pI_itemCount x2 D1)), (0, p2)]) (rest := []) (ls' := [(10, 0), (0, x2), (0, (pI_itemCount x2 D1)), (0, p2), (5, 0), (5, 0)]) d_X5_addToList_85 ck_RX5_125 rfl sh_2 rfl (by decide) (R 2 rfl) rfl rfl (Nat.le_of_ble_eq_true rfl) (Nat.le_of_ble_eq_true rfl) (by decide) rfl rfl (fun κ' Ψ hΨ => run_pI_insertItem R _ _ _ hΨ) h (fun _ D2 h => ?_)
    show Run Γ rg κ Y_X5_addToList 88 [(20, 0), (5, 0), (0, p2), (5, 0), (0, x2)] [] D2 Φ
    refine r_aload_n d_X5_addToList_88 rfl (by decide) ?_
    refine r_getR (t := 7) d_X5_addToList_89 fk_RX5_15 sh_12 rfl (by decide) (R 12 rfl) ?_
    show Run Γ rg κ Y_X5_addToList 92 [(20, 0), (5, 0), (0, p2), (5, 0), (0, x2)] [(15, 0)] D2 Φ
    refine r_iload d_X5_addToList_92 rfl ?_
    refine c_callVv (a := 7) (z := 0) (as := [(0, x2)]) (rest := []) (ls' := [(15, 0), (0, x2), (5, 0), (5, 0)]) d_X5_addToList_94 ck_RX5_83 rfl sh_7 rfl (by decide) (R 7 rfl) rfl rfl (Nat.le_of_ble_eq_true rfl) (Nat.le_of_ble_eq_true rfl) (by decide) rfl rfl (fun κ' Ψ hΨ => run_pC_markWritten R _ hΨ) h (fun _ D3 h => ?_)
    show Run Γ rg κ Y_X5_addToList 97 [(20, 0), (5, 0), (0, p2), (5, 0), (0, x2)] [] D3 Φ
    exact c_vret d_X5_addToList_97 rfl h
  refine c_if_eq (tgt := 69) d_X5_addToList_17 (by decide) (nz_b (pV_needsListForOneMore_b p1 D)) h (fun h => ?_) (fun h => ?_)
  · skip
    exact Run.forget (ls' := [(20, 0), (5, 0), (0, p2), (5, 0), (0, x1)]) ⟨Or.inr rfl, Or.inl rfl, Or.inr rfl, Or.inl rfl, Or.inr rfl, trivial⟩ (hJ1 x1 D h)
  · skip
    show Run Γ rg κ Y_X5_addToList 20 [(20, 0), (0, p1), (0, p2), (0, p3), (0, x1)] [] D Φ
    refine r_aload_n d_X5_addToList_20 rfl (by decide) ?_
    refine r_getR (t := 2) d_X5_addToList_21 fk_RX5_9 sh_12 rfl (by decide) (R 12 rfl) ?_
    refine r_iload_n d_X5_addToList_24 rfl ?_
    refine r_iconst d_X5_addToList_25 ?_
    refine c_callVD (a := 2) (z := 0) (as := [(0, p3), (0, 0)]) (rest := []) (ls' := [(10, 0), (0, p3), (0, 0)]) d_X5_addToList_26 ck_RX5_74 rfl sh_2 rfl (by decide) (R 2 rfl) rfl rfl (Nat.le_of_ble_eq_true rfl) (Nat.le_of_ble_eq_true rfl) (by decide) rfl rfl (fun Ψ hΨ => run_pI_putUnit R _ _ hΨ) h (fun D4 h => ?_)
    show Run Γ rg κ Y_X5_addToList 29 [(20, 0), (0, p1), (0, p2), (0, p3), (0, x1)] [] D4 Φ
    refine r_iload d_X5_addToList_29 rfl ?_
    refine c_jn (fun J => ∀ (D5 : DD), WP none κ Φ (J D5) → Run Γ rg κ Y_X5_addToList 55 [(20, 0), (0, p1), (0, p2), (0, p3), (5, 0)] [] D5 Φ) h ?_ (fun J2 hJ2 h => ?_)
    · intro D5 h
      show Run Γ rg κ Y_X5_addToList 55 [(20, 0), (0, p1), (0, p2), (0, p3), (5, 0)] [] D5 Φ
      refine r_aload_n d_X5_addToList_55 rfl (by decide) ?_
      refine r_getR (t := 2) d_X5_addToList_56 fk_RX5_9 sh_12 rfl (by decide) (R 12 rfl) ?_
      refine r_iload_n d_X5_addToList_59 rfl ?_
      refine r_iconst d_X5_addToList_60 ?_
      refine r_iadd d_X5_addToList_61 ?_
      refine r_iload_n d_X5_addToList_62 rfl ?_
      refine c_callVD (a := 2) (z := 0) (as := [(0, (p1 + 3)), (0, p3)]) (rest := []) (ls' := [(10, 0), (0, (p1 + 3)), (0, p3)]) d_X5_addToList_63 ck_RX5_74 rfl sh_2 rfl (by decide) (R 2 rfl) rfl rfl (Nat.le_of_ble_eq_true rfl) (Nat.le_of_ble_eq_true rfl) (by decide) rfl rfl (fun Ψ hΨ => run_pI_putUnit R _ _ hΨ) h (fun D6 h => ?_)
      show Run Γ rg κ Y_X5_addToList 66 [(20, 0), (0, p1), (0, p2), (0, p3), (5, 0)] [] D6 Φ
      refine r_iload_n d_X5_addToList_66 rfl ?_
      refine r_istore d_X5_addToList_67 (by decide) rfl ?_
      show Run Γ rg κ Y_X5_addToList 69 [(20, 0), (0, p1), (0, p2), (0, p3), (0, p3)] [] D6 Φ
      exact Run.forget (ls' := [(20, 0), (5, 0), (0, p2), (5, 0), (0, p3)]) ⟨Or.inr rfl, Or.inl rfl, Or.inr rfl, Or.inl rfl, Or.inr rfl, trivial⟩ (hJ1 p3 D6 h)
    refine c_if_eq (tgt := 55) d_X5_addToList_31 (by decide) (nz_w _) h (fun h => ?_) (fun h => ?_)
    · skip
      exact Run.forget (ls' := [(20, 0), (0, p1), (0, p2), (0, p3), (5, 0)]) ⟨Or.inr rfl, Or.inr rfl, Or.inr rfl, Or.inr rfl, Or.inl rfl, trivial⟩ (hJ2 D4 h)
    · skip
      show Run Γ rg κ Y_X5_addToList 34 [(20, 0), (0, p1), (0, p2), (0, p3), (0, x1)] [] D4 Φ
      refine r_aload_n d_X5_addToList_34 rfl (by decide) ?_
      refine r_getR (t := 2) d_X5_addToList_35 fk_RX5_9 sh_12 rfl (by decide) (R 12 rfl) ?_
      refine r_iload d_X5_addToList_38 rfl ?_
      refine r_iconst d_X5_addToList_40 ?_
      refine r_iload_n d_X5_addToList_41 rfl ?_
      refine c_callVv (a := 2) (z := 0) (as := [(0, x1), (0, 0), (0, p3)]) (rest := []) (ls' := [(10, 0), (0, x1), (0, 0), (0, p3), (5, 0), (5, 0)]) d_X5_addToList_42 ck_RX5_122 rfl sh_2 rfl (by decide) (R 2 rfl) rfl rfl (Nat.le_of_ble_eq_true rfl) (Nat.le_of_ble_eq_true rfl) (by decide) rfl rfl (fun κ' Ψ hΨ => run_pI_moveItems R _ _ _ hΨ) h (fun _ D7 h => ?_)
      show Run Γ rg κ Y_X5_addToList 45 [(20, 0), (0, p1), (0, p2), (0, p3), (0, x1)] [] D7 Φ
      refine r_aload_n d_X5_addToList_45 rfl (by decide) ?_
      refine r_getR (t := 7) d_X5_addToList_46 fk_RX5_15 sh_12 rfl (by decide) (R 12 rfl) ?_
      refine r_iload d_X5_addToList_49 rfl ?_
      refine c_callVi (t' := (some .int)) (a := 7) (z := 0) (as := [(0, x1)]) (rest := []) (ls' := [(15, 0), (0, x1), (5, 0), (5, 0), (5, 0), (5, 0), (5, 0)]) d_X5_addToList_51 ck_RX5_115 rfl sh_7 rfl (by decide) (R 7 rfl) rfl rfl (Nat.le_of_ble_eq_true rfl) (Nat.le_of_ble_eq_true rfl) (by decide) rfl rfl (fun _ => rfl) (fun κ' Ψ hΨ => run_pC_giveBack R _ hΨ) h (fun v1 D8 h => ?_)
      show Run Γ rg κ Y_X5_addToList 54 [(20, 0), (0, p1), (0, p2), (0, p3), (0, x1)] [(0, v1)] D8 Φ
      refine r_pop d_X5_addToList_54 (show (0 : Nat) ≠ 1 by decide) ?_
      exact Run.forget (ls' := [(20, 0), (0, p1), (0, p2), (0, p3), (5, 0)]) ⟨Or.inr rfl, Or.inr rfl, Or.inr rfl, Or.inr rfl, Or.inl rfl, trivial⟩ (hJ2 D8 h)
set_option maxRecDepth 20000 in
theorem run_pV_wantListForOneMore {Γ : GG} {rg : Nat → Bool} {κ : Nat} {Φ : OT → DD → Prop} (R : cov rg rg0) (p1 : Int) {D : DD} (h : WPD Φ (pV_wantListForOneMore p1 D)) : Run Γ rg κ Y_X5_wantListForOneMore 0 [(20, 0), (0, p1)] [] D Φ := by
  unfold pV_wantListForOneMore at h
  show Run Γ rg κ Y_X5_wantListForOneMore 0 [(20, 0), (0, p1)] [] D Φ
  refine r_aload_n d_X5_wantListForOneMore_0 rfl (by decide) ?_
  refine r_iload_n d_X5_wantListForOneMore_1 rfl ?_
  refine c_callVPi (a := 12) (z := 0) (as := [(0, p1)]) (rest := []) (ls' := [(20, 0), (0, p1), (5, 0)]) d_X5_wantListForOneMore_2 ck_RX5_118 rfl sh_12 rfl (by decide) (R 12 rfl) rfl rfl (Nat.le_of_ble_eq_true rfl) (Nat.le_of_ble_eq_true rfl) (by decide) rfl rfl (fun Ψ hΨ => run_pV_needsListForOneMore R _ rfl hΨ) ?_
  show Run Γ rg κ Y_X5_wantListForOneMore 5 [(20, 0), (0, p1)] [(0, (pV_needsListForOneMore p1 D))] D Φ
  refine c_if_eq (tgt := 29) d_X5_wantListForOneMore_5 (by decide) (nz_b (pV_needsListForOneMore_b p1 D)) h (fun h => ?_) (fun h => ?_)
  · skip
    show Run Γ rg κ Y_X5_wantListForOneMore 29 [(20, 0), (0, p1)] [] D Φ
    exact d_vret d_X5_wantListForOneMore_29 rfl h
  · skip
    show Run Γ rg κ Y_X5_wantListForOneMore 8 [(20, 0), (0, p1)] [] D Φ
    refine r_aload_n d_X5_wantListForOneMore_8 rfl (by decide) ?_
    refine r_getR (t := 7) d_X5_wantListForOneMore_9 fk_RX5_15 sh_12 rfl (by decide) (R 12 rfl) ?_
    refine r_aload_n d_X5_wantListForOneMore_12 rfl (by decide) ?_
    refine r_iload_n d_X5_wantListForOneMore_13 rfl ?_
    refine c_callVPi (a := 12) (z := 0) (as := [(0, p1)]) (rest := [(15, 0)]) (ls' := [(20, 0), (0, p1), (5, 0)]) d_X5_wantListForOneMore_14 ck_RX5_28 rfl sh_12 rfl (by decide) (R 12 rfl) rfl rfl (Nat.le_of_ble_eq_true rfl) (Nat.le_of_ble_eq_true rfl) (by decide) rfl rfl (fun Ψ hΨ => run_pV_valueCount R _ rfl hΨ) ?_
    show Run Γ rg κ Y_X5_wantListForOneMore 17 [(20, 0), (0, p1)] [(0, (pV_valueCount p1 D)), (15, 0)] D Φ
    refine c_jn (fun J => ∀ (x1 : Int) (D1 : DD), WPD Φ (J x1 D1) → Run Γ rg κ Y_X5_wantListForOneMore 26 [(5, 0), (5, 0)] [(0, x1), (15, 0)] D1 Φ) h ?_ (fun J1 hJ1 h => ?_)
    · intro x1 D1 h
      show Run Γ rg κ Y_X5_wantListForOneMore 26 [(5, 0), (5, 0)] [(0, x1), (15, 0)] D1 Φ
      refine c_callVD (a := 7) (z := 0) (as := [(0, x1)]) (rest := []) (ls' := [(15, 0), (0, x1)]) d_X5_wantListForOneMore_26 ck_RX5_53 rfl sh_7 rfl (by decide) (R 7 rfl) rfl rfl (Nat.le_of_ble_eq_true rfl) (Nat.le_of_ble_eq_true rfl) (by decide) rfl rfl (fun Ψ hΨ => run_pC_want R _ hΨ) h (fun D2 h => ?_)
      show Run Γ rg κ Y_X5_wantListForOneMore 29 [(5, 0), (5, 0)] [] D2 Φ
      exact d_vret d_X5_wantListForOneMore_29 rfl h
    refine c_if_ne (tgt := 24) d_X5_wantListForOneMore_17 (by decide) (nz_w _) h (fun h => ?_) (fun h => ?_)
    · skip
      show Run Γ rg κ Y_X5_wantListForOneMore 24 [(20, 0), (0, p1)] [(15, 0)] D Φ
      refine r_bipush d_X5_wantListForOneMore_24 (by decide) ?_
      exact Run.forget (ls' := [(5, 0), (5, 0)]) ⟨Or.inl rfl, Or.inl rfl, trivial⟩ (hJ1 9 D h)
    · skip
      show Run Γ rg κ Y_X5_wantListForOneMore 20 [(20, 0), (0, p1)] [(15, 0)] D Φ
      refine r_iconst d_X5_wantListForOneMore_20 ?_
      refine r_goto (tgt := 26) d_X5_wantListForOneMore_21 (by decide) ?_
      exact Run.forget (ls' := [(5, 0), (5, 0)]) ⟨Or.inl rfl, Or.inl rfl, trivial⟩ (hJ1 5 D h)
set_option maxRecDepth 20000 in
theorem run_pV_assign {Γ : GG} {rg : Nat → Bool} {κ : Nat} {Φ : OT → DD → Prop} (R : cov rg rg0) (p1 : Int) (p2 : Int) (p3 : Int) (p4 : Int) {D : DD} (h : WP (some .boolean) κ Φ (pV_assign p1 p2 p3 p4 D)) : Run Γ rg κ Y_X5_assign 0 [(20, 0), (0, p1), (0, p2), (0, p3), (0, p4), (5, 0), (5, 0), (5, 0), (5, 0)] [] D Φ := by
  unfold pV_assign at h
  show Run Γ rg κ Y_X5_assign 0 [(20, 0), (0, p1), (0, p2), (0, p3), (0, p4), (5, 0), (5, 0), (5, 0), (5, 0)] [] D Φ
  refine r_aload_n d_X5_assign_0 rfl (by decide) ?_
  refine r_iload_n d_X5_assign_1 rfl ?_
  refine r_iload_n d_X5_assign_2 rfl ?_
  refine c_callVi (t' := (some .int)) (a := 12) (z := 0) (as := [(0, p1), (0, p2)]) (rest := []) (ls' := [(20, 0), (0, p1), (0, p2), (5, 0), (5, 0), (5, 0)]) d_X5_assign_3 ck_RX5_38 rfl sh_12 rfl (by decide) (R 12 rfl) rfl rfl (Nat.le_of_ble_eq_true rfl) (Nat.le_of_ble_eq_true rfl) (by decide) rfl rfl (fun _ => rfl) (fun κ' Ψ hΨ => run_pV_cellNamed R _ _ hΨ) h (fun v1 D1 h => ?_)
  show Run Γ rg κ Y_X5_assign 6 [(20, 0), (0, p1), (0, p2), (0, p3), (0, p4), (5, 0), (5, 0), (5, 0), (5, 0)] [(0, v1)] D1 Φ
  refine r_istore d_X5_assign_6 (by decide) rfl ?_
  show Run Γ rg κ Y_X5_assign 8 [(20, 0), (0, p1), (0, p2), (0, p3), (0, p4), (0, v1), (5, 0), (5, 0), (5, 0)] [] D1 Φ
  refine r_iload d_X5_assign_8 rfl ?_
  refine c_jn (fun J => ∀ (x1 : Int) (D2 : DD), WP (some .boolean) κ Φ (J x1 D2) → Run Γ rg κ Y_X5_assign 18 [(20, 0), (0, p1), (0, p2), (0, p3), (0, p4), (0, v1), (5, 0), (5, 0), (5, 0)] [(0, x1)] D2 Φ) h ?_ (fun J1 hJ1 h => ?_)
  · intro x1 D2 h
    show Run Γ rg κ Y_X5_assign 18 [(20, 0), (0, p1), (0, p2), (0, p3), (0, p4), (0, v1), (5, 0), (5, 0), (5, 0)] [(0, x1)] D2 Φ
    refine r_istore d_X5_assign_18 (by decide) rfl ?_
    show Run Γ rg κ Y_X5_assign 20 [(20, 0), (0, p1), (0, p2), (0, p3), (0, p4), (0, v1), (0, x1), (5, 0), (5, 0)] [] D2 Φ
    refine r_iload_n d_X5_assign_20 rfl ?_
    refine c_callSPi (as := [(0, p3)]) (rest := []) (ls' := [(0, p3)]) d_X5_assign_21 ck_RX5_41 rfl rfl rfl (Nat.le_of_ble_eq_true rfl) (Nat.le_of_ble_eq_true rfl) (by decide) rfl rfl (fun Ψ hΨ => run_pV_pieceCount R _ rfl hΨ) ?_
    show Run Γ rg κ Y_X5_assign 24 [(20, 0), (0, p1), (0, p2), (0, p3), (0, p4), (0, v1), (0, x1), (5, 0), (5, 0)] [(0, (pV_pieceCount p3))] D2 Φ
    refine c_lt d_X5_assign_24 (by decide) rfl h (fun x2 h => ?_)
    show Run Γ rg κ Y_X5_assign 26 [(20, 0), (0, p1), (0, p2), (0, p3), (0, p4), (0, v1), (0, x1), (0, x2), (5, 0)] [] D2 Φ
    refine r_aload_n d_X5_assign_26 rfl (by decide) ?_
    refine r_getR (t := 7) d_X5_assign_27 fk_RX5_15 sh_12 rfl (by decide) (R 12 rfl) ?_
    refine c_callVD (a := 7) (z := 0) (as := []) (rest := []) (ls' := [(15, 0)]) d_X5_assign_30 ck_RX5_44 rfl sh_7 rfl (by decide) (R 7 rfl) rfl rfl (Nat.le_of_ble_eq_true rfl) (Nat.le_of_ble_eq_true rfl) (by decide) rfl rfl (fun Ψ hΨ => run_pC_wantNothing R hΨ) h (fun D3 h => ?_)
    show Run Γ rg κ Y_X5_assign 33 [(20, 0), (0, p1), (0, p2), (0, p3), (0, p4), (0, v1), (0, x1), (0, x2), (5, 0)] [] D3 Φ
    refine r_aload_n d_X5_assign_33 rfl (by decide) ?_
    refine r_iload_n d_X5_assign_34 rfl ?_
    refine r_iconst d_X5_assign_35 ?_
    refine c_callVv (a := 12) (z := 0) (as := [(0, p3), (0, 0)]) (rest := []) (ls' := [(20, 0), (0, p3), (0, 0), (5, 0), (5, 0)]) d_X5_assign_36 ck_RX5_49 rfl sh_12 rfl (by decide) (R 12 rfl) rfl rfl (Nat.le_of_ble_eq_true rfl) (Nat.le_of_ble_eq_true rfl) (by decide) rfl rfl (fun κ' Ψ hΨ => run_pV_wantPieces R _ _ hΨ) h (fun _ D4 h => ?_)
    show Run Γ rg κ Y_X5_assign 39 [(20, 0), (0, p1), (0, p2), (0, p3), (0, p4), (0, v1), (0, x1), (0, x2), (5, 0)] [] D4 Φ
    show Run Γ rg κ Y_X5_assign 39 [(20, 0), (0, p1), (0, p2), (0, p3), (0, p4), (0, v1), (0, x1), (0, x2), (5, 0)] [] D4 Φ
    refine r_iload d_X5_assign_39 rfl ?_
    refine c_jn (fun J => ∀ (D5 : DD), WP (some .boolean) κ Φ (J D5) → Run Γ rg κ Y_X5_assign 57 [(20, 0), (0, p1), (0, p2), (0, p3), (0, p4), (0, v1), (0, x1), (0, x2), (5, 0)] [] D5 Φ) h ?_ (fun J2 hJ2 h => ?_)
    · intro D5 h
      show Run Γ rg κ Y_X5_assign 57 [(20, 0), (0, p1), (0, p2), (0, p3), (0, p4), (0, v1), (0, x1), (0, x2), (5, 0)] [] D5 Φ
      refine r_aload_n d_X5_assign_57 rfl (by decide) ?_
      refine r_getR (t := 7) d_X5_assign_58 fk_RX5_15 sh_12 rfl (by decide) (R 12 rfl) ?_
      refine c_callVi (t' := (some .boolean)) (a := 7) (z := 0) (as := []) (rest := []) (ls' := [(15, 0), (5, 0), (5, 0), (5, 0)]) d_X5_assign_61 ck_RX5_60 rfl sh_7 rfl (by decide) (R 7 rfl) rfl rfl (Nat.le_of_ble_eq_true rfl) (Nat.le_of_ble_eq_true rfl) (by decide) rfl rfl (fun _ => rfl) (fun κ' Ψ hΨ => run_pC_getAllWanted R hΨ) h (fun v2 D6 h => ?_)
      show Run Γ rg κ Y_X5_assign 64 [(20, 0), (0, p1), (0, p2), (0, p3), (0, p4), (0, v1), (0, x1), (0, x2), (5, 0)] [(0, v2)] D6 Φ
      refine c_if_ne (tgt := 69) d_X5_assign_64 (by decide) (nz_w _) h (fun h => ?_) (fun h => ?_)
      · skip
        show Run Γ rg κ Y_X5_assign 69 [(20, 0), (0, p1), (0, p2), (0, p3), (0, p4), (0, v1), (0, x1), (0, x2), (5, 0)] [] D6 Φ
        refine r_iconst d_X5_assign_69 ?_
        refine r_istore d_X5_assign_70 (by decide) rfl ?_
        show Run Γ rg κ Y_X5_assign 72 [(20, 0), (0, p1), (0, p2), (0, p3), (0, p4), (0, v1), (0, x1), (0, x2), (0, 0)] [] D6 Φ
        refine r_iload d_X5_assign_72 rfl ?_
        refine c_jn (fun J => ∀ (x3 : Int) (x4 : Int) (D7 : DD), WP (some .boolean) κ Φ (J x3 x4 D7) → Run Γ rg κ Y_X5_assign 122 [(20, 0), (0, p1), (0, p2), (0, p3), (0, p4), (0, x3), (5, 0), (0, x2), (0, x4)] [] D7 Φ) h ?_ (fun J3 hJ3 h => ?_)
        · intro x3 x4 D7 h
          show Run Γ rg κ Y_X5_assign 122 [(20, 0), (0, p1), (0, p2), (0, p3), (0, p4), (0, x3), (5, 0), (0, x2), (0, x4)] [] D7 Φ
          refine r_aload_n d_X5_assign_122 rfl (by decide) ?_
          refine r_iload d_X5_assign_123 rfl ?_
          refine r_iload_n d_X5_assign_125 rfl ?_
          refine r_iload_n d_X5_assign_126 rfl ?_
          refine c_callVD (a := 12) (z := 0) (as := [(0, x3), (0, p2), (0, p3)]) (rest := []) (ls' := [(20, 0), (0, x3), (0, p2), (0, p3)]) d_X5_assign_127 ck_RX5_71 rfl sh_12 rfl (by decide) (R 12 rfl) rfl rfl (Nat.le_of_ble_eq_true rfl) (Nat.le_of_ble_eq_true rfl) (by decide) rfl rfl (fun Ψ hΨ => run_pV_putHead R _ _ _ hΨ) h (fun D8 h => ?_)
          show Run Γ rg κ Y_X5_assign 130 [(20, 0), (0, p1), (0, p2), (0, p3), (0, p4), (0, x3), (5, 0), (0, x2), (0, x4)] [] D8 Φ
          refine r_aload_n d_X5_assign_130 rfl (by decide) ?_
          refine r_getR (t := 2) d_X5_assign_131 fk_RX5_9 sh_12 rfl (by decide) (R 12 rfl) ?_
          refine r_iload d_X5_assign_134 rfl ?_
          refine r_iconst d_X5_assign_136 ?_
          refine r_iadd d_X5_assign_137 ?_
          refine r_iload d_X5_assign_138 rfl ?_
          show Run Γ rg κ Y_X5_assign 140 [(20, 0), (0, p1), (0, p2), (0, p3), (0, p4), (0, x3), (5, 0), (0, x2), (0, x4)] [(0, p4), (0, (x3 + 1)), (10, 0)] D8 Φ
          refine c_callVD (a := 2) (z := 0) (as := [(0, (x3 + 1)), (0, p4)]) (rest := []) (ls' := [(10, 0), (0, (x3 + 1)), (0, p4)]) d_X5_assign_140 ck_RX5_74 rfl sh_2 rfl (by decide) (R 2 rfl) rfl rfl (Nat.le_of_ble_eq_true rfl) (Nat.le_of_ble_eq_true rfl) (by decide) rfl rfl (fun Ψ hΨ => run_pI_putUnit R _ _ hΨ) h (fun D9 h => ?_)
          show Run Γ rg κ Y_X5_assign 143 [(20, 0), (0, p1), (0, p2), (0, p3), (0, p4), (0, x3), (5, 0), (0, x2), (0, x4)] [] D9 Φ
          refine r_aload_n d_X5_assign_143 rfl (by decide) ?_
          refine r_iload d_X5_assign_144 rfl ?_
          refine r_iconst d_X5_assign_146 ?_
          refine r_iadd d_X5_assign_147 ?_
          refine r_iload d_X5_assign_148 rfl ?_
          refine c_callVv (a := 12) (z := 0) (as := [(0, (x3 + 2)), (0, x2)]) (rest := []) (ls' := [(20, 0), (0, (x3 + 2)), (0, x2), (5, 0), (5, 0)]) d_X5_assign_150 ck_RX5_77 rfl sh_12 rfl (by decide) (R 12 rfl) rfl rfl (Nat.le_of_ble_eq_true rfl) (Nat.le_of_ble_eq_true rfl) (by decide) rfl rfl (fun κ' Ψ hΨ => run_pV_chainPieces R _ _ hΨ) h (fun _ D10 h => ?_)
          show Run Γ rg κ Y_X5_assign 153 [(20, 0), (0, p1), (0, p2), (0, p3), (0, p4), (0, x3), (5, 0), (0, x2), (0, x4)] [] D10 Φ
          refine r_aload_n d_X5_assign_153 rfl (by decide) ?_
          refine r_iload d_X5_assign_154 rfl ?_
          refine c_callVi (t' := (some .int)) (a := 12) (z := 0) (as := [(0, x4)]) (rest := []) (ls' := [(20, 0), (0, x4), (5, 0), (5, 0), (5, 0), (5, 0)]) d_X5_assign_156 ck_RX5_80 rfl sh_12 rfl (by decide) (R 12 rfl) rfl rfl (Nat.le_of_ble_eq_true rfl) (Nat.le_of_ble_eq_true rfl) (by decide) rfl rfl (fun _ => rfl) (fun κ' Ψ hΨ => run_pV_giveBackPieces R _ hΨ) h (fun v3 D11 h => ?_)
          show Run Γ rg κ Y_X5_assign 159 [(20, 0), (0, p1), (0, p2), (0, p3), (0, p4), (0, x3), (5, 0), (0, x2), (0, x4)] [(0, v3)] D11 Φ
          refine r_pop d_X5_assign_159 (show (0 : Nat) ≠ 1 by decide) ?_
          refine r_aload_n d_X5_assign_160 rfl (by decide) ?_
          show Run Γ rg κ Y_X5_assign 161 [(20, 0), (0, p1), (0, p2), (0, p3), (0, p4), (0, x3), (5, 0), (0, x2), (0, x4)] [(20, 0)] D11 Φ
          refine r_getR (t := 7) d_X5_assign_161 fk_RX5_15 sh_12 rfl (by decide) (R 12 rfl) ?_
          refine r_iload d_X5_assign_164 rfl ?_
          refine c_callVv (a := 7) (z := 0) (as := [(0, x3)]) (rest := []) (ls' := [(15, 0), (0, x3), (5, 0), (5, 0)]) d_X5_assign_166 ck_RX5_83 rfl sh_7 rfl (by decide) (R 7 rfl) rfl rfl (Nat.le_of_ble_eq_true rfl) (Nat.le_of_ble_eq_true rfl) (by decide) rfl rfl (fun κ' Ψ hΨ => run_pC_markWritten R _ hΨ) h (fun _ D12 h => ?_)
          show Run Γ rg κ Y_X5_assign 169 [(20, 0), (0, p1), (0, p2), (0, p3), (0, p4), (0, x3), (5, 0), (0, x2), (0, x4)] [] D12 Φ
          refine r_aload_n d_X5_assign_169 rfl (by decide) ?_
          refine r_getR (t := 7) d_X5_assign_170 fk_RX5_15 sh_12 rfl (by decide) (R 12 rfl) ?_
          refine r_iload_n d_X5_assign_173 rfl ?_
          refine c_callVv (a := 7) (z := 0) (as := [(0, p1)]) (rest := []) (ls' := [(15, 0), (0, p1), (5, 0), (5, 0)]) d_X5_assign_174 ck_RX5_83 rfl sh_7 rfl (by decide) (R 7 rfl) rfl rfl (Nat.le_of_ble_eq_true rfl) (Nat.le_of_ble_eq_true rfl) (by decide) rfl rfl (fun κ' Ψ hΨ => run_pC_markWritten R _ hΨ) h (fun _ D13 h => ?_)
          show Run Γ rg κ Y_X5_assign 177 [(20, 0), (0, p1), (0, p2), (0, p3), (0, p4), (0, x3), (5, 0), (0, x2), (0, x4)] [] D13 Φ
          refine r_iconst d_X5_assign_177 ?_
          exact c_zret d_X5_assign_178 rfl (Or.inr rfl) h
        refine c_if_eq (tgt := 109) d_X5_assign_74 (by decide) (nz_w _) h (fun h => ?_) (fun h => ?_)
        · skip
          show Run Γ rg κ Y_X5_assign 109 [(20, 0), (0, p1), (0, p2), (0, p3), (0, p4), (0, v1), (0, x1), (0, x2), (0, 0)] [] D6 Φ
          refine r_aload_n d_X5_assign_109 rfl (by decide) ?_
          refine r_getR (t := 2) d_X5_assign_110 fk_RX5_9 sh_12 rfl (by decide) (R 12 rfl) ?_
          refine r_iload d_X5_assign_113 rfl ?_
          refine r_iconst d_X5_assign_115 ?_
          refine r_iadd d_X5_assign_116 ?_
          refine c_callVPi (a := 2) (z := 0) (as := [(0, (v1 + 2))]) (rest := []) (ls' := [(10, 0), (0, (v1 + 2))]) d_X5_assign_117 ck_RX5_19 rfl sh_2 rfl (by decide) (R 2 rfl) rfl rfl (Nat.le_of_ble_eq_true rfl) (Nat.le_of_ble_eq_true rfl) (by decide) rfl rfl (fun Ψ hΨ => run_pI_unitAt R _ rfl hΨ) ?_
          show Run Γ rg κ Y_X5_assign 120 [(20, 0), (0, p1), (0, p2), (0, p3), (0, p4), (0, v1), (0, x1), (0, x2), (0, 0)] [(0, (pI_unitAt (v1 + 2) D6))] D6 Φ
          refine c_lt d_X5_assign_120 (by decide) rfl h (fun x5 h => ?_)
          show Run Γ rg κ Y_X5_assign 122 [(20, 0), (0, p1), (0, p2), (0, p3), (0, p4), (0, v1), (0, x1), (0, x2), (0, x5)] [] D6 Φ
          exact Run.forget (ls' := [(20, 0), (0, p1), (0, p2), (0, p3), (0, p4), (0, v1), (5, 0), (0, x2), (0, x5)]) ⟨Or.inr rfl, Or.inr rfl, Or.inr rfl, Or.inr rfl, Or.inr rfl, Or.inr rfl, Or.inl rfl, Or.inr rfl, Or.inr rfl, trivial⟩ (hJ3 v1 x5 D6 h)
        · skip
          show Run Γ rg κ Y_X5_assign 77 [(20, 0), (0, p1), (0, p2), (0, p3), (0, p4), (0, v1), (0, x1), (0, x2), (0, 0)] [] D6 Φ
          refine r_aload_n d_X5_assign_77 rfl (by decide) ?_
          refine r_getR (t := 7) d_X5_assign_78 fk_RX5_15 sh_12 rfl (by decide) (R 12 rfl) ?_
          refine r_iload d_X5_assign_81 rfl ?_
          refine c_callVPi (a := 7) (z := 0) (as := [(0, x2)]) (rest := []) (ls' := [(15, 0), (0, x2)]) d_X5_assign_83 ck_RX5_64 rfl sh_7 rfl (by decide) (R 7 rfl) rfl rfl (Nat.le_of_ble_eq_true rfl) (Nat.le_of_ble_eq_true rfl) (by decide) rfl rfl (fun Ψ hΨ => run_pC_got R _ rfl hΨ) ?_
          show Run Γ rg κ Y_X5_assign 86 [(20, 0), (0, p1), (0, p2), (0, p3), (0, p4), (0, v1), (0, x1), (0, x2), (0, 0)] [(0, (pC_got x2 D6))] D6 Φ
          refine c_lt d_X5_assign_86 (by decide) rfl h (fun x6 h => ?_)
          show Run Γ rg κ Y_X5_assign 88 [(20, 0), (0, p1), (0, p2), (0, p3), (0, p4), (0, x6), (0, x1), (0, x2), (0, 0)] [] D6 Φ
          refine r_aload_n d_X5_assign_88 rfl (by decide) ?_
          refine r_iload_n d_X5_assign_89 rfl ?_
          refine r_iload d_X5_assign_90 rfl ?_
          refine r_aload_n d_X5_assign_92 rfl (by decide) ?_
          refine r_getR (t := 7) d_X5_assign_93 fk_RX5_15 sh_12 rfl (by decide) (R 12 rfl) ?_
          refine r_iload d_X5_assign_96 rfl ?_
          show Run Γ rg κ Y_X5_assign 98 [(20, 0), (0, p1), (0, p2), (0, p3), (0, p4), (0, x6), (0, x1), (0, x2), (0, 0)] [(0, x2), (15, 0), (0, x6), (0, p1), (20, 0)] D6 Φ
          refine r_iconst d_X5_assign_98 ?_
          refine r_iadd d_X5_assign_99 ?_
          refine c_callVPi (a := 7) (z := 0) (as := [(0, (x2 + 1))]) (rest := [(0, x6), (0, p1), (20, 0)]) (ls' := [(15, 0), (0, (x2 + 1))]) d_X5_assign_100 ck_RX5_64 rfl sh_7 rfl (by decide) (R 7 rfl) rfl rfl (Nat.le_of_ble_eq_true rfl) (Nat.le_of_ble_eq_true rfl) (by decide) rfl rfl (fun Ψ hΨ => run_pC_got R _ rfl hΨ) ?_
          show Run Γ rg κ Y_X5_assign 103 [(20, 0), (0, p1), (0, p2), (0, p3), (0, p4), (0, x6), (0, x1), (0, x2), (0, 0)] [(0, (pC_got (x2 + 1) D6)), (0, x6), (0, p1), (20, 0)] D6 Φ
          refine c_callVv (a := 12) (z := 0) (as := [(0, p1), (0, x6), (0, (pC_got (x2 + 1) D6))]) (rest := []) (ls' := [(20, 0), (0, p1), (0, x6), (0, (pC_got (x2 + 1) D6)), (5, 0)]) d_X5_assign_103 ck_RX5_67 rfl sh_12 rfl (by decide) (R 12 rfl) rfl rfl (Nat.le_of_ble_eq_true rfl) (Nat.le_of_ble_eq_true rfl) (by decide) rfl rfl (fun κ' Ψ hΨ => run_pV_addToList R _ _ _ hΨ) h (fun _ D14 h => ?_)
          show Run Γ rg κ Y_X5_assign 106 [(20, 0), (0, p1), (0, p2), (0, p3), (0, p4), (0, x6), (0, x1), (0, x2), (0, 0)] [] D14 Φ
          refine r_goto (tgt := 122) d_X5_assign_106 (by decide) ?_
          exact Run.forget (ls' := [(20, 0), (0, p1), (0, p2), (0, p3), (0, p4), (0, x6), (5, 0), (0, x2), (0, 0)]) ⟨Or.inr rfl, Or.inr rfl, Or.inr rfl, Or.inr rfl, Or.inr rfl, Or.inr rfl, Or.inl rfl, Or.inr rfl, Or.inr rfl, trivial⟩ (hJ3 x6 0 D14 h)
      · skip
        show Run Γ rg κ Y_X5_assign 67 [(20, 0), (0, p1), (0, p2), (0, p3), (0, p4), (0, v1), (0, x1), (0, x2), (5, 0)] [] D6 Φ
        refine r_iconst d_X5_assign_67 ?_
        exact c_zret d_X5_assign_68 rfl (Or.inl rfl) h
    refine c_if_eq (tgt := 57) d_X5_assign_41 (by decide) (nz_w _) h (fun h => ?_) (fun h => ?_)
    · skip
      exact (hJ2 D4 h)
    · skip
      show Run Γ rg κ Y_X5_assign 44 [(20, 0), (0, p1), (0, p2), (0, p3), (0, p4), (0, v1), (0, x1), (0, x2), (5, 0)] [] D4 Φ
      refine r_aload_n d_X5_assign_44 rfl (by decide) ?_
      refine r_getR (t := 7) d_X5_assign_45 fk_RX5_15 sh_12 rfl (by decide) (R 12 rfl) ?_
      refine r_iconst d_X5_assign_48 ?_
      refine c_callVD (a := 7) (z := 0) (as := [(0, 3)]) (rest := []) (ls' := [(15, 0), (0, 3)]) d_X5_assign_49 ck_RX5_53 rfl sh_7 rfl (by decide) (R 7 rfl) rfl rfl (Nat.le_of_ble_eq_true rfl) (Nat.le_of_ble_eq_true rfl) (by decide) rfl rfl (fun Ψ hΨ => run_pC_want R _ hΨ) h (fun D15 h => ?_)
      show Run Γ rg κ Y_X5_assign 52 [(20, 0), (0, p1), (0, p2), (0, p3), (0, p4), (0, v1), (0, x1), (0, x2), (5, 0)] [] D15 Φ
      refine r_aload_n d_X5_assign_52 rfl (by decide) ?_
      refine r_iload_n d_X5_assign_53 rfl ?_
      refine c_callVD (a := 12) (z := 0) (as := [(0, p1)]) (rest := []) (ls' := [(20, 0), (0, p1)]) d_X5_assign_54 ck_RX5_57 rfl sh_12 rfl (by decide) (R 12 rfl) rfl rfl (Nat.le_of_ble_eq_true rfl) (Nat.le_of_ble_eq_true rfl) (by decide) rfl rfl (fun Ψ hΨ => run_pV_wantListForOneMore R _ hΨ) h (fun D16 h => ?_)
      show Run Γ rg κ Y_X5_assign 57 [(20, 0), (0, p1), (0, p2), (0, p3), (0, p4), (0, v1), (0, x1), (0, x2), (5, 0)] [] D16 Φ
      exact (hJ2 D16 h)
  refine c_if_ne (tgt := 17) d_X5_assign_10 (by decide) (nz_w _) h (fun h => ?_) (fun h => ?_)
  · skip
    show Run Γ rg κ Y_X5_assign 17 [(20, 0), (0, p1), (0, p2), (0, p3), (0, p4), (0, v1), (5, 0), (5, 0), (5, 0)] [] D1 Φ
    refine r_iconst d_X5_assign_17 ?_
    exact (hJ1 0 D1 h)
  · skip
    show Run Γ rg κ Y_X5_assign 13 [(20, 0), (0, p1), (0, p2), (0, p3), (0, p4), (0, v1), (5, 0), (5, 0), (5, 0)] [] D1 Φ
    refine r_iconst d_X5_assign_13 ?_
    refine r_goto (tgt := 18) d_X5_assign_14 (by decide) ?_
    exact (hJ1 1 D1 h)
set_option maxRecDepth 20000 in
theorem run_pH_setValue {Γ : GG} {rg : Nat → Bool} {κ : Nat} {Φ : OT → DD → Prop} (R : cov rg rg0) (p1 : Int) (p2 : Int) (p3 : Int) (p4 : Int) {D : DD} (h : WP (some .int) κ Φ (pH_setValue p1 p2 p3 p4 D)) : Run Γ rg κ Y_X7_setValue 0 [(8, 0), (0, p1), (0, p2), (0, p3), (0, p4), (5, 0)] [] D Φ := by
  unfold pH_setValue at h
  show Run Γ rg κ Y_X7_setValue 0 [(8, 0), (0, p1), (0, p2), (0, p3), (0, p4), (5, 0)] [] D Φ
  refine r_aload_n d_X7_setValue_0 rfl (by decide) ?_
  refine r_iload_n d_X7_setValue_1 rfl ?_
  refine c_callVv (a := 0) (z := 0) (as := [(0, p1)]) (rest := []) (ls' := [(8, 0), (0, p1)]) d_X7_setValue_2 ck_RX7_95 rfl sh_0 rfl (by decide) (R 0 rfl) rfl rfl (Nat.le_of_ble_eq_true rfl) (Nat.le_of_ble_eq_true rfl) (by decide) rfl rfl (fun κ' Ψ hΨ => run_pH_requireKey R _ hΨ) h (fun _ D1 h => ?_)
  show Run Γ rg κ Y_X7_setValue 5 [(8, 0), (0, p1), (0, p2), (0, p3), (0, p4), (5, 0)] [] D1 Φ
  refine r_iload_n d_X7_setValue_5 rfl ?_
  refine c_callSv (as := [(0, p2)]) (rest := []) (ls' := [(0, p2)]) d_X7_setValue_6 ck_RX7_192 rfl rfl rfl (Nat.le_of_ble_eq_true rfl) (Nat.le_of_ble_eq_true rfl) (by decide) rfl rfl (fun κ' Ψ hΨ => run_pH_requireValueName R _ hΨ) h (fun _ D2 h => ?_)
  show Run Γ rg κ Y_X7_setValue 9 [(8, 0), (0, p1), (0, p2), (0, p3), (0, p4), (5, 0)] [] D2 Φ
  refine r_iload_n d_X7_setValue_9 rfl ?_
  refine c_callSv (as := [(0, p3)]) (rest := []) (ls' := [(0, p3)]) d_X7_setValue_10 ck_RX7_195 rfl rfl rfl (Nat.le_of_ble_eq_true rfl) (Nat.le_of_ble_eq_true rfl) (by decide) rfl rfl (fun κ' Ψ hΨ => run_pH_requireLength R _ hΨ) h (fun _ D3 h => ?_)
  show Run Γ rg κ Y_X7_setValue 13 [(8, 0), (0, p1), (0, p2), (0, p3), (0, p4), (5, 0)] [] D3 Φ
  refine r_aload_n d_X7_setValue_13 rfl (by decide) ?_
  refine r_iload_n d_X7_setValue_14 rfl ?_
  refine c_callVv (a := 0) (z := 0) (as := [(0, p1)]) (rest := []) (ls' := [(8, 0), (0, p1)]) d_X7_setValue_15 ck_RX7_198 rfl sh_0 rfl (by decide) (R 0 rfl) rfl rfl (Nat.le_of_ble_eq_true rfl) (Nat.le_of_ble_eq_true rfl) (by decide) rfl rfl (fun κ' Ψ hΨ => run_pH_requireNoLink R _ hΨ) h (fun _ D4 h => ?_)
  show Run Γ rg κ Y_X7_setValue 18 [(8, 0), (0, p1), (0, p2), (0, p3), (0, p4), (5, 0)] [] D4 Φ
  refine r_aload_n d_X7_setValue_18 rfl (by decide) ?_
  show Run Γ rg κ Y_X7_setValue 19 [(8, 0), (0, p1), (0, p2), (0, p3), (0, p4), (5, 0)] [(8, 0)] D4 Φ
  refine r_getR (t := 2) d_X7_setValue_19 fk_RX7_21 sh_0 rfl (by decide) (R 0 rfl) ?_
  refine r_iload_n d_X7_setValue_22 rfl ?_
  refine c_callVPi (a := 2) (z := 0) (as := [(0, p1)]) (rest := []) (ls' := [(10, 0), (0, p1)]) d_X7_setValue_23 ck_RX7_108 rfl sh_2 rfl (by decide) (R 2 rfl) rfl rfl (Nat.le_of_ble_eq_true rfl) (Nat.le_of_ble_eq_true rfl) (by decide) rfl rfl (fun Ψ hΨ => run_pI_placeOfKey R _ rfl hΨ) ?_
  show Run Γ rg κ Y_X7_setValue 26 [(8, 0), (0, p1), (0, p2), (0, p3), (0, p4), (5, 0)] [(0, (pI_placeOfKey p1 D4))] D4 Φ
  refine c_lt d_X7_setValue_26 (by decide) rfl h (fun x1 h => ?_)
  show Run Γ rg κ Y_X7_setValue 28 [(8, 0), (0, p1), (0, p2), (0, p3), (0, p4), (0, x1)] [] D4 Φ
  refine r_aload_n d_X7_setValue_28 rfl (by decide) ?_
  refine r_getR (t := 12) d_X7_setValue_29 fk_RX7_41 sh_0 rfl (by decide) (R 0 rfl) ?_
  refine r_iload d_X7_setValue_32 rfl ?_
  refine r_iload_n d_X7_setValue_34 rfl ?_
  refine c_callVi (t' := (some .boolean)) (a := 12) (z := 0) (as := [(0, x1), (0, p2)]) (rest := []) (ls' := [(20, 0), (0, x1), (0, p2)]) d_X7_setValue_35 ck_RX7_201 rfl sh_12 rfl (by decide) (R 12 rfl) rfl rfl (Nat.le_of_ble_eq_true rfl) (Nat.le_of_ble_eq_true rfl) (by decide) rfl rfl (fun _ => rfl) (fun κ' Ψ hΨ => run_pV_canHold R _ _ hΨ) h (fun v1 D5 h => ?_)
  show Run Γ rg κ Y_X7_setValue 38 [(8, 0), (0, p1), (0, p2), (0, p3), (0, p4), (0, x1)] [(0, v1)] D5 Φ
  refine c_if_ne (tgt := 51) d_X7_setValue_38 (by decide) (nz_w _) h (fun h => ?_) (fun h => ?_)
  · skip
    show Run Γ rg κ Y_X7_setValue 51 [(8, 0), (0, p1), (0, p2), (0, p3), (0, p4), (0, x1)] [] D5 Φ
    refine r_aload_n d_X7_setValue_51 rfl (by decide) ?_
    refine r_getR (t := 12) d_X7_setValue_52 fk_RX7_41 sh_0 rfl (by decide) (R 0 rfl) ?_
    refine r_iload d_X7_setValue_55 rfl ?_
    refine r_iload_n d_X7_setValue_57 rfl ?_
    refine r_iload_n d_X7_setValue_58 rfl ?_
    refine r_iload d_X7_setValue_59 rfl ?_
    refine c_callVi (t' := (some .boolean)) (a := 12) (z := 0) (as := [(0, x1), (0, p2), (0, p3), (0, p4)]) (rest := []) (ls' := [(20, 0), (0, x1), (0, p2), (0, p3), (0, p4), (5, 0), (5, 0), (5, 0), (5, 0)]) d_X7_setValue_61 ck_RX7_209 rfl sh_12 rfl (by decide) (R 12 rfl) rfl rfl (Nat.le_of_ble_eq_true rfl) (Nat.le_of_ble_eq_true rfl) (by decide) rfl rfl (fun _ => rfl) (fun κ' Ψ hΨ => run_pV_assign R _ _ _ _ hΨ) h (fun v2 D6 h => ?_)
    show Run Γ rg κ Y_X7_setValue 64 [(8, 0), (0, p1), (0, p2), (0, p3), (0, p4), (0, x1)] [(0, v2)] D6 Φ
    refine c_callSv (as := [(0, v2)]) (rest := []) (ls' := [(0, v2)]) d_X7_setValue_64 ck_RX7_130 rfl rfl rfl (Nat.le_of_ble_eq_true rfl) (Nat.le_of_ble_eq_true rfl) (by decide) rfl rfl (fun κ' Ψ hΨ => run_pH_requireRoom R _ hΨ) h (fun _ D7 h => ?_)
    show Run Γ rg κ Y_X7_setValue 67 [(8, 0), (0, p1), (0, p2), (0, p3), (0, p4), (0, x1)] [] D7 Φ
    refine r_aload_n d_X7_setValue_67 rfl (by decide) ?_
    refine r_iload_n d_X7_setValue_68 rfl ?_
    refine r_iconst d_X7_setValue_69 ?_
    show Run Γ rg κ Y_X7_setValue 70 [(8, 0), (0, p1), (0, p2), (0, p3), (0, p4), (0, x1)] [(0, 2), (0, p1), (8, 0)] D7 Φ
    refine c_callVv (a := 0) (z := 0) (as := [(0, p1), (0, 2)]) (rest := []) (ls' := [(8, 0), (0, p1), (0, 2), (5, 0), (5, 0)]) d_X7_setValue_70 ck_RX7_146 rfl sh_0 rfl (by decide) (R 0 rfl) rfl rfl (Nat.le_of_ble_eq_true rfl) (Nat.le_of_ble_eq_true rfl) (by decide) rfl rfl (fun κ' Ψ hΨ => run_pH_tellUpwards R _ _ hΨ) h (fun _ D8 h => ?_)
    show Run Γ rg κ Y_X7_setValue 73 [(8, 0), (0, p1), (0, p2), (0, p3), (0, p4), (0, x1)] [] D8 Φ
    refine r_aload_n d_X7_setValue_73 rfl (by decide) ?_
    refine r_getR (t := 12) d_X7_setValue_74 fk_RX7_41 sh_0 rfl (by decide) (R 0 rfl) ?_
    refine r_iload d_X7_setValue_77 rfl ?_
    refine c_callVPi (a := 12) (z := 0) (as := [(0, x1)]) (rest := []) (ls' := [(20, 0), (0, x1), (5, 0)]) d_X7_setValue_79 ck_RX7_213 rfl sh_12 rfl (by decide) (R 12 rfl) rfl rfl (Nat.le_of_ble_eq_true rfl) (Nat.le_of_ble_eq_true rfl) (by decide) rfl rfl (fun Ψ hΨ => run_pV_valueCount R _ rfl hΨ) ?_
    show Run Γ rg κ Y_X7_setValue 82 [(8, 0), (0, p1), (0, p2), (0, p3), (0, p4), (0, x1)] [(0, (pV_valueCount x1 D8))] D8 Φ
    exact c_iret d_X7_setValue_82 rfl h
  · skip
    show Run Γ rg κ Y_X7_setValue 41 [(8, 0), (0, p1), (0, p2), (0, p3), (0, p4), (0, x1)] [] D5 Φ
    exact c_throw (text := "the key has as many values as it can have") tk_RX7_204_208 (by decide +kernel) d_X7_setValue_41 d_X7_setValue_44 d_X7_setValue_45 d_X7_setValue_47 d_X7_setValue_50 rfl (by decide) (Nat.le_of_ble_eq_true rfl) h
