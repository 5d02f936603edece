/-! the class: each run keeps to its reading -/
set_option maxRecDepth 20000 in
theorem run_pH_requireValue {Γ : GG} {rg : Nat → Bool} {κ : Nat} {Φ : OT → DD → Prop} (R : cov rg rg0) (p1 : Int) {D : DD} (h : WP none κ Φ (pH_requireValue p1 D)) : Run Γ rg κ Y_X7_requireValue 0 [(0, p1)] [] D Φ := by
  unfold pH_requireValue at h
  show Run Γ rg κ Y_X7_requireValue 0 [(0, p1)] [] D Φ
  refine r_iload_n d_X7_requireValue_0 rfl ?_
  refine c_if_ne (tgt := 15) d_X7_requireValue_1 (by decide) (nz_w _) h (fun h => ?_) (fun h => ?_)
  · skip
    show Run Γ rg κ Y_X7_requireValue 15 [(0, p1)] [] D Φ
    exact c_vret d_X7_requireValue_15 rfl h
  · skip
    show Run Γ rg κ Y_X7_requireValue 4 [(0, p1)] [] D Φ
    exact c_throwW (text := "there is no such value") tk_RX7_173_177 (by decide +kernel) d_X7_requireValue_4 d_X7_requireValue_7 d_X7_requireValue_8 d_X7_requireValue_11 d_X7_requireValue_14 rfl (by decide) (Nat.le_of_ble_eq_true rfl) h
set_option maxRecDepth 20000 in
theorem run_pV_lengthOf {Γ : GG} {rg : Nat → Bool} {κ : Nat} {Φ : OT → DD → Prop} (R : cov rg rg0) (p1 : Int) {D : DD} {x : Int} (h : EQx x (pV_lengthOf p1 D)) (hΦ : Φ (.inl (some (0, x))) D) : Run Γ rg κ Y_X5_lengthOf 0 [(20, 0), (0, p1)] [] D Φ := by
  unfold pV_lengthOf at h
  show Run Γ rg κ Y_X5_lengthOf 0 [(20, 0), (0, p1)] [] D Φ
  refine r_aload_n d_X5_lengthOf_0 rfl (by decide) ?_
  refine r_getR (t := 2) d_X5_lengthOf_1 fk_RX5_9 sh_12 rfl (by decide) (R 12 rfl) ?_
  refine r_iload_n d_X5_lengthOf_4 rfl ?_
  refine r_iconst d_X5_lengthOf_5 ?_
  refine r_iadd d_X5_lengthOf_6 ?_
  refine c_callVPi (a := 2) (z := 0) (as := [(0, (p1 + 0))]) (rest := []) (ls' := [(10, 0), (0, (p1 + 0))]) d_X5_lengthOf_7 ck_RX5_19 rfl sh_2 rfl (by decide) (R 2 rfl) rfl rfl (Nat.le_of_ble_eq_true rfl) (Nat.le_of_ble_eq_true rfl) (by decide) rfl rfl (fun Ψ hΨ => run_pI_unitAt R _ rfl hΨ) ?_
  show Run Γ rg κ Y_X5_lengthOf 10 [(20, 0), (0, p1)] [(0, (pI_unitAt (p1 + 0) D))] D Φ
  refine r_bipush d_X5_lengthOf_10 (by decide) ?_
  refine c_irem d_X5_lengthOf_12 (nz_w _) ⟨by decide, by decide⟩ (by decide) ?_
  exact e_iret d_X5_lengthOf_13 rfl h hΦ
set_option maxRecDepth 20000 in
theorem run_pV_piecesAlike_14 {Γ : GG} {rg : Nat → Bool} {κ : Nat} {Φ : OT → DD → Prop} (R : cov rg rg0) (a0 : Int) (a1 : Int) (a2 : Int) : ∀ (n : Nat) (a3 : Int) (D : DD), WP (some .int) κ Φ (pV_piecesAlike_14 a0 a1 a2 n a3 D) → Run Γ rg κ Y_X5_piecesAlike 14 [(0, a0), (0, a1), (0, a2), (0, a3)] [] D Φ := by
  intro n
  induction n with
  | zero => intro a3 D h; exact h.no.elim
  | succ n ih =>
    intro a3 D h
    rw [pV_piecesAlike_14] at h
    show Run Γ rg κ Y_X5_piecesAlike 14 [(0, a0), (0, a1), (0, a2), (0, a3)] [] D Φ
    refine r_iload_n d_X5_piecesAlike_14 rfl ?_
    refine r_iload_n d_X5_piecesAlike_15 rfl ?_
    refine c_icmp_ge (tgt := 40) d_X5_piecesAlike_16 (by decide) (nz_w _) (nz_w _) h (fun h => ?_) (fun h => ?_)
    · skip
      show Run Γ rg κ Y_X5_piecesAlike 40 [(0, a0), (0, a1), (0, a2), (0, a3)] [] D Φ
      refine r_iload_n d_X5_piecesAlike_40 rfl ?_
      exact c_iret d_X5_piecesAlike_41 rfl h
    · skip
      show Run Γ rg κ Y_X5_piecesAlike 19 [(0, a0), (0, a1), (0, a2), (0, a3)] [] D Φ
      refine r_iload_n d_X5_piecesAlike_19 rfl ?_
      refine r_iload_n d_X5_piecesAlike_20 rfl ?_
      refine c_callSPi (as := [(0, a0), (0, a3)]) (rest := []) (ls' := [(0, a0), (0, a3)]) d_X5_piecesAlike_21 ck_RX5_112 rfl rfl rfl (Nat.le_of_ble_eq_true rfl) (Nat.le_of_ble_eq_true rfl) (by decide) rfl rfl (fun Ψ hΨ => run_pV_unitsInPiece R _ _ rfl hΨ) ?_
      show Run Γ rg κ Y_X5_piecesAlike 24 [(0, a0), (0, a1), (0, a2), (0, a3)] [(0, (pV_unitsInPiece a0 a3))] D Φ
      refine r_iload_n d_X5_piecesAlike_24 rfl ?_
      refine r_iload_n d_X5_piecesAlike_25 rfl ?_
      refine c_callSPi (as := [(0, a1), (0, a3)]) (rest := [(0, (pV_unitsInPiece a0 a3))]) (ls' := [(0, a1), (0, a3)]) d_X5_piecesAlike_26 ck_RX5_112 rfl rfl rfl (Nat.le_of_ble_eq_true rfl) (Nat.le_of_ble_eq_true rfl) (by decide) rfl rfl (fun Ψ hΨ => run_pV_unitsInPiece R _ _ rfl hΨ) ?_
      show Run Γ rg κ Y_X5_piecesAlike 29 [(0, a0), (0, a1), (0, a2), (0, a3)] [(0, (pV_unitsInPiece a1 a3)), (0, (pV_unitsInPiece a0 a3))] D Φ
      refine c_icmp_eq (tgt := 34) d_X5_piecesAlike_29 (by decide) (nz_w _) (nz_w _) h (fun h => ?_) (fun h => ?_)
      · skip
        show Run Γ rg κ Y_X5_piecesAlike 34 [(0, a0), (0, a1), (0, a2), (0, a3)] [] D Φ
        refine r_iinc d_X5_piecesAlike_34 rfl (by decide) rfl ?_
        show Run Γ rg κ Y_X5_piecesAlike 37 [(0, a0), (0, a1), (0, a2), (0, (a3 + 1))] [] D Φ
        refine r_goto (tgt := 14) d_X5_piecesAlike_37 (by decide) ?_
        exact (ih (a3 + 1) D h)
      · skip
        show Run Γ rg κ Y_X5_piecesAlike 32 [(0, a0), (0, a1), (0, a2), (0, a3)] [] D Φ
        refine r_iload_n d_X5_piecesAlike_32 rfl ?_
        exact c_iret d_X5_piecesAlike_33 rfl h
set_option maxRecDepth 20000 in
theorem run_pV_piecesAlike {Γ : GG} {rg : Nat → Bool} {κ : Nat} {Φ : OT → DD → Prop} (R : cov rg rg0) (p1 : Int) (p2 : Int) {D : DD} (h : WP (some .int) κ Φ (pV_piecesAlike p1 p2 D)) : Run Γ rg κ Y_X5_piecesAlike 0 [(0, p1), (0, p2), (5, 0), (5, 0)] [] D Φ := by
  unfold pV_piecesAlike at h
  show Run Γ rg κ Y_X5_piecesAlike 0 [(0, p1), (0, p2), (5, 0), (5, 0)] [] D Φ
  refine r_iload_n d_X5_piecesAlike_0 rfl ?_
  refine c_callSPi (as := [(0, p1)]) (rest := []) (ls' := [(0, p1)]) d_X5_piecesAlike_1 ck_RX5_41 rfl rfl rfl (Nat.le_of_ble_eq_true rfl) (Nat.le_of_ble_eq_true rfl) (by decide) rfl rfl (fun Ψ hΨ => run_pV_pieceCount R _ rfl hΨ) ?_
  show Run Γ rg κ Y_X5_piecesAlike 4 [(0, p1), (0, p2), (5, 0), (5, 0)] [(0, (pV_pieceCount p1))] D Φ
  refine r_iload_n d_X5_piecesAlike_4 rfl ?_
  refine c_callSPi (as := [(0, p2)]) (rest := [(0, (pV_pieceCount p1))]) (ls' := [(0, p2)]) d_X5_piecesAlike_5 ck_RX5_41 rfl rfl rfl (Nat.le_of_ble_eq_true rfl) (Nat.le_of_ble_eq_true rfl) (by decide) rfl rfl (fun Ψ hΨ => run_pV_pieceCount R _ rfl hΨ) ?_
  show Run Γ rg κ Y_X5_piecesAlike 8 [(0, p1), (0, p2), (5, 0), (5, 0)] [(0, (pV_pieceCount p2)), (0, (pV_pieceCount p1))] D Φ
  refine c_mmin d_X5_piecesAlike_8 mx_RX5_107 (Nat.le_of_ble_eq_true rfl) (by decide) ?_
  refine c_lt_n d_X5_piecesAlike_11 (by decide) rfl h (fun x1 h => ?_)
  show Run Γ rg κ Y_X5_piecesAlike 12 [(0, p1), (0, p2), (0, x1), (5, 0)] [] D Φ
  refine r_iconst d_X5_piecesAlike_12 ?_
  refine r_istore_n d_X5_piecesAlike_13 (by decide) rfl ?_
  show Run Γ rg κ Y_X5_piecesAlike 14 [(0, p1), (0, p2), (0, x1), (0, 0)] [] D Φ
  exact run_pV_piecesAlike_14 R p1 p2 x1 fu 0 D h
set_option maxRecDepth 20000 in
theorem run_pV_changeLength_45 {Γ : GG} {rg : Nat → Bool} {κ : Nat} {Φ : OT → DD → Prop} (R : cov rg rg0) (a4 : Int) (c1 : Int) (c2 : Int) (c3 : Int) {K : Int → DD → Res} (hK : ∀ (z5 : Int) (D : DD), WP (some .boolean) κ Φ (K z5 D) → Run Γ rg κ Y_X5_changeLength 69 [(20, 0), (0, c1), (0, c2), (0, c3), (0, a4), (0, z5), (5, 0)] [] D Φ) : ∀ (n : Nat) (a5 : Int) (a6 : Int) (D : DD), WP (some .boolean) κ Φ (pV_changeLength_45 a4 n a5 a6 D K) → Run Γ rg κ Y_X5_changeLength 45 [(20, 0), (0, c1), (0, c2), (0, c3), (0, a4), (0, a5), (0, a6)] [] D Φ := by
  intro n
  induction n with
  | zero => intro a5 a6 D h; exact h.no.elim
  | succ n ih =>
    intro a5 a6 D h
    rw [pV_changeLength_45] at h
    show Run Γ rg κ Y_X5_changeLength 45 [(20, 0), (0, c1), (0, c2), (0, c3), (0, a4), (0, a5), (0, a6)] [] D Φ
    refine r_iload d_X5_changeLength_45 rfl ?_
    refine r_iload d_X5_changeLength_47 rfl ?_
    refine c_icmp_ge (tgt := 69) d_X5_changeLength_49 (by decide) (nz_w _) (nz_w _) h (fun h => ?_) (fun h => ?_)
    · skip
      exact Run.forget (ls' := [(20, 0), (0, c1), (0, c2), (0, c3), (0, a4), (0, a5), (5, 0)]) ⟨Or.inr rfl, Or.inr rfl, Or.inr rfl, Or.inr rfl, Or.inr rfl, Or.inr rfl, Or.inl rfl, trivial⟩ (hK a5 D h)
    · skip
      show Run Γ rg κ Y_X5_changeLength 52 [(20, 0), (0, c1), (0, c2), (0, c3), (0, a4), (0, a5), (0, a6)] [] D Φ
      refine r_aload_n d_X5_changeLength_52 rfl (by decide) ?_
      refine r_getR (t := 2) d_X5_changeLength_53 fk_RX5_9 sh_12 rfl (by decide) (R 12 rfl) ?_
      refine r_iload d_X5_changeLength_56 rfl ?_
      refine c_callVPi (a := 2) (z := 0) (as := [(0, a5)]) (rest := []) (ls' := [(10, 0), (0, a5)]) d_X5_changeLength_58 ck_RX5_19 rfl sh_2 rfl (by decide) (R 2 rfl) rfl rfl (Nat.le_of_ble_eq_true rfl) (Nat.le_of_ble_eq_true rfl) (by decide) rfl rfl (fun Ψ hΨ => run_pI_unitAt R _ rfl hΨ) ?_
      show Run Γ rg κ Y_X5_changeLength 61 [(20, 0), (0, c1), (0, c2), (0, c3), (0, a4), (0, a5), (0, a6)] [(0, (pI_unitAt a5 D))] D Φ
      refine c_lt d_X5_changeLength_61 (by decide) rfl h (fun x1 h => ?_)
      show Run Γ rg κ Y_X5_changeLength 63 [(20, 0), (0, c1), (0, c2), (0, c3), (0, a4), (0, x1), (0, a6)] [] D Φ
      refine r_iinc d_X5_changeLength_63 rfl (by decide) rfl ?_
      show Run Γ rg κ Y_X5_changeLength 66 [(20, 0), (0, c1), (0, c2), (0, c3), (0, a4), (0, x1), (0, (a6 + 1))] [] D Φ
      refine r_goto (tgt := 45) d_X5_changeLength_66 (by decide) ?_
      exact (ih x1 (a6 + 1) D h)
set_option maxRecDepth 20000 in
theorem run_pV_changeLength {Γ : GG} {rg : Nat → Bool} {κ : Nat} {Φ : OT → DD → Prop} (R : cov rg rg0) (p1 : Int) (p2 : Int) (p3 : Int) {D : DD} (h : WP (some .boolean) κ Φ (pV_changeLength p1 p2 p3 D)) : Run Γ rg κ Y_X5_changeLength 0 [(20, 0), (0, p1), (0, p2), (0, p3), (5, 0), (5, 0), (5, 0)] [] D Φ := by
  unfold pV_changeLength at h
  show Run Γ rg κ Y_X5_changeLength 0 [(20, 0), (0, p1), (0, p2), (0, p3), (5, 0), (5, 0), (5, 0)] [] D Φ
  refine r_aload_n d_X5_changeLength_0 rfl (by decide) ?_
  refine r_iload_n d_X5_changeLength_1 rfl ?_
  refine c_callVPi (a := 12) (z := 0) (as := [(0, p2)]) (rest := []) (ls' := [(20, 0), (0, p2)]) d_X5_changeLength_2 ck_RX5_86 rfl sh_12 rfl (by decide) (R 12 rfl) rfl rfl (Nat.le_of_ble_eq_true rfl) (Nat.le_of_ble_eq_true rfl) (by decide) rfl rfl (fun Ψ hΨ => run_pV_lengthOf R _ rfl hΨ) ?_
  show Run Γ rg κ Y_X5_changeLength 5 [(20, 0), (0, p1), (0, p2), (0, p3), (5, 0), (5, 0), (5, 0)] [(0, (pV_lengthOf p2 D))] D Φ
  refine r_iload_n d_X5_changeLength_5 rfl ?_
  refine c_callSi (t' := (some .int)) (as := [(0, (pV_lengthOf p2 D)), (0, p3)]) (rest := []) (ls' := [(0, (pV_lengthOf p2 D)), (0, p3), (5, 0), (5, 0)]) d_X5_changeLength_6 ck_RX5_89 rfl rfl rfl (Nat.le_of_ble_eq_true rfl) (Nat.le_of_ble_eq_true rfl) (by decide) rfl rfl (fun _ => rfl) (fun κ' Ψ hΨ => run_pV_piecesAlike R _ _ hΨ) h (fun v1 D1 h => ?_)
  show Run Γ rg κ Y_X5_changeLength 9 [(20, 0), (0, p1), (0, p2), (0, p3), (5, 0), (5, 0), (5, 0)] [(0, v1)] D1 Φ
  refine r_istore d_X5_changeLength_9 (by decide) rfl ?_
  show Run Γ rg κ Y_X5_changeLength 11 [(20, 0), (0, p1), (0, p2), (0, p3), (0, v1), (5, 0), (5, 0)] [] D1 Φ
  refine r_aload_n d_X5_changeLength_11 rfl (by decide) ?_
  refine r_getR (t := 7) d_X5_changeLength_12 fk_RX5_15 sh_12 rfl (by decide) (R 12 rfl) ?_
  refine c_callVD (a := 7) (z := 0) (as := []) (rest := []) (ls' := [(15, 0)]) d_X5_changeLength_15 ck_RX5_44 rfl sh_7 rfl (by decide) (R 7 rfl) rfl rfl (Nat.le_of_ble_eq_true rfl) (Nat.le_of_ble_eq_true rfl) (by decide) rfl rfl (fun Ψ hΨ => run_pC_wantNothing R hΨ) h (fun D2 h => ?_)
  show Run Γ rg κ Y_X5_changeLength 18 [(20, 0), (0, p1), (0, p2), (0, p3), (0, v1), (5, 0), (5, 0)] [] D2 Φ
  refine r_aload_n d_X5_changeLength_18 rfl (by decide) ?_
  refine r_iload_n d_X5_changeLength_19 rfl ?_
  show Run Γ rg κ Y_X5_changeLength 20 [(20, 0), (0, p1), (0, p2), (0, p3), (0, v1), (5, 0), (5, 0)] [(0, p3), (20, 0)] D2 Φ
  refine r_iload d_X5_changeLength_20 rfl ?_
  refine c_callVv (a := 12) (z := 0) (as := [(0, p3), (0, v1)]) (rest := []) (ls' := [(20, 0), (0, p3), (0, v1), (5, 0), (5, 0)]) d_X5_changeLength_22 ck_RX5_49 rfl sh_12 rfl (by decide) (R 12 rfl) rfl rfl (Nat.le_of_ble_eq_true rfl) (Nat.le_of_ble_eq_true rfl) (by decide) rfl rfl (fun κ' Ψ hΨ => run_pV_wantPieces R _ _ hΨ) h (fun _ D3 h => ?_)
  show Run Γ rg κ Y_X5_changeLength 25 [(20, 0), (0, p1), (0, p2), (0, p3), (0, v1), (5, 0), (5, 0)] [] D3 Φ
  refine r_aload_n d_X5_changeLength_25 rfl (by decide) ?_
  refine r_getR (t := 7) d_X5_changeLength_26 fk_RX5_15 sh_12 rfl (by decide) (R 12 rfl) ?_
  refine c_callVi (t' := (some .boolean)) (a := 7) (z := 0) (as := []) (rest := []) (ls' := [(15, 0), (5, 0), (5, 0), (5, 0)]) d_X5_changeLength_29 ck_RX5_60 rfl sh_7 rfl (by decide) (R 7 rfl) rfl rfl (Nat.le_of_ble_eq_true rfl) (Nat.le_of_ble_eq_true rfl) (by decide) rfl rfl (fun _ => rfl) (fun κ' Ψ hΨ => run_pC_getAllWanted R hΨ) h (fun v2 D4 h => ?_)
  show Run Γ rg κ Y_X5_changeLength 32 [(20, 0), (0, p1), (0, p2), (0, p3), (0, v1), (5, 0), (5, 0)] [(0, v2)] D4 Φ
  refine c_if_ne (tgt := 37) d_X5_changeLength_32 (by decide) (nz_w _) h (fun h => ?_) (fun h => ?_)
  · skip
    show Run Γ rg κ Y_X5_changeLength 37 [(20, 0), (0, p1), (0, p2), (0, p3), (0, v1), (5, 0), (5, 0)] [] D4 Φ
    refine r_iload_n d_X5_changeLength_37 rfl ?_
    refine r_iconst d_X5_changeLength_38 ?_
    refine r_iadd d_X5_changeLength_39 ?_
    refine c_lt d_X5_changeLength_40 (by decide) rfl h (fun x1 h => ?_)
    show Run Γ rg κ Y_X5_changeLength 42 [(20, 0), (0, p1), (0, p2), (0, p3), (0, v1), (0, x1), (5, 0)] [] D4 Φ
    refine r_iconst d_X5_changeLength_42 ?_
    refine r_istore d_X5_changeLength_43 (by decide) rfl ?_
    show Run Γ rg κ Y_X5_changeLength 45 [(20, 0), (0, p1), (0, p2), (0, p3), (0, v1), (0, x1), (0, 0)] [] D4 Φ
    refine run_pV_changeLength_45 R v1 p1 p2 p3 ?_ fu x1 0 D4 h
    intro x2 D5 h
    show Run Γ rg κ Y_X5_changeLength 69 [(20, 0), (0, p1), (0, p2), (0, p3), (0, v1), (0, x2), (5, 0)] [] D5 Φ
    refine r_aload_n d_X5_changeLength_69 rfl (by decide) ?_
    refine r_getR (t := 2) d_X5_changeLength_70 fk_RX5_9 sh_12 rfl (by decide) (R 12 rfl) ?_
    refine r_iload d_X5_changeLength_73 rfl ?_
    refine c_callVPi (a := 2) (z := 0) (as := [(0, x2)]) (rest := []) (ls' := [(10, 0), (0, x2)]) d_X5_changeLength_75 ck_RX5_19 rfl sh_2 rfl (by decide) (R 2 rfl) rfl rfl (Nat.le_of_ble_eq_true rfl) (Nat.le_of_ble_eq_true rfl) (by decide) rfl rfl (fun Ψ hΨ => run_pI_unitAt R _ rfl hΨ) ?_
    show Run Γ rg κ Y_X5_changeLength 78 [(20, 0), (0, p1), (0, p2), (0, p3), (0, v1), (0, x2), (5, 0)] [(0, (pI_unitAt x2 D5))] D5 Φ
    refine c_lt d_X5_changeLength_78 (by decide) rfl h (fun x3 h => ?_)
    show Run Γ rg κ Y_X5_changeLength 80 [(20, 0), (0, p1), (0, p2), (0, p3), (0, v1), (0, x2), (0, x3)] [] D5 Φ
    refine r_aload_n d_X5_changeLength_80 rfl (by decide) ?_
    refine r_iload d_X5_changeLength_81 rfl ?_
    refine r_iload_n d_X5_changeLength_83 rfl ?_
    refine c_callSPi (as := [(0, p3)]) (rest := [(0, x2), (20, 0)]) (ls' := [(0, p3)]) d_X5_changeLength_84 ck_RX5_41 rfl rfl rfl (Nat.le_of_ble_eq_true rfl) (Nat.le_of_ble_eq_true rfl) (by decide) rfl rfl (fun Ψ hΨ => run_pV_pieceCount R _ rfl hΨ) ?_
    show Run Γ rg κ Y_X5_changeLength 87 [(20, 0), (0, p1), (0, p2), (0, p3), (0, v1), (0, x2), (0, x3)] [(0, (pV_pieceCount p3)), (0, x2), (20, 0)] D5 Φ
    refine r_iload d_X5_changeLength_87 rfl ?_
    refine r_isub d_X5_changeLength_89 ?_
    show Run Γ rg κ Y_X5_changeLength 90 [(20, 0), (0, p1), (0, p2), (0, p3), (0, v1), (0, x2), (0, x3)] [(0, ((pV_pieceCount p3) - v1)), (0, x2), (20, 0)] D5 Φ
    refine c_callVv (a := 12) (z := 0) (as := [(0, x2), (0, ((pV_pieceCount p3) - v1))]) (rest := []) (ls' := [(20, 0), (0, x2), (0, ((pV_pieceCount p3) - v1)), (5, 0), (5, 0)]) d_X5_changeLength_90 ck_RX5_77 rfl sh_12 rfl (by decide) (R 12 rfl) rfl rfl (Nat.le_of_ble_eq_true rfl) (Nat.le_of_ble_eq_true rfl) (by decide) rfl rfl (fun κ' Ψ hΨ => run_pV_chainPieces R _ _ hΨ) h (fun _ D6 h => ?_)
    show Run Γ rg κ Y_X5_changeLength 93 [(20, 0), (0, p1), (0, p2), (0, p3), (0, v1), (0, x2), (0, x3)] [] D6 Φ
    refine r_aload_n d_X5_changeLength_93 rfl (by decide) ?_
    refine r_iload d_X5_changeLength_94 rfl ?_
    refine c_callVi (t' := (some .int)) (a := 12) (z := 0) (as := [(0, x3)]) (rest := []) (ls' := [(20, 0), (0, x3), (5, 0), (5, 0), (5, 0), (5, 0)]) d_X5_changeLength_96 ck_RX5_80 rfl sh_12 rfl (by decide) (R 12 rfl) rfl rfl (Nat.le_of_ble_eq_true rfl) (Nat.le_of_ble_eq_true rfl) (by decide) rfl rfl (fun _ => rfl) (fun κ' Ψ hΨ => run_pV_giveBackPieces R _ hΨ) h (fun v3 D7 h => ?_)
    show Run Γ rg κ Y_X5_changeLength 99 [(20, 0), (0, p1), (0, p2), (0, p3), (0, v1), (0, x2), (0, x3)] [(0, v3)] D7 Φ
    refine r_pop d_X5_changeLength_99 (show (0 : Nat) ≠ 1 by decide) ?_
    refine r_aload_n d_X5_changeLength_100 rfl (by decide) ?_
    refine r_iload_n d_X5_changeLength_101 rfl ?_
    refine r_aload_n d_X5_changeLength_102 rfl (by decide) ?_
    refine r_getR (t := 2) d_X5_changeLength_103 fk_RX5_9 sh_12 rfl (by decide) (R 12 rfl) ?_
    refine r_iload_n d_X5_changeLength_106 rfl ?_
    refine r_iconst d_X5_changeLength_107 ?_
    refine r_iadd d_X5_changeLength_108 ?_
    show Run Γ rg κ Y_X5_changeLength 109 [(20, 0), (0, p1), (0, p2), (0, p3), (0, v1), (0, x2), (0, x3)] [(0, (p2 + 0)), (10, 0), (0, p2), (20, 0)] D7 Φ
    refine c_callVPi (a := 2) (z := 0) (as := [(0, (p2 + 0))]) (rest := [(0, p2), (20, 0)]) (ls' := [(10, 0), (0, (p2 + 0))]) d_X5_changeLength_109 ck_RX5_19 rfl sh_2 rfl (by decide) (R 2 rfl) rfl rfl (Nat.le_of_ble_eq_true rfl) (Nat.le_of_ble_eq_true rfl) (by decide) rfl rfl (fun Ψ hΨ => run_pI_unitAt R _ rfl hΨ) ?_
    show Run Γ rg κ Y_X5_changeLength 112 [(20, 0), (0, p1), (0, p2), (0, p3), (0, v1), (0, x2), (0, x3)] [(0, (pI_unitAt (p2 + 0) D7)), (0, p2), (20, 0)] D7 Φ
    refine r_bipush d_X5_changeLength_112 (by decide) ?_
    refine c_idiv d_X5_changeLength_114 (nz_w _) ⟨by decide, by decide⟩ (by decide) ?_
    refine r_iload_n d_X5_changeLength_115 rfl ?_
    refine c_callVD (a := 12) (z := 0) (as := [(0, p2), (0, (Int.tdiv (w32 (pI_unitAt (p2 + 0) D7)) 31)), (0, p3)]) (rest := []) (ls' := [(20, 0), (0, p2), (0, (Int.tdiv (w32 (pI_unitAt (p2 + 0) D7)) 31)), (0, p3)]) d_X5_changeLength_116 ck_RX5_71 rfl sh_12 rfl (by decide) (R 12 rfl) rfl rfl (Nat.le_of_ble_eq_true rfl) (Nat.le_of_ble_eq_true rfl) (by decide) rfl rfl (fun Ψ hΨ => run_pV_putHead R _ _ _ hΨ) h (fun D8 h => ?_)
    show Run Γ rg κ Y_X5_changeLength 119 [(20, 0), (0, p1), (0, p2), (0, p3), (0, v1), (0, x2), (0, x3)] [] D8 Φ
    refine r_aload_n d_X5_changeLength_119 rfl (by decide) ?_
    refine r_getR (t := 7) d_X5_changeLength_120 fk_RX5_15 sh_12 rfl (by decide) (R 12 rfl) ?_
    refine r_iload_n d_X5_changeLength_123 rfl ?_
    refine c_callVv (a := 7) (z := 0) (as := [(0, p2)]) (rest := []) (ls' := [(15, 0), (0, p2), (5, 0), (5, 0)]) d_X5_changeLength_124 ck_RX5_83 rfl sh_7 rfl (by decide) (R 7 rfl) rfl rfl (Nat.le_of_ble_eq_true rfl) (Nat.le_of_ble_eq_true rfl) (by decide) rfl rfl (fun κ' Ψ hΨ => run_pC_markWritten R _ hΨ) h (fun _ D9 h => ?_)
    show Run Γ rg κ Y_X5_changeLength 127 [(20, 0), (0, p1), (0, p2), (0, p3), (0, v1), (0, x2), (0, x3)] [] D9 Φ
    refine r_aload_n d_X5_changeLength_127 rfl (by decide) ?_
    refine r_getR (t := 7) d_X5_changeLength_128 fk_RX5_15 sh_12 rfl (by decide) (R 12 rfl) ?_
    refine r_iload_n d_X5_changeLength_131 rfl ?_
    show Run Γ rg κ Y_X5_changeLength 132 [(20, 0), (0, p1), (0, p2), (0, p3), (0, v1), (0, x2), (0, x3)] [(0, p1), (15, 0)] D9 Φ
    refine c_callVv (a := 7) (z := 0) (as := [(0, p1)]) (rest := []) (ls' := [(15, 0), (0, p1), (5, 0), (5, 0)]) d_X5_changeLength_132 ck_RX5_83 rfl sh_7 rfl (by decide) (R 7 rfl) rfl rfl (Nat.le_of_ble_eq_true rfl) (Nat.le_of_ble_eq_true rfl) (by decide) rfl rfl (fun κ' Ψ hΨ => run_pC_markWritten R _ hΨ) h (fun _ D10 h => ?_)
    show Run Γ rg κ Y_X5_changeLength 135 [(20, 0), (0, p1), (0, p2), (0, p3), (0, v1), (0, x2), (0, x3)] [] D10 Φ
    refine r_iconst d_X5_changeLength_135 ?_
    exact c_zret d_X5_changeLength_136 rfl (Or.inr rfl) h
  · skip
    show Run Γ rg κ Y_X5_changeLength 35 [(20, 0), (0, p1), (0, p2), (0, p3), (0, v1), (5, 0), (5, 0)] [] D4 Φ
    refine r_iconst d_X5_changeLength_35 ?_
    exact c_zret d_X5_changeLength_36 rfl (Or.inl rfl) h
set_option maxRecDepth 20000 in
theorem run_pH_resize {Γ : GG} {rg : Nat → Bool} {κ : Nat} {Φ : OT → DD → Prop} (R : cov rg rg0) (p1 : Int) (p2 : Int) (p3 : Int) {D : DD} (h : WP (some .int) κ Φ (pH_resize p1 p2 p3 D)) : Run Γ rg κ Y_X7_resize 0 [(8, 0), (0, p1), (0, p2), (0, p3), (5, 0), (5, 0), (5, 0)] [] D Φ := by
  unfold pH_resize at h
  show Run Γ rg κ Y_X7_resize 0 [(8, 0), (0, p1), (0, p2), (0, p3), (5, 0), (5, 0), (5, 0)] [] D Φ
  refine r_aload_n d_X7_resize_0 rfl (by decide) ?_
  refine r_iload_n d_X7_resize_1 rfl ?_
  refine c_callVv (a := 0) (z := 0) (as := [(0, p1)]) (rest := []) (ls' := [(8, 0), (0, p1)]) d_X7_resize_2 ck_RX7_95 rfl sh_0 rfl (by decide) (R 0 rfl) rfl rfl (Nat.le_of_ble_eq_true rfl) (Nat.le_of_ble_eq_true rfl) (by decide) rfl rfl (fun κ' Ψ hΨ => run_pH_requireKey R _ hΨ) h (fun _ D1 h => ?_)
  show Run Γ rg κ Y_X7_resize 5 [(8, 0), (0, p1), (0, p2), (0, p3), (5, 0), (5, 0), (5, 0)] [] D1 Φ
  refine r_aload_n d_X7_resize_5 rfl (by decide) ?_
  refine r_getR (t := 2) d_X7_resize_6 fk_RX7_21 sh_0 rfl (by decide) (R 0 rfl) ?_
  refine r_iload_n d_X7_resize_9 rfl ?_
  refine c_callVPi (a := 2) (z := 0) (as := [(0, p1)]) (rest := []) (ls' := [(10, 0), (0, p1)]) d_X7_resize_10 ck_RX7_108 rfl sh_2 rfl (by decide) (R 2 rfl) rfl rfl (Nat.le_of_ble_eq_true rfl) (Nat.le_of_ble_eq_true rfl) (by decide) rfl rfl (fun Ψ hΨ => run_pI_placeOfKey R _ rfl hΨ) ?_
  show Run Γ rg κ Y_X7_resize 13 [(8, 0), (0, p1), (0, p2), (0, p3), (5, 0), (5, 0), (5, 0)] [(0, (pI_placeOfKey p1 D1))] D1 Φ
  refine c_lt d_X7_resize_13 (by decide) rfl h (fun x1 h => ?_)
  show Run Γ rg κ Y_X7_resize 15 [(8, 0), (0, p1), (0, p2), (0, p3), (0, x1), (5, 0), (5, 0)] [] D1 Φ
  refine r_aload_n d_X7_resize_15 rfl (by decide) ?_
  refine r_getR (t := 12) d_X7_resize_16 fk_RX7_41 sh_0 rfl (by decide) (R 0 rfl) ?_
  refine r_iload d_X7_resize_19 rfl ?_
  show Run Γ rg κ Y_X7_resize 21 [(8, 0), (0, p1), (0, p2), (0, p3), (0, x1), (5, 0), (5, 0)] [(0, x1), (20, 0)] D1 Φ
  refine r_iload_n d_X7_resize_21 rfl ?_
  refine c_callVi (t' := (some .int)) (a := 12) (z := 0) (as := [(0, x1), (0, p2)]) (rest := []) (ls' := [(20, 0), (0, x1), (0, p2), (5, 0), (5, 0), (5, 0)]) d_X7_resize_22 ck_RX7_216 rfl sh_12 rfl (by decide) (R 12 rfl) rfl rfl (Nat.le_of_ble_eq_true rfl) (Nat.le_of_ble_eq_true rfl) (by decide) rfl rfl (fun _ => rfl) (fun κ' Ψ hΨ => run_pV_cellNamed R _ _ hΨ) h (fun v1 D2 h => ?_)
  show Run Γ rg κ Y_X7_resize 25 [(8, 0), (0, p1), (0, p2), (0, p3), (0, x1), (5, 0), (5, 0)] [(0, v1)] D2 Φ
  refine r_istore d_X7_resize_25 (by decide) rfl ?_
  show Run Γ rg κ Y_X7_resize 27 [(8, 0), (0, p1), (0, p2), (0, p3), (0, x1), (0, v1), (5, 0)] [] D2 Φ
  refine r_iload d_X7_resize_27 rfl ?_
  refine c_callSv (as := [(0, v1)]) (rest := []) (ls' := [(0, v1)]) d_X7_resize_29 ck_RX7_219 rfl rfl rfl (Nat.le_of_ble_eq_true rfl) (Nat.le_of_ble_eq_true rfl) (by decide) rfl rfl (fun κ' Ψ hΨ => run_pH_requireValue R _ hΨ) h (fun _ D3 h => ?_)
  show Run Γ rg κ Y_X7_resize 32 [(8, 0), (0, p1), (0, p2), (0, p3), (0, x1), (0, v1), (5, 0)] [] D3 Φ
  refine r_iload_n d_X7_resize_32 rfl ?_
  refine c_callSv (as := [(0, p3)]) (rest := []) (ls' := [(0, p3)]) d_X7_resize_33 ck_RX7_195 rfl rfl rfl (Nat.le_of_ble_eq_true rfl) (Nat.le_of_ble_eq_true rfl) (by decide) rfl rfl (fun κ' Ψ hΨ => run_pH_requireLength R _ hΨ) h (fun _ D4 h => ?_)
  show Run Γ rg κ Y_X7_resize 36 [(8, 0), (0, p1), (0, p2), (0, p3), (0, x1), (0, v1), (5, 0)] [] D4 Φ
  refine r_aload_n d_X7_resize_36 rfl (by decide) ?_
  refine r_getR (t := 12) d_X7_resize_37 fk_RX7_41 sh_0 rfl (by decide) (R 0 rfl) ?_
  refine r_iload d_X7_resize_40 rfl ?_
  refine c_callVPi (a := 12) (z := 0) (as := [(0, v1)]) (rest := []) (ls' := [(20, 0), (0, v1)]) d_X7_resize_42 ck_RX7_222 rfl sh_12 rfl (by decide) (R 12 rfl) rfl rfl (Nat.le_of_ble_eq_true rfl) (Nat.le_of_ble_eq_true rfl) (by decide) rfl rfl (fun Ψ hΨ => run_pV_lengthOf R _ rfl hΨ) ?_
  show Run Γ rg κ Y_X7_resize 45 [(8, 0), (0, p1), (0, p2), (0, p3), (0, x1), (0, v1), (5, 0)] [(0, (pV_lengthOf v1 D4))] D4 Φ
  refine c_lt d_X7_resize_45 (by decide) rfl h (fun x2 h => ?_)
  show Run Γ rg κ Y_X7_resize 47 [(8, 0), (0, p1), (0, p2), (0, p3), (0, x1), (0, v1), (0, x2)] [] D4 Φ
  show Run Γ rg κ Y_X7_resize 47 [(8, 0), (0, p1), (0, p2), (0, p3), (0, x1), (0, v1), (0, x2)] [] D4 Φ
  refine r_aload_n d_X7_resize_47 rfl (by decide) ?_
  refine r_getR (t := 12) d_X7_resize_48 fk_RX7_41 sh_0 rfl (by decide) (R 0 rfl) ?_
  refine r_iload d_X7_resize_51 rfl ?_
  refine r_iload d_X7_resize_53 rfl ?_
  refine r_iload_n d_X7_resize_55 rfl ?_
  refine c_callVi (t' := (some .boolean)) (a := 12) (z := 0) (as := [(0, x1), (0, v1), (0, p3)]) (rest := []) (ls' := [(20, 0), (0, x1), (0, v1), (0, p3), (5, 0), (5, 0), (5, 0)]) d_X7_resize_56 ck_RX7_225 rfl sh_12 rfl (by decide) (R 12 rfl) rfl rfl (Nat.le_of_ble_eq_true rfl) (Nat.le_of_ble_eq_true rfl) (by decide) rfl rfl (fun _ => rfl) (fun κ' Ψ hΨ => run_pV_changeLength R _ _ _ hΨ) h (fun v2 D5 h => ?_)
  show Run Γ rg κ Y_X7_resize 59 [(8, 0), (0, p1), (0, p2), (0, p3), (0, x1), (0, v1), (0, x2)] [(0, v2)] D5 Φ
  refine c_callSv (as := [(0, v2)]) (rest := []) (ls' := [(0, v2)]) d_X7_resize_59 ck_RX7_130 rfl rfl rfl (Nat.le_of_ble_eq_true rfl) (Nat.le_of_ble_eq_true rfl) (by decide) rfl rfl (fun κ' Ψ hΨ => run_pH_requireRoom R _ hΨ) h (fun _ D6 h => ?_)
  show Run Γ rg κ Y_X7_resize 62 [(8, 0), (0, p1), (0, p2), (0, p3), (0, x1), (0, v1), (0, x2)] [] D6 Φ
  refine r_aload_n d_X7_resize_62 rfl (by decide) ?_
  refine r_iload_n d_X7_resize_63 rfl ?_
  refine r_iconst d_X7_resize_64 ?_
  refine c_callVv (a := 0) (z := 0) (as := [(0, p1), (0, 2)]) (rest := []) (ls' := [(8, 0), (0, p1), (0, 2), (5, 0), (5, 0)]) d_X7_resize_65 ck_RX7_146 rfl sh_0 rfl (by decide) (R 0 rfl) rfl rfl (Nat.le_of_ble_eq_true rfl) (Nat.le_of_ble_eq_true rfl) (by decide) rfl rfl (fun κ' Ψ hΨ => run_pH_tellUpwards R _ _ hΨ) h (fun _ D7 h => ?_)
  show Run Γ rg κ Y_X7_resize 68 [(8, 0), (0, p1), (0, p2), (0, p3), (0, x1), (0, v1), (0, x2)] [] D7 Φ
  refine r_iload d_X7_resize_68 rfl ?_
  show Run Γ rg κ Y_X7_resize 70 [(8, 0), (0, p1), (0, p2), (0, p3), (0, x1), (0, v1), (0, x2)] [(0, x2)] D7 Φ
  exact c_iret d_X7_resize_70 rfl h
set_option maxRecDepth 20000 in
theorem run_pI_numberOfItem_9 {Γ : GG} {rg : Nat → Bool} {κ : Nat} {Φ : OT → DD → Prop} (R : cov rg rg0) (a1 : Int) (a2 : Int) (a3 : Int) : ∀ (n : Nat) (a4 : Int) (D : DD), WP (some .int) κ Φ (pI_numberOfItem_9 a1 a2 a3 n a4 D) → Run Γ rg κ Y_X2_numberOfItem 9 [(10, 0), (0, a1), (0, a2), (0, a3), (0, a4)] [] D Φ := by
  intro n
  induction n with
  | zero => intro a4 D h; exact h.no.elim
  | succ n ih =>
    intro a4 D h
    rw [pI_numberOfItem_9] at h
    show Run Γ rg κ Y_X2_numberOfItem 9 [(10, 0), (0, a1), (0, a2), (0, a3), (0, a4)] [] D Φ
    refine r_iload d_X2_numberOfItem_9 rfl ?_
    refine r_iload_n d_X2_numberOfItem_11 rfl ?_
    refine c_icmp_ge (tgt := 35) d_X2_numberOfItem_12 (by decide) (nz_w _) (nz_w _) h (fun h => ?_) (fun h => ?_)
    · skip
      show Run Γ rg κ Y_X2_numberOfItem 35 [(10, 0), (0, a1), (0, a2), (0, a3), (0, a4)] [] D Φ
      refine r_iconst d_X2_numberOfItem_35 ?_
      exact c_iret d_X2_numberOfItem_36 rfl h
    · skip
      show Run Γ rg κ Y_X2_numberOfItem 15 [(10, 0), (0, a1), (0, a2), (0, a3), (0, a4)] [] D Φ
      refine r_aload_n d_X2_numberOfItem_15 rfl (by decide) ?_
      refine r_iload_n d_X2_numberOfItem_16 rfl ?_
      refine r_iload d_X2_numberOfItem_17 rfl ?_
      refine c_callVPi (a := 2) (z := 0) (as := [(0, a1), (0, a4)]) (rest := []) (ls' := [(10, 0), (0, a1), (0, a4)]) d_X2_numberOfItem_19 ck_RX2_49 rfl sh_2 rfl (by decide) (R 2 rfl) rfl rfl (Nat.le_of_ble_eq_true rfl) (Nat.le_of_ble_eq_true rfl) (by decide) rfl rfl (fun Ψ hΨ => run_pI_item R _ _ rfl hΨ) ?_
      show Run Γ rg κ Y_X2_numberOfItem 22 [(10, 0), (0, a1), (0, a2), (0, a3), (0, a4)] [(0, (pI_item a1 a4 D))] D Φ
      refine r_iload_n d_X2_numberOfItem_22 rfl ?_
      refine c_icmp_ne (tgt := 29) d_X2_numberOfItem_23 (by decide) (nz_w _) (nz_w _) h (fun h => ?_) (fun h => ?_)
      · skip
        show Run Γ rg κ Y_X2_numberOfItem 29 [(10, 0), (0, a1), (0, a2), (0, a3), (0, a4)] [] D Φ
        refine r_iinc d_X2_numberOfItem_29 rfl (by decide) rfl ?_
        show Run Γ rg κ Y_X2_numberOfItem 32 [(10, 0), (0, a1), (0, a2), (0, a3), (0, (a4 + 1))] [] D Φ
        refine r_goto (tgt := 9) d_X2_numberOfItem_32 (by decide) ?_
        exact (ih (a4 + 1) D h)
      · skip
        show Run Γ rg κ Y_X2_numberOfItem 26 [(10, 0), (0, a1), (0, a2), (0, a3), (0, a4)] [] D Φ
        refine r_iload d_X2_numberOfItem_26 rfl ?_
        exact c_iret d_X2_numberOfItem_28 rfl h
set_option maxRecDepth 20000 in
theorem run_pI_numberOfItem {Γ : GG} {rg : Nat → Bool} {κ : Nat} {Φ : OT → DD → Prop} (R : cov rg rg0) (p1 : Int) (p2 : Int) {D : DD} (h : WP (some .int) κ Φ (pI_numberOfItem p1 p2 D)) : Run Γ rg κ Y_X2_numberOfItem 0 [(10, 0), (0, p1), (0, p2), (5, 0), (5, 0)] [] D Φ := by
  unfold pI_numberOfItem at h
  show Run Γ rg κ Y_X2_numberOfItem 0 [(10, 0), (0, p1), (0, p2), (5, 0), (5, 0)] [] D Φ
  refine r_aload_n d_X2_numberOfItem_0 rfl (by decide) ?_
  refine r_iload_n d_X2_numberOfItem_1 rfl ?_
  refine c_callVPi (a := 2) (z := 0) (as := [(0, p1)]) (rest := []) (ls' := [(10, 0), (0, p1)]) d_X2_numberOfItem_2 ck_RX2_45 rfl sh_2 rfl (by decide) (R 2 rfl) rfl rfl (Nat.le_of_ble_eq_true rfl) (Nat.le_of_ble_eq_true rfl) (by decide) rfl rfl (fun Ψ hΨ => run_pI_itemCount R _ rfl hΨ) ?_
  show Run Γ rg κ Y_X2_numberOfItem 5 [(10, 0), (0, p1), (0, p2), (5, 0), (5, 0)] [(0, (pI_itemCount p1 D))] D Φ
  refine c_lt_n d_X2_numberOfItem_5 (by decide) rfl h (fun x1 h => ?_)
  show Run Γ rg κ Y_X2_numberOfItem 6 [(10, 0), (0, p1), (0, p2), (0, x1), (5, 0)] [] D Φ
  refine r_iconst d_X2_numberOfItem_6 ?_
  refine r_istore d_X2_numberOfItem_7 (by decide) rfl ?_
  show Run Γ rg κ Y_X2_numberOfItem 9 [(10, 0), (0, p1), (0, p2), (0, x1), (0, 0)] [] D Φ
  exact run_pI_numberOfItem_9 R p1 p2 x1 fu 0 D h
set_option maxRecDepth 20000 in
theorem run_pV_drop {Γ : GG} {rg : Nat → Bool} {κ : Nat} {Φ : OT → DD → Prop} (R : cov rg rg0) (p1 : Int) (p2 : Int) {D : DD} (h : WP (some .int) κ Φ (pV_drop p1 p2 D)) : Run Γ rg κ Y_X5_drop 0 [(20, 0), (0, p1), (0, p2), (5, 0), (5, 0)] [] D Φ := by
  unfold pV_drop at h
  show Run Γ rg κ Y_X5_drop 0 [(20, 0), (0, p1), (0, p2), (5, 0), (5, 0)] [] D Φ
  refine r_aload_n d_X5_drop_0 rfl (by decide) ?_
  refine r_getR (t := 2) d_X5_drop_1 fk_RX5_9 sh_12 rfl (by decide) (R 12 rfl) ?_
  refine r_iload_n d_X5_drop_4 rfl ?_
  refine r_iconst d_X5_drop_5 ?_
  refine r_iadd d_X5_drop_6 ?_
  refine c_callVPi (a := 2) (z := 0) (as := [(0, (p1 + 3))]) (rest := []) (ls' := [(10, 0), (0, (p1 + 3))]) d_X5_drop_7 ck_RX5_19 rfl sh_2 rfl (by decide) (R 2 rfl) rfl rfl (Nat.le_of_ble_eq_true rfl) (Nat.le_of_ble_eq_true rfl) (by decide) rfl rfl (fun Ψ hΨ => run_pI_unitAt R _ rfl hΨ) ?_
  show Run Γ rg κ Y_X5_drop 10 [(20, 0), (0, p1), (0, p2), (5, 0), (5, 0)] [(0, (pI_unitAt (p1 + 3) D))] D Φ
  refine c_lt_n d_X5_drop_10 (by decide) rfl h (fun x1 h => ?_)
  show Run Γ rg κ Y_X5_drop 11 [(20, 0), (0, p1), (0, p2), (0, x1), (5, 0)] [] D Φ
  refine r_aload_n d_X5_drop_11 rfl (by decide) ?_
  refine r_iload_n d_X5_drop_12 rfl ?_
  refine c_callVi (t' := (some .int)) (a := 12) (z := 0) (as := [(0, p2)]) (rest := []) (ls' := [(20, 0), (0, p2)]) d_X5_drop_13 ck_RX5_92 rfl sh_12 rfl (by decide) (R 12 rfl) rfl rfl (Nat.le_of_ble_eq_true rfl) (Nat.le_of_ble_eq_true rfl) (by decide) rfl rfl (fun _ => rfl) (fun κ' Ψ hΨ => run_pV_giveBackValue R _ hΨ) h (fun v1 D1 h => ?_)
  show Run Γ rg κ Y_X5_drop 16 [(20, 0), (0, p1), (0, p2), (0, x1), (5, 0)] [(0, v1)] D1 Φ
  refine r_istore d_X5_drop_16 (by decide) rfl ?_
  show Run Γ rg κ Y_X5_drop 18 [(20, 0), (0, p1), (0, p2), (0, x1), (0, v1)] [] D1 Φ
  show Run Γ rg κ Y_X5_drop 18 [(20, 0), (0, p1), (0, p2), (0, x1), (0, v1)] [] D1 Φ
  refine r_aload_n d_X5_drop_18 rfl (by decide) ?_
  refine r_getR (t := 2) d_X5_drop_19 fk_RX5_9 sh_12 rfl (by decide) (R 12 rfl) ?_
  refine r_iload_n d_X5_drop_22 rfl ?_
  refine r_aload_n d_X5_drop_23 rfl (by decide) ?_
  refine r_getR (t := 2) d_X5_drop_24 fk_RX5_9 sh_12 rfl (by decide) (R 12 rfl) ?_
  refine r_iload_n d_X5_drop_27 rfl ?_
  refine r_iload_n d_X5_drop_28 rfl ?_
  refine c_callVi (t' := (some .int)) (a := 2) (z := 0) (as := [(0, x1), (0, p2)]) (rest := [(0, x1), (10, 0)]) (ls' := [(10, 0), (0, x1), (0, p2), (5, 0), (5, 0)]) d_X5_drop_29 ck_RX5_95 rfl sh_2 rfl (by decide) (R 2 rfl) rfl rfl (Nat.le_of_ble_eq_true rfl) (Nat.le_of_ble_eq_true rfl) (by decide) rfl rfl (fun _ => rfl) (fun κ' Ψ hΨ => run_pI_numberOfItem R _ _ hΨ) h (fun v2 D2 h => ?_)
  show Run Γ rg κ Y_X5_drop 32 [(20, 0), (0, p1), (0, p2), (0, x1), (0, v1)] [(0, v2), (0, x1), (10, 0)] D2 Φ
  refine c_callVv (a := 2) (z := 0) (as := [(0, x1), (0, v2)]) (rest := []) (ls' := [(10, 0), (0, x1), (0, v2), (5, 0), (5, 0)]) d_X5_drop_32 ck_RX5_98 rfl sh_2 rfl (by decide) (R 2 rfl) rfl rfl (Nat.le_of_ble_eq_true rfl) (Nat.le_of_ble_eq_true rfl) (by decide) rfl rfl (fun κ' Ψ hΨ => run_pI_removeItem R _ _ hΨ) h (fun _ D3 h => ?_)
  show Run Γ rg κ Y_X5_drop 35 [(20, 0), (0, p1), (0, p2), (0, x1), (0, v1)] [] D3 Φ
  refine r_aload_n d_X5_drop_35 rfl (by decide) ?_
  refine r_getR (t := 7) d_X5_drop_36 fk_RX5_15 sh_12 rfl (by decide) (R 12 rfl) ?_
  refine r_iload_n d_X5_drop_39 rfl ?_
  show Run Γ rg κ Y_X5_drop 40 [(20, 0), (0, p1), (0, p2), (0, x1), (0, v1)] [(0, x1), (15, 0)] D3 Φ
  refine c_callVv (a := 7) (z := 0) (as := [(0, x1)]) (rest := []) (ls' := [(15, 0), (0, x1), (5, 0), (5, 0)]) d_X5_drop_40 ck_RX5_83 rfl sh_7 rfl (by decide) (R 7 rfl) rfl rfl (Nat.le_of_ble_eq_true rfl) (Nat.le_of_ble_eq_true rfl) (by decide) rfl rfl (fun κ' Ψ hΨ => run_pC_markWritten R _ hΨ) h (fun _ D4 h => ?_)
  show Run Γ rg κ Y_X5_drop 43 [(20, 0), (0, p1), (0, p2), (0, x1), (0, v1)] [] D4 Φ
  refine r_aload_n d_X5_drop_43 rfl (by decide) ?_
  refine r_getR (t := 7) d_X5_drop_44 fk_RX5_15 sh_12 rfl (by decide) (R 12 rfl) ?_
  refine r_iload_n d_X5_drop_47 rfl ?_
  refine c_callVv (a := 7) (z := 0) (as := [(0, p1)]) (rest := []) (ls' := [(15, 0), (0, p1), (5, 0), (5, 0)]) d_X5_drop_48 ck_RX5_83 rfl sh_7 rfl (by decide) (R 7 rfl) rfl rfl (Nat.le_of_ble_eq_true rfl) (Nat.le_of_ble_eq_true rfl) (by decide) rfl rfl (fun κ' Ψ hΨ => run_pC_markWritten R _ hΨ) h (fun _ D5 h => ?_)
  show Run Γ rg κ Y_X5_drop 51 [(20, 0), (0, p1), (0, p2), (0, x1), (0, v1)] [] D5 Φ
  refine r_iload d_X5_drop_51 rfl ?_
  refine r_aload_n d_X5_drop_53 rfl (by decide) ?_
  refine r_getR (t := 2) d_X5_drop_54 fk_RX5_9 sh_12 rfl (by decide) (R 12 rfl) ?_
  refine r_iload_n d_X5_drop_57 rfl ?_
  refine c_callVPi (a := 2) (z := 0) (as := [(0, x1)]) (rest := [(0, v1)]) (ls' := [(10, 0), (0, x1)]) d_X5_drop_58 ck_RX5_25 rfl sh_2 rfl (by decide) (R 2 rfl) rfl rfl (Nat.le_of_ble_eq_true rfl) (Nat.le_of_ble_eq_true rfl) (by decide) rfl rfl (fun Ψ hΨ => run_pI_itemCount R _ rfl hΨ) ?_
  show Run Γ rg κ Y_X5_drop 61 [(20, 0), (0, p1), (0, p2), (0, x1), (0, v1)] [(0, (pI_itemCount x1 D5)), (0, v1)] D5 Φ
  refine c_jn (fun J => ∀ (x2 : Int) (D6 : DD), WP (some .int) κ Φ (J x2 D6) → Run Γ rg κ Y_X5_drop 73 [(5, 0), (5, 0), (5, 0), (5, 0), (5, 0)] [(0, x2), (0, v1)] D6 Φ) h ?_ (fun J1 hJ1 h => ?_)
  · intro x2 D6 h
    show Run Γ rg κ Y_X5_drop 73 [(5, 0), (5, 0), (5, 0), (5, 0), (5, 0)] [(0, x2), (0, v1)] D6 Φ
    refine r_iadd d_X5_drop_73 ?_
    exact c_iret d_X5_drop_74 rfl h
  refine c_if_le (tgt := 68) d_X5_drop_61 (by decide) (nz_w _) h (fun h => ?_) (fun h => ?_)
  · skip
    show Run Γ rg κ Y_X5_drop 68 [(20, 0), (0, p1), (0, p2), (0, x1), (0, v1)] [(0, v1)] D5 Φ
    refine r_aload_n d_X5_drop_68 rfl (by decide) ?_
    refine r_iload_n d_X5_drop_69 rfl ?_
    refine c_callVi (t' := (some .int)) (a := 12) (z := 0) (as := [(0, p1)]) (rest := [(0, v1)]) (ls' := [(20, 0), (0, p1), (5, 0)]) d_X5_drop_70 ck_RX5_101 rfl sh_12 rfl (by decide) (R 12 rfl) rfl rfl (Nat.le_of_ble_eq_true rfl) (Nat.le_of_ble_eq_true rfl) (by decide) rfl rfl (fun _ => rfl) (fun κ' Ψ hΨ => run_pV_giveBackList R _ hΨ) h (fun v3 D7 h => ?_)
    show Run Γ rg κ Y_X5_drop 73 [(20, 0), (0, p1), (0, p2), (0, x1), (0, v1)] [(0, v3), (0, v1)] D7 Φ
    exact Run.forget (ls' := [(5, 0), (5, 0), (5, 0), (5, 0), (5, 0)]) ⟨Or.inl rfl, Or.inl rfl, Or.inl rfl, Or.inl rfl, Or.inl rfl, trivial⟩ (hJ1 v3 D7 h)
  · skip
    show Run Γ rg κ Y_X5_drop 64 [(20, 0), (0, p1), (0, p2), (0, x1), (0, v1)] [(0, v1)] D5 Φ
    refine r_iconst d_X5_drop_64 ?_
    refine r_goto (tgt := 73) d_X5_drop_65 (by decide) ?_
    exact Run.forget (ls' := [(5, 0), (5, 0), (5, 0), (5, 0), (5, 0)]) ⟨Or.inl rfl, Or.inl rfl, Or.inl rfl, Or.inl rfl, Or.inl rfl, trivial⟩ (hJ1 0 D5 h)
set_option maxRecDepth 20000 in
theorem run_pH_dropValue {Γ : GG} {rg : Nat → Bool} {κ : Nat} {Φ : OT → DD → Prop} (R : cov rg rg0) (p1 : Int) (p2 : Int) {D : DD} (h : WP (some .int) κ Φ (pH_dropValue p1 p2 D)) : Run Γ rg κ Y_X7_dropValue 0 [(8, 0), (0, p1), (0, p2), (5, 0), (5, 0), (5, 0)] [] D Φ := by
  unfold pH_dropValue at h
  show Run Γ rg κ Y_X7_dropValue 0 [(8, 0), (0, p1), (0, p2), (5, 0), (5, 0), (5, 0)] [] D Φ
  refine r_aload_n d_X7_dropValue_0 rfl (by decide) ?_
  refine r_iload_n d_X7_dropValue_1 rfl ?_
  refine c_callVv (a := 0) (z := 0) (as := [(0, p1)]) (rest := []) (ls' := [(8, 0), (0, p1)]) d_X7_dropValue_2 ck_RX7_95 rfl sh_0 rfl (by decide) (R 0 rfl) rfl rfl (Nat.le_of_ble_eq_true rfl) (Nat.le_of_ble_eq_true rfl) (by decide) rfl rfl (fun κ' Ψ hΨ => run_pH_requireKey R _ hΨ) h (fun _ D1 h => ?_)
  show Run Γ rg κ Y_X7_dropValue 5 [(8, 0), (0, p1), (0, p2), (5, 0), (5, 0), (5, 0)] [] D1 Φ
  refine r_aload_n d_X7_dropValue_5 rfl (by decide) ?_
  refine r_getR (t := 2) d_X7_dropValue_6 fk_RX7_21 sh_0 rfl (by decide) (R 0 rfl) ?_
  refine r_iload_n d_X7_dropValue_9 rfl ?_
  refine c_callVPi (a := 2) (z := 0) (as := [(0, p1)]) (rest := []) (ls' := [(10, 0), (0, p1)]) d_X7_dropValue_10 ck_RX7_108 rfl sh_2 rfl (by decide) (R 2 rfl) rfl rfl (Nat.le_of_ble_eq_true rfl) (Nat.le_of_ble_eq_true rfl) (by decide) rfl rfl (fun Ψ hΨ => run_pI_placeOfKey R _ rfl hΨ) ?_
  show Run Γ rg κ Y_X7_dropValue 13 [(8, 0), (0, p1), (0, p2), (5, 0), (5, 0), (5, 0)] [(0, (pI_placeOfKey p1 D1))] D1 Φ
  refine c_lt_n d_X7_dropValue_13 (by decide) rfl h (fun x1 h => ?_)
  show Run Γ rg κ Y_X7_dropValue 14 [(8, 0), (0, p1), (0, p2), (0, x1), (5, 0), (5, 0)] [] D1 Φ
  refine r_aload_n d_X7_dropValue_14 rfl (by decide) ?_
  refine r_getR (t := 12) d_X7_dropValue_15 fk_RX7_41 sh_0 rfl (by decide) (R 0 rfl) ?_
  refine r_iload_n d_X7_dropValue_18 rfl ?_
  show Run Γ rg κ Y_X7_dropValue 19 [(8, 0), (0, p1), (0, p2), (0, x1), (5, 0), (5, 0)] [(0, x1), (20, 0)] D1 Φ
  refine r_iload_n d_X7_dropValue_19 rfl ?_
  refine c_callVi (t' := (some .int)) (a := 12) (z := 0) (as := [(0, x1), (0, p2)]) (rest := []) (ls' := [(20, 0), (0, x1), (0, p2), (5, 0), (5, 0), (5, 0)]) d_X7_dropValue_20 ck_RX7_216 rfl sh_12 rfl (by decide) (R 12 rfl) rfl rfl (Nat.le_of_ble_eq_true rfl) (Nat.le_of_ble_eq_true rfl) (by decide) rfl rfl (fun _ => rfl) (fun κ' Ψ hΨ => run_pV_cellNamed R _ _ hΨ) h (fun v1 D2 h => ?_)
  show Run Γ rg κ Y_X7_dropValue 23 [(8, 0), (0, p1), (0, p2), (0, x1), (5, 0), (5, 0)] [(0, v1)] D2 Φ
  refine r_istore d_X7_dropValue_23 (by decide) rfl ?_
  show Run Γ rg κ Y_X7_dropValue 25 [(8, 0), (0, p1), (0, p2), (0, x1), (0, v1), (5, 0)] [] D2 Φ
  refine r_iload d_X7_dropValue_25 rfl ?_
  refine c_callSv (as := [(0, v1)]) (rest := []) (ls' := [(0, v1)]) d_X7_dropValue_27 ck_RX7_219 rfl rfl rfl (Nat.le_of_ble_eq_true rfl) (Nat.le_of_ble_eq_true rfl) (by decide) rfl rfl (fun κ' Ψ hΨ => run_pH_requireValue R _ hΨ) h (fun _ D3 h => ?_)
  show Run Γ rg κ Y_X7_dropValue 30 [(8, 0), (0, p1), (0, p2), (0, x1), (0, v1), (5, 0)] [] D3 Φ
  refine r_aload_n d_X7_dropValue_30 rfl (by decide) ?_
  refine r_getR (t := 12) d_X7_dropValue_31 fk_RX7_41 sh_0 rfl (by decide) (R 0 rfl) ?_
  refine r_iload_n d_X7_dropValue_34 rfl ?_
  refine r_iload d_X7_dropValue_35 rfl ?_
  refine c_callVi (t' := (some .int)) (a := 12) (z := 0) (as := [(0, x1), (0, v1)]) (rest := []) (ls' := [(20, 0), (0, x1), (0, v1), (5, 0), (5, 0)]) d_X7_dropValue_37 ck_RX7_229 rfl sh_12 rfl (by decide) (R 12 rfl) rfl rfl (Nat.le_of_ble_eq_true rfl) (Nat.le_of_ble_eq_true rfl) (by decide) rfl rfl (fun _ => rfl) (fun κ' Ψ hΨ => run_pV_drop R _ _ hΨ) h (fun v2 D4 h => ?_)
  show Run Γ rg κ Y_X7_dropValue 40 [(8, 0), (0, p1), (0, p2), (0, x1), (0, v1), (5, 0)] [(0, v2)] D4 Φ
  refine r_istore d_X7_dropValue_40 (by decide) rfl ?_
  show Run Γ rg κ Y_X7_dropValue 42 [(8, 0), (0, p1), (0, p2), (0, x1), (0, v1), (0, v2)] [] D4 Φ
  refine r_aload_n d_X7_dropValue_42 rfl (by decide) ?_
  show Run Γ rg κ Y_X7_dropValue 43 [(8, 0), (0, p1), (0, p2), (0, x1), (0, v1), (0, v2)] [(8, 0)] D4 Φ
  refine r_iload_n d_X7_dropValue_43 rfl ?_
  refine r_iconst d_X7_dropValue_44 ?_
  refine c_callVv (a := 0) (z := 0) (as := [(0, p1), (0, 2)]) (rest := []) (ls' := [(8, 0), (0, p1), (0, 2), (5, 0), (5, 0)]) d_X7_dropValue_45 ck_RX7_146 rfl sh_0 rfl (by decide) (R 0 rfl) rfl rfl (Nat.le_of_ble_eq_true rfl) (Nat.le_of_ble_eq_true rfl) (by decide) rfl rfl (fun κ' Ψ hΨ => run_pH_tellUpwards R _ _ hΨ) h (fun _ D5 h => ?_)
  show Run Γ rg κ Y_X7_dropValue 48 [(8, 0), (0, p1), (0, p2), (0, x1), (0, v1), (0, v2)] [] D5 Φ
  refine r_iload d_X7_dropValue_48 rfl ?_
  exact c_iret d_X7_dropValue_50 rfl h
set_option maxRecDepth 20000 in
theorem run_pV_seedOf {Γ : GG} {rg : Nat → Bool} {κ : Nat} {Φ : OT → DD → Prop} (R : cov rg rg0) (p1 : Int) {D : DD} {x : Int} (h : EQx x (pV_seedOf p1 D)) (hΦ : Φ (.inl (some (0, x))) D) : Run Γ rg κ Y_X5_seedOf 0 [(20, 0), (0, p1)] [] D Φ := by
  unfold pV_seedOf at h
  show Run Γ rg κ Y_X5_seedOf 0 [(20, 0), (0, p1)] [] D Φ
  refine r_aload_n d_X5_seedOf_0 rfl (by decide) ?_
  refine r_getR (t := 2) d_X5_seedOf_1 fk_RX5_9 sh_12 rfl (by decide) (R 12 rfl) ?_
  refine r_iload_n d_X5_seedOf_4 rfl ?_
  refine r_iconst d_X5_seedOf_5 ?_
  refine r_iadd d_X5_seedOf_6 ?_
  refine c_callVPi (a := 2) (z := 0) (as := [(0, (p1 + 1))]) (rest := []) (ls' := [(10, 0), (0, (p1 + 1))]) d_X5_seedOf_7 ck_RX5_19 rfl sh_2 rfl (by decide) (R 2 rfl) rfl rfl (Nat.le_of_ble_eq_true rfl) (Nat.le_of_ble_eq_true rfl) (by decide) rfl rfl (fun Ψ hΨ => run_pI_unitAt R _ rfl hΨ) ?_
  show Run Γ rg κ Y_X5_seedOf 10 [(20, 0), (0, p1)] [(0, (pI_unitAt (p1 + 1) D))] D Φ
  exact e_iret d_X5_seedOf_10 rfl h hΦ
set_option maxRecDepth 20000 in
theorem run_pH_unit {Γ : GG} {rg : Nat → Bool} {κ : Nat} {Φ : OT → DD → Prop} (R : cov rg rg0) (p1 : Int) (p2 : Int) (p3 : Int) {D : DD} (h : WP (some .int) κ Φ (pH_unit p1 p2 p3 D)) : Run Γ rg κ Y_X7_unit 0 [(8, 0), (0, p1), (0, p2), (0, p3), (5, 0)] [] D Φ := by
  unfold pH_unit at h
  show Run Γ rg κ Y_X7_unit 0 [(8, 0), (0, p1), (0, p2), (0, p3), (5, 0)] [] D Φ
  refine r_aload_n d_X7_unit_0 rfl (by decide) ?_
  refine r_iload_n d_X7_unit_1 rfl ?_
  refine c_callVv (a := 0) (z := 0) (as := [(0, p1)]) (rest := []) (ls' := [(8, 0), (0, p1)]) d_X7_unit_2 ck_RX7_95 rfl sh_0 rfl (by decide) (R 0 rfl) rfl rfl (Nat.le_of_ble_eq_true rfl) (Nat.le_of_ble_eq_true rfl) (by decide) rfl rfl (fun κ' Ψ hΨ => run_pH_requireKey R _ hΨ) h (fun _ D1 h => ?_)
  show Run Γ rg κ Y_X7_unit 5 [(8, 0), (0, p1), (0, p2), (0, p3), (5, 0)] [] D1 Φ
  refine r_aload_n d_X7_unit_5 rfl (by decide) ?_
  refine r_getR (t := 12) d_X7_unit_6 fk_RX7_41 sh_0 rfl (by decide) (R 0 rfl) ?_
  refine r_aload_n d_X7_unit_9 rfl (by decide) ?_
  refine r_getR (t := 2) d_X7_unit_10 fk_RX7_21 sh_0 rfl (by decide) (R 0 rfl) ?_
  refine r_iload_n d_X7_unit_13 rfl ?_
  refine c_callVPi (a := 2) (z := 0) (as := [(0, p1)]) (rest := [(20, 0)]) (ls' := [(10, 0), (0, p1)]) d_X7_unit_14 ck_RX7_108 rfl sh_2 rfl (by decide) (R 2 rfl) rfl rfl (Nat.le_of_ble_eq_true rfl) (Nat.le_of_ble_eq_true rfl) (by decide) rfl rfl (fun Ψ hΨ => run_pI_placeOfKey R _ rfl hΨ) ?_
  show Run Γ rg κ Y_X7_unit 17 [(8, 0), (0, p1), (0, p2), (0, p3), (5, 0)] [(0, (pI_placeOfKey p1 D1)), (20, 0)] D1 Φ
  refine r_iload_n d_X7_unit_17 rfl ?_
  refine c_callVi (t' := (some .int)) (a := 12) (z := 0) (as := [(0, (pI_placeOfKey p1 D1)), (0, p2)]) (rest := []) (ls' := [(20, 0), (0, (pI_placeOfKey p1 D1)), (0, p2), (5, 0), (5, 0), (5, 0)]) d_X7_unit_18 ck_RX7_216 rfl sh_12 rfl (by decide) (R 12 rfl) rfl rfl (Nat.le_of_ble_eq_true rfl) (Nat.le_of_ble_eq_true rfl) (by decide) rfl rfl (fun _ => rfl) (fun κ' Ψ hΨ => run_pV_cellNamed R _ _ hΨ) h (fun v1 D2 h => ?_)
  show Run Γ rg κ Y_X7_unit 21 [(8, 0), (0, p1), (0, p2), (0, p3), (5, 0)] [(0, v1)] D2 Φ
  show Run Γ rg κ Y_X7_unit 21 [(8, 0), (0, p1), (0, p2), (0, p3), (5, 0)] [(0, v1)] D2 Φ
  refine r_istore d_X7_unit_21 (by decide) rfl ?_
  show Run Γ rg κ Y_X7_unit 23 [(8, 0), (0, p1), (0, p2), (0, p3), (0, v1)] [] D2 Φ
  refine r_iload d_X7_unit_23 rfl ?_
  refine c_callSv (as := [(0, v1)]) (rest := []) (ls' := [(0, v1)]) d_X7_unit_25 ck_RX7_219 rfl rfl rfl (Nat.le_of_ble_eq_true rfl) (Nat.le_of_ble_eq_true rfl) (by decide) rfl rfl (fun κ' Ψ hΨ => run_pH_requireValue R _ hΨ) h (fun _ D3 h => ?_)
  show Run Γ rg κ Y_X7_unit 28 [(8, 0), (0, p1), (0, p2), (0, p3), (0, v1)] [] D3 Φ
  refine r_iload_n d_X7_unit_28 rfl ?_
  refine c_jn (fun J => ∀ (D4 : DD), WP (some .int) κ Φ (J D4) → Run Γ rg κ Y_X7_unit 45 [(5, 0), (5, 0), (5, 0), (5, 0), (5, 0)] [] D4 Φ) h ?_ (fun J1 hJ1 h => ?_)
  · intro D4 h
    show Run Γ rg κ Y_X7_unit 45 [(5, 0), (5, 0), (5, 0), (5, 0), (5, 0)] [] D4 Φ
    exact c_throw (text := "there is no such unit of the value") tk_RX7_173_177 (by decide +kernel) d_X7_unit_45 d_X7_unit_48 d_X7_unit_49 d_X7_unit_51 d_X7_unit_54 rfl (by decide) (Nat.le_of_ble_eq_true rfl) h
  refine c_if_lt (tgt := 45) d_X7_unit_29 (by decide) (nz_w _) h (fun h => ?_) (fun h => ?_)
  · skip
    exact Run.forget (ls' := [(5, 0), (5, 0), (5, 0), (5, 0), (5, 0)]) ⟨Or.inl rfl, Or.inl rfl, Or.inl rfl, Or.inl rfl, Or.inl rfl, trivial⟩ (hJ1 D3 h)
  · skip
    show Run Γ rg κ Y_X7_unit 32 [(8, 0), (0, p1), (0, p2), (0, p3), (0, v1)] [] D3 Φ
    refine r_iload_n d_X7_unit_32 rfl ?_
    refine r_aload_n d_X7_unit_33 rfl (by decide) ?_
    refine r_getR (t := 12) d_X7_unit_34 fk_RX7_41 sh_0 rfl (by decide) (R 0 rfl) ?_
    refine r_iload d_X7_unit_37 rfl ?_
    refine c_callVPi (a := 12) (z := 0) (as := [(0, v1)]) (rest := [(0, p3)]) (ls' := [(20, 0), (0, v1)]) d_X7_unit_39 ck_RX7_222 rfl sh_12 rfl (by decide) (R 12 rfl) rfl rfl (Nat.le_of_ble_eq_true rfl) (Nat.le_of_ble_eq_true rfl) (by decide) rfl rfl (fun Ψ hΨ => run_pV_lengthOf R _ rfl hΨ) ?_
    show Run Γ rg κ Y_X7_unit 42 [(8, 0), (0, p1), (0, p2), (0, p3), (0, v1)] [(0, (pV_lengthOf v1 D3)), (0, p3)] D3 Φ
    refine c_icmp_lt (tgt := 55) d_X7_unit_42 (by decide) (nz_w _) (nz_w _) h (fun h => ?_) (fun h => ?_)
    · skip
      show Run Γ rg κ Y_X7_unit 55 [(8, 0), (0, p1), (0, p2), (0, p3), (0, v1)] [] D3 Φ
      refine r_bipush d_X7_unit_55 (by decide) ?_
      refine r_aload_n d_X7_unit_57 rfl (by decide) ?_
      refine r_getR (t := 12) d_X7_unit_58 fk_RX7_41 sh_0 rfl (by decide) (R 0 rfl) ?_
      refine r_iload d_X7_unit_61 rfl ?_
      refine c_callVPi (a := 12) (z := 0) (as := [(0, v1)]) (rest := [(0, 31)]) (ls' := [(20, 0), (0, v1)]) d_X7_unit_63 ck_RX7_234 rfl sh_12 rfl (by decide) (R 12 rfl) rfl rfl (Nat.le_of_ble_eq_true rfl) (Nat.le_of_ble_eq_true rfl) (by decide) rfl rfl (fun Ψ hΨ => run_pV_seedOf R _ rfl hΨ) ?_
      show Run Γ rg κ Y_X7_unit 66 [(8, 0), (0, p1), (0, p2), (0, p3), (0, v1)] [(0, (pV_seedOf v1 D3)), (0, 31)] D3 Φ
      refine r_imul d_X7_unit_66 ?_
      refine r_bipush d_X7_unit_67 (by decide) ?_
      refine r_iload_n d_X7_unit_69 rfl ?_
      refine r_imul d_X7_unit_70 ?_
      refine r_iadd d_X7_unit_71 ?_
      exact c_iret d_X7_unit_72 rfl h
    · skip
      exact Run.forget (ls' := [(5, 0), (5, 0), (5, 0), (5, 0), (5, 0)]) ⟨Or.inl rfl, Or.inl rfl, Or.inl rfl, Or.inl rfl, Or.inl rfl, trivial⟩ (hJ1 D3 h)
set_option maxRecDepth 20000 in
theorem run_pH_requireRights {Γ : GG} {rg : Nat → Bool} {κ : Nat} {Φ : OT → DD → Prop} (R : cov rg rg0) (p1 : Int) {D : DD} (h : WP none κ Φ (pH_requireRights p1 D)) : Run Γ rg κ Y_X7_requireRights 0 [(0, p1)] [] D Φ := by
  unfold pH_requireRights at h
  show Run Γ rg κ Y_X7_requireRights 0 [(0, p1)] [] D Φ
  refine r_iload_n d_X7_requireRights_0 rfl ?_
  refine c_jn (fun J => ∀ (D1 : DD), WP none κ Φ (J D1) → Run Γ rg κ Y_X7_requireRights 11 [(5, 0)] [] D1 Φ) h ?_ (fun J1 hJ1 h => ?_)
  · intro D1 h
    show Run Γ rg κ Y_X7_requireRights 11 [(5, 0)] [] D1 Φ
    exact c_throwW (text := "the rights are out of range") tk_RX7_279_283 (by decide +kernel) d_X7_requireRights_11 d_X7_requireRights_14 d_X7_requireRights_15 d_X7_requireRights_18 d_X7_requireRights_21 rfl (by decide) (Nat.le_of_ble_eq_true rfl) h
  refine c_if_lt (tgt := 11) d_X7_requireRights_1 (by decide) (nz_w _) h (fun h => ?_) (fun h => ?_)
  · skip
    exact Run.forget (ls' := [(5, 0)]) ⟨Or.inl rfl, trivial⟩ (hJ1 D h)
  · skip
    show Run Γ rg κ Y_X7_requireRights 4 [(0, p1)] [] D Φ
    refine r_iload_n d_X7_requireRights_4 rfl ?_
    refine r_sipush d_X7_requireRights_5 (by decide) ?_
    refine c_icmp_le (tgt := 22) d_X7_requireRights_8 (by decide) (nz_w _) (nz_k rfl) h (fun h => ?_) (fun h => ?_)
    · skip
      show Run Γ rg κ Y_X7_requireRights 22 [(0, p1)] [] D Φ
      exact c_vret d_X7_requireRights_22 rfl h
    · skip
      exact Run.forget (ls' := [(5, 0)]) ⟨Or.inl rfl, trivial⟩ (hJ1 D h)
set_option maxRecDepth 20000 in
theorem run_pS_join {Γ : GG} {rg : Nat → Bool} {κ : Nat} {Φ : OT → DD → Prop} (R : cov rg rg0) (p1 : Int) {D : DD} (h : WP (some .boolean) κ Φ (pS_join p1 D)) : Run Γ rg κ Y_X4_join 0 [(21, 0), (0, p1)] [] D Φ := by
  unfold pS_join at h
  show Run Γ rg κ Y_X4_join 0 [(21, 0), (0, p1)] [] D Φ
  refine r_aload_n d_X4_join_0 rfl (by decide) ?_
  refine r_getR (t := 2) d_X4_join_1 fk_RX4_15 sh_13 rfl (by decide) (R 13 rfl) ?_
  refine r_iload_n d_X4_join_4 rfl ?_
  refine c_callVPi (a := 2) (z := 0) (as := [(0, p1)]) (rest := []) (ls' := [(10, 0), (0, p1)]) d_X4_join_5 ck_RX4_23 rfl sh_2 rfl (by decide) (R 2 rfl) rfl rfl (Nat.le_of_ble_eq_true rfl) (Nat.le_of_ble_eq_true rfl) (by decide) rfl rfl (fun Ψ hΨ => run_pI_placeOfRights R _ rfl hΨ) ?_
  show Run Γ rg κ Y_X4_join 8 [(21, 0), (0, p1)] [(0, (pI_placeOfRights p1 D))] D Φ
  refine c_jn (fun J => ∀ (D1 : DD), WP (some .boolean) κ Φ (J D1) → Run Γ rg κ Y_X4_join 70 [(21, 0), (0, p1)] [] D1 Φ) h ?_ (fun J1 hJ1 h => ?_)
  · intro D1 h
    show Run Γ rg κ Y_X4_join 70 [(21, 0), (0, p1)] [] D1 Φ
    refine r_aload_n d_X4_join_70 rfl (by decide) ?_
    refine r_iload_n d_X4_join_71 rfl ?_
    refine r_iconst d_X4_join_72 ?_
    refine c_callVv (a := 13) (z := 0) (as := [(0, p1), (0, 1)]) (rest := []) (ls' := [(21, 0), (0, p1), (0, 1), (5, 0)]) d_X4_join_73 ck_RX4_58 rfl sh_13 rfl (by decide) (R 13 rfl) rfl rfl (Nat.le_of_ble_eq_true rfl) (Nat.le_of_ble_eq_true rfl) (by decide) rfl rfl (fun κ' Ψ hΨ => run_pS_changeCount R _ _ hΨ) h (fun _ D2 h => ?_)
    show Run Γ rg κ Y_X4_join 76 [(21, 0), (0, p1)] [] D2 Φ
    refine r_iconst d_X4_join_76 ?_
    exact c_zret d_X4_join_77 rfl (Or.inr rfl) h
  refine c_if_ne (tgt := 70) d_X4_join_8 (by decide) (nz_w _) h (fun h => ?_) (fun h => ?_)
  · skip
    exact (hJ1 D h)
  · skip
    show Run Γ rg κ Y_X4_join 11 [(21, 0), (0, p1)] [] D Φ
    refine r_aload_n d_X4_join_11 rfl (by decide) ?_
    refine r_getR (t := 7) d_X4_join_12 fk_RX4_19 sh_13 rfl (by decide) (R 13 rfl) ?_
    refine c_callVD (a := 7) (z := 0) (as := []) (rest := []) (ls' := [(15, 0)]) d_X4_join_15 ck_RX4_42 rfl sh_7 rfl (by decide) (R 7 rfl) rfl rfl (Nat.le_of_ble_eq_true rfl) (Nat.le_of_ble_eq_true rfl) (by decide) rfl rfl (fun Ψ hΨ => run_pC_wantNothing R hΨ) h (fun D3 h => ?_)
    show Run Γ rg κ Y_X4_join 18 [(21, 0), (0, p1)] [] D3 Φ
    refine r_aload_n d_X4_join_18 rfl (by decide) ?_
    refine r_getR (t := 7) d_X4_join_19 fk_RX4_19 sh_13 rfl (by decide) (R 13 rfl) ?_
    refine r_iconst d_X4_join_22 ?_
    refine c_callVD (a := 7) (z := 0) (as := [(0, 2)]) (rest := []) (ls' := [(15, 0), (0, 2)]) d_X4_join_23 ck_RX4_45 rfl sh_7 rfl (by decide) (R 7 rfl) rfl rfl (Nat.le_of_ble_eq_true rfl) (Nat.le_of_ble_eq_true rfl) (by decide) rfl rfl (fun Ψ hΨ => run_pC_want R _ hΨ) h (fun D4 h => ?_)
    show Run Γ rg κ Y_X4_join 26 [(21, 0), (0, p1)] [] D4 Φ
    refine r_aload_n d_X4_join_26 rfl (by decide) ?_
    refine r_getR (t := 7) d_X4_join_27 fk_RX4_19 sh_13 rfl (by decide) (R 13 rfl) ?_
    refine c_callVi (t' := (some .boolean)) (a := 7) (z := 0) (as := []) (rest := []) (ls' := [(15, 0), (5, 0), (5, 0), (5, 0)]) d_X4_join_30 ck_RX4_48 rfl sh_7 rfl (by decide) (R 7 rfl) rfl rfl (Nat.le_of_ble_eq_true rfl) (Nat.le_of_ble_eq_true rfl) (by decide) rfl rfl (fun _ => rfl) (fun κ' Ψ hΨ => run_pC_getAllWanted R hΨ) h (fun v1 D5 h => ?_)
    show Run Γ rg κ Y_X4_join 33 [(21, 0), (0, p1)] [(0, v1)] D5 Φ
    refine c_if_ne (tgt := 38) d_X4_join_33 (by decide) (nz_w _) h (fun h => ?_) (fun h => ?_)
    · skip
      show Run Γ rg κ Y_X4_join 38 [(21, 0), (0, p1)] [] D5 Φ
      refine r_aload_n d_X4_join_38 rfl (by decide) ?_
      refine r_getR (t := 2) d_X4_join_39 fk_RX4_15 sh_13 rfl (by decide) (R 13 rfl) ?_
      refine r_iload_n d_X4_join_42 rfl ?_
      refine r_aload_n d_X4_join_43 rfl (by decide) ?_
      refine r_getR (t := 7) d_X4_join_44 fk_RX4_19 sh_13 rfl (by decide) (R 13 rfl) ?_
      refine r_iconst d_X4_join_47 ?_
      refine c_callVPi (a := 7) (z := 0) (as := [(0, 0)]) (rest := [(0, p1), (10, 0)]) (ls' := [(15, 0), (0, 0)]) d_X4_join_48 ck_RX4_52 rfl sh_7 rfl (by decide) (R 7 rfl) rfl rfl (Nat.le_of_ble_eq_true rfl) (Nat.le_of_ble_eq_true rfl) (by decide) rfl rfl (fun Ψ hΨ => run_pC_got R _ rfl hΨ) ?_
      show Run Γ rg κ Y_X4_join 51 [(21, 0), (0, p1)] [(0, (pC_got 0 D5)), (0, p1), (10, 0)] D5 Φ
      refine c_callVD (a := 2) (z := 0) (as := [(0, p1), (0, (pC_got 0 D5))]) (rest := []) (ls' := [(10, 0), (0, p1), (0, (pC_got 0 D5))]) d_X4_join_51 ck_RX4_55 rfl sh_2 rfl (by decide) (R 2 rfl) rfl rfl (Nat.le_of_ble_eq_true rfl) (Nat.le_of_ble_eq_true rfl) (by decide) rfl rfl (fun Ψ hΨ => run_pI_setPlaceOfRights R _ _ hΨ) h (fun D6 h => ?_)
      show Run Γ rg κ Y_X4_join 54 [(21, 0), (0, p1)] [] D6 Φ
      refine r_aload_n d_X4_join_54 rfl (by decide) ?_
      refine r_getR (t := 2) d_X4_join_55 fk_RX4_15 sh_13 rfl (by decide) (R 13 rfl) ?_
      refine r_aload_n d_X4_join_58 rfl (by decide) ?_
      show Run Γ rg κ Y_X4_join 59 [(21, 0), (0, p1)] [(21, 0), (10, 0)] D6 Φ
      refine r_getR (t := 7) d_X4_join_59 fk_RX4_19 sh_13 rfl (by decide) (R 13 rfl) ?_
      refine r_iconst d_X4_join_62 ?_
      refine c_callVPi (a := 7) (z := 0) (as := [(0, 0)]) (rest := [(10, 0)]) (ls' := [(15, 0), (0, 0)]) d_X4_join_63 ck_RX4_52 rfl sh_7 rfl (by decide) (R 7 rfl) rfl rfl (Nat.le_of_ble_eq_true rfl) (Nat.le_of_ble_eq_true rfl) (by decide) rfl rfl (fun Ψ hΨ => run_pC_got R _ rfl hΨ) ?_
      show Run Γ rg κ Y_X4_join 66 [(21, 0), (0, p1)] [(0, (pC_got 0 D6)), (10, 0)] D6 Φ
      refine r_iconst d_X4_join_66 ?_
      refine c_callVD (a := 2) (z := 0) (as := [(0, (pC_got 0 D6)), (0, 0)]) (rest := []) (ls' := [(10, 0), (0, (pC_got 0 D6)), (0, 0)]) d_X4_join_67 ck_RX4_32 rfl sh_2 rfl (by decide) (R 2 rfl) rfl rfl (Nat.le_of_ble_eq_true rfl) (Nat.le_of_ble_eq_true rfl) (by decide) rfl rfl (fun Ψ hΨ => run_pI_putUnit R _ _ hΨ) h (fun D7 h => ?_)
      show Run Γ rg κ Y_X4_join 70 [(21, 0), (0, p1)] [] D7 Φ
      exact (hJ1 D7 h)
    · skip
      show Run Γ rg κ Y_X4_join 36 [(21, 0), (0, p1)] [] D5 Φ
      refine r_iconst d_X4_join_36 ?_
      exact c_zret d_X4_join_37 rfl (Or.inl rfl) h
set_option maxRecDepth 20000 in
theorem run_pH_setRights {Γ : GG} {rg : Nat → Bool} {κ : Nat} {Φ : OT → DD → Prop} (R : cov rg rg0) (p1 : Int) (p2 : Int) {D : DD} (h : WP (some .int) κ Φ (pH_setRights p1 p2 D)) : Run Γ rg κ Y_X7_setRights 0 [(8, 0), (0, p1), (0, p2), (5, 0), (5, 0)] [] D Φ := by
  unfold pH_setRights at h
  show Run Γ rg κ Y_X7_setRights 0 [(8, 0), (0, p1), (0, p2), (5, 0), (5, 0)] [] D Φ
  refine r_aload_n d_X7_setRights_0 rfl (by decide) ?_
  refine r_iload_n d_X7_setRights_1 rfl ?_
  refine c_callVv (a := 0) (z := 0) (as := [(0, p1)]) (rest := []) (ls' := [(8, 0), (0, p1)]) d_X7_setRights_2 ck_RX7_95 rfl sh_0 rfl (by decide) (R 0 rfl) rfl rfl (Nat.le_of_ble_eq_true rfl) (Nat.le_of_ble_eq_true rfl) (by decide) rfl rfl (fun κ' Ψ hΨ => run_pH_requireKey R _ hΨ) h (fun _ D1 h => ?_)
  show Run Γ rg κ Y_X7_setRights 5 [(8, 0), (0, p1), (0, p2), (5, 0), (5, 0)] [] D1 Φ
  refine r_iload_n d_X7_setRights_5 rfl ?_
  refine c_callSv (as := [(0, p2)]) (rest := []) (ls' := [(0, p2)]) d_X7_setRights_6 ck_RX7_237 rfl rfl rfl (Nat.le_of_ble_eq_true rfl) (Nat.le_of_ble_eq_true rfl) (by decide) rfl rfl (fun κ' Ψ hΨ => run_pH_requireRights R _ hΨ) h (fun _ D2 h => ?_)
  show Run Γ rg κ Y_X7_setRights 9 [(8, 0), (0, p1), (0, p2), (5, 0), (5, 0)] [] D2 Φ
  refine r_aload_n d_X7_setRights_9 rfl (by decide) ?_
  refine r_getR (t := 2) d_X7_setRights_10 fk_RX7_21 sh_0 rfl (by decide) (R 0 rfl) ?_
  refine r_iload_n d_X7_setRights_13 rfl ?_
  refine c_callVPi (a := 2) (z := 0) (as := [(0, p1)]) (rest := []) (ls' := [(10, 0), (0, p1)]) d_X7_setRights_14 ck_RX7_108 rfl sh_2 rfl (by decide) (R 2 rfl) rfl rfl (Nat.le_of_ble_eq_true rfl) (Nat.le_of_ble_eq_true rfl) (by decide) rfl rfl (fun Ψ hΨ => run_pI_placeOfKey R _ rfl hΨ) ?_
  show Run Γ rg κ Y_X7_setRights 17 [(8, 0), (0, p1), (0, p2), (5, 0), (5, 0)] [(0, (pI_placeOfKey p1 D2))] D2 Φ
  refine c_lt_n d_X7_setRights_17 (by decide) rfl h (fun x1 h => ?_)
  show Run Γ rg κ Y_X7_setRights 18 [(8, 0), (0, p1), (0, p2), (0, x1), (5, 0)] [] D2 Φ
  refine r_aload_n d_X7_setRights_18 rfl (by decide) ?_
  show Run Γ rg κ Y_X7_setRights 19 [(8, 0), (0, p1), (0, p2), (0, x1), (5, 0)] [(8, 0)] D2 Φ
  refine r_getR (t := 2) d_X7_setRights_19 fk_RX7_21 sh_0 rfl (by decide) (R 0 rfl) ?_
  refine r_iload_n d_X7_setRights_22 rfl ?_
  refine r_iconst d_X7_setRights_23 ?_
  refine r_iadd d_X7_setRights_24 ?_
  refine c_callVPi (a := 2) (z := 0) (as := [(0, (x1 + 4))]) (rest := []) (ls' := [(10, 0), (0, (x1 + 4))]) d_X7_setRights_25 ck_RX7_111 rfl sh_2 rfl (by decide) (R 2 rfl) rfl rfl (Nat.le_of_ble_eq_true rfl) (Nat.le_of_ble_eq_true rfl) (by decide) rfl rfl (fun Ψ hΨ => run_pI_unitAt R _ rfl hΨ) ?_
  show Run Γ rg κ Y_X7_setRights 28 [(8, 0), (0, p1), (0, p2), (0, x1), (5, 0)] [(0, (pI_unitAt (x1 + 4) D2))] D2 Φ
  refine c_lt d_X7_setRights_28 (by decide) rfl h (fun x2 h => ?_)
  show Run Γ rg κ Y_X7_setRights 30 [(8, 0), (0, p1), (0, p2), (0, x1), (0, x2)] [] D2 Φ
  refine r_iload_n d_X7_setRights_30 rfl ?_
  refine r_iload d_X7_setRights_31 rfl ?_
  refine c_icmp_eq (tgt := 82) d_X7_setRights_33 (by decide) (nz_w _) (nz_w _) h (fun h => ?_) (fun h => ?_)
  · skip
    show Run Γ rg κ Y_X7_setRights 82 [(8, 0), (0, p1), (0, p2), (0, x1), (0, x2)] [] D2 Φ
    refine r_iload d_X7_setRights_82 rfl ?_
    exact c_iret d_X7_setRights_84 rfl h
  · skip
    show Run Γ rg κ Y_X7_setRights 36 [(8, 0), (0, p1), (0, p2), (0, x1), (0, x2)] [] D2 Φ
    refine r_aload_n d_X7_setRights_36 rfl (by decide) ?_
    refine r_getR (t := 13) d_X7_setRights_37 fk_RX7_48 sh_0 rfl (by decide) (R 0 rfl) ?_
    refine r_iload_n d_X7_setRights_40 rfl ?_
    refine c_callVi (t' := (some .boolean)) (a := 13) (z := 0) (as := [(0, p2)]) (rest := []) (ls' := [(21, 0), (0, p2)]) d_X7_setRights_41 ck_RX7_85 rfl sh_13 rfl (by decide) (R 13 rfl) rfl rfl (Nat.le_of_ble_eq_true rfl) (Nat.le_of_ble_eq_true rfl) (by decide) rfl rfl (fun _ => rfl) (fun κ' Ψ hΨ => run_pS_join R _ hΨ) h (fun v1 D3 h => ?_)
    show Run Γ rg κ Y_X7_setRights 44 [(8, 0), (0, p1), (0, p2), (0, x1), (0, x2)] [(0, v1)] D3 Φ
    refine c_callSv (as := [(0, v1)]) (rest := []) (ls' := [(0, v1)]) d_X7_setRights_44 ck_RX7_130 rfl rfl rfl (Nat.le_of_ble_eq_true rfl) (Nat.le_of_ble_eq_true rfl) (by decide) rfl rfl (fun κ' Ψ hΨ => run_pH_requireRoom R _ hΨ) h (fun _ D4 h => ?_)
    show Run Γ rg κ Y_X7_setRights 47 [(8, 0), (0, p1), (0, p2), (0, x1), (0, x2)] [] D4 Φ
    refine r_aload_n d_X7_setRights_47 rfl (by decide) ?_
    refine r_getR (t := 13) d_X7_setRights_48 fk_RX7_48 sh_0 rfl (by decide) (R 0 rfl) ?_
    refine r_iload d_X7_setRights_51 rfl ?_
    refine c_callVi (t' := (some .int)) (a := 13) (z := 0) (as := [(0, x2)]) (rest := []) (ls' := [(21, 0), (0, x2), (5, 0)]) d_X7_setRights_53 ck_RX7_161 rfl sh_13 rfl (by decide) (R 13 rfl) rfl rfl (Nat.le_of_ble_eq_true rfl) (Nat.le_of_ble_eq_true rfl) (by decide) rfl rfl (fun _ => rfl) (fun κ' Ψ hΨ => run_pS_leave R _ hΨ) h (fun v2 D5 h => ?_)
    show Run Γ rg κ Y_X7_setRights 56 [(8, 0), (0, p1), (0, p2), (0, x1), (0, x2)] [(0, v2)] D5 Φ
    refine r_pop d_X7_setRights_56 (show (0 : Nat) ≠ 1 by decide) ?_
    refine r_aload_n d_X7_setRights_57 rfl (by decide) ?_
    show Run Γ rg κ Y_X7_setRights 58 [(8, 0), (0, p1), (0, p2), (0, x1), (0, x2)] [(8, 0)] D5 Φ
    refine r_getR (t := 2) d_X7_setRights_58 fk_RX7_21 sh_0 rfl (by decide) (R 0 rfl) ?_
    refine r_iload_n d_X7_setRights_61 rfl ?_
    refine r_iconst d_X7_setRights_62 ?_
    refine r_iadd d_X7_setRights_63 ?_
    refine r_iload_n d_X7_setRights_64 rfl ?_
    refine c_callVD (a := 2) (z := 0) (as := [(0, (x1 + 4)), (0, p2)]) (rest := []) (ls' := [(10, 0), (0, (x1 + 4)), (0, p2)]) d_X7_setRights_65 ck_RX7_140 rfl sh_2 rfl (by decide) (R 2 rfl) rfl rfl (Nat.le_of_ble_eq_true rfl) (Nat.le_of_ble_eq_true rfl) (by decide) rfl rfl (fun Ψ hΨ => run_pI_putUnit R _ _ hΨ) h (fun D6 h => ?_)
    show Run Γ rg κ Y_X7_setRights 68 [(8, 0), (0, p1), (0, p2), (0, x1), (0, x2)] [] D6 Φ
    refine r_aload_n d_X7_setRights_68 rfl (by decide) ?_
    refine r_getR (t := 7) d_X7_setRights_69 fk_RX7_25 sh_0 rfl (by decide) (R 0 rfl) ?_
    refine r_iload_n d_X7_setRights_72 rfl ?_
    refine c_callVv (a := 7) (z := 0) (as := [(0, x1)]) (rest := []) (ls' := [(15, 0), (0, x1), (5, 0), (5, 0)]) d_X7_setRights_73 ck_RX7_143 rfl sh_7 rfl (by decide) (R 7 rfl) rfl rfl (Nat.le_of_ble_eq_true rfl) (Nat.le_of_ble_eq_true rfl) (by decide) rfl rfl (fun κ' Ψ hΨ => run_pC_markWritten R _ hΨ) h (fun _ D7 h => ?_)
    show Run Γ rg κ Y_X7_setRights 76 [(8, 0), (0, p1), (0, p2), (0, x1), (0, x2)] [] D7 Φ
    refine r_aload_n d_X7_setRights_76 rfl (by decide) ?_
    refine r_iload_n d_X7_setRights_77 rfl ?_
    show Run Γ rg κ Y_X7_setRights 78 [(8, 0), (0, p1), (0, p2), (0, x1), (0, x2)] [(0, p1), (8, 0)] D7 Φ
    refine r_iconst d_X7_setRights_78 ?_
    refine c_callVv (a := 0) (z := 0) (as := [(0, p1), (0, 4)]) (rest := []) (ls' := [(8, 0), (0, p1), (0, 4), (5, 0), (5, 0)]) d_X7_setRights_79 ck_RX7_146 rfl sh_0 rfl (by decide) (R 0 rfl) rfl rfl (Nat.le_of_ble_eq_true rfl) (Nat.le_of_ble_eq_true rfl) (by decide) rfl rfl (fun κ' Ψ hΨ => run_pH_tellUpwards R _ _ hΨ) h (fun _ D8 h => ?_)
    show Run Γ rg κ Y_X7_setRights 82 [(8, 0), (0, p1), (0, p2), (0, x1), (0, x2)] [] D8 Φ
    refine r_iload d_X7_setRights_82 rfl ?_
    exact c_iret d_X7_setRights_84 rfl h
set_option maxRecDepth 20000 in
theorem run_pH_sharers {Γ : GG} {rg : Nat → Bool} {κ : Nat} {Φ : OT → DD → Prop} (R : cov rg rg0) (p1 : Int) {D : DD} (h : WP (some .int) κ Φ (pH_sharers p1 D)) : Run Γ rg κ Y_X7_sharers 0 [(8, 0), (0, p1)] [] D Φ := by
  unfold pH_sharers at h
  show Run Γ rg κ Y_X7_sharers 0 [(8, 0), (0, p1)] [] D Φ
  refine r_iload_n d_X7_sharers_0 rfl ?_
  refine c_callSv (as := [(0, p1)]) (rest := []) (ls' := [(0, p1)]) d_X7_sharers_1 ck_RX7_237 rfl rfl rfl (Nat.le_of_ble_eq_true rfl) (Nat.le_of_ble_eq_true rfl) (by decide) rfl rfl (fun κ' Ψ hΨ => run_pH_requireRights R _ hΨ) h (fun _ D1 h => ?_)
  show Run Γ rg κ Y_X7_sharers 4 [(8, 0), (0, p1)] [] D1 Φ
  refine r_aload_n d_X7_sharers_4 rfl (by decide) ?_
  refine r_getR (t := 13) d_X7_sharers_5 fk_RX7_48 sh_0 rfl (by decide) (R 0 rfl) ?_
  refine r_iload_n d_X7_sharers_8 rfl ?_
  refine c_callVPi (a := 13) (z := 0) (as := [(0, p1)]) (rest := []) (ls' := [(21, 0), (0, p1), (5, 0)]) d_X7_sharers_9 ck_RX7_240 rfl sh_13 rfl (by decide) (R 13 rfl) rfl rfl (Nat.le_of_ble_eq_true rfl) (Nat.le_of_ble_eq_true rfl) (by decide) rfl rfl (fun Ψ hΨ => run_pS_keysWith R _ rfl hΨ) ?_
  show Run Γ rg κ Y_X7_sharers 12 [(8, 0), (0, p1)] [(0, (pS_keysWith p1 D1))] D1 Φ
  exact c_iret d_X7_sharers_12 rfl h
set_option maxRecDepth 20000 in
theorem run_pH_sectors {Γ : GG} {rg : Nat → Bool} {κ : Nat} {Φ : OT → DD → Prop} (R : cov rg rg0) {D : DD} {x : Int} (h : EQx x (pH_sectors D)) (hΦ : Φ (.inl (some (0, x))) D) : Run Γ rg κ Y_X7_sectors 0 [(8, 0)] [] D Φ := by
  unfold pH_sectors at h
  show Run Γ rg κ Y_X7_sectors 0 [(8, 0)] [] D Φ
  refine r_aload_n d_X7_sectors_0 rfl (by decide) ?_
  refine r_getR (t := 2) d_X7_sectors_1 fk_RX7_21 sh_0 rfl (by decide) (R 0 rfl) ?_
  refine r_getI d_X7_sectors_4 fk_RX7_243 sh_2 rfl (by decide) (by decide) (R 2 rfl) ?_
  exact e_iret d_X7_sectors_7 rfl h hΦ
set_option maxRecDepth 20000 in
theorem run_pH_cell {Γ : GG} {rg : Nat → Bool} {κ : Nat} {Φ : OT → DD → Prop} (R : cov rg rg0) (p1 : Int) {D : DD} (h : WP (some .int) κ Φ (pH_cell p1 D)) : Run Γ rg κ Y_X7_cell 0 [(8, 0), (0, p1)] [] D Φ := by
  unfold pH_cell at h
  show Run Γ rg κ Y_X7_cell 0 [(8, 0), (0, p1)] [] D Φ
  refine r_iload_n d_X7_cell_0 rfl ?_
  refine c_jn (fun J => ∀ (D1 : DD), WP (some .int) κ Φ (J D1) → Run Γ rg κ Y_X7_cell 15 [(5, 0), (5, 0)] [] D1 Φ) h ?_ (fun J1 hJ1 h => ?_)
  · intro D1 h
    show Run Γ rg κ Y_X7_cell 15 [(5, 0), (5, 0)] [] D1 Φ
    exact c_throw (text := "there is no such unit of the file") tk_RX7_173_177 (by decide +kernel) d_X7_cell_15 d_X7_cell_18 d_X7_cell_19 d_X7_cell_21 d_X7_cell_24 rfl (by decide) (Nat.le_of_ble_eq_true rfl) h
  refine c_if_lt (tgt := 15) d_X7_cell_1 (by decide) (nz_w _) h (fun h => ?_) (fun h => ?_)
  · skip
    exact Run.forget (ls' := [(5, 0), (5, 0)]) ⟨Or.inl rfl, Or.inl rfl, trivial⟩ (hJ1 D h)
  · skip
    show Run Γ rg κ Y_X7_cell 4 [(8, 0), (0, p1)] [] D Φ
    refine r_iload_n d_X7_cell_4 rfl ?_
    refine r_aload_n d_X7_cell_5 rfl (by decide) ?_
    refine r_getR (t := 2) d_X7_cell_6 fk_RX7_21 sh_0 rfl (by decide) (R 0 rfl) ?_
    refine c_callVPi (a := 2) (z := 0) (as := []) (rest := [(0, p1)]) (ls' := [(10, 0)]) d_X7_cell_9 ck_RX7_247 rfl sh_2 rfl (by decide) (R 2 rfl) rfl rfl (Nat.le_of_ble_eq_true rfl) (Nat.le_of_ble_eq_true rfl) (by decide) rfl rfl (fun Ψ hΨ => run_pI_end R rfl hΨ) ?_
    show Run Γ rg κ Y_X7_cell 12 [(8, 0), (0, p1)] [(0, (pI_end D)), (0, p1)] D Φ
    refine c_icmp_lt (tgt := 25) d_X7_cell_12 (by decide) (nz_w _) (nz_w _) h (fun h => ?_) (fun h => ?_)
    · skip
      show Run Γ rg κ Y_X7_cell 25 [(8, 0), (0, p1)] [] D Φ
      refine r_aload_n d_X7_cell_25 rfl (by decide) ?_
      refine r_getR (t := 2) d_X7_cell_26 fk_RX7_21 sh_0 rfl (by decide) (R 0 rfl) ?_
      refine r_iload_n d_X7_cell_29 rfl ?_
      refine c_callVPi (a := 2) (z := 0) (as := [(0, p1)]) (rest := []) (ls' := [(10, 0), (0, p1)]) d_X7_cell_30 ck_RX7_252 rfl sh_2 rfl (by decide) (R 2 rfl) rfl rfl (Nat.le_of_ble_eq_true rfl) (Nat.le_of_ble_eq_true rfl) (by decide) rfl rfl (fun Ψ hΨ => run_pI_sizeAt R _ rfl hΨ) ?_
      show Run Γ rg κ Y_X7_cell 33 [(8, 0), (0, p1)] [(0, (pI_sizeAt p1 D))] D Φ
      exact c_iret d_X7_cell_33 rfl h
    · skip
      exact Run.forget (ls' := [(5, 0), (5, 0)]) ⟨Or.inl rfl, Or.inl rfl, trivial⟩ (hJ1 D h)
set_option maxRecDepth 20000 in
theorem run_pH_place {Γ : GG} {rg : Nat → Bool} {κ : Nat} {Φ : OT → DD → Prop} (R : cov rg rg0) (p1 : Int) {D : DD} (h : WP (some .int) κ Φ (pH_place p1 D)) : Run Γ rg κ Y_X7_place 0 [(8, 0), (0, p1)] [] D Φ := by
  unfold pH_place at h
  show Run Γ rg κ Y_X7_place 0 [(8, 0), (0, p1)] [] D Φ
  refine r_aload_n d_X7_place_0 rfl (by decide) ?_
  refine r_iload_n d_X7_place_1 rfl ?_
  refine c_callVv (a := 0) (z := 0) (as := [(0, p1)]) (rest := []) (ls' := [(8, 0), (0, p1)]) d_X7_place_2 ck_RX7_95 rfl sh_0 rfl (by decide) (R 0 rfl) rfl rfl (Nat.le_of_ble_eq_true rfl) (Nat.le_of_ble_eq_true rfl) (by decide) rfl rfl (fun κ' Ψ hΨ => run_pH_requireKey R _ hΨ) h (fun _ D1 h => ?_)
  show Run Γ rg κ Y_X7_place 5 [(8, 0), (0, p1)] [] D1 Φ
  refine r_aload_n d_X7_place_5 rfl (by decide) ?_
  refine r_getR (t := 2) d_X7_place_6 fk_RX7_21 sh_0 rfl (by decide) (R 0 rfl) ?_
  refine r_iload_n d_X7_place_9 rfl ?_
  refine c_callVPi (a := 2) (z := 0) (as := [(0, p1)]) (rest := []) (ls' := [(10, 0), (0, p1)]) d_X7_place_10 ck_RX7_108 rfl sh_2 rfl (by decide) (R 2 rfl) rfl rfl (Nat.le_of_ble_eq_true rfl) (Nat.le_of_ble_eq_true rfl) (by decide) rfl rfl (fun Ψ hΨ => run_pI_placeOfKey R _ rfl hΨ) ?_
  show Run Γ rg κ Y_X7_place 13 [(8, 0), (0, p1)] [(0, (pI_placeOfKey p1 D1))] D1 Φ
  exact c_iret d_X7_place_13 rfl h
set_option maxRecDepth 20000 in
theorem run_pC_unitsInUse_12 {Γ : GG} {rg : Nat → Bool} {κ : Nat} {Φ : OT → DD → Prop} (R : cov rg rg0) (a2 : Int) : ∀ (n : Nat) (a1 : Int) (a3 : Int) (D : DD), WP (some .int) κ Φ (pC_unitsInUse_12 a2 n a1 a3 D) → Run Γ rg κ Y_X0_unitsInUse 12 [(15, 0), (0, a1), (0, a2), (0, a3), (5, 0)] [] D Φ := by
  intro n
  induction n with
  | zero => intro a1 a3 D h; exact h.no.elim
  | succ n ih =>
    intro a1 a3 D h
    rw [pC_unitsInUse_12] at h
    show Run Γ rg κ Y_X0_unitsInUse 12 [(15, 0), (0, a1), (0, a2), (0, a3), (5, 0)] [] D Φ
    refine r_iload_n d_X0_unitsInUse_12 rfl ?_
    refine r_iload_n d_X0_unitsInUse_13 rfl ?_
    refine c_icmp_ge (tgt := 54) d_X0_unitsInUse_14 (by decide) (nz_w _) (nz_w _) h (fun h => ?_) (fun h => ?_)
    · skip
      show Run Γ rg κ Y_X0_unitsInUse 54 [(15, 0), (0, a1), (0, a2), (0, a3), (5, 0)] [] D Φ
      refine r_iload_n d_X0_unitsInUse_54 rfl ?_
      exact c_iret d_X0_unitsInUse_55 rfl h
    · skip
      show Run Γ rg κ Y_X0_unitsInUse 17 [(15, 0), (0, a1), (0, a2), (0, a3), (5, 0)] [] D Φ
      refine r_aload_n d_X0_unitsInUse_17 rfl (by decide) ?_
      refine r_getR (t := 2) d_X0_unitsInUse_18 fk_RX0_23 sh_7 rfl (by decide) (R 7 rfl) ?_
      refine r_getR (t := 3) d_X0_unitsInUse_21 fk_RX0_38 sh_2 rfl (by decide) (R 2 rfl) ?_
      refine r_iload_n d_X0_unitsInUse_24 rfl ?_
      refine c_callNPi (as := [(11, 0), (0, a3)]) (rest := []) (ls' := [(11, 0), (0, a3)]) d_X0_unitsInUse_25 ck_RX0_47 rfl rfl rfl (Nat.le_of_ble_eq_true rfl) (Nat.le_of_ble_eq_true rfl) (by decide) rfl rfl (fun Ψ hΨ => run_pH_read sh_3 (by decide) (R 3 rfl) (by decide) _ rfl hΨ) ?_
      show Run Γ rg κ Y_X0_unitsInUse 28 [(15, 0), (0, a1), (0, a2), (0, a3), (5, 0)] [(0, (rd 1024 3 a3 D))] D Φ
      refine c_lt d_X0_unitsInUse_28 (by decide) rfl h (fun x1 h => ?_)
      show Run Γ rg κ Y_X0_unitsInUse 30 [(15, 0), (0, a1), (0, a2), (0, a3), (0, x1)] [] D Φ
      refine r_iload_n d_X0_unitsInUse_30 rfl ?_
      refine r_iconst d_X0_unitsInUse_31 ?_
      refine r_iload d_X0_unitsInUse_32 rfl ?_
      refine c_mmax d_X0_unitsInUse_34 mx_RX0_70 (Nat.le_of_ble_eq_true rfl) (by decide) ?_
      refine r_iadd d_X0_unitsInUse_37 ?_
      show Run Γ rg κ Y_X0_unitsInUse 38 [(15, 0), (0, a1), (0, a2), (0, a3), (0, x1)] [(0, (a1 + (zmax 0 x1)))] D Φ
      refine c_lt_n d_X0_unitsInUse_38 (by decide) rfl h (fun x2 h => ?_)
      show Run Γ rg κ Y_X0_unitsInUse 39 [(15, 0), (0, x2), (0, a2), (0, a3), (0, x1)] [] D Φ
      refine r_iload_n d_X0_unitsInUse_39 rfl ?_
      refine r_iconst d_X0_unitsInUse_40 ?_
      refine r_iload d_X0_unitsInUse_41 rfl ?_
      refine c_mabs d_X0_unitsInUse_43 mx_RX0_76 (Nat.le_of_ble_eq_true rfl) (by decide) ?_
      refine c_mmax d_X0_unitsInUse_46 mx_RX0_70 (Nat.le_of_ble_eq_true rfl) (by decide) ?_
      refine r_iadd d_X0_unitsInUse_49 ?_
      refine c_lt_n d_X0_unitsInUse_50 (by decide) rfl h (fun x3 h => ?_)
      show Run Γ rg κ Y_X0_unitsInUse 51 [(15, 0), (0, x2), (0, a2), (0, x3), (0, x1)] [] D Φ
      refine r_goto (tgt := 12) d_X0_unitsInUse_51 (by decide) ?_
      exact Run.forget (ls' := [(15, 0), (0, x2), (0, a2), (0, x3), (5, 0)]) ⟨Or.inr rfl, Or.inr rfl, Or.inr rfl, Or.inr rfl, Or.inl rfl, trivial⟩ (ih x2 x3 D h)
set_option maxRecDepth 20000 in
theorem run_pC_unitsInUse {Γ : GG} {rg : Nat → Bool} {κ : Nat} {Φ : OT → DD → Prop} (R : cov rg rg0) {D : DD} (h : WP (some .int) κ Φ (pC_unitsInUse D)) : Run Γ rg κ Y_X0_unitsInUse 0 [(15, 0), (5, 0), (5, 0), (5, 0), (5, 0)] [] D Φ := by
  unfold pC_unitsInUse at h
  show Run Γ rg κ Y_X0_unitsInUse 0 [(15, 0), (5, 0), (5, 0), (5, 0), (5, 0)] [] D Φ
  refine r_iconst d_X0_unitsInUse_0 ?_
  refine r_istore_n d_X0_unitsInUse_1 (by decide) rfl ?_
  show Run Γ rg κ Y_X0_unitsInUse 2 [(15, 0), (0, 0), (5, 0), (5, 0), (5, 0)] [] D Φ
  refine r_aload_n d_X0_unitsInUse_2 rfl (by decide) ?_
  refine r_getR (t := 2) d_X0_unitsInUse_3 fk_RX0_23 sh_7 rfl (by decide) (R 7 rfl) ?_
  refine c_callVPi (a := 2) (z := 0) (as := []) (rest := []) (ls' := [(10, 0)]) d_X0_unitsInUse_6 ck_RX0_66 rfl sh_2 rfl (by decide) (R 2 rfl) rfl rfl (Nat.le_of_ble_eq_true rfl) (Nat.le_of_ble_eq_true rfl) (by decide) rfl rfl (fun Ψ hΨ => run_pI_end R rfl hΨ) ?_
  show Run Γ rg κ Y_X0_unitsInUse 9 [(15, 0), (0, 0), (5, 0), (5, 0), (5, 0)] [(0, (pI_end D))] D Φ
  refine c_lt_n d_X0_unitsInUse_9 (by decide) rfl h (fun x1 h => ?_)
  show Run Γ rg κ Y_X0_unitsInUse 10 [(15, 0), (0, 0), (0, x1), (5, 0), (5, 0)] [] D Φ
  refine r_iconst d_X0_unitsInUse_10 ?_
  refine r_istore_n d_X0_unitsInUse_11 (by decide) rfl ?_
  show Run Γ rg κ Y_X0_unitsInUse 12 [(15, 0), (0, 0), (0, x1), (0, 4), (5, 0)] [] D Φ
  exact run_pC_unitsInUse_12 R x1 fu 0 4 D h
set_option maxRecDepth 20000 in
theorem run_pH_used {Γ : GG} {rg : Nat → Bool} {κ : Nat} {Φ : OT → DD → Prop} (R : cov rg rg0) {D : DD} (h : WP (some .int) κ Φ (pH_used D)) : Run Γ rg κ Y_X7_used 0 [(8, 0)] [] D Φ := by
  unfold pH_used at h
  show Run Γ rg κ Y_X7_used 0 [(8, 0)] [] D Φ
  refine r_aload_n d_X7_used_0 rfl (by decide) ?_
  refine r_getR (t := 7) d_X7_used_1 fk_RX7_25 sh_0 rfl (by decide) (R 0 rfl) ?_
  refine c_callVi (t' := (some .int)) (a := 7) (z := 0) (as := []) (rest := []) (ls' := [(15, 0), (5, 0), (5, 0), (5, 0), (5, 0)]) d_X7_used_4 ck_RX7_255 rfl sh_7 rfl (by decide) (R 7 rfl) rfl rfl (Nat.le_of_ble_eq_true rfl) (Nat.le_of_ble_eq_true rfl) (by decide) rfl rfl (fun _ => rfl) (fun κ' Ψ hΨ => run_pC_unitsInUse R hΨ) h (fun v1 D1 h => ?_)
  show Run Γ rg κ Y_X7_used 7 [(8, 0)] [(0, v1)] D1 Φ
  exact c_iret d_X7_used_7 rfl h
set_option maxRecDepth 20000 in
theorem run_pJ_fill_5 {Γ : GG} {rg : Nat → Bool} {κ : Nat} {Φ : OT → DD → Prop} (R : cov rg rg0) (a1 : Int) (a3 : Int) : ∀ (n : Nat) (a2 : Int) (D : DD), WP none κ Φ (pJ_fill_5 a1 a3 n a2 D) → Run Γ rg κ Y_J7_fill_53178 5 [(22, 0), (0, a1), (0, a2), (0, a3)] [] D Φ := by
  intro n
  induction n with
  | zero => intro a2 D h; exact h.no.elim
  | succ n ih =>
    intro a2 D h
    rw [pJ_fill_5] at h
    show Run Γ rg κ Y_J7_fill_53178 5 [(22, 0), (0, a1), (0, a2), (0, a3)] [] D Φ
    refine r_iload_n d_J7_fill_53178_5 rfl ?_
    refine r_iload_n d_J7_fill_53178_6 rfl ?_
    refine c_icmp_ge (tgt := 20) d_J7_fill_53178_7 (by decide) (nz_w _) (nz_w _) h (fun h => ?_) (fun h => ?_)
    · skip
      show Run Γ rg κ Y_J7_fill_53178 20 [(22, 0), (0, a1), (0, a2), (0, a3)] [] D Φ
      exact c_vret d_J7_fill_53178_20 rfl h
    · skip
      show Run Γ rg κ Y_J7_fill_53178 10 [(22, 0), (0, a1), (0, a2), (0, a3)] [] D Φ
      refine r_aload_n d_J7_fill_53178_10 rfl (by decide) ?_
      refine r_iload_n d_J7_fill_53178_11 rfl ?_
      refine r_iload_n d_J7_fill_53178_12 rfl ?_
      refine c_iast d_J7_fill_53178_13 sh_14 (by decide) (R 14 rfl) (by decide) h (fun D1 h => ?_)
      refine r_iinc d_J7_fill_53178_14 rfl (by decide) rfl ?_
      show Run Γ rg κ Y_J7_fill_53178 17 [(22, 0), (0, a1), (0, (a2 + 1)), (0, a3)] [] D1 Φ
      refine r_goto (tgt := 5) d_J7_fill_53178_17 (by decide) ?_
      exact (ih (a2 + 1) D1 h)
set_option maxRecDepth 20000 in
theorem run_pJ_fill {Γ : GG} {rg : Nat → Bool} {κ : Nat} {Φ : OT → DD → Prop} (R : cov rg rg0) (p1 : Int) {D : DD} (h : WP none κ Φ (pJ_fill p1 D)) : Run Γ rg κ Y_J7_fill_53178 0 [(22, 0), (0, p1), (5, 0), (5, 0)] [] D Φ := by
  unfold pJ_fill at h
  show Run Γ rg κ Y_J7_fill_53178 0 [(22, 0), (0, p1), (5, 0), (5, 0)] [] D Φ
  refine r_iconst d_J7_fill_53178_0 ?_
  refine r_istore_n d_J7_fill_53178_1 (by decide) rfl ?_
  show Run Γ rg κ Y_J7_fill_53178 2 [(22, 0), (0, p1), (0, 0), (5, 0)] [] D Φ
  refine r_aload_n d_J7_fill_53178_2 rfl (by decide) ?_
  refine r_alen d_J7_fill_53178_3 sh_14 (by decide) (R 14 rfl) ?_
  refine r_istore_n d_J7_fill_53178_4 (by decide) rfl ?_
  show Run Γ rg κ Y_J7_fill_53178 5 [(22, 0), (0, p1), (0, 0), (0, 256)] [] D Φ
  exact run_pJ_fill_5 R p1 256 fu 0 D h
set_option maxRecDepth 20000 in
theorem run_pS_startCounting {Γ : GG} {rg : Nat → Bool} {κ : Nat} {Φ : OT → DD → Prop} (R : cov rg rg0) {D : DD} (h : WP none κ Φ (pS_startCounting D)) : Run Γ rg κ Y_X4_startCounting 0 [(21, 0)] [] D Φ := by
  unfold pS_startCounting at h
  show Run Γ rg κ Y_X4_startCounting 0 [(21, 0)] [] D Φ
  refine r_aload_n d_X4_startCounting_0 rfl (by decide) ?_
  refine r_getR (t := 14) d_X4_startCounting_1 fk_RX4_9 sh_13 rfl (by decide) (R 13 rfl) ?_
  refine r_iconst d_X4_startCounting_4 ?_
  refine c_callSv (as := [(22, 0), (0, 0)]) (rest := []) (ls' := [(22, 0), (0, 0), (5, 0), (5, 0)]) d_X4_startCounting_5 ck_RX4_67 rfl rfl rfl (Nat.le_of_ble_eq_true rfl) (Nat.le_of_ble_eq_true rfl) (by decide) rfl rfl (fun κ' Ψ hΨ => run_pJ_fill R _ hΨ) h (fun _ D1 h => ?_)
  show Run Γ rg κ Y_X4_startCounting 8 [(21, 0)] [] D1 Φ
  exact c_vret d_X4_startCounting_8 rfl h
set_option maxRecDepth 20000 in
theorem run_pL_unitsOf_39 {Γ : GG} {rg : Nat → Bool} {κ : Nat} {Φ : OT → DD → Prop} (R : cov rg rg0) (a1 : Int) (a3 : Int) : ∀ (n : Nat) (a4 : Int) (a5 : Int) (D : DD), WP (some .int) κ Φ (pL_unitsOf_39 a1 a3 n a4 a5 D) → Run Γ rg κ Y_X3_unitsOf 39 [(19, 0), (0, a1), (5, 0), (0, a3), (0, a4), (0, a5)] [] D Φ := by
  intro n
  induction n with
  | zero => intro a4 a5 D h; exact h.no.elim
  | succ n ih =>
    intro a4 a5 D h
    rw [pL_unitsOf_39] at h
    show Run Γ rg κ Y_X3_unitsOf 39 [(19, 0), (0, a1), (5, 0), (0, a3), (0, a4), (0, a5)] [] D Φ
    refine r_iload d_X3_unitsOf_39 rfl ?_
    refine r_iload_n d_X3_unitsOf_41 rfl ?_
    refine c_icmp_ge (tgt := 70) d_X3_unitsOf_42 (by decide) (nz_w _) (nz_w _) h (fun h => ?_) (fun h => ?_)
    · skip
      show Run Γ rg κ Y_X3_unitsOf 70 [(19, 0), (0, a1), (5, 0), (0, a3), (0, a4), (0, a5)] [] D Φ
      refine r_iload d_X3_unitsOf_70 rfl ?_
      exact c_iret d_X3_unitsOf_72 rfl h
    · skip
      show Run Γ rg κ Y_X3_unitsOf 45 [(19, 0), (0, a1), (5, 0), (0, a3), (0, a4), (0, a5)] [] D Φ
      refine r_iload d_X3_unitsOf_45 rfl ?_
      refine r_aload_n d_X3_unitsOf_47 rfl (by decide) ?_
      refine r_getR (t := 2) d_X3_unitsOf_48 fk_RX3_9 sh_11 rfl (by decide) (R 11 rfl) ?_
      refine r_aload_n d_X3_unitsOf_51 rfl (by decide) ?_
      refine r_iload_n d_X3_unitsOf_52 rfl ?_
      refine r_iload d_X3_unitsOf_53 rfl ?_
      refine c_callVPi (a := 11) (z := 0) (as := [(0, a1), (0, a5)]) (rest := [(10, 0), (0, a4)]) (ls' := [(19, 0), (0, a1), (0, a5), (5, 0)]) d_X3_unitsOf_55 ck_RX3_38 rfl sh_11 rfl (by decide) (R 11 rfl) rfl rfl (Nat.le_of_ble_eq_true rfl) (Nat.le_of_ble_eq_true rfl) (by decide) rfl rfl (fun Ψ hΨ => run_pL_leafNumbered R _ _ rfl hΨ) ?_
      show Run Γ rg κ Y_X3_unitsOf 58 [(19, 0), (0, a1), (5, 0), (0, a3), (0, a4), (0, a5)] [(0, (pL_leafNumbered a1 a5 D)), (10, 0), (0, a4)] D Φ
      refine c_callVPi (a := 2) (z := 0) (as := [(0, (pL_leafNumbered a1 a5 D))]) (rest := [(0, a4)]) (ls' := [(10, 0), (0, (pL_leafNumbered a1 a5 D))]) d_X3_unitsOf_58 ck_RX3_48 rfl sh_2 rfl (by decide) (R 2 rfl) rfl rfl (Nat.le_of_ble_eq_true rfl) (Nat.le_of_ble_eq_true rfl) (by decide) rfl rfl (fun Ψ hΨ => run_pI_sizeAt R _ rfl hΨ) ?_
      show Run Γ rg κ Y_X3_unitsOf 61 [(19, 0), (0, a1), (5, 0), (0, a3), (0, a4), (0, a5)] [(0, (pI_sizeAt (pL_leafNumbered a1 a5 D) D)), (0, a4)] D Φ
      refine r_iadd d_X3_unitsOf_61 ?_
      refine c_lt d_X3_unitsOf_62 (by decide) rfl h (fun x1 h => ?_)
      show Run Γ rg κ Y_X3_unitsOf 64 [(19, 0), (0, a1), (5, 0), (0, a3), (0, x1), (0, a5)] [] D Φ
      refine r_iinc d_X3_unitsOf_64 rfl (by decide) rfl ?_
      show Run Γ rg κ Y_X3_unitsOf 67 [(19, 0), (0, a1), (5, 0), (0, a3), (0, x1), (0, (a5 + 1))] [] D Φ
      show Run Γ rg κ Y_X3_unitsOf 67 [(19, 0), (0, a1), (5, 0), (0, a3), (0, x1), (0, (a5 + 1))] [] D Φ
      refine r_goto (tgt := 39) d_X3_unitsOf_67 (by decide) ?_
      exact (ih x1 (a5 + 1) D h)
set_option maxRecDepth 20000 in
theorem run_pL_unitsOf {Γ : GG} {rg : Nat → Bool} {κ : Nat} {Φ : OT → DD → Prop} (R : cov rg rg0) (p1 : Int) {D : DD} (h : WP (some .int) κ Φ (pL_unitsOf p1 D)) : Run Γ rg κ Y_X3_unitsOf 0 [(19, 0), (0, p1), (5, 0), (5, 0), (5, 0), (5, 0)] [] D Φ := by
  unfold pL_unitsOf at h
  show Run Γ rg κ Y_X3_unitsOf 0 [(19, 0), (0, p1), (5, 0), (5, 0), (5, 0), (5, 0)] [] D Φ
  refine r_aload_n d_X3_unitsOf_0 rfl (by decide) ?_
  refine r_getR (t := 2) d_X3_unitsOf_1 fk_RX3_9 sh_11 rfl (by decide) (R 11 rfl) ?_
  refine r_iload_n d_X3_unitsOf_4 rfl ?_
  refine r_iconst d_X3_unitsOf_5 ?_
  refine r_iadd d_X3_unitsOf_6 ?_
  refine c_callVPi (a := 2) (z := 0) (as := [(0, (p1 + 2))]) (rest := []) (ls' := [(10, 0), (0, (p1 + 2))]) d_X3_unitsOf_7 ck_RX3_23 rfl sh_2 rfl (by decide) (R 2 rfl) rfl rfl (Nat.le_of_ble_eq_true rfl) (Nat.le_of_ble_eq_true rfl) (by decide) rfl rfl (fun Ψ hΨ => run_pI_unitAt R _ rfl hΨ) ?_
  show Run Γ rg κ Y_X3_unitsOf 10 [(19, 0), (0, p1), (5, 0), (5, 0), (5, 0), (5, 0)] [(0, (pI_unitAt (p1 + 2) D))] D Φ
  refine c_lt_n d_X3_unitsOf_10 (by decide) rfl h (fun x1 h => ?_)
  show Run Γ rg κ Y_X3_unitsOf 11 [(19, 0), (0, p1), (0, x1), (5, 0), (5, 0), (5, 0)] [] D Φ
  refine r_aload_n d_X3_unitsOf_11 rfl (by decide) ?_
  refine r_iload_n d_X3_unitsOf_12 rfl ?_
  refine c_callVPi (a := 11) (z := 0) (as := [(0, p1)]) (rest := []) (ls' := [(19, 0), (0, p1), (5, 0)]) d_X3_unitsOf_13 ck_RX3_35 rfl sh_11 rfl (by decide) (R 11 rfl) rfl rfl (Nat.le_of_ble_eq_true rfl) (Nat.le_of_ble_eq_true rfl) (by decide) rfl rfl (fun Ψ hΨ => run_pL_leafCount R _ rfl hΨ) ?_
  show Run Γ rg κ Y_X3_unitsOf 16 [(19, 0), (0, p1), (0, x1), (5, 0), (5, 0), (5, 0)] [(0, (pL_leafCount p1 D))] D Φ
  refine c_lt_n d_X3_unitsOf_16 (by decide) rfl h (fun x2 h => ?_)
  show Run Γ rg κ Y_X3_unitsOf 17 [(19, 0), (0, p1), (0, x1), (0, x2), (5, 0), (5, 0)] [] D Φ
  show Run Γ rg κ Y_X3_unitsOf 17 [(19, 0), (0, p1), (0, x1), (0, x2), (5, 0), (5, 0)] [] D Φ
  refine r_iload_n d_X3_unitsOf_17 rfl ?_
  refine r_iconst d_X3_unitsOf_18 ?_
  refine c_jn (fun J => ∀ (x3 : Int) (D1 : DD), WP (some .int) κ Φ (J x3 D1) → Run Γ rg κ Y_X3_unitsOf 34 [(19, 0), (0, p1), (5, 0), (0, x2), (5, 0), (5, 0)] [(0, x3)] D1 Φ) h ?_ (fun J1 hJ1 h => ?_)
  · intro x3 D1 h
    show Run Γ rg κ Y_X3_unitsOf 34 [(19, 0), (0, p1), (5, 0), (0, x2), (5, 0), (5, 0)] [(0, x3)] D1 Φ
    refine r_istore d_X3_unitsOf_34 (by decide) rfl ?_
    show Run Γ rg κ Y_X3_unitsOf 36 [(19, 0), (0, p1), (5, 0), (0, x2), (0, x3), (5, 0)] [] D1 Φ
    refine r_iconst d_X3_unitsOf_36 ?_
    refine r_istore d_X3_unitsOf_37 (by decide) rfl ?_
    show Run Γ rg κ Y_X3_unitsOf 39 [(19, 0), (0, p1), (5, 0), (0, x2), (0, x3), (0, 0)] [] D1 Φ
    exact run_pL_unitsOf_39 R p1 x2 fu x3 0 D1 h
  refine c_icmp_le (tgt := 33) d_X3_unitsOf_19 (by decide) (nz_w _) (nz_k rfl) h (fun h => ?_) (fun h => ?_)
  · skip
    show Run Γ rg κ Y_X3_unitsOf 33 [(19, 0), (0, p1), (0, x1), (0, x2), (5, 0), (5, 0)] [] D Φ
    refine r_iconst d_X3_unitsOf_33 ?_
    exact Run.forget (ls' := [(19, 0), (0, p1), (5, 0), (0, x2), (5, 0), (5, 0)]) ⟨Or.inr rfl, Or.inr rfl, Or.inl rfl, Or.inr rfl, Or.inr rfl, Or.inr rfl, trivial⟩ (hJ1 0 D h)
  · skip
    show Run Γ rg κ Y_X3_unitsOf 22 [(19, 0), (0, p1), (0, x1), (0, x2), (5, 0), (5, 0)] [] D Φ
    refine r_aload_n d_X3_unitsOf_22 rfl (by decide) ?_
    refine r_getR (t := 2) d_X3_unitsOf_23 fk_RX3_9 sh_11 rfl (by decide) (R 11 rfl) ?_
    refine r_iload_n d_X3_unitsOf_26 rfl ?_
    refine c_callVPi (a := 2) (z := 0) (as := [(0, x1)]) (rest := []) (ls' := [(10, 0), (0, x1)]) d_X3_unitsOf_27 ck_RX3_48 rfl sh_2 rfl (by decide) (R 2 rfl) rfl rfl (Nat.le_of_ble_eq_true rfl) (Nat.le_of_ble_eq_true rfl) (by decide) rfl rfl (fun Ψ hΨ => run_pI_sizeAt R _ rfl hΨ) ?_
    show Run Γ rg κ Y_X3_unitsOf 30 [(19, 0), (0, p1), (0, x1), (0, x2), (5, 0), (5, 0)] [(0, (pI_sizeAt x1 D))] D Φ
    refine r_goto (tgt := 34) d_X3_unitsOf_30 (by decide) ?_
    exact Run.forget (ls' := [(19, 0), (0, p1), (5, 0), (0, x2), (5, 0), (5, 0)]) ⟨Or.inr rfl, Or.inr rfl, Or.inl rfl, Or.inr rfl, Or.inr rfl, Or.inr rfl, trivial⟩ (hJ1 (pI_sizeAt x1 D) D h)
set_option maxRecDepth 20000 in
theorem run_pV_unitsOf_78 {Γ : GG} {rg : Nat → Bool} {κ : Nat} {Φ : OT → DD → Prop} (R : cov rg rg0) (c1 : Int) (c2 : Int) (c4 : Int) {K : Int → DD → Res} (hK : ∀ (z3 : Int) (D : DD), WP (some .int) κ Φ (K z3 D) → Run Γ rg κ Y_X5_unitsOf 118 [(20, 0), (0, c1), (0, c2), (0, z3), (0, c4), (5, 0), (5, 0), (5, 0)] [] D Φ) : ∀ (n : Nat) (a3 : Int) (a6 : Int) (a7 : Int) (D : DD), WP (some .int) κ Φ (pV_unitsOf_78 n a3 a6 a7 D K) → Run Γ rg κ Y_X5_unitsOf 78 [(20, 0), (0, c1), (0, c2), (0, a3), (0, c4), (5, 0), (0, a6), (0, a7)] [] D Φ := by
  intro n
  induction n with
  | zero => intro a3 a6 a7 D h; exact h.no.elim
  | succ n ih =>
    intro a3 a6 a7 D h
    rw [pV_unitsOf_78] at h
    show Run Γ rg κ Y_X5_unitsOf 78 [(20, 0), (0, c1), (0, c2), (0, a3), (0, c4), (5, 0), (0, a6), (0, a7)] [] D Φ
    refine r_iload d_X5_unitsOf_78 rfl ?_
    refine r_iconst d_X5_unitsOf_80 ?_
    refine c_icmp_ge (tgt := 118) d_X5_unitsOf_81 (by decide) (nz_w _) (nz_k rfl) h (fun h => ?_) (fun h => ?_)
    · skip
      exact Run.forget (ls' := [(20, 0), (0, c1), (0, c2), (0, a3), (0, c4), (5, 0), (5, 0), (5, 0)]) ⟨Or.inr rfl, Or.inr rfl, Or.inr rfl, Or.inr rfl, Or.inr rfl, Or.inr rfl, Or.inl rfl, Or.inl rfl, trivial⟩ (hK a3 D h)
    · skip
      show Run Γ rg κ Y_X5_unitsOf 84 [(20, 0), (0, c1), (0, c2), (0, a3), (0, c4), (5, 0), (0, a6), (0, a7)] [] D Φ
      refine r_iload d_X5_unitsOf_84 rfl ?_
      refine c_if_eq (tgt := 118) d_X5_unitsOf_86 (by decide) (nz_w _) h (fun h => ?_) (fun h => ?_)
      · skip
        exact Run.forget (ls' := [(20, 0), (0, c1), (0, c2), (0, a3), (0, c4), (5, 0), (5, 0), (5, 0)]) ⟨Or.inr rfl, Or.inr rfl, Or.inr rfl, Or.inr rfl, Or.inr rfl, Or.inr rfl, Or.inl rfl, Or.inl rfl, trivial⟩ (hK a3 D h)
      · skip
        show Run Γ rg κ Y_X5_unitsOf 89 [(20, 0), (0, c1), (0, c2), (0, a3), (0, c4), (5, 0), (0, a6), (0, a7)] [] D Φ
        refine r_iload_n d_X5_unitsOf_89 rfl ?_
        refine r_aload_n d_X5_unitsOf_90 rfl (by decide) ?_
        refine r_getR (t := 2) d_X5_unitsOf_91 fk_RX5_9 sh_12 rfl (by decide) (R 12 rfl) ?_
        refine r_iload d_X5_unitsOf_94 rfl ?_
        refine c_callVPi (a := 2) (z := 0) (as := [(0, a6)]) (rest := [(0, a3)]) (ls' := [(10, 0), (0, a6)]) d_X5_unitsOf_96 ck_RX5_35 rfl sh_2 rfl (by decide) (R 2 rfl) rfl rfl (Nat.le_of_ble_eq_true rfl) (Nat.le_of_ble_eq_true rfl) (by decide) rfl rfl (fun Ψ hΨ => run_pI_sizeAt R _ rfl hΨ) ?_
        show Run Γ rg κ Y_X5_unitsOf 99 [(20, 0), (0, c1), (0, c2), (0, a3), (0, c4), (5, 0), (0, a6), (0, a7)] [(0, (pI_sizeAt a6 D)), (0, a3)] D Φ
        refine r_iadd d_X5_unitsOf_99 ?_
        refine c_lt_n d_X5_unitsOf_100 (by decide) rfl h (fun x1 h => ?_)
        show Run Γ rg κ Y_X5_unitsOf 101 [(20, 0), (0, c1), (0, c2), (0, x1), (0, c4), (5, 0), (0, a6), (0, a7)] [] D Φ
        refine r_aload_n d_X5_unitsOf_101 rfl (by decide) ?_
        refine r_getR (t := 2) d_X5_unitsOf_102 fk_RX5_9 sh_12 rfl (by decide) (R 12 rfl) ?_
        refine r_iload d_X5_unitsOf_105 rfl ?_
        refine c_callVPi (a := 2) (z := 0) (as := [(0, a6)]) (rest := []) (ls' := [(10, 0), (0, a6)]) d_X5_unitsOf_107 ck_RX5_19 rfl sh_2 rfl (by decide) (R 2 rfl) rfl rfl (Nat.le_of_ble_eq_true rfl) (Nat.le_of_ble_eq_true rfl) (by decide) rfl rfl (fun Ψ hΨ => run_pI_unitAt R _ rfl hΨ) ?_
        show Run Γ rg κ Y_X5_unitsOf 110 [(20, 0), (0, c1), (0, c2), (0, x1), (0, c4), (5, 0), (0, a6), (0, a7)] [(0, (pI_unitAt a6 D))] D Φ
        show Run Γ rg κ Y_X5_unitsOf 110 [(20, 0), (0, c1), (0, c2), (0, x1), (0, c4), (5, 0), (0, a6), (0, a7)] [(0, (pI_unitAt a6 D))] D Φ
        refine c_lt d_X5_unitsOf_110 (by decide) rfl h (fun x2 h => ?_)
        show Run Γ rg κ Y_X5_unitsOf 112 [(20, 0), (0, c1), (0, c2), (0, x1), (0, c4), (5, 0), (0, x2), (0, a7)] [] D Φ
        refine r_iinc d_X5_unitsOf_112 rfl (by decide) rfl ?_
        show Run Γ rg κ Y_X5_unitsOf 115 [(20, 0), (0, c1), (0, c2), (0, x1), (0, c4), (5, 0), (0, x2), (0, (a7 + 1))] [] D Φ
        refine r_goto (tgt := 78) d_X5_unitsOf_115 (by decide) ?_
        exact (ih x1 x2 (a7 + 1) D h)
set_option maxRecDepth 20000 in
theorem run_pV_unitsOf_35 {Γ : GG} {rg : Nat → Bool} {κ : Nat} {Φ : OT → DD → Prop} (R : cov rg rg0) (a1 : Int) (a2 : Int) : ∀ (n : Nat) (a3 : Int) (a4 : Int) (D : DD), WP (some .int) κ Φ (pV_unitsOf_35 a1 a2 n a3 a4 D) → Run Γ rg κ Y_X5_unitsOf 35 [(20, 0), (0, a1), (0, a2), (0, a3), (0, a4), (5, 0), (5, 0), (5, 0)] [] D Φ := by
  intro n
  induction n with
  | zero => intro a3 a4 D h; exact h.no.elim
  | succ n ih =>
    intro a3 a4 D h
    rw [pV_unitsOf_35] at h
    show Run Γ rg κ Y_X5_unitsOf 35 [(20, 0), (0, a1), (0, a2), (0, a3), (0, a4), (5, 0), (5, 0), (5, 0)] [] D Φ
    refine r_iload d_X5_unitsOf_35 rfl ?_
    refine r_iload_n d_X5_unitsOf_37 rfl ?_
    refine c_icmp_ge (tgt := 124) d_X5_unitsOf_38 (by decide) (nz_w _) (nz_w _) h (fun h => ?_) (fun h => ?_)
    · skip
      show Run Γ rg κ Y_X5_unitsOf 124 [(20, 0), (0, a1), (0, a2), (0, a3), (0, a4), (5, 0), (5, 0), (5, 0)] [] D Φ
      refine r_iload_n d_X5_unitsOf_124 rfl ?_
      exact c_iret d_X5_unitsOf_125 rfl h
    · skip
      show Run Γ rg κ Y_X5_unitsOf 41 [(20, 0), (0, a1), (0, a2), (0, a3), (0, a4), (5, 0), (5, 0), (5, 0)] [] D Φ
      refine r_aload_n d_X5_unitsOf_41 rfl (by decide) ?_
      refine r_iload_n d_X5_unitsOf_42 rfl ?_
      refine r_iload d_X5_unitsOf_43 rfl ?_
      refine c_callVPi (a := 12) (z := 0) (as := [(0, a1), (0, a4)]) (rest := []) (ls' := [(20, 0), (0, a1), (0, a4)]) d_X5_unitsOf_45 ck_RX5_31 rfl sh_12 rfl (by decide) (R 12 rfl) rfl rfl (Nat.le_of_ble_eq_true rfl) (Nat.le_of_ble_eq_true rfl) (by decide) rfl rfl (fun Ψ hΨ => run_pV_cellNumbered R _ _ rfl hΨ) ?_
      show Run Γ rg κ Y_X5_unitsOf 48 [(20, 0), (0, a1), (0, a2), (0, a3), (0, a4), (5, 0), (5, 0), (5, 0)] [(0, (pV_cellNumbered a1 a4 D))] D Φ
      refine c_lt d_X5_unitsOf_48 (by decide) rfl h (fun x1 h => ?_)
      show Run Γ rg κ Y_X5_unitsOf 50 [(20, 0), (0, a1), (0, a2), (0, a3), (0, a4), (0, x1), (5, 0), (5, 0)] [] D Φ
      refine r_iload_n d_X5_unitsOf_50 rfl ?_
      refine r_aload_n d_X5_unitsOf_51 rfl (by decide) ?_
      refine r_getR (t := 2) d_X5_unitsOf_52 fk_RX5_9 sh_12 rfl (by decide) (R 12 rfl) ?_
      refine r_iload d_X5_unitsOf_55 rfl ?_
      refine c_callVPi (a := 2) (z := 0) (as := [(0, x1)]) (rest := [(0, a3)]) (ls' := [(10, 0), (0, x1)]) d_X5_unitsOf_57 ck_RX5_35 rfl sh_2 rfl (by decide) (R 2 rfl) rfl rfl (Nat.le_of_ble_eq_true rfl) (Nat.le_of_ble_eq_true rfl) (by decide) rfl rfl (fun Ψ hΨ => run_pI_sizeAt R _ rfl hΨ) ?_
      show Run Γ rg κ Y_X5_unitsOf 60 [(20, 0), (0, a1), (0, a2), (0, a3), (0, a4), (0, x1), (5, 0), (5, 0)] [(0, (pI_sizeAt x1 D)), (0, a3)] D Φ
      refine r_iadd d_X5_unitsOf_60 ?_
      show Run Γ rg κ Y_X5_unitsOf 61 [(20, 0), (0, a1), (0, a2), (0, a3), (0, a4), (0, x1), (5, 0), (5, 0)] [(0, (a3 + (pI_sizeAt x1 D)))] D Φ
      refine c_lt_n d_X5_unitsOf_61 (by decide) rfl h (fun x2 h => ?_)
      show Run Γ rg κ Y_X5_unitsOf 62 [(20, 0), (0, a1), (0, a2), (0, x2), (0, a4), (0, x1), (5, 0), (5, 0)] [] D Φ
      refine r_aload_n d_X5_unitsOf_62 rfl (by decide) ?_
      refine r_getR (t := 2) d_X5_unitsOf_63 fk_RX5_9 sh_12 rfl (by decide) (R 12 rfl) ?_
      refine r_iload d_X5_unitsOf_66 rfl ?_
      refine r_iconst d_X5_unitsOf_68 ?_
      refine r_iadd d_X5_unitsOf_69 ?_
      refine c_callVPi (a := 2) (z := 0) (as := [(0, (x1 + 2))]) (rest := []) (ls' := [(10, 0), (0, (x1 + 2))]) d_X5_unitsOf_70 ck_RX5_19 rfl sh_2 rfl (by decide) (R 2 rfl) rfl rfl (Nat.le_of_ble_eq_true rfl) (Nat.le_of_ble_eq_true rfl) (by decide) rfl rfl (fun Ψ hΨ => run_pI_unitAt R _ rfl hΨ) ?_
      show Run Γ rg κ Y_X5_unitsOf 73 [(20, 0), (0, a1), (0, a2), (0, x2), (0, a4), (0, x1), (5, 0), (5, 0)] [(0, (pI_unitAt (x1 + 2) D))] D Φ
      refine c_lt d_X5_unitsOf_73 (by decide) rfl h (fun x3 h => ?_)
      show Run Γ rg κ Y_X5_unitsOf 75 [(20, 0), (0, a1), (0, a2), (0, x2), (0, a4), (0, x1), (0, x3), (5, 0)] [] D Φ
      refine r_iconst d_X5_unitsOf_75 ?_
      refine r_istore d_X5_unitsOf_76 (by decide) rfl ?_
      show Run Γ rg κ Y_X5_unitsOf 78 [(20, 0), (0, a1), (0, a2), (0, x2), (0, a4), (0, x1), (0, x3), (0, 0)] [] D Φ
      refine Run.forget (ls' := [(20, 0), (0, a1), (0, a2), (0, x2), (0, a4), (5, 0), (0, x3), (0, 0)]) ⟨Or.inr rfl, Or.inr rfl, Or.inr rfl, Or.inr rfl, Or.inr rfl, Or.inl rfl, Or.inr rfl, Or.inr rfl, trivial⟩ ?_
      refine run_pV_unitsOf_78 R a1 a2 a4 ?_ fu x2 x3 0 D h
      intro x4 D1 h
      show Run Γ rg κ Y_X5_unitsOf 118 [(20, 0), (0, a1), (0, a2), (0, x4), (0, a4), (5, 0), (5, 0), (5, 0)] [] D1 Φ
      refine r_iinc d_X5_unitsOf_118 rfl (by decide) rfl ?_
      show Run Γ rg κ Y_X5_unitsOf 121 [(20, 0), (0, a1), (0, a2), (0, x4), (0, (a4 + 1)), (5, 0), (5, 0), (5, 0)] [] D1 Φ
      refine r_goto (tgt := 35) d_X5_unitsOf_121 (by decide) ?_
      exact (ih x4 (a4 + 1) D1 h)
set_option maxRecDepth 20000 in
theorem run_pV_unitsOf {Γ : GG} {rg : Nat → Bool} {κ : Nat} {Φ : OT → DD → Prop} (R : cov rg rg0) (p1 : Int) {D : DD} (h : WP (some .int) κ Φ (pV_unitsOf p1 D)) : Run Γ rg κ Y_X5_unitsOf 0 [(20, 0), (0, p1), (5, 0), (5, 0), (5, 0), (5, 0), (5, 0), (5, 0)] [] D Φ := by
  unfold pV_unitsOf at h
  show Run Γ rg κ Y_X5_unitsOf 0 [(20, 0), (0, p1), (5, 0), (5, 0), (5, 0), (5, 0), (5, 0), (5, 0)] [] D Φ
  refine r_aload_n d_X5_unitsOf_0 rfl (by decide) ?_
  refine r_iload_n d_X5_unitsOf_1 rfl ?_
  refine c_callVPi (a := 12) (z := 0) (as := [(0, p1)]) (rest := []) (ls' := [(20, 0), (0, p1), (5, 0)]) d_X5_unitsOf_2 ck_RX5_28 rfl sh_12 rfl (by decide) (R 12 rfl) rfl rfl (Nat.le_of_ble_eq_true rfl) (Nat.le_of_ble_eq_true rfl) (by decide) rfl rfl (fun Ψ hΨ => run_pV_valueCount R _ rfl hΨ) ?_
  show Run Γ rg κ Y_X5_unitsOf 5 [(20, 0), (0, p1), (5, 0), (5, 0), (5, 0), (5, 0), (5, 0), (5, 0)] [(0, (pV_valueCount p1 D))] D Φ
  refine c_lt_n d_X5_unitsOf_5 (by decide) rfl h (fun x1 h => ?_)
  show Run Γ rg κ Y_X5_unitsOf 6 [(20, 0), (0, p1), (0, x1), (5, 0), (5, 0), (5, 0), (5, 0), (5, 0)] [] D Φ
  refine r_iload_n d_X5_unitsOf_6 rfl ?_
  refine c_jn (fun J => ∀ (x2 : Int) (D1 : DD), WP (some .int) κ Φ (J x2 D1) → Run Γ rg κ Y_X5_unitsOf 31 [(20, 0), (0, p1), (0, x1), (5, 0), (5, 0), (5, 0), (5, 0), (5, 0)] [(0, x2)] D1 Φ) h ?_ (fun J1 hJ1 h => ?_)
  · intro x2 D1 h
    show Run Γ rg κ Y_X5_unitsOf 31 [(20, 0), (0, p1), (0, x1), (5, 0), (5, 0), (5, 0), (5, 0), (5, 0)] [(0, x2)] D1 Φ
    refine r_istore_n d_X5_unitsOf_31 (by decide) rfl ?_
    show Run Γ rg κ Y_X5_unitsOf 32 [(20, 0), (0, p1), (0, x1), (0, x2), (5, 0), (5, 0), (5, 0), (5, 0)] [] D1 Φ
    refine r_iconst d_X5_unitsOf_32 ?_
    refine r_istore d_X5_unitsOf_33 (by decide) rfl ?_
    show Run Γ rg κ Y_X5_unitsOf 35 [(20, 0), (0, p1), (0, x1), (0, x2), (0, 0), (5, 0), (5, 0), (5, 0)] [] D1 Φ
    exact run_pV_unitsOf_35 R p1 x1 fu x2 0 D1 h
  refine c_if_ne (tgt := 14) d_X5_unitsOf_7 (by decide) (nz_w _) h (fun h => ?_) (fun h => ?_)
  · skip
    show Run Γ rg κ Y_X5_unitsOf 14 [(20, 0), (0, p1), (0, x1), (5, 0), (5, 0), (5, 0), (5, 0), (5, 0)] [] D Φ
    refine r_aload_n d_X5_unitsOf_14 rfl (by decide) ?_
    refine r_getR (t := 2) d_X5_unitsOf_15 fk_RX5_9 sh_12 rfl (by decide) (R 12 rfl) ?_
    refine r_aload_n d_X5_unitsOf_18 rfl (by decide) ?_
    refine r_getR (t := 2) d_X5_unitsOf_19 fk_RX5_9 sh_12 rfl (by decide) (R 12 rfl) ?_
    refine r_iload_n d_X5_unitsOf_22 rfl ?_
    refine r_iconst d_X5_unitsOf_23 ?_
    refine r_iadd d_X5_unitsOf_24 ?_
    refine c_callVPi (a := 2) (z := 0) (as := [(0, (p1 + 3))]) (rest := [(10, 0)]) (ls' := [(10, 0), (0, (p1 + 3))]) d_X5_unitsOf_25 ck_RX5_19 rfl sh_2 rfl (by decide) (R 2 rfl) rfl rfl (Nat.le_of_ble_eq_true rfl) (Nat.le_of_ble_eq_true rfl) (by decide) rfl rfl (fun Ψ hΨ => run_pI_unitAt R _ rfl hΨ) ?_
    show Run Γ rg κ Y_X5_unitsOf 28 [(20, 0), (0, p1), (0, x1), (5, 0), (5, 0), (5, 0), (5, 0), (5, 0)] [(0, (pI_unitAt (p1 + 3) D)), (10, 0)] D Φ
    refine c_callVPi (a := 2) (z := 0) (as := [(0, (pI_unitAt (p1 + 3) D))]) (rest := []) (ls' := [(10, 0), (0, (pI_unitAt (p1 + 3) D))]) d_X5_unitsOf_28 ck_RX5_35 rfl sh_2 rfl (by decide) (R 2 rfl) rfl rfl (Nat.le_of_ble_eq_true rfl) (Nat.le_of_ble_eq_true rfl) (by decide) rfl rfl (fun Ψ hΨ => run_pI_sizeAt R _ rfl hΨ) ?_
    show Run Γ rg κ Y_X5_unitsOf 31 [(20, 0), (0, p1), (0, x1), (5, 0), (5, 0), (5, 0), (5, 0), (5, 0)] [(0, (pI_sizeAt (pI_unitAt (p1 + 3) D) D))] D Φ
    exact (hJ1 (pI_sizeAt (pI_unitAt (p1 + 3) D) D) D h)
  · skip
    show Run Γ rg κ Y_X5_unitsOf 10 [(20, 0), (0, p1), (0, x1), (5, 0), (5, 0), (5, 0), (5, 0), (5, 0)] [] D Φ
    refine r_iconst d_X5_unitsOf_10 ?_
    refine r_goto (tgt := 31) d_X5_unitsOf_11 (by decide) ?_
    exact (hJ1 0 D h)
set_option maxRecDepth 20000 in
theorem run_pS_unitsNotYetCounted {Γ : GG} {rg : Nat → Bool} {κ : Nat} {Φ : OT → DD → Prop} (R : cov rg rg0) (p1 : Int) {D : DD} (h : WP (some .int) κ Φ (pS_unitsNotYetCounted p1 D)) : Run Γ rg κ Y_X4_unitsNotYetCounted 0 [(21, 0), (0, p1), (5, 0)] [] D Φ := by
  unfold pS_unitsNotYetCounted at h
  show Run Γ rg κ Y_X4_unitsNotYetCounted 0 [(21, 0), (0, p1), (5, 0)] [] D Φ
  refine r_aload_n d_X4_unitsNotYetCounted_0 rfl (by decide) ?_
  refine r_getR (t := 14) d_X4_unitsNotYetCounted_1 fk_RX4_9 sh_13 rfl (by decide) (R 13 rfl) ?_
  refine r_iload_n d_X4_unitsNotYetCounted_4 rfl ?_
  refine c_callNPi (as := [(22, 0), (0, p1)]) (rest := []) (ls' := [(22, 0), (0, p1)]) d_X4_unitsNotYetCounted_5 ck_RX4_73 rfl rfl rfl (Nat.le_of_ble_eq_true rfl) (Nat.le_of_ble_eq_true rfl) (by decide) rfl rfl (fun Ψ hΨ => run_pH_read sh_14 (by decide) (R 14 rfl) (by decide) _ rfl hΨ) ?_
  show Run Γ rg κ Y_X4_unitsNotYetCounted 8 [(21, 0), (0, p1), (5, 0)] [(0, (rd 256 14 p1 D))] D Φ
  refine c_jn (fun J => ∀ (x1 : Int) (D1 : DD), WP (some .int) κ Φ (J x1 D1) → Run Γ rg κ Y_X4_unitsNotYetCounted 30 [(21, 0), (0, p1), (5, 0)] [(0, x1)] D1 Φ) h ?_ (fun J1 hJ1 h => ?_)
  · intro x1 D1 h
    show Run Γ rg κ Y_X4_unitsNotYetCounted 30 [(21, 0), (0, p1), (5, 0)] [(0, x1)] D1 Φ
    refine r_istore_n d_X4_unitsNotYetCounted_30 (by decide) rfl ?_
    show Run Γ rg κ Y_X4_unitsNotYetCounted 31 [(21, 0), (0, p1), (0, x1)] [] D1 Φ
    refine r_aload_n d_X4_unitsNotYetCounted_31 rfl (by decide) ?_
    refine r_getR (t := 14) d_X4_unitsNotYetCounted_32 fk_RX4_9 sh_13 rfl (by decide) (R 13 rfl) ?_
    refine r_iload_n d_X4_unitsNotYetCounted_35 rfl ?_
    refine r_iconst d_X4_unitsNotYetCounted_36 ?_
    refine c_callND (as := [(22, 0), (0, p1), (0, 1)]) (rest := []) (ls' := [(22, 0), (0, p1), (0, 1)]) d_X4_unitsNotYetCounted_37 ck_RX4_80 rfl rfl rfl (Nat.le_of_ble_eq_true rfl) (Nat.le_of_ble_eq_true rfl) (by decide) rfl rfl (fun Ψ hΨ => run_pH_store sh_14 (by decide) (R 14 rfl) (by decide) _ _ hΨ) h (fun D2 h => ?_)
    show Run Γ rg κ Y_X4_unitsNotYetCounted 40 [(21, 0), (0, p1), (0, x1)] [] D2 Φ
    refine r_iload_n d_X4_unitsNotYetCounted_40 rfl ?_
    exact c_iret d_X4_unitsNotYetCounted_41 rfl h
  refine c_if_ne (tgt := 29) d_X4_unitsNotYetCounted_8 (by decide) (nz_w _) h (fun h => ?_) (fun h => ?_)
  · skip
    show Run Γ rg κ Y_X4_unitsNotYetCounted 29 [(21, 0), (0, p1), (5, 0)] [] D Φ
    refine r_iconst d_X4_unitsNotYetCounted_29 ?_
    exact (hJ1 0 D h)
  · skip
    show Run Γ rg κ Y_X4_unitsNotYetCounted 11 [(21, 0), (0, p1), (5, 0)] [] D Φ
    refine r_aload_n d_X4_unitsNotYetCounted_11 rfl (by decide) ?_
    refine r_getR (t := 2) d_X4_unitsNotYetCounted_12 fk_RX4_15 sh_13 rfl (by decide) (R 13 rfl) ?_
    refine r_aload_n d_X4_unitsNotYetCounted_15 rfl (by decide) ?_
    refine r_getR (t := 2) d_X4_unitsNotYetCounted_16 fk_RX4_15 sh_13 rfl (by decide) (R 13 rfl) ?_
    refine r_iload_n d_X4_unitsNotYetCounted_19 rfl ?_
    refine c_callVPi (a := 2) (z := 0) (as := [(0, p1)]) (rest := [(10, 0)]) (ls' := [(10, 0), (0, p1)]) d_X4_unitsNotYetCounted_20 ck_RX4_23 rfl sh_2 rfl (by decide) (R 2 rfl) rfl rfl (Nat.le_of_ble_eq_true rfl) (Nat.le_of_ble_eq_true rfl) (by decide) rfl rfl (fun Ψ hΨ => run_pI_placeOfRights R _ rfl hΨ) ?_
    show Run Γ rg κ Y_X4_unitsNotYetCounted 23 [(21, 0), (0, p1), (5, 0)] [(0, (pI_placeOfRights p1 D)), (10, 0)] D Φ
    refine c_callVPi (a := 2) (z := 0) (as := [(0, (pI_placeOfRights p1 D))]) (rest := []) (ls' := [(10, 0), (0, (pI_placeOfRights p1 D))]) d_X4_unitsNotYetCounted_23 ck_RX4_77 rfl sh_2 rfl (by decide) (R 2 rfl) rfl rfl (Nat.le_of_ble_eq_true rfl) (Nat.le_of_ble_eq_true rfl) (by decide) rfl rfl (fun Ψ hΨ => run_pI_sizeAt R _ rfl hΨ) ?_
    show Run Γ rg κ Y_X4_unitsNotYetCounted 26 [(21, 0), (0, p1), (5, 0)] [(0, (pI_sizeAt (pI_placeOfRights p1 D) D))] D Φ
    refine r_goto (tgt := 30) d_X4_unitsNotYetCounted_26 (by decide) ?_
    exact (hJ1 (pI_sizeAt (pI_placeOfRights p1 D) D) D h)
set_option maxRecDepth 20000 in
theorem run_pH_addSubkeysToWalk_12 {Γ : GG} {rg : Nat → Bool} {κ : Nat} {Φ : OT → DD → Prop} (R : cov rg rg0) (a1 : Int) (a2 : Int) (a3 : Int) {K : DD → Res} (hK : ∀ (D : DD), WP (some .int) κ Φ (K D) → Run Γ rg κ Y_X7_addSubkeysToWalk 45 [(5, 0), (5, 0), (0, a2), (0, a3), (5, 0)] [] D Φ) : ∀ (n : Nat) (a4 : Int) (D : DD), WP (some .int) κ Φ (pH_addSubkeysToWalk_12 a1 a2 a3 n a4 D K) → Run Γ rg κ Y_X7_addSubkeysToWalk 12 [(8, 0), (0, a1), (0, a2), (0, a3), (0, a4)] [] D Φ := by
  intro n
  induction n with
  | zero => intro a4 D h; exact h.no.elim
  | succ n ih =>
    intro a4 D h
    rw [pH_addSubkeysToWalk_12] at h
    show Run Γ rg κ Y_X7_addSubkeysToWalk 12 [(8, 0), (0, a1), (0, a2), (0, a3), (0, a4)] [] D Φ
    refine r_iload d_X7_addSubkeysToWalk_12 rfl ?_
    refine r_iload_n d_X7_addSubkeysToWalk_14 rfl ?_
    refine c_icmp_ge (tgt := 45) d_X7_addSubkeysToWalk_15 (by decide) (nz_w _) (nz_w _) h (fun h => ?_) (fun h => ?_)
    · skip
      exact Run.forget (ls' := [(5, 0), (5, 0), (0, a2), (0, a3), (5, 0)]) ⟨Or.inl rfl, Or.inl rfl, Or.inr rfl, Or.inr rfl, Or.inl rfl, trivial⟩ (hK D h)
    · skip
      show Run Γ rg κ Y_X7_addSubkeysToWalk 18 [(8, 0), (0, a1), (0, a2), (0, a3), (0, a4)] [] D Φ
      refine r_aload_n d_X7_addSubkeysToWalk_18 rfl (by decide) ?_
      refine r_getR (t := 1) d_X7_addSubkeysToWalk_19 fk_RX7_9 sh_0 rfl (by decide) (R 0 rfl) ?_
      refine r_iload_n d_X7_addSubkeysToWalk_22 rfl ?_
      refine r_iload d_X7_addSubkeysToWalk_23 rfl ?_
      refine r_iadd d_X7_addSubkeysToWalk_25 ?_
      refine r_aload_n d_X7_addSubkeysToWalk_26 rfl (by decide) ?_
      refine r_getR (t := 11) d_X7_addSubkeysToWalk_27 fk_RX7_34 sh_0 rfl (by decide) (R 0 rfl) ?_
      refine r_iload_n d_X7_addSubkeysToWalk_30 rfl ?_
      refine r_iload d_X7_addSubkeysToWalk_31 rfl ?_
      refine c_callVi (t' := (some .int)) (a := 11) (z := 0) (as := [(0, a1), (0, a4)]) (rest := [(0, (a2 + a4)), (9, 0)]) (ls' := [(19, 0), (0, a1), (0, a4), (5, 0), (5, 0), (5, 0), (5, 0)]) d_X7_addSubkeysToWalk_33 ck_RX7_180 rfl sh_11 rfl (by decide) (R 11 rfl) rfl rfl (Nat.le_of_ble_eq_true rfl) (Nat.le_of_ble_eq_true rfl) (by decide) rfl rfl (fun _ => rfl) (fun κ' Ψ hΨ => run_pL_subkeyNumbered R _ _ hΨ) h (fun v1 D1 h => ?_)
      show Run Γ rg κ Y_X7_addSubkeysToWalk 36 [(8, 0), (0, a1), (0, a2), (0, a3), (0, a4)] [(0, v1), (0, (a2 + a4)), (9, 0)] D1 Φ
      refine c_callSD (as := [(9, 0), (0, (a2 + a4)), (0, v1)]) (rest := []) (ls' := [(9, 0), (0, (a2 + a4)), (0, v1)]) d_X7_addSubkeysToWalk_36 ck_RX7_261 rfl rfl rfl (Nat.le_of_ble_eq_true rfl) (Nat.le_of_ble_eq_true rfl) (by decide) rfl rfl (fun Ψ hΨ => run_pH_store sh_1 (by decide) (R 1 rfl) (by decide) _ _ hΨ) h (fun D2 h => ?_)
      show Run Γ rg κ Y_X7_addSubkeysToWalk 39 [(8, 0), (0, a1), (0, a2), (0, a3), (0, a4)] [] D2 Φ
      show Run Γ rg κ Y_X7_addSubkeysToWalk 39 [(8, 0), (0, a1), (0, a2), (0, a3), (0, a4)] [] D2 Φ
      refine r_iinc d_X7_addSubkeysToWalk_39 rfl (by decide) rfl ?_
      show Run Γ rg κ Y_X7_addSubkeysToWalk 42 [(8, 0), (0, a1), (0, a2), (0, a3), (0, (a4 + 1))] [] D2 Φ
      refine r_goto (tgt := 12) d_X7_addSubkeysToWalk_42 (by decide) ?_
      exact (ih (a4 + 1) D2 h)
set_option maxRecDepth 20000 in
theorem run_pH_addSubkeysToWalk {Γ : GG} {rg : Nat → Bool} {κ : Nat} {Φ : OT → DD → Prop} (R : cov rg rg0) (p1 : Int) (p2 : Int) {D : DD} (h : WP (some .int) κ Φ (pH_addSubkeysToWalk p1 p2 D)) : Run Γ rg κ Y_X7_addSubkeysToWalk 0 [(8, 0), (0, p1), (0, p2), (5, 0), (5, 0)] [] D Φ := by
  unfold pH_addSubkeysToWalk at h
  show Run Γ rg κ Y_X7_addSubkeysToWalk 0 [(8, 0), (0, p1), (0, p2), (5, 0), (5, 0)] [] D Φ
  refine r_aload_n d_X7_addSubkeysToWalk_0 rfl (by decide) ?_
  refine r_getR (t := 11) d_X7_addSubkeysToWalk_1 fk_RX7_34 sh_0 rfl (by decide) (R 0 rfl) ?_
  refine r_iload_n d_X7_addSubkeysToWalk_4 rfl ?_
  refine c_callVi (t' := (some .int)) (a := 11) (z := 0) (as := [(0, p1)]) (rest := []) (ls' := [(19, 0), (0, p1), (5, 0), (5, 0), (5, 0)]) d_X7_addSubkeysToWalk_5 ck_RX7_170 rfl sh_11 rfl (by decide) (R 11 rfl) rfl rfl (Nat.le_of_ble_eq_true rfl) (Nat.le_of_ble_eq_true rfl) (by decide) rfl rfl (fun _ => rfl) (fun κ' Ψ hΨ => run_pL_entryCount R _ hΨ) h (fun v1 D1 h => ?_)
  show Run Γ rg κ Y_X7_addSubkeysToWalk 8 [(8, 0), (0, p1), (0, p2), (5, 0), (5, 0)] [(0, v1)] D1 Φ
  refine r_istore_n d_X7_addSubkeysToWalk_8 (by decide) rfl ?_
  show Run Γ rg κ Y_X7_addSubkeysToWalk 9 [(8, 0), (0, p1), (0, p2), (0, v1), (5, 0)] [] D1 Φ
  refine r_iconst d_X7_addSubkeysToWalk_9 ?_
  refine r_istore d_X7_addSubkeysToWalk_10 (by decide) rfl ?_
  show Run Γ rg κ Y_X7_addSubkeysToWalk 12 [(8, 0), (0, p1), (0, p2), (0, v1), (0, 0)] [] D1 Φ
  refine run_pH_addSubkeysToWalk_12 R p1 p2 v1 ?_ fu 0 D1 h
  intro D2 h
  show Run Γ rg κ Y_X7_addSubkeysToWalk 45 [(5, 0), (5, 0), (0, p2), (0, v1), (5, 0)] [] D2 Φ
  refine r_iload_n d_X7_addSubkeysToWalk_45 rfl ?_
  refine r_iload_n d_X7_addSubkeysToWalk_46 rfl ?_
  refine r_iadd d_X7_addSubkeysToWalk_47 ?_
  exact c_iret d_X7_addSubkeysToWalk_48 rfl h
set_option maxRecDepth 20000 in
theorem run_pH_usedByTree_22 {Γ : GG} {rg : Nat → Bool} {κ : Nat} {Φ : OT → DD → Prop} (R : cov rg rg0) : ∀ (n : Nat) (a1 : Int) (a2 : Int) (a3 : Int) (D : DD), WP (some .int) κ Φ (pH_usedByTree_22 n a1 a2 a3 D) → Run Γ rg κ Y_X7_usedByTree 22 [(8, 0), (0, a1), (0, a2), (0, a3), (5, 0)] [] D Φ := by
  intro n
  induction n with
  | zero => intro a1 a2 a3 D h; exact h.no.elim
  | succ n ih =>
    intro a1 a2 a3 D h
    rw [pH_usedByTree_22] at h
    show Run Γ rg κ Y_X7_usedByTree 22 [(8, 0), (0, a1), (0, a2), (0, a3), (5, 0)] [] D Φ
    refine r_iload_n d_X7_usedByTree_22 rfl ?_
    refine r_iload_n d_X7_usedByTree_23 rfl ?_
    refine c_icmp_ge (tgt := 121) d_X7_usedByTree_24 (by decide) (nz_w _) (nz_w _) h (fun h => ?_) (fun h => ?_)
    · skip
      show Run Γ rg κ Y_X7_usedByTree 121 [(8, 0), (0, a1), (0, a2), (0, a3), (5, 0)] [] D Φ
      refine r_iload_n d_X7_usedByTree_121 rfl ?_
      exact c_iret d_X7_usedByTree_122 rfl h
    · skip
      show Run Γ rg κ Y_X7_usedByTree 27 [(8, 0), (0, a1), (0, a2), (0, a3), (5, 0)] [] D Φ
      refine r_iload_n d_X7_usedByTree_27 rfl ?_
      refine r_bipush d_X7_usedByTree_28 (by decide) ?_
      refine c_icmp_ge (tgt := 121) d_X7_usedByTree_30 (by decide) (nz_w _) (nz_k rfl) h (fun h => ?_) (fun h => ?_)
      · skip
        show Run Γ rg κ Y_X7_usedByTree 121 [(8, 0), (0, a1), (0, a2), (0, a3), (5, 0)] [] D Φ
        refine r_iload_n d_X7_usedByTree_121 rfl ?_
        exact c_iret d_X7_usedByTree_122 rfl h
      · skip
        show Run Γ rg κ Y_X7_usedByTree 33 [(8, 0), (0, a1), (0, a2), (0, a3), (5, 0)] [] D Φ
        refine r_aload_n d_X7_usedByTree_33 rfl (by decide) ?_
        refine r_getR (t := 2) d_X7_usedByTree_34 fk_RX7_21 sh_0 rfl (by decide) (R 0 rfl) ?_
        refine r_aload_n d_X7_usedByTree_37 rfl (by decide) ?_
        refine r_getR (t := 1) d_X7_usedByTree_38 fk_RX7_9 sh_0 rfl (by decide) (R 0 rfl) ?_
        refine r_iload_n d_X7_usedByTree_41 rfl ?_
        refine c_callSPi (as := [(9, 0), (0, a3)]) (rest := [(10, 0)]) (ls' := [(9, 0), (0, a3)]) d_X7_usedByTree_42 ck_RX7_265 rfl rfl rfl (Nat.le_of_ble_eq_true rfl) (Nat.le_of_ble_eq_true rfl) (by decide) rfl rfl (fun Ψ hΨ => run_pH_read sh_1 (by decide) (R 1 rfl) (by decide) _ rfl hΨ) ?_
        show Run Γ rg κ Y_X7_usedByTree 45 [(8, 0), (0, a1), (0, a2), (0, a3), (5, 0)] [(0, (rd 80 1 a3 D)), (10, 0)] D Φ
        refine c_callVPi (a := 2) (z := 0) (as := [(0, (rd 80 1 a3 D))]) (rest := []) (ls' := [(10, 0), (0, (rd 80 1 a3 D))]) d_X7_usedByTree_45 ck_RX7_108 rfl sh_2 rfl (by decide) (R 2 rfl) rfl rfl (Nat.le_of_ble_eq_true rfl) (Nat.le_of_ble_eq_true rfl) (by decide) rfl rfl (fun Ψ hΨ => run_pI_placeOfKey R _ rfl hΨ) ?_
        show Run Γ rg κ Y_X7_usedByTree 48 [(8, 0), (0, a1), (0, a2), (0, a3), (5, 0)] [(0, (pI_placeOfKey (rd 80 1 a3 D) D))] D Φ
        refine c_lt d_X7_usedByTree_48 (by decide) rfl h (fun x1 h => ?_)
        show Run Γ rg κ Y_X7_usedByTree 50 [(8, 0), (0, a1), (0, a2), (0, a3), (0, x1)] [] D Φ
        refine r_iload_n d_X7_usedByTree_50 rfl ?_
        refine r_aload_n d_X7_usedByTree_51 rfl (by decide) ?_
        refine r_getR (t := 2) d_X7_usedByTree_52 fk_RX7_21 sh_0 rfl (by decide) (R 0 rfl) ?_
        show Run Γ rg κ Y_X7_usedByTree 55 [(8, 0), (0, a1), (0, a2), (0, a3), (0, x1)] [(10, 0), (0, a2)] D Φ
        refine r_iload d_X7_usedByTree_55 rfl ?_
        refine c_callVPi (a := 2) (z := 0) (as := [(0, x1)]) (rest := [(0, a2)]) (ls' := [(10, 0), (0, x1)]) d_X7_usedByTree_57 ck_RX7_252 rfl sh_2 rfl (by decide) (R 2 rfl) rfl rfl (Nat.le_of_ble_eq_true rfl) (Nat.le_of_ble_eq_true rfl) (by decide) rfl rfl (fun Ψ hΨ => run_pI_sizeAt R _ rfl hΨ) ?_
        show Run Γ rg κ Y_X7_usedByTree 60 [(8, 0), (0, a1), (0, a2), (0, a3), (0, x1)] [(0, (pI_sizeAt x1 D)), (0, a2)] D Φ
        refine r_iadd d_X7_usedByTree_60 ?_
        refine c_lt_n d_X7_usedByTree_61 (by decide) rfl h (fun x2 h => ?_)
        show Run Γ rg κ Y_X7_usedByTree 62 [(8, 0), (0, a1), (0, x2), (0, a3), (0, x1)] [] D Φ
        refine r_iload_n d_X7_usedByTree_62 rfl ?_
        refine r_aload_n d_X7_usedByTree_63 rfl (by decide) ?_
        refine r_getR (t := 11) d_X7_usedByTree_64 fk_RX7_34 sh_0 rfl (by decide) (R 0 rfl) ?_
        refine r_iload d_X7_usedByTree_67 rfl ?_
        refine c_callVi (t' := (some .int)) (a := 11) (z := 0) (as := [(0, x1)]) (rest := [(0, x2)]) (ls' := [(19, 0), (0, x1), (5, 0), (5, 0), (5, 0), (5, 0)]) d_X7_usedByTree_69 ck_RX7_269 rfl sh_11 rfl (by decide) (R 11 rfl) rfl rfl (Nat.le_of_ble_eq_true rfl) (Nat.le_of_ble_eq_true rfl) (by decide) rfl rfl (fun _ => rfl) (fun κ' Ψ hΨ => run_pL_unitsOf R _ hΨ) h (fun v1 D1 h => ?_)
        show Run Γ rg κ Y_X7_usedByTree 72 [(8, 0), (0, a1), (0, x2), (0, a3), (0, x1)] [(0, v1), (0, x2)] D1 Φ
        refine r_iadd d_X7_usedByTree_72 ?_
        refine c_lt_n d_X7_usedByTree_73 (by decide) rfl h (fun x3 h => ?_)
        show Run Γ rg κ Y_X7_usedByTree 74 [(8, 0), (0, a1), (0, x3), (0, a3), (0, x1)] [] D1 Φ
        refine r_iload_n d_X7_usedByTree_74 rfl ?_
        show Run Γ rg κ Y_X7_usedByTree 75 [(8, 0), (0, a1), (0, x3), (0, a3), (0, x1)] [(0, x3)] D1 Φ
        refine r_aload_n d_X7_usedByTree_75 rfl (by decide) ?_
        refine r_getR (t := 12) d_X7_usedByTree_76 fk_RX7_41 sh_0 rfl (by decide) (R 0 rfl) ?_
        refine r_iload d_X7_usedByTree_79 rfl ?_
        refine c_callVi (t' := (some .int)) (a := 12) (z := 0) (as := [(0, x1)]) (rest := [(0, x3)]) (ls' := [(20, 0), (0, x1), (5, 0), (5, 0), (5, 0), (5, 0), (5, 0), (5, 0)]) d_X7_usedByTree_81 ck_RX7_272 rfl sh_12 rfl (by decide) (R 12 rfl) rfl rfl (Nat.le_of_ble_eq_true rfl) (Nat.le_of_ble_eq_true rfl) (by decide) rfl rfl (fun _ => rfl) (fun κ' Ψ hΨ => run_pV_unitsOf R _ hΨ) h (fun v2 D2 h => ?_)
        show Run Γ rg κ Y_X7_usedByTree 84 [(8, 0), (0, a1), (0, x3), (0, a3), (0, x1)] [(0, v2), (0, x3)] D2 Φ
        refine r_iadd d_X7_usedByTree_84 ?_
        refine c_lt_n d_X7_usedByTree_85 (by decide) rfl h (fun x4 h => ?_)
        show Run Γ rg κ Y_X7_usedByTree 86 [(8, 0), (0, a1), (0, x4), (0, a3), (0, x1)] [] D2 Φ
        refine r_iload_n d_X7_usedByTree_86 rfl ?_
        refine r_aload_n d_X7_usedByTree_87 rfl (by decide) ?_
        refine r_getR (t := 13) d_X7_usedByTree_88 fk_RX7_48 sh_0 rfl (by decide) (R 0 rfl) ?_
        refine r_aload_n d_X7_usedByTree_91 rfl (by decide) ?_
        refine r_getR (t := 2) d_X7_usedByTree_92 fk_RX7_21 sh_0 rfl (by decide) (R 0 rfl) ?_
        refine r_iload d_X7_usedByTree_95 rfl ?_
        show Run Γ rg κ Y_X7_usedByTree 97 [(8, 0), (0, a1), (0, x4), (0, a3), (0, x1)] [(0, x1), (10, 0), (21, 0), (0, x4)] D2 Φ
        refine r_iconst d_X7_usedByTree_97 ?_
        refine r_iadd d_X7_usedByTree_98 ?_
        refine c_callVPi (a := 2) (z := 0) (as := [(0, (x1 + 4))]) (rest := [(21, 0), (0, x4)]) (ls' := [(10, 0), (0, (x1 + 4))]) d_X7_usedByTree_99 ck_RX7_111 rfl sh_2 rfl (by decide) (R 2 rfl) rfl rfl (Nat.le_of_ble_eq_true rfl) (Nat.le_of_ble_eq_true rfl) (by decide) rfl rfl (fun Ψ hΨ => run_pI_unitAt R _ rfl hΨ) ?_
        show Run Γ rg κ Y_X7_usedByTree 102 [(8, 0), (0, a1), (0, x4), (0, a3), (0, x1)] [(0, (pI_unitAt (x1 + 4) D2)), (21, 0), (0, x4)] D2 Φ
        refine c_callVi (t' := (some .int)) (a := 13) (z := 0) (as := [(0, (pI_unitAt (x1 + 4) D2))]) (rest := [(0, x4)]) (ls' := [(21, 0), (0, (pI_unitAt (x1 + 4) D2)), (5, 0)]) d_X7_usedByTree_102 ck_RX7_273 rfl sh_13 rfl (by decide) (R 13 rfl) rfl rfl (Nat.le_of_ble_eq_true rfl) (Nat.le_of_ble_eq_true rfl) (by decide) rfl rfl (fun _ => rfl) (fun κ' Ψ hΨ => run_pS_unitsNotYetCounted R _ hΨ) h (fun v3 D3 h => ?_)
        show Run Γ rg κ Y_X7_usedByTree 105 [(8, 0), (0, a1), (0, x4), (0, a3), (0, x1)] [(0, v3), (0, x4)] D3 Φ
        refine r_iadd d_X7_usedByTree_105 ?_
        refine c_lt_n d_X7_usedByTree_106 (by decide) rfl h (fun x5 h => ?_)
        show Run Γ rg κ Y_X7_usedByTree 107 [(8, 0), (0, a1), (0, x5), (0, a3), (0, x1)] [] D3 Φ
        refine r_aload_n d_X7_usedByTree_107 rfl (by decide) ?_
        refine r_iload d_X7_usedByTree_108 rfl ?_
        refine r_iload_n d_X7_usedByTree_110 rfl ?_
        refine c_callVi (t' := (some .int)) (a := 0) (z := 0) (as := [(0, x1), (0, a1)]) (rest := []) (ls' := [(8, 0), (0, x1), (0, a1), (5, 0), (5, 0)]) d_X7_usedByTree_111 ck_RX7_276 rfl sh_0 rfl (by decide) (R 0 rfl) rfl rfl (Nat.le_of_ble_eq_true rfl) (Nat.le_of_ble_eq_true rfl) (by decide) rfl rfl (fun _ => rfl) (fun κ' Ψ hΨ => run_pH_addSubkeysToWalk R _ _ hΨ) h (fun v4 D4 h => ?_)
        show Run Γ rg κ Y_X7_usedByTree 114 [(8, 0), (0, a1), (0, x5), (0, a3), (0, x1)] [(0, v4)] D4 Φ
        refine r_istore_n d_X7_usedByTree_114 (by decide) rfl ?_
        show Run Γ rg κ Y_X7_usedByTree 115 [(8, 0), (0, v4), (0, x5), (0, a3), (0, x1)] [] D4 Φ
        refine r_iinc d_X7_usedByTree_115 rfl (by decide) rfl ?_
        show Run Γ rg κ Y_X7_usedByTree 118 [(8, 0), (0, v4), (0, x5), (0, (a3 + 1)), (0, x1)] [] D4 Φ
        show Run Γ rg κ Y_X7_usedByTree 118 [(8, 0), (0, v4), (0, x5), (0, (a3 + 1)), (0, x1)] [] D4 Φ
        refine r_goto (tgt := 22) d_X7_usedByTree_118 (by decide) ?_
        exact Run.forget (ls' := [(8, 0), (0, v4), (0, x5), (0, (a3 + 1)), (5, 0)]) ⟨Or.inr rfl, Or.inr rfl, Or.inr rfl, Or.inr rfl, Or.inl rfl, trivial⟩ (ih v4 x5 (a3 + 1) D4 h)
set_option maxRecDepth 20000 in
theorem run_pH_usedByTree {Γ : GG} {rg : Nat → Bool} {κ : Nat} {Φ : OT → DD → Prop} (R : cov rg rg0) {D : DD} (h : WP (some .int) κ Φ (pH_usedByTree D)) : Run Γ rg κ Y_X7_usedByTree 0 [(8, 0), (5, 0), (5, 0), (5, 0), (5, 0)] [] D Φ := by
  unfold pH_usedByTree at h
  show Run Γ rg κ Y_X7_usedByTree 0 [(8, 0), (5, 0), (5, 0), (5, 0), (5, 0)] [] D Φ
  refine r_aload_n d_X7_usedByTree_0 rfl (by decide) ?_
  refine r_getR (t := 13) d_X7_usedByTree_1 fk_RX7_48 sh_0 rfl (by decide) (R 0 rfl) ?_
  refine c_callVv (a := 13) (z := 0) (as := []) (rest := []) (ls' := [(21, 0)]) d_X7_usedByTree_4 ck_RX7_258 rfl sh_13 rfl (by decide) (R 13 rfl) rfl rfl (Nat.le_of_ble_eq_true rfl) (Nat.le_of_ble_eq_true rfl) (by decide) rfl rfl (fun κ' Ψ hΨ => run_pS_startCounting R hΨ) h (fun _ D1 h => ?_)
  show Run Γ rg κ Y_X7_usedByTree 7 [(8, 0), (5, 0), (5, 0), (5, 0), (5, 0)] [] D1 Φ
  refine r_aload_n d_X7_usedByTree_7 rfl (by decide) ?_
  refine r_getR (t := 1) d_X7_usedByTree_8 fk_RX7_9 sh_0 rfl (by decide) (R 0 rfl) ?_
  refine r_iconst d_X7_usedByTree_11 ?_
  refine r_iconst d_X7_usedByTree_12 ?_
  refine c_callSD (as := [(9, 0), (0, 0), (0, 0)]) (rest := []) (ls' := [(9, 0), (0, 0), (0, 0)]) d_X7_usedByTree_13 ck_RX7_261 rfl rfl rfl (Nat.le_of_ble_eq_true rfl) (Nat.le_of_ble_eq_true rfl) (by decide) rfl rfl (fun Ψ hΨ => run_pH_store sh_1 (by decide) (R 1 rfl) (by decide) _ _ hΨ) h (fun D2 h => ?_)
  show Run Γ rg κ Y_X7_usedByTree 16 [(8, 0), (5, 0), (5, 0), (5, 0), (5, 0)] [] D2 Φ
  refine r_iconst d_X7_usedByTree_16 ?_
  refine r_istore_n d_X7_usedByTree_17 (by decide) rfl ?_
  show Run Γ rg κ Y_X7_usedByTree 18 [(8, 0), (0, 1), (5, 0), (5, 0), (5, 0)] [] D2 Φ
  refine r_iconst d_X7_usedByTree_18 ?_
  show Run Γ rg κ Y_X7_usedByTree 19 [(8, 0), (0, 1), (5, 0), (5, 0), (5, 0)] [(0, 0)] D2 Φ
  refine r_istore_n d_X7_usedByTree_19 (by decide) rfl ?_
  show Run Γ rg κ Y_X7_usedByTree 20 [(8, 0), (0, 1), (0, 0), (5, 0), (5, 0)] [] D2 Φ
  refine r_iconst d_X7_usedByTree_20 ?_
  refine r_istore_n d_X7_usedByTree_21 (by decide) rfl ?_
  show Run Γ rg κ Y_X7_usedByTree 22 [(8, 0), (0, 1), (0, 0), (0, 0), (5, 0)] [] D2 Φ
  exact run_pH_usedByTree_22 R fu 1 0 0 D2 h
set_option maxRecDepth 20000 in
theorem run_pW_isWatched {Γ : GG} {rg : Nat → Bool} {κ : Nat} {Φ : OT → DD → Prop} (R : cov rg rg0) (p1 : Int) {D : DD} {x : Int} (h : EQx x (pW_isWatched p1 D)) (hΦ : Φ (.inl (some (0, x))) D) : Run Γ rg κ Y_X6_isWatched 0 [(23, 0), (0, p1)] [] D Φ := by
  unfold pW_isWatched at h
  show Run Γ rg κ Y_X6_isWatched 0 [(23, 0), (0, p1)] [] D Φ
  refine r_aload_n d_X6_isWatched_0 rfl (by decide) ?_
  refine r_getR (t := 16) d_X6_isWatched_1 fk_RX6_9 sh_15 rfl (by decide) (R 15 rfl) ?_
  refine r_iload_n d_X6_isWatched_4 rfl ?_
  refine c_callNPi (as := [(24, 0), (0, p1)]) (rest := []) (ls' := [(24, 0), (0, p1)]) d_X6_isWatched_5 ck_RX6_24 rfl rfl rfl (Nat.le_of_ble_eq_true rfl) (Nat.le_of_ble_eq_true rfl) (by decide) rfl rfl (fun Ψ hΨ => run_pH_read sh_16 (by decide) (R 16 rfl) (by decide) _ rfl hΨ) ?_
  show Run Γ rg κ Y_X6_isWatched 8 [(23, 0), (0, p1)] [(0, (rd 80 16 p1 D))] D Φ
  refine c_if_eq (tgt := 15) d_X6_isWatched_8 (by decide) (nz_w _) h (fun h => ?_) (fun h => ?_)
  · skip
    show Run Γ rg κ Y_X6_isWatched 15 [(23, 0), (0, p1)] [] D Φ
    refine r_iconst d_X6_isWatched_15 ?_
    exact e_zret d_X6_isWatched_16 rfl (Or.inl rfl) h hΦ
  · skip
    show Run Γ rg κ Y_X6_isWatched 11 [(23, 0), (0, p1)] [] D Φ
    refine r_iconst d_X6_isWatched_11 ?_
    refine r_goto (tgt := 16) d_X6_isWatched_12 (by decide) ?_
    show Run Γ rg κ Y_X6_isWatched 16 [(23, 0), (0, p1)] [(0, 1)] D Φ
    exact e_zret d_X6_isWatched_16 rfl (Or.inr rfl) h hΦ
set_option maxRecDepth 20000 in
theorem run_pH_watch {Γ : GG} {rg : Nat → Bool} {κ : Nat} {Φ : OT → DD → Prop} (R : cov rg rg0) (p1 : Int) (p2 : Int) (p3 : Int) {D : DD} (h : WP (some .boolean) κ Φ (pH_watch p1 p2 p3 D)) : Run Γ rg κ Y_X7_watch 0 [(8, 0), (0, p1), (0, p2), (0, p3), (5, 0)] [] D Φ := by
  unfold pH_watch at h
  show Run Γ rg κ Y_X7_watch 0 [(8, 0), (0, p1), (0, p2), (0, p3), (5, 0)] [] D Φ
  refine r_aload_n d_X7_watch_0 rfl (by decide) ?_
  refine r_iload_n d_X7_watch_1 rfl ?_
  refine c_callVv (a := 0) (z := 0) (as := [(0, p1)]) (rest := []) (ls' := [(8, 0), (0, p1)]) d_X7_watch_2 ck_RX7_95 rfl sh_0 rfl (by decide) (R 0 rfl) rfl rfl (Nat.le_of_ble_eq_true rfl) (Nat.le_of_ble_eq_true rfl) (by decide) rfl rfl (fun κ' Ψ hΨ => run_pH_requireKey R _ hΨ) h (fun _ D1 h => ?_)
  show Run Γ rg κ Y_X7_watch 5 [(8, 0), (0, p1), (0, p2), (0, p3), (5, 0)] [] D1 Φ
  refine r_iload_n d_X7_watch_5 rfl ?_
  refine r_iconst d_X7_watch_6 ?_
  refine c_jn (fun J => ∀ (D2 : DD), WP (some .boolean) κ Φ (J D2) → Run Γ rg κ Y_X7_watch 16 [(5, 0), (5, 0), (5, 0), (5, 0), (5, 0)] [] D2 Φ) h ?_ (fun J1 hJ1 h => ?_)
  · intro D2 h
    show Run Γ rg κ Y_X7_watch 16 [(5, 0), (5, 0), (5, 0), (5, 0), (5, 0)] [] D2 Φ
    exact c_throwW (text := "the kinds are out of range") tk_RX7_279_283 (by decide +kernel) d_X7_watch_16 d_X7_watch_19 d_X7_watch_20 d_X7_watch_23 d_X7_watch_26 rfl (by decide) (Nat.le_of_ble_eq_true rfl) h
  refine c_icmp_lt (tgt := 16) d_X7_watch_7 (by decide) (nz_w _) (nz_k rfl) h (fun h => ?_) (fun h => ?_)
  · skip
    exact Run.forget (ls' := [(5, 0), (5, 0), (5, 0), (5, 0), (5, 0)]) ⟨Or.inl rfl, Or.inl rfl, Or.inl rfl, Or.inl rfl, Or.inr rfl, trivial⟩ (hJ1 D1 h)
  · skip
    show Run Γ rg κ Y_X7_watch 10 [(8, 0), (0, p1), (0, p2), (0, p3), (5, 0)] [] D1 Φ
    refine r_iload_n d_X7_watch_10 rfl ?_
    refine r_bipush d_X7_watch_11 (by decide) ?_
    refine c_icmp_le (tgt := 27) d_X7_watch_13 (by decide) (nz_w _) (nz_k rfl) h (fun h => ?_) (fun h => ?_)
    · skip
      show Run Γ rg κ Y_X7_watch 27 [(8, 0), (0, p1), (0, p2), (0, p3), (5, 0)] [] D1 Φ
      refine r_aload_n d_X7_watch_27 rfl (by decide) ?_
      refine r_getR (t := 15) d_X7_watch_28 fk_RX7_55 sh_0 rfl (by decide) (R 0 rfl) ?_
      refine r_iload_n d_X7_watch_31 rfl ?_
      refine c_callVPi (a := 15) (z := 0) (as := [(0, p1)]) (rest := []) (ls' := [(23, 0), (0, p1)]) d_X7_watch_32 ck_RX7_284 rfl sh_15 rfl (by decide) (R 15 rfl) rfl rfl (Nat.le_of_ble_eq_true rfl) (Nat.le_of_ble_eq_true rfl) (by decide) rfl rfl (fun Ψ hΨ => run_pW_isWatched R _ rfl hΨ) ?_
      show Run Γ rg κ Y_X7_watch 35 [(8, 0), (0, p1), (0, p2), (0, p3), (5, 0)] [(0, (pW_isWatched p1 D1))] D1 Φ
      refine c_jn (fun J => ∀ (x1 : Int) (D3 : DD), WP (some .boolean) κ Φ (J x1 D3) → Run Γ rg κ Y_X7_watch 43 [(8, 0), (0, p1), (0, p2), (0, p3), (5, 0)] [(0, x1)] D3 Φ) h ?_ (fun J2 hJ2 h => ?_)
      · intro x1 D3 h
        show Run Γ rg κ Y_X7_watch 43 [(8, 0), (0, p1), (0, p2), (0, p3), (5, 0)] [(0, x1)] D3 Φ
        refine r_istore d_X7_watch_43 (by decide) rfl ?_
        show Run Γ rg κ Y_X7_watch 45 [(8, 0), (0, p1), (0, p2), (0, p3), (0, x1)] [] D3 Φ
        refine r_aload_n d_X7_watch_45 rfl (by decide) ?_
        refine r_getR (t := 15) d_X7_watch_46 fk_RX7_55 sh_0 rfl (by decide) (R 0 rfl) ?_
        refine r_iload_n d_X7_watch_49 rfl ?_
        refine r_iload_n d_X7_watch_50 rfl ?_
        refine r_iload_n d_X7_watch_51 rfl ?_
        refine c_callVD (a := 15) (z := 0) (as := [(0, p1), (0, p2), (0, p3)]) (rest := []) (ls' := [(23, 0), (0, p1), (0, p2), (0, p3)]) d_X7_watch_52 ck_RX7_287 rfl sh_15 rfl (by decide) (R 15 rfl) rfl rfl (Nat.le_of_ble_eq_true rfl) (Nat.le_of_ble_eq_true rfl) (by decide) rfl rfl (fun Ψ hΨ => run_pW_start R _ _ _ hΨ) h (fun D4 h => ?_)
        show Run Γ rg κ Y_X7_watch 55 [(8, 0), (0, p1), (0, p2), (0, p3), (0, x1)] [] D4 Φ
        refine r_iload d_X7_watch_55 rfl ?_
        exact c_zretZ d_X7_watch_57 rfl h
      refine c_if_ne (tgt := 42) d_X7_watch_35 (by decide) (nz_b (pW_isWatched_b p1 D1)) h (fun h => ?_) (fun h => ?_)
      · skip
        show Run Γ rg κ Y_X7_watch 42 [(8, 0), (0, p1), (0, p2), (0, p3), (5, 0)] [] D1 Φ
        refine r_iconst d_X7_watch_42 ?_
        exact (hJ2 0 D1 h)
      · skip
        show Run Γ rg κ Y_X7_watch 38 [(8, 0), (0, p1), (0, p2), (0, p3), (5, 0)] [] D1 Φ
        refine r_iconst d_X7_watch_38 ?_
        refine r_goto (tgt := 43) d_X7_watch_39 (by decide) ?_
        exact (hJ2 1 D1 h)
    · skip
      exact Run.forget (ls' := [(5, 0), (5, 0), (5, 0), (5, 0), (5, 0)]) ⟨Or.inl rfl, Or.inl rfl, Or.inl rfl, Or.inl rfl, Or.inr rfl, trivial⟩ (hJ1 D1 h)
set_option maxRecDepth 20000 in
theorem run_pW_keyToldFirst_4 {Γ : GG} {rg : Nat → Bool} {κ : Nat} {Φ : OT → DD → Prop} (R : cov rg rg0) : ∀ (n : Nat) (a1 : Int) (a2 : Int) (D : DD), WP (some .int) κ Φ (pW_keyToldFirst_4 n a1 a2 D) → Run Γ rg κ Y_X6_keyToldFirst 4 [(23, 0), (0, a1), (0, a2), (5, 0)] [] D Φ := by
  intro n
  induction n with
  | zero => intro a1 a2 D h; exact h.no.elim
  | succ n ih =>
    intro a1 a2 D h
    rw [pW_keyToldFirst_4] at h
    show Run Γ rg κ Y_X6_keyToldFirst 4 [(23, 0), (0, a1), (0, a2), (5, 0)] [] D Φ
    refine r_iload_n d_X6_keyToldFirst_4 rfl ?_
    refine r_bipush d_X6_keyToldFirst_5 (by decide) ?_
    refine c_icmp_ge (tgt := 48) d_X6_keyToldFirst_7 (by decide) (nz_w _) (nz_k rfl) h (fun h => ?_) (fun h => ?_)
    · skip
      show Run Γ rg κ Y_X6_keyToldFirst 48 [(23, 0), (0, a1), (0, a2), (5, 0)] [] D Φ
      refine r_iload_n d_X6_keyToldFirst_48 rfl ?_
      exact c_iret d_X6_keyToldFirst_49 rfl h
    · skip
      show Run Γ rg κ Y_X6_keyToldFirst 10 [(23, 0), (0, a1), (0, a2), (5, 0)] [] D Φ
      refine r_aload_n d_X6_keyToldFirst_10 rfl (by decide) ?_
      refine r_getR (t := 19) d_X6_keyToldFirst_11 fk_RX6_21 sh_15 rfl (by decide) (R 15 rfl) ?_
      refine r_iload_n d_X6_keyToldFirst_14 rfl ?_
      refine c_callNPi (as := [(27, 0), (0, a2)]) (rest := []) (ls' := [(27, 0), (0, a2)]) d_X6_keyToldFirst_15 ck_RX6_24 rfl rfl rfl (Nat.le_of_ble_eq_true rfl) (Nat.le_of_ble_eq_true rfl) (by decide) rfl rfl (fun Ψ hΨ => run_pH_read sh_19 (by decide) (R 19 rfl) (by decide) _ rfl hΨ) ?_
      show Run Γ rg κ Y_X6_keyToldFirst 18 [(23, 0), (0, a1), (0, a2), (5, 0)] [(0, (rd 80 19 a2 D))] D Φ
      refine c_lt_n d_X6_keyToldFirst_18 (by decide) rfl h (fun x1 h => ?_)
      show Run Γ rg κ Y_X6_keyToldFirst 19 [(23, 0), (0, a1), (0, a2), (0, x1)] [] D Φ
      refine r_iload_n d_X6_keyToldFirst_19 rfl ?_
      refine c_jn (fun J => ∀ (x2 : Int) (D1 : DD), WP (some .int) κ Φ (J x2 D1) → Run Γ rg κ Y_X6_keyToldFirst 42 [(23, 0), (0, x2), (0, a2), (5, 0)] [] D1 Φ) h ?_ (fun J1 hJ1 h => ?_)
      · intro x2 D1 h
        show Run Γ rg κ Y_X6_keyToldFirst 42 [(23, 0), (0, x2), (0, a2), (5, 0)] [] D1 Φ
        refine r_iinc d_X6_keyToldFirst_42 rfl (by decide) rfl ?_
        show Run Γ rg κ Y_X6_keyToldFirst 45 [(23, 0), (0, x2), (0, (a2 + 1)), (5, 0)] [] D1 Φ
        refine r_goto (tgt := 4) d_X6_keyToldFirst_45 (by decide) ?_
        exact (ih x2 (a2 + 1) D1 h)
      refine c_if_eq (tgt := 42) d_X6_keyToldFirst_20 (by decide) (nz_w _) h (fun h => ?_) (fun h => ?_)
      · skip
        exact Run.forget (ls' := [(23, 0), (0, a1), (0, a2), (5, 0)]) ⟨Or.inr rfl, Or.inr rfl, Or.inr rfl, Or.inl rfl, trivial⟩ (hJ1 a1 D h)
      · skip
        show Run Γ rg κ Y_X6_keyToldFirst 23 [(23, 0), (0, a1), (0, a2), (0, x1)] [] D Φ
        refine r_iload_n d_X6_keyToldFirst_23 rfl ?_
        refine r_iconst d_X6_keyToldFirst_24 ?_
        refine c_jn (fun J => ∀ (D2 : DD), WP (some .int) κ Φ (J D2) → Run Γ rg κ Y_X6_keyToldFirst 40 [(23, 0), (5, 0), (0, a2), (5, 0)] [] D2 Φ) h ?_ (fun J2 hJ2 h => ?_)
        · intro D2 h
          show Run Γ rg κ Y_X6_keyToldFirst 40 [(23, 0), (5, 0), (0, a2), (5, 0)] [] D2 Φ
          refine r_iload_n d_X6_keyToldFirst_40 rfl ?_
          refine r_istore_n d_X6_keyToldFirst_41 (by decide) rfl ?_
          show Run Γ rg κ Y_X6_keyToldFirst 42 [(23, 0), (0, a2), (0, a2), (5, 0)] [] D2 Φ
          exact (hJ1 a2 D2 h)
        refine c_icmp_eq (tgt := 40) d_X6_keyToldFirst_25 (by decide) (nz_w _) (nz_k rfl) h (fun h => ?_) (fun h => ?_)
        · skip
          exact Run.forget (ls' := [(23, 0), (5, 0), (0, a2), (5, 0)]) ⟨Or.inr rfl, Or.inl rfl, Or.inr rfl, Or.inl rfl, trivial⟩ (hJ2 D h)
        · skip
          show Run Γ rg κ Y_X6_keyToldFirst 28 [(23, 0), (0, a1), (0, a2), (0, x1)] [] D Φ
          refine r_iload_n d_X6_keyToldFirst_28 rfl ?_
          refine r_aload_n d_X6_keyToldFirst_29 rfl (by decide) ?_
          refine r_getR (t := 19) d_X6_keyToldFirst_30 fk_RX6_21 sh_15 rfl (by decide) (R 15 rfl) ?_
          refine r_iload_n d_X6_keyToldFirst_33 rfl ?_
          refine c_callNPi (as := [(27, 0), (0, a1)]) (rest := [(0, x1)]) (ls' := [(27, 0), (0, a1)]) d_X6_keyToldFirst_34 ck_RX6_24 rfl rfl rfl (Nat.le_of_ble_eq_true rfl) (Nat.le_of_ble_eq_true rfl) (by decide) rfl rfl (fun Ψ hΨ => run_pH_read sh_19 (by decide) (R 19 rfl) (by decide) _ rfl hΨ) ?_
          show Run Γ rg κ Y_X6_keyToldFirst 37 [(23, 0), (0, a1), (0, a2), (0, x1)] [(0, (rd 80 19 a1 D)), (0, x1)] D Φ
          refine c_icmp_ge (tgt := 42) d_X6_keyToldFirst_37 (by decide) (nz_w _) (nz_w _) h (fun h => ?_) (fun h => ?_)
          · skip
            exact Run.forget (ls' := [(23, 0), (0, a1), (0, a2), (5, 0)]) ⟨Or.inr rfl, Or.inr rfl, Or.inr rfl, Or.inl rfl, trivial⟩ (hJ1 a1 D h)
          · skip
            exact Run.forget (ls' := [(23, 0), (5, 0), (0, a2), (5, 0)]) ⟨Or.inr rfl, Or.inl rfl, Or.inr rfl, Or.inl rfl, trivial⟩ (hJ2 D h)
set_option maxRecDepth 20000 in
theorem run_pW_keyToldFirst {Γ : GG} {rg : Nat → Bool} {κ : Nat} {Φ : OT → DD → Prop} (R : cov rg rg0) {D : DD} (h : WP (some .int) κ Φ (pW_keyToldFirst D)) : Run Γ rg κ Y_X6_keyToldFirst 0 [(23, 0), (5, 0), (5, 0), (5, 0)] [] D Φ := by
  unfold pW_keyToldFirst at h
  show Run Γ rg κ Y_X6_keyToldFirst 0 [(23, 0), (5, 0), (5, 0), (5, 0)] [] D Φ
  refine r_iconst d_X6_keyToldFirst_0 ?_
  refine r_istore_n d_X6_keyToldFirst_1 (by decide) rfl ?_
  show Run Γ rg κ Y_X6_keyToldFirst 2 [(23, 0), (0, (-1)), (5, 0), (5, 0)] [] D Φ
  refine r_iconst d_X6_keyToldFirst_2 ?_
  refine r_istore_n d_X6_keyToldFirst_3 (by decide) rfl ?_
  show Run Γ rg κ Y_X6_keyToldFirst 4 [(23, 0), (0, (-1)), (0, 0), (5, 0)] [] D Φ
  exact run_pW_keyToldFirst_4 R fu (-1) 0 D h
set_option maxRecDepth 20000 in
theorem run_pW_takeKindTold {Γ : GG} {rg : Nat → Bool} {κ : Nat} {Φ : OT → DD → Prop} (R : cov rg rg0) (p1 : Int) {D : DD} (h : WP (some .int) κ Φ (pW_takeKindTold p1 D)) : Run Γ rg κ Y_X6_takeKindTold 0 [(23, 0), (0, p1)] [] D Φ := by
  unfold pW_takeKindTold at h
  show Run Γ rg κ Y_X6_takeKindTold 0 [(23, 0), (0, p1)] [] D Φ
  refine r_aload_n d_X6_takeKindTold_0 rfl (by decide) ?_
  refine r_getR (t := 19) d_X6_takeKindTold_1 fk_RX6_21 sh_15 rfl (by decide) (R 15 rfl) ?_
  refine r_iload_n d_X6_takeKindTold_4 rfl ?_
  refine r_iconst d_X6_takeKindTold_5 ?_
  refine c_callND (as := [(27, 0), (0, p1), (0, 0)]) (rest := []) (ls' := [(27, 0), (0, p1), (0, 0)]) d_X6_takeKindTold_6 ck_RX6_28 rfl rfl rfl (Nat.le_of_ble_eq_true rfl) (Nat.le_of_ble_eq_true rfl) (by decide) rfl rfl (fun Ψ hΨ => run_pH_store sh_19 (by decide) (R 19 rfl) (by decide) _ _ hΨ) h (fun D1 h => ?_)
  show Run Γ rg κ Y_X6_takeKindTold 9 [(23, 0), (0, p1)] [] D1 Φ
  refine r_aload_n d_X6_takeKindTold_9 rfl (by decide) ?_
  refine r_getR (t := 18) d_X6_takeKindTold_10 fk_RX6_18 sh_15 rfl (by decide) (R 15 rfl) ?_
  refine r_iload_n d_X6_takeKindTold_13 rfl ?_
  refine c_callNPi (as := [(26, 0), (0, p1)]) (rest := []) (ls' := [(26, 0), (0, p1)]) d_X6_takeKindTold_14 ck_RX6_24 rfl rfl rfl (Nat.le_of_ble_eq_true rfl) (Nat.le_of_ble_eq_true rfl) (by decide) rfl rfl (fun Ψ hΨ => run_pH_read sh_18 (by decide) (R 18 rfl) (by decide) _ rfl hΨ) ?_
  show Run Γ rg κ Y_X6_takeKindTold 17 [(23, 0), (0, p1)] [(0, (rd 80 18 p1 D1))] D1 Φ
  exact c_iret d_X6_takeKindTold_17 rfl h
set_option maxRecDepth 20000 in
theorem run_pH_takeNotice {Γ : GG} {rg : Nat → Bool} {κ : Nat} {Φ : OT → DD → Prop} (R : cov rg rg0) {D : DD} (h : WP (some .int) κ Φ (pH_takeNotice D)) : Run Γ rg κ Y_X7_takeNotice 0 [(8, 0), (5, 0)] [] D Φ := by
  unfold pH_takeNotice at h
  show Run Γ rg κ Y_X7_takeNotice 0 [(8, 0), (5, 0)] [] D Φ
  refine r_aload_n d_X7_takeNotice_0 rfl (by decide) ?_
  refine r_getR (t := 15) d_X7_takeNotice_1 fk_RX7_55 sh_0 rfl (by decide) (R 0 rfl) ?_
  refine c_callVi (t' := (some .int)) (a := 15) (z := 0) (as := []) (rest := []) (ls' := [(23, 0), (5, 0), (5, 0), (5, 0)]) d_X7_takeNotice_4 ck_RX7_291 rfl sh_15 rfl (by decide) (R 15 rfl) rfl rfl (Nat.le_of_ble_eq_true rfl) (Nat.le_of_ble_eq_true rfl) (by decide) rfl rfl (fun _ => rfl) (fun κ' Ψ hΨ => run_pW_keyToldFirst R hΨ) h (fun v1 D1 h => ?_)
  show Run Γ rg κ Y_X7_takeNotice 7 [(8, 0), (5, 0)] [(0, v1)] D1 Φ
  refine r_istore_n d_X7_takeNotice_7 (by decide) rfl ?_
  show Run Γ rg κ Y_X7_takeNotice 8 [(8, 0), (0, v1)] [] D1 Φ
  refine r_iload_n d_X7_takeNotice_8 rfl ?_
  refine r_iconst d_X7_takeNotice_9 ?_
  refine c_icmp_ne (tgt := 17) d_X7_takeNotice_10 (by decide) (nz_w _) (nz_k rfl) h (fun h => ?_) (fun h => ?_)
  · skip
    show Run Γ rg κ Y_X7_takeNotice 17 [(8, 0), (0, v1)] [] D1 Φ
    refine r_bipush d_X7_takeNotice_17 (by decide) ?_
    refine r_iload_n d_X7_takeNotice_19 rfl ?_
    refine r_imul d_X7_takeNotice_20 ?_
    refine r_aload_n d_X7_takeNotice_21 rfl (by decide) ?_
    refine r_getR (t := 15) d_X7_takeNotice_22 fk_RX7_55 sh_0 rfl (by decide) (R 0 rfl) ?_
    refine r_iload_n d_X7_takeNotice_25 rfl ?_
    refine c_callVi (t' := (some .int)) (a := 15) (z := 0) (as := [(0, v1)]) (rest := [(0, (10 * v1))]) (ls' := [(23, 0), (0, v1)]) d_X7_takeNotice_26 ck_RX7_294 rfl sh_15 rfl (by decide) (R 15 rfl) rfl rfl (Nat.le_of_ble_eq_true rfl) (Nat.le_of_ble_eq_true rfl) (by decide) rfl rfl (fun _ => rfl) (fun κ' Ψ hΨ => run_pW_takeKindTold R _ hΨ) h (fun v2 D2 h => ?_)
    show Run Γ rg κ Y_X7_takeNotice 29 [(8, 0), (0, v1)] [(0, v2), (0, (10 * v1))] D2 Φ
    refine r_iadd d_X7_takeNotice_29 ?_
    exact c_iret d_X7_takeNotice_30 rfl h
  · skip
    show Run Γ rg κ Y_X7_takeNotice 13 [(8, 0), (0, v1)] [] D1 Φ
    refine r_iconst d_X7_takeNotice_13 ?_
    refine r_goto (tgt := 30) d_X7_takeNotice_14 (by decide) ?_
    show Run Γ rg κ Y_X7_takeNotice 30 [(8, 0), (0, v1)] [(0, (-1))] D1 Φ
    exact c_iret d_X7_takeNotice_30 rfl h
set_option maxRecDepth 20000 in
theorem run_pH_dirty {Γ : GG} {rg : Nat → Bool} {κ : Nat} {Φ : OT → DD → Prop} (R : cov rg rg0) {D : DD} {x : Int} (h : EQx x (pH_dirty D)) (hΦ : Φ (.inl (some (1, x))) D) : Run Γ rg κ Y_X7_dirty 0 [(8, 0)] [] D Φ := by
  unfold pH_dirty at h
  show Run Γ rg κ Y_X7_dirty 0 [(8, 0)] [] D Φ
  refine r_aload_n d_X7_dirty_0 rfl (by decide) ?_
  refine r_getR (t := 7) d_X7_dirty_1 fk_RX7_25 sh_0 rfl (by decide) (R 0 rfl) ?_
  refine r_getJ d_X7_dirty_4 fk_RX7_297 sh_7 rfl (by decide) (R 7 rfl) ?_
  exact e_lret d_X7_dirty_7 rfl h hΦ
set_option maxRecDepth 20000 in
theorem run_pJ_bitCount {Γ : GG} {rg : Nat → Bool} {κ : Nat} {Φ : OT → DD → Prop} (R : cov rg rg0) (p1 : Int) {D : DD} {x : Int} (h : EQx x (pJ_bitCount p1)) (hΦ : Φ (.inl (some (0, x))) D) : Run Γ rg κ Y_J13_bitCount_95d88 0 [(1, p1), (5, 0)] [] D Φ := by
  unfold pJ_bitCount at h
  show Run Γ rg κ Y_J13_bitCount_95d88 0 [(1, p1), (5, 0)] [] D Φ
  refine r_lload_n d_J13_bitCount_95d88_0 rfl ?_
  refine r_lload_n d_J13_bitCount_95d88_1 rfl ?_
  refine r_iconst d_J13_bitCount_95d88_2 ?_
  refine c_lushr d_J13_bitCount_95d88_3 ?_
  refine r_ldc2 d_J13_bitCount_95d88_4 kl_RJ13_314 ?_
  refine c_land d_J13_bitCount_95d88_7 ?_
  refine r_lsub d_J13_bitCount_95d88_8 ?_
  refine c_ltj_n d_J13_bitCount_95d88_9 (by decide) rfl h (fun x1 h => ?_)
  show Run Γ rg κ Y_J13_bitCount_95d88 10 [(1, x1), (5, 0)] [] D Φ
  refine r_lload_n d_J13_bitCount_95d88_10 rfl ?_
  refine r_ldc2 d_J13_bitCount_95d88_11 kl_RJ13_316 ?_
  refine c_land d_J13_bitCount_95d88_14 ?_
  show Run Γ rg κ Y_J13_bitCount_95d88 15 [(1, x1), (5, 0)] [(1, (landZ x1 3689348814741910323))] D Φ
  refine r_lload_n d_J13_bitCount_95d88_15 rfl ?_
  refine r_iconst d_J13_bitCount_95d88_16 ?_
  refine c_lushr d_J13_bitCount_95d88_17 ?_
  refine r_ldc2 d_J13_bitCount_95d88_18 kl_RJ13_316 ?_
  refine c_land d_J13_bitCount_95d88_21 ?_
  refine r_ladd d_J13_bitCount_95d88_22 ?_
  refine c_ltj_n d_J13_bitCount_95d88_23 (by decide) rfl h (fun x2 h => ?_)
  show Run Γ rg κ Y_J13_bitCount_95d88 24 [(1, x2), (5, 0)] [] D Φ
  refine r_lload_n d_J13_bitCount_95d88_24 rfl ?_
  refine r_lload_n d_J13_bitCount_95d88_25 rfl ?_
  refine r_iconst d_J13_bitCount_95d88_26 ?_
  refine c_lushr d_J13_bitCount_95d88_27 ?_
  refine r_ladd d_J13_bitCount_95d88_28 ?_
  show Run Γ rg κ Y_J13_bitCount_95d88 29 [(1, x2), (5, 0)] [(1, (x2 + (lushrZ x2 4)))] D Φ
  refine r_ldc2 d_J13_bitCount_95d88_29 kl_RJ13_318 ?_
  refine c_land d_J13_bitCount_95d88_32 ?_
  refine c_ltj_n d_J13_bitCount_95d88_33 (by decide) rfl h (fun x3 h => ?_)
  show Run Γ rg κ Y_J13_bitCount_95d88 34 [(1, x3), (5, 0)] [] D Φ
  refine r_lload_n d_J13_bitCount_95d88_34 rfl ?_
  refine r_lload_n d_J13_bitCount_95d88_35 rfl ?_
  refine r_bipush d_J13_bitCount_95d88_36 (by decide) ?_
  refine c_lushr d_J13_bitCount_95d88_38 ?_
  refine r_ladd d_J13_bitCount_95d88_39 ?_
  refine c_ltj_n d_J13_bitCount_95d88_40 (by decide) rfl h (fun x4 h => ?_)
  show Run Γ rg κ Y_J13_bitCount_95d88 41 [(1, x4), (5, 0)] [] D Φ
  refine r_lload_n d_J13_bitCount_95d88_41 rfl ?_
  refine r_lload_n d_J13_bitCount_95d88_42 rfl ?_
  refine r_bipush d_J13_bitCount_95d88_43 (by decide) ?_
  show Run Γ rg κ Y_J13_bitCount_95d88 45 [(1, x4), (5, 0)] [(0, 16), (1, x4), (1, x4)] D Φ
  refine c_lushr d_J13_bitCount_95d88_45 ?_
  refine r_ladd d_J13_bitCount_95d88_46 ?_
  refine c_ltj_n d_J13_bitCount_95d88_47 (by decide) rfl h (fun x5 h => ?_)
  show Run Γ rg κ Y_J13_bitCount_95d88 48 [(1, x5), (5, 0)] [] D Φ
  refine r_lload_n d_J13_bitCount_95d88_48 rfl ?_
  refine r_lload_n d_J13_bitCount_95d88_49 rfl ?_
  refine r_bipush d_J13_bitCount_95d88_50 (by decide) ?_
  refine c_lushr d_J13_bitCount_95d88_52 ?_
  refine r_ladd d_J13_bitCount_95d88_53 ?_
  refine c_ltj_n d_J13_bitCount_95d88_54 (by decide) rfl h (fun x6 h => ?_)
  show Run Γ rg κ Y_J13_bitCount_95d88 55 [(1, x6), (5, 0)] [] D Φ
  refine r_lload_n d_J13_bitCount_95d88_55 rfl ?_
  refine r_l2i d_J13_bitCount_95d88_56 ?_
  refine r_bipush d_J13_bitCount_95d88_57 (by decide) ?_
  show Run Γ rg κ Y_J13_bitCount_95d88 59 [(1, x6), (5, 0)] [(0, 127), (0, x6)] D Φ
  refine c_iand d_J13_bitCount_95d88_59 ?_
  exact e_iret d_J13_bitCount_95d88_60 rfl h hΦ
set_option maxRecDepth 20000 in
theorem run_pI_copyFrom_26_2 {Γ : GG} {rg : Nat → Bool} {κ : Nat} {Φ : OT → DD → Prop} (R : cov rg rg0) {D : DD} (h : WPD Φ (pI_copyFrom_26_2 D)) : Run Γ rg κ Y_X2_copyFrom 0 [(34, 0), (10, 0)] [] D Φ := by
  unfold pI_copyFrom_26_2 at h
  show Run Γ rg κ Y_X2_copyFrom 0 [(34, 0), (10, 0)] [] D Φ
  refine r_aload_n d_X2_copyFrom_0 rfl (by decide) ?_
  refine r_getR (t := 3) d_X2_copyFrom_1 fk_RX2_11 sh_2 rfl (by decide) (R 2 rfl) ?_
  refine r_iconst d_X2_copyFrom_4 ?_
  refine r_aload_n d_X2_copyFrom_5 rfl (by decide) ?_
  refine r_getR (t := 27) d_X2_copyFrom_6 fk_RX2_11 sh_26 rfl (by decide) (R 26 rfl) ?_
  refine r_iconst d_X2_copyFrom_9 ?_
  refine r_sipush d_X2_copyFrom_10 (by decide) ?_
  refine c_acopy (n := 1024) d_X2_copyFrom_13 ak_RX2_35 sh_3 sh_27 (by decide) (by decide) (R 3 rfl) (R 27 rfl) (by decide) rfl (by decide) (by decide) (Nat.le_of_ble_eq_true rfl) (by decide) h (fun D1 h => ?_)
  refine r_aload_n d_X2_copyFrom_16 rfl (by decide) ?_
  refine r_getR (t := 4) d_X2_copyFrom_17 fk_RX2_15 sh_2 rfl (by decide) (R 2 rfl) ?_
  refine r_iconst d_X2_copyFrom_20 ?_
  show Run Γ rg κ Y_X2_copyFrom 21 [(34, 0), (10, 0)] [(0, 0), (12, 0)] D1 Φ
  refine r_aload_n d_X2_copyFrom_21 rfl (by decide) ?_
  refine r_getR (t := 28) d_X2_copyFrom_22 fk_RX2_15 sh_26 rfl (by decide) (R 26 rfl) ?_
  refine r_iconst d_X2_copyFrom_25 ?_
  refine r_sipush d_X2_copyFrom_26 (by decide) ?_
  refine c_acopy (n := 1024) d_X2_copyFrom_29 ak_RX2_35 sh_4 sh_28 (by decide) (by decide) (R 4 rfl) (R 28 rfl) (by decide) rfl (by decide) (by decide) (Nat.le_of_ble_eq_true rfl) (by decide) h (fun D2 h => ?_)
  refine r_aload_n d_X2_copyFrom_32 rfl (by decide) ?_
  refine r_getR (t := 5) d_X2_copyFrom_33 fk_RX2_18 sh_2 rfl (by decide) (R 2 rfl) ?_
  refine r_iconst d_X2_copyFrom_36 ?_
  refine r_aload_n d_X2_copyFrom_37 rfl (by decide) ?_
  refine r_getR (t := 29) d_X2_copyFrom_38 fk_RX2_18 sh_26 rfl (by decide) (R 26 rfl) ?_
  refine r_iconst d_X2_copyFrom_41 ?_
  refine r_bipush d_X2_copyFrom_42 (by decide) ?_
  show Run Γ rg κ Y_X2_copyFrom 44 [(34, 0), (10, 0)] [(0, 80), (0, 0), (37, 0), (0, 0), (13, 0)] D2 Φ
  refine c_acopy (n := 80) d_X2_copyFrom_44 ak_RX2_35 sh_5 sh_29 (by decide) (by decide) (R 5 rfl) (R 29 rfl) (by decide) rfl (by decide) (by decide) (Nat.le_of_ble_eq_true rfl) (by decide) h (fun D3 h => ?_)
  refine r_aload_n d_X2_copyFrom_47 rfl (by decide) ?_
  refine r_getR (t := 6) d_X2_copyFrom_48 fk_RX2_21 sh_2 rfl (by decide) (R 2 rfl) ?_
  refine r_iconst d_X2_copyFrom_51 ?_
  refine r_aload_n d_X2_copyFrom_52 rfl (by decide) ?_
  refine r_getR (t := 30) d_X2_copyFrom_53 fk_RX2_21 sh_26 rfl (by decide) (R 26 rfl) ?_
  refine r_iconst d_X2_copyFrom_56 ?_
  refine r_sipush d_X2_copyFrom_57 (by decide) ?_
  refine c_acopy (n := 256) d_X2_copyFrom_60 ak_RX2_35 sh_6 sh_30 (by decide) (by decide) (R 6 rfl) (R 30 rfl) (by decide) rfl (by decide) (by decide) (Nat.le_of_ble_eq_true rfl) (by decide) h (fun D4 h => ?_)
  refine r_aload_n d_X2_copyFrom_63 rfl (by decide) ?_
  refine r_aload_n d_X2_copyFrom_64 rfl (by decide) ?_
  refine r_getI d_X2_copyFrom_65 fk_RX2_24 sh_2 rfl (by decide) (by decide) (R 2 rfl) ?_
  show Run Γ rg κ Y_X2_copyFrom 68 [(34, 0), (10, 0)] [(0, (D4 2 4)), (34, 0)] D4 Φ
  refine c_putI (k := 4) d_X2_copyFrom_68 pk_RX2_24 sh_26 rfl (by decide) (R 26 rfl) h (fun D5 h => ?_)
  refine r_aload_n d_X2_copyFrom_71 rfl (by decide) ?_
  refine r_aload_n d_X2_copyFrom_72 rfl (by decide) ?_
  refine r_getI d_X2_copyFrom_73 fk_RX2_28 sh_2 rfl (by decide) (by decide) (R 2 rfl) ?_
  refine c_putI (k := 5) d_X2_copyFrom_76 pk_RX2_28 sh_26 rfl (by decide) (R 26 rfl) h (fun D6 h => ?_)
  exact d_vret d_X2_copyFrom_79 rfl h
set_option maxRecDepth 20000 in
theorem run_pF_begin {Γ : GG} {rg : Nat → Bool} {κ : Nat} {Φ : OT → DD → Prop} (R : cov rg rg0) (p1 : Int) {D : DD} (h : WPD Φ (pF_begin p1 D)) : Run Γ rg κ Y_X1_begin 0 [(28, 0), (10, 0), (0, p1)] [] D Φ := by
  unfold pF_begin at h
  show Run Γ rg κ Y_X1_begin 0 [(28, 0), (10, 0), (0, p1)] [] D Φ
  refine r_aload_n d_X1_begin_0 rfl (by decide) ?_
  refine r_getR (t := 26) d_X1_begin_1 fk_RX1_16 sh_20 rfl (by decide) (R 20 rfl) ?_
  refine r_aload_n d_X1_begin_4 rfl (by decide) ?_
  refine c_callVD (a := 26) (z := 0) (as := [(10, 0)]) (rest := []) (ls' := [(34, 0), (10, 0)]) d_X1_begin_5 ck_RX1_23 rfl sh_26 rfl (by decide) (R 26 rfl) rfl rfl (Nat.le_of_ble_eq_true rfl) (Nat.le_of_ble_eq_true rfl) (by decide) rfl rfl (fun Ψ hΨ => run_pI_copyFrom_26_2 R hΨ) h (fun D1 h => ?_)
  show Run Γ rg κ Y_X1_begin 8 [(28, 0), (10, 0), (0, p1)] [] D1 Φ
  refine r_aload_n d_X1_begin_8 rfl (by decide) ?_
  refine r_iload_n d_X1_begin_9 rfl ?_
  refine c_putI (k := 3) d_X1_begin_10 pk_RX1_27 sh_20 rfl (by decide) (R 20 rfl) h (fun D2 h => ?_)
  refine r_aload_n d_X1_begin_13 rfl (by decide) ?_
  refine r_iconst d_X1_begin_14 ?_
  refine c_putI (k := 4) d_X1_begin_15 pk_RX1_31 sh_20 rfl (by decide) (R 20 rfl) h (fun D3 h => ?_)
  refine r_aload_n d_X1_begin_18 rfl (by decide) ?_
  show Run Γ rg κ Y_X1_begin 19 [(28, 0), (10, 0), (0, p1)] [(28, 0)] D3 Φ
  refine r_iconst d_X1_begin_19 ?_
  refine c_putZ (k := 6) d_X1_begin_20 pk_RX1_34 sh_20 rfl (by decide) (R 20 rfl) (Or.inr rfl) h (fun D4 h => ?_)
  exact d_vret d_X1_begin_23 rfl h
set_option maxRecDepth 20000 in
theorem run_pC_forgetDirty {Γ : GG} {rg : Nat → Bool} {κ : Nat} {Φ : OT → DD → Prop} (R : cov rg rg0) {D : DD} (h : WPD Φ (pC_forgetDirty D)) : Run Γ rg κ Y_X0_forgetDirty 0 [(15, 0)] [] D Φ := by
  unfold pC_forgetDirty at h
  show Run Γ rg κ Y_X0_forgetDirty 0 [(15, 0)] [] D Φ
  refine r_aload_n d_X0_forgetDirty_0 rfl (by decide) ?_
  refine c_lconst d_X0_forgetDirty_1 rfl ?_
  refine c_putJ (k := 5) d_X0_forgetDirty_2 pk_RX0_62 sh_7 rfl (by decide) (R 7 rfl) h (fun D1 h => ?_)
  exact d_vret d_X0_forgetDirty_5 rfl h
set_option maxRecDepth 20000 in
theorem run_pF_writesLeft {Γ : GG} {rg : Nat → Bool} {κ : Nat} {Φ : OT → DD → Prop} (R : cov rg rg0) {D : DD} {x : Int} (h : EQx x (pF_writesLeft D)) (hΦ : Φ (.inl (some (0, x))) D) : Run Γ rg κ Y_X1_writesLeft 0 [(28, 0)] [] D Φ := by
  unfold pF_writesLeft at h
  show Run Γ rg κ Y_X1_writesLeft 0 [(28, 0)] [] D Φ
  refine r_iconst d_X1_writesLeft_0 ?_
  refine r_aload_n d_X1_writesLeft_1 rfl (by decide) ?_
  refine r_getI d_X1_writesLeft_2 fk_RX1_27 sh_20 rfl (by decide) (by decide) (R 20 rfl) ?_
  refine r_imul d_X1_writesLeft_5 ?_
  refine r_iconst d_X1_writesLeft_6 ?_
  refine r_iadd d_X1_writesLeft_7 ?_
  refine r_aload_n d_X1_writesLeft_8 rfl (by decide) ?_
  refine r_getI d_X1_writesLeft_9 fk_RX1_31 sh_20 rfl (by decide) (by decide) (R 20 rfl) ?_
  refine r_isub d_X1_writesLeft_12 ?_
  exact e_iret d_X1_writesLeft_13 rfl h hΦ
set_option maxRecDepth 20000 in
theorem run_pH_flush {Γ : GG} {rg : Nat → Bool} {κ : Nat} {Φ : OT → DD → Prop} (R : cov rg rg0) {D : DD} (h : WP (some .int) κ Φ (pH_flush D)) : Run Γ rg κ Y_X7_flush 0 [(8, 0)] [] D Φ := by
  unfold pH_flush at h
  show Run Γ rg κ Y_X7_flush 0 [(8, 0)] [] D Φ
  refine r_aload_n d_X7_flush_0 rfl (by decide) ?_
  refine r_getR (t := 20) d_X7_flush_1 fk_RX7_62 sh_0 rfl (by decide) (R 0 rfl) ?_
  refine r_getI d_X7_flush_4 fk_RX7_301 sh_20 rfl (by decide) (by decide) (R 20 rfl) ?_
  refine c_if_eq (tgt := 21) d_X7_flush_7 (by decide) (nz_w _) h (fun h => ?_) (fun h => ?_)
  · skip
    show Run Γ rg κ Y_X7_flush 21 [(8, 0)] [] D Φ
    refine r_aload_n d_X7_flush_21 rfl (by decide) ?_
    refine r_getR (t := 7) d_X7_flush_22 fk_RX7_25 sh_0 rfl (by decide) (R 0 rfl) ?_
    refine r_getJ d_X7_flush_25 fk_RX7_297 sh_7 rfl (by decide) (R 7 rfl) ?_
    refine c_lconst d_X7_flush_28 rfl ?_
    refine c_lcmp d_X7_flush_29 ?_
    refine c_if_ne (tgt := 44) d_X7_flush_30 (by decide) (nz_c _ _) h (fun h => ?_) (fun h => ?_)
    · skip
      show Run Γ rg κ Y_X7_flush 44 [(8, 0)] [] D Φ
      refine r_aload_n d_X7_flush_44 rfl (by decide) ?_
      refine r_getR (t := 20) d_X7_flush_45 fk_RX7_62 sh_0 rfl (by decide) (R 0 rfl) ?_
      refine r_aload_n d_X7_flush_48 rfl (by decide) ?_
      refine r_getR (t := 2) d_X7_flush_49 fk_RX7_21 sh_0 rfl (by decide) (R 0 rfl) ?_
      refine r_aload_n d_X7_flush_52 rfl (by decide) ?_
      refine r_getR (t := 7) d_X7_flush_53 fk_RX7_25 sh_0 rfl (by decide) (R 0 rfl) ?_
      refine r_getJ d_X7_flush_56 fk_RX7_297 sh_7 rfl (by decide) (R 7 rfl) ?_
      refine c_callSPi (as := [(1, (D 7 5))]) (rest := [(10, 0), (28, 0)]) (ls' := [(1, (D 7 5)), (5, 0)]) d_X7_flush_59 ck_RX7_309 rfl rfl rfl (Nat.le_of_ble_eq_true rfl) (Nat.le_of_ble_eq_true rfl) (by decide) rfl rfl (fun Ψ hΨ => run_pJ_bitCount R _ rfl hΨ) ?_
      show Run Γ rg κ Y_X7_flush 62 [(8, 0)] [(0, (pJ_bitCount (D 7 5))), (10, 0), (28, 0)] D Φ
      refine c_callVD (a := 20) (z := 0) (as := [(10, 0), (0, (pJ_bitCount (D 7 5)))]) (rest := []) (ls' := [(28, 0), (10, 0), (0, (pJ_bitCount (D 7 5)))]) d_X7_flush_62 ck_RX7_315 rfl sh_20 rfl (by decide) (R 20 rfl) rfl rfl (Nat.le_of_ble_eq_true rfl) (Nat.le_of_ble_eq_true rfl) (by decide) rfl rfl (fun Ψ hΨ => run_pF_begin R _ hΨ) h (fun D1 h => ?_)
      show Run Γ rg κ Y_X7_flush 65 [(8, 0)] [] D1 Φ
      refine r_aload_n d_X7_flush_65 rfl (by decide) ?_
      refine r_getR (t := 7) d_X7_flush_66 fk_RX7_25 sh_0 rfl (by decide) (R 0 rfl) ?_
      show Run Γ rg κ Y_X7_flush 69 [(8, 0)] [(15, 0)] D1 Φ
      refine c_callVD (a := 7) (z := 0) (as := []) (rest := []) (ls' := [(15, 0)]) d_X7_flush_69 ck_RX7_89 rfl sh_7 rfl (by decide) (R 7 rfl) rfl rfl (Nat.le_of_ble_eq_true rfl) (Nat.le_of_ble_eq_true rfl) (by decide) rfl rfl (fun Ψ hΨ => run_pC_forgetDirty R hΨ) h (fun D2 h => ?_)
      show Run Γ rg κ Y_X7_flush 72 [(8, 0)] [] D2 Φ
      refine r_aload_n d_X7_flush_72 rfl (by decide) ?_
      refine r_getR (t := 20) d_X7_flush_73 fk_RX7_62 sh_0 rfl (by decide) (R 0 rfl) ?_
      refine c_callVPi (a := 20) (z := 0) (as := []) (rest := []) (ls' := [(28, 0)]) d_X7_flush_76 ck_RX7_319 rfl sh_20 rfl (by decide) (R 20 rfl) rfl rfl (Nat.le_of_ble_eq_true rfl) (Nat.le_of_ble_eq_true rfl) (by decide) rfl rfl (fun Ψ hΨ => run_pF_writesLeft R rfl hΨ) ?_
      show Run Γ rg κ Y_X7_flush 79 [(8, 0)] [(0, (pF_writesLeft D2))] D2 Φ
      exact c_iret d_X7_flush_79 rfl h
    · skip
      show Run Γ rg κ Y_X7_flush 33 [(8, 0)] [] D Φ
      exact c_throwW (text := "no sector is dirty") tk_RX7_204_208 (by decide +kernel) d_X7_flush_33 d_X7_flush_36 d_X7_flush_37 d_X7_flush_40 d_X7_flush_43 rfl (by decide) (Nat.le_of_ble_eq_true rfl) h
  · skip
    show Run Γ rg κ Y_X7_flush 10 [(8, 0)] [] D Φ
    exact c_throwW (text := "a flush is running") tk_RX7_204_208 (by decide +kernel) d_X7_flush_10 d_X7_flush_13 d_X7_flush_14 d_X7_flush_17 d_X7_flush_20 rfl (by decide) (Nat.le_of_ble_eq_true rfl) h
set_option maxRecDepth 20000 in
theorem run_pF_isSealed {Γ : GG} {rg : Nat → Bool} {κ : Nat} {Φ : OT → DD → Prop} (R : cov rg rg0) {D : DD} {x : Int} (h : EQx x (pF_isSealed D)) (hΦ : Φ (.inl (some (0, x))) D) : Run Γ rg κ Y_X1_isSealed 0 [(28, 0)] [] D Φ := by
  unfold pF_isSealed at h
  show Run Γ rg κ Y_X1_isSealed 0 [(28, 0)] [] D Φ
  refine r_aload_n d_X1_isSealed_0 rfl (by decide) ?_
  refine r_getI d_X1_isSealed_1 fk_RX1_31 sh_20 rfl (by decide) (by decide) (R 20 rfl) ?_
  refine r_aload_n d_X1_isSealed_4 rfl (by decide) ?_
  refine r_getI d_X1_isSealed_5 fk_RX1_27 sh_20 rfl (by decide) (by decide) (R 20 rfl) ?_
  refine r_iconst d_X1_isSealed_8 ?_
  refine r_iadd d_X1_isSealed_9 ?_
  refine c_icmp_lt (tgt := 17) d_X1_isSealed_10 (by decide) (nz_w _) (nz_w _) h (fun h => ?_) (fun h => ?_)
  · skip
    show Run Γ rg κ Y_X1_isSealed 17 [(28, 0)] [] D Φ
    refine r_iconst d_X1_isSealed_17 ?_
    exact e_zret d_X1_isSealed_18 rfl (Or.inl rfl) h hΦ
  · skip
    show Run Γ rg κ Y_X1_isSealed 13 [(28, 0)] [] D Φ
    refine r_iconst d_X1_isSealed_13 ?_
    refine r_goto (tgt := 18) d_X1_isSealed_14 (by decide) ?_
    show Run Γ rg κ Y_X1_isSealed 18 [(28, 0)] [(0, 1)] D Φ
    exact e_zret d_X1_isSealed_18 rfl (Or.inr rfl) h hΦ
set_option maxRecDepth 20000 in
theorem run_pI_copyFrom_21_26 {Γ : GG} {rg : Nat → Bool} {κ : Nat} {Φ : OT → DD → Prop} (R : cov rg rg0) {D : DD} (h : WPD Φ (pI_copyFrom_21_26 D)) : Run Γ rg κ Y_X2_copyFrom 0 [(29, 0), (34, 0)] [] D Φ := by
  unfold pI_copyFrom_21_26 at h
  show Run Γ rg κ Y_X2_copyFrom 0 [(29, 0), (34, 0)] [] D Φ
  refine r_aload_n d_X2_copyFrom_0 rfl (by decide) ?_
  refine r_getR (t := 27) d_X2_copyFrom_1 fk_RX2_11 sh_26 rfl (by decide) (R 26 rfl) ?_
  refine r_iconst d_X2_copyFrom_4 ?_
  refine r_aload_n d_X2_copyFrom_5 rfl (by decide) ?_
  refine r_getR (t := 22) d_X2_copyFrom_6 fk_RX2_11 sh_21 rfl (by decide) (R 21 rfl) ?_
  refine r_iconst d_X2_copyFrom_9 ?_
  refine r_sipush d_X2_copyFrom_10 (by decide) ?_
  refine c_acopy (n := 1024) d_X2_copyFrom_13 ak_RX2_35 sh_27 sh_22 (by decide) (by decide) (R 27 rfl) (R 22 rfl) (by decide) rfl (by decide) (by decide) (Nat.le_of_ble_eq_true rfl) (by decide) h (fun D1 h => ?_)
  refine r_aload_n d_X2_copyFrom_16 rfl (by decide) ?_
  refine r_getR (t := 28) d_X2_copyFrom_17 fk_RX2_15 sh_26 rfl (by decide) (R 26 rfl) ?_
  refine r_iconst d_X2_copyFrom_20 ?_
  show Run Γ rg κ Y_X2_copyFrom 21 [(29, 0), (34, 0)] [(0, 0), (36, 0)] D1 Φ
  refine r_aload_n d_X2_copyFrom_21 rfl (by decide) ?_
  refine r_getR (t := 23) d_X2_copyFrom_22 fk_RX2_15 sh_21 rfl (by decide) (R 21 rfl) ?_
  refine r_iconst d_X2_copyFrom_25 ?_
  refine r_sipush d_X2_copyFrom_26 (by decide) ?_
  refine c_acopy (n := 1024) d_X2_copyFrom_29 ak_RX2_35 sh_28 sh_23 (by decide) (by decide) (R 28 rfl) (R 23 rfl) (by decide) rfl (by decide) (by decide) (Nat.le_of_ble_eq_true rfl) (by decide) h (fun D2 h => ?_)
  refine r_aload_n d_X2_copyFrom_32 rfl (by decide) ?_
  refine r_getR (t := 29) d_X2_copyFrom_33 fk_RX2_18 sh_26 rfl (by decide) (R 26 rfl) ?_
  refine r_iconst d_X2_copyFrom_36 ?_
  refine r_aload_n d_X2_copyFrom_37 rfl (by decide) ?_
  refine r_getR (t := 24) d_X2_copyFrom_38 fk_RX2_18 sh_21 rfl (by decide) (R 21 rfl) ?_
  refine r_iconst d_X2_copyFrom_41 ?_
  refine r_bipush d_X2_copyFrom_42 (by decide) ?_
  show Run Γ rg κ Y_X2_copyFrom 44 [(29, 0), (34, 0)] [(0, 80), (0, 0), (32, 0), (0, 0), (37, 0)] D2 Φ
  refine c_acopy (n := 80) d_X2_copyFrom_44 ak_RX2_35 sh_29 sh_24 (by decide) (by decide) (R 29 rfl) (R 24 rfl) (by decide) rfl (by decide) (by decide) (Nat.le_of_ble_eq_true rfl) (by decide) h (fun D3 h => ?_)
  refine r_aload_n d_X2_copyFrom_47 rfl (by decide) ?_
  refine r_getR (t := 30) d_X2_copyFrom_48 fk_RX2_21 sh_26 rfl (by decide) (R 26 rfl) ?_
  refine r_iconst d_X2_copyFrom_51 ?_
  refine r_aload_n d_X2_copyFrom_52 rfl (by decide) ?_
  refine r_getR (t := 25) d_X2_copyFrom_53 fk_RX2_21 sh_21 rfl (by decide) (R 21 rfl) ?_
  refine r_iconst d_X2_copyFrom_56 ?_
  refine r_sipush d_X2_copyFrom_57 (by decide) ?_
  refine c_acopy (n := 256) d_X2_copyFrom_60 ak_RX2_35 sh_30 sh_25 (by decide) (by decide) (R 30 rfl) (R 25 rfl) (by decide) rfl (by decide) (by decide) (Nat.le_of_ble_eq_true rfl) (by decide) h (fun D4 h => ?_)
  refine r_aload_n d_X2_copyFrom_63 rfl (by decide) ?_
  refine r_aload_n d_X2_copyFrom_64 rfl (by decide) ?_
  refine r_getI d_X2_copyFrom_65 fk_RX2_24 sh_26 rfl (by decide) (by decide) (R 26 rfl) ?_
  show Run Γ rg κ Y_X2_copyFrom 68 [(29, 0), (34, 0)] [(0, (D4 26 4)), (29, 0)] D4 Φ
  refine c_putI (k := 4) d_X2_copyFrom_68 pk_RX2_24 sh_21 rfl (by decide) (R 21 rfl) h (fun D5 h => ?_)
  refine r_aload_n d_X2_copyFrom_71 rfl (by decide) ?_
  refine r_aload_n d_X2_copyFrom_72 rfl (by decide) ?_
  refine r_getI d_X2_copyFrom_73 fk_RX2_28 sh_26 rfl (by decide) (by decide) (R 26 rfl) ?_
  refine c_putI (k := 5) d_X2_copyFrom_76 pk_RX2_28 sh_21 rfl (by decide) (R 21 rfl) h (fun D6 h => ?_)
  exact d_vret d_X2_copyFrom_79 rfl h
set_option maxRecDepth 20000 in
theorem run_pF_endWhole {Γ : GG} {rg : Nat → Bool} {κ : Nat} {Φ : OT → DD → Prop} (R : cov rg rg0) {D : DD} (h : WPD Φ (pF_endWhole D)) : Run Γ rg κ Y_X1_endWhole 0 [(28, 0)] [] D Φ := by
  unfold pF_endWhole at h
  show Run Γ rg κ Y_X1_endWhole 0 [(28, 0)] [] D Φ
  refine r_aload_n d_X1_endWhole_0 rfl (by decide) ?_
  refine r_getR (t := 21) d_X1_endWhole_1 fk_RX1_10 sh_20 rfl (by decide) (R 20 rfl) ?_
  refine r_aload_n d_X1_endWhole_4 rfl (by decide) ?_
  refine r_getR (t := 26) d_X1_endWhole_5 fk_RX1_16 sh_20 rfl (by decide) (R 20 rfl) ?_
  refine c_callVD (a := 21) (z := 0) (as := [(34, 0)]) (rest := []) (ls' := [(29, 0), (34, 0)]) d_X1_endWhole_8 ck_RX1_23 rfl sh_21 rfl (by decide) (R 21 rfl) rfl rfl (Nat.le_of_ble_eq_true rfl) (Nat.le_of_ble_eq_true rfl) (by decide) rfl rfl (fun Ψ hΨ => run_pI_copyFrom_21_26 R hΨ) h (fun D1 h => ?_)
  show Run Γ rg κ Y_X1_endWhole 11 [(28, 0)] [] D1 Φ
  refine r_aload_n d_X1_endWhole_11 rfl (by decide) ?_
  refine r_dup d_X1_endWhole_12 (by decide) ?_
  refine r_getI d_X1_endWhole_13 fk_RX1_48 sh_20 rfl (by decide) (by decide) (R 20 rfl) ?_
  refine r_iconst d_X1_endWhole_16 ?_
  refine r_iadd d_X1_endWhole_17 ?_
  refine c_putI (k := 5) d_X1_endWhole_18 pk_RX1_48 sh_20 rfl (by decide) (R 20 rfl) h (fun D2 h => ?_)
  show Run Γ rg κ Y_X1_endWhole 21 [(28, 0)] [] D2 Φ
  refine r_aload_n d_X1_endWhole_21 rfl (by decide) ?_
  refine r_iconst d_X1_endWhole_22 ?_
  refine c_putZ (k := 6) d_X1_endWhole_23 pk_RX1_34 sh_20 rfl (by decide) (R 20 rfl) (Or.inl rfl) h (fun D3 h => ?_)
  exact d_vret d_X1_endWhole_26 rfl h
set_option maxRecDepth 20000 in
theorem run_pF_advance {Γ : GG} {rg : Nat → Bool} {κ : Nat} {Φ : OT → DD → Prop} (R : cov rg rg0) (p1 : Int) {D : DD} (h : WPD Φ (pF_advance p1 D)) : Run Γ rg κ Y_X1_advance 0 [(28, 0), (0, p1), (5, 0)] [] D Φ := by
  unfold pF_advance at h
  show Run Γ rg κ Y_X1_advance 0 [(28, 0), (0, p1), (5, 0)] [] D Φ
  refine r_aload_n d_X1_advance_0 rfl (by decide) ?_
  refine r_dup d_X1_advance_1 (by decide) ?_
  refine r_getI d_X1_advance_2 fk_RX1_31 sh_20 rfl (by decide) (by decide) (R 20 rfl) ?_
  refine r_iload_n d_X1_advance_5 rfl ?_
  refine r_aload_n d_X1_advance_6 rfl (by decide) ?_
  refine c_callVPi (a := 20) (z := 0) (as := []) (rest := [(0, p1), (0, (D 20 4)), (28, 0)]) (ls' := [(28, 0)]) d_X1_advance_7 ck_RX1_38 rfl sh_20 rfl (by decide) (R 20 rfl) rfl rfl (Nat.le_of_ble_eq_true rfl) (Nat.le_of_ble_eq_true rfl) (by decide) rfl rfl (fun Ψ hΨ => run_pF_writesLeft R rfl hΨ) ?_
  show Run Γ rg κ Y_X1_advance 10 [(28, 0), (0, p1), (5, 0)] [(0, (pF_writesLeft D)), (0, p1), (0, (D 20 4)), (28, 0)] D Φ
  refine c_mmin d_X1_advance_10 mx_RX1_42 (Nat.le_of_ble_eq_true rfl) (by decide) ?_
  refine r_iadd d_X1_advance_13 ?_
  refine c_putI (k := 4) d_X1_advance_14 pk_RX1_31 sh_20 rfl (by decide) (R 20 rfl) h (fun D1 h => ?_)
  refine r_aload_n d_X1_advance_17 rfl (by decide) ?_
  refine r_getI d_X1_advance_18 fk_RX1_48 sh_20 rfl (by decide) (by decide) (R 20 rfl) ?_
  show Run Γ rg κ Y_X1_advance 21 [(28, 0), (0, p1), (5, 0)] [(0, (D1 20 5))] D1 Φ
  refine r_iconst d_X1_advance_21 ?_
  refine r_iadd d_X1_advance_22 ?_
  refine c_lt_n d_X1_advance_23 (by decide) rfl h (fun x1 h => ?_)
  show Run Γ rg κ Y_X1_advance 24 [(28, 0), (0, p1), (0, x1)] [] D1 Φ
  refine r_aload_n d_X1_advance_24 rfl (by decide) ?_
  refine r_getR (t := 31) d_X1_advance_25 fk_RX1_19 sh_20 rfl (by decide) (R 20 rfl) ?_
  refine r_iload_n d_X1_advance_28 rfl ?_
  refine r_iconst d_X1_advance_29 ?_
  refine c_irem d_X1_advance_30 (nz_w _) ⟨by decide, by decide⟩ (by decide) ?_
  refine r_aload_n d_X1_advance_31 rfl (by decide) ?_
  refine c_callVPi (a := 20) (z := 0) (as := []) (rest := [(0, (Int.tmod (w32 x1) 2)), (39, 0)]) (ls' := [(28, 0)]) d_X1_advance_32 ck_RX1_51 rfl sh_20 rfl (by decide) (R 20 rfl) rfl rfl (Nat.le_of_ble_eq_true rfl) (Nat.le_of_ble_eq_true rfl) (by decide) rfl rfl (fun Ψ hΨ => run_pF_isSealed R rfl hΨ) ?_
  show Run Γ rg κ Y_X1_advance 35 [(28, 0), (0, p1), (0, x1)] [(0, (pF_isSealed D1)), (0, (Int.tmod (w32 x1) 2)), (39, 0)] D1 Φ
  refine c_jn (fun J => ∀ (x2 : Int) (D2 : DD), WPD Φ (J x2 D2) → Run Γ rg κ Y_X1_advance 43 [(28, 0), (5, 0), (5, 0)] [(0, x2), (0, (Int.tmod (w32 x1) 2)), (39, 0)] D2 Φ) h ?_ (fun J1 hJ1 h => ?_)
  · intro x2 D2 h
    show Run Γ rg κ Y_X1_advance 43 [(28, 0), (5, 0), (5, 0)] [(0, x2), (0, (Int.tmod (w32 x1) 2)), (39, 0)] D2 Φ
    refine c_callND (as := [(39, 0), (0, (Int.tmod (w32 x1) 2)), (0, x2)]) (rest := []) (ls' := [(39, 0), (0, (Int.tmod (w32 x1) 2)), (0, x2)]) d_X1_advance_43 ck_RX1_55 rfl rfl rfl (Nat.le_of_ble_eq_true rfl) (Nat.le_of_ble_eq_true rfl) (by decide) rfl rfl (fun Ψ hΨ => run_pH_store sh_31 (by decide) (R 31 rfl) (by decide) _ _ hΨ) h (fun D3 h => ?_)
    show Run Γ rg κ Y_X1_advance 46 [(28, 0), (5, 0), (5, 0)] [] D3 Φ
    refine r_aload_n d_X1_advance_46 rfl (by decide) ?_
    refine c_callVPi (a := 20) (z := 0) (as := []) (rest := []) (ls' := [(28, 0)]) d_X1_advance_47 ck_RX1_38 rfl sh_20 rfl (by decide) (R 20 rfl) rfl rfl (Nat.le_of_ble_eq_true rfl) (Nat.le_of_ble_eq_true rfl) (by decide) rfl rfl (fun Ψ hΨ => run_pF_writesLeft R rfl hΨ) ?_
    show Run Γ rg κ Y_X1_advance 50 [(28, 0), (5, 0), (5, 0)] [(0, (pF_writesLeft D3))] D3 Φ
    refine c_if_ne (tgt := 57) d_X1_advance_50 (by decide) (nz_w _) h (fun h => ?_) (fun h => ?_)
    · skip
      show Run Γ rg κ Y_X1_advance 57 [(28, 0), (5, 0), (5, 0)] [] D3 Φ
      exact d_vret d_X1_advance_57 rfl h
    · skip
      show Run Γ rg κ Y_X1_advance 53 [(28, 0), (5, 0), (5, 0)] [] D3 Φ
      refine r_aload_n d_X1_advance_53 rfl (by decide) ?_
      refine c_callVD (a := 20) (z := 0) (as := []) (rest := []) (ls' := [(28, 0)]) d_X1_advance_54 ck_RX1_61 rfl sh_20 rfl (by decide) (R 20 rfl) rfl rfl (Nat.le_of_ble_eq_true rfl) (Nat.le_of_ble_eq_true rfl) (by decide) rfl rfl (fun Ψ hΨ => run_pF_endWhole R hΨ) h (fun D4 h => ?_)
      show Run Γ rg κ Y_X1_advance 57 [(28, 0), (5, 0), (5, 0)] [] D4 Φ
      exact d_vret d_X1_advance_57 rfl h
  refine c_if_eq (tgt := 42) d_X1_advance_35 (by decide) (nz_b (pF_isSealed_b D1)) h (fun h => ?_) (fun h => ?_)
  · skip
    show Run Γ rg κ Y_X1_advance 42 [(28, 0), (0, p1), (0, x1)] [(0, (Int.tmod (w32 x1) 2)), (39, 0)] D1 Φ
    refine r_iconst d_X1_advance_42 ?_
    exact Run.forget (ls' := [(28, 0), (5, 0), (5, 0)]) ⟨Or.inr rfl, Or.inl rfl, Or.inl rfl, trivial⟩ (hJ1 0 D1 h)
  · skip
    show Run Γ rg κ Y_X1_advance 38 [(28, 0), (0, p1), (0, x1)] [(0, (Int.tmod (w32 x1) 2)), (39, 0)] D1 Φ
    refine r_iload_n d_X1_advance_38 rfl ?_
    refine r_goto (tgt := 43) d_X1_advance_39 (by decide) ?_
    exact Run.forget (ls' := [(28, 0), (5, 0), (5, 0)]) ⟨Or.inr rfl, Or.inl rfl, Or.inl rfl, trivial⟩ (hJ1 x1 D1 h)
set_option maxRecDepth 20000 in
theorem run_pH_write {Γ : GG} {rg : Nat → Bool} {κ : Nat} {Φ : OT → DD → Prop} (R : cov rg rg0) (p1 : Int) {D : DD} (h : WP (some .int) κ Φ (pH_write p1 D)) : Run Γ rg κ Y_X7_write 0 [(8, 0), (0, p1)] [] D Φ := by
  unfold pH_write at h
  show Run Γ rg κ Y_X7_write 0 [(8, 0), (0, p1)] [] D Φ
  refine r_iload_n d_X7_write_0 rfl ?_
  refine r_iconst d_X7_write_1 ?_
  refine c_jn (fun J => ∀ (D1 : DD), WP (some .int) κ Φ (J D1) → Run Γ rg κ Y_X7_write 12 [(5, 0), (5, 0)] [] D1 Φ) h ?_ (fun J1 hJ1 h => ?_)
  · intro D1 h
    show Run Γ rg κ Y_X7_write 12 [(5, 0), (5, 0)] [] D1 Φ
    exact c_throwW (text := "the number of writes is out of range") tk_RX7_279_283 (by decide +kernel) d_X7_write_12 d_X7_write_15 d_X7_write_16 d_X7_write_19 d_X7_write_22 rfl (by decide) (Nat.le_of_ble_eq_true rfl) h
  refine c_icmp_lt (tgt := 12) d_X7_write_2 (by decide) (nz_w _) (nz_k rfl) h (fun h => ?_) (fun h => ?_)
  · skip
    exact Run.forget (ls' := [(5, 0), (5, 0)]) ⟨Or.inl rfl, Or.inl rfl, trivial⟩ (hJ1 D h)
  · skip
    show Run Γ rg κ Y_X7_write 5 [(8, 0), (0, p1)] [] D Φ
    refine r_iload_n d_X7_write_5 rfl ?_
    refine r_sipush d_X7_write_6 (by decide) ?_
    refine c_icmp_le (tgt := 23) d_X7_write_9 (by decide) (nz_w _) (nz_k rfl) h (fun h => ?_) (fun h => ?_)
    · skip
      show Run Γ rg κ Y_X7_write 23 [(8, 0), (0, p1)] [] D Φ
      refine r_aload_n d_X7_write_23 rfl (by decide) ?_
      refine r_getR (t := 20) d_X7_write_24 fk_RX7_62 sh_0 rfl (by decide) (R 0 rfl) ?_
      refine r_getI d_X7_write_27 fk_RX7_301 sh_20 rfl (by decide) (by decide) (R 20 rfl) ?_
      refine c_if_ne (tgt := 44) d_X7_write_30 (by decide) (nz_w _) h (fun h => ?_) (fun h => ?_)
      · skip
        show Run Γ rg κ Y_X7_write 44 [(8, 0), (0, p1)] [] D Φ
        refine r_aload_n d_X7_write_44 rfl (by decide) ?_
        refine r_getR (t := 20) d_X7_write_45 fk_RX7_62 sh_0 rfl (by decide) (R 0 rfl) ?_
        refine r_iload_n d_X7_write_48 rfl ?_
        refine c_callVD (a := 20) (z := 0) (as := [(0, p1)]) (rest := []) (ls' := [(28, 0), (0, p1), (5, 0)]) d_X7_write_49 ck_RX7_326 rfl sh_20 rfl (by decide) (R 20 rfl) rfl rfl (Nat.le_of_ble_eq_true rfl) (Nat.le_of_ble_eq_true rfl) (by decide) rfl rfl (fun Ψ hΨ => run_pF_advance R _ hΨ) h (fun D2 h => ?_)
        show Run Γ rg κ Y_X7_write 52 [(8, 0), (0, p1)] [] D2 Φ
        refine r_aload_n d_X7_write_52 rfl (by decide) ?_
        refine r_getR (t := 20) d_X7_write_53 fk_RX7_62 sh_0 rfl (by decide) (R 0 rfl) ?_
        refine c_callVPi (a := 20) (z := 0) (as := []) (rest := []) (ls' := [(28, 0)]) d_X7_write_56 ck_RX7_319 rfl sh_20 rfl (by decide) (R 20 rfl) rfl rfl (Nat.le_of_ble_eq_true rfl) (Nat.le_of_ble_eq_true rfl) (by decide) rfl rfl (fun Ψ hΨ => run_pF_writesLeft R rfl hΨ) ?_
        show Run Γ rg κ Y_X7_write 59 [(8, 0), (0, p1)] [(0, (pF_writesLeft D2))] D2 Φ
        exact c_iret d_X7_write_59 rfl h
      · skip
        show Run Γ rg κ Y_X7_write 33 [(8, 0), (0, p1)] [] D Φ
        exact c_throwW (text := "no flush is running") tk_RX7_204_208 (by decide +kernel) d_X7_write_33 d_X7_write_36 d_X7_write_37 d_X7_write_40 d_X7_write_43 rfl (by decide) (Nat.le_of_ble_eq_true rfl) h
    · skip
      exact Run.forget (ls' := [(5, 0), (5, 0)]) ⟨Or.inl rfl, Or.inl rfl, trivial⟩ (hJ1 D h)
set_option maxRecDepth 20000 in
theorem run_pF_heldByLog {Γ : GG} {rg : Nat → Bool} {κ : Nat} {Φ : OT → DD → Prop} (R : cov rg rg0) (p1 : Int) {D : DD} {x : Int} (h : EQx x (pF_heldByLog p1 D)) (hΦ : Φ (.inl (some (0, x))) D) : Run Γ rg κ Y_X1_heldByLog 0 [(28, 0), (0, p1)] [] D Φ := by
  unfold pF_heldByLog at h
  show Run Γ rg κ Y_X1_heldByLog 0 [(28, 0), (0, p1)] [] D Φ
  refine r_aload_n d_X1_heldByLog_0 rfl (by decide) ?_
  refine r_getR (t := 31) d_X1_heldByLog_1 fk_RX1_19 sh_20 rfl (by decide) (R 20 rfl) ?_
  refine r_iload_n d_X1_heldByLog_4 rfl ?_
  refine c_callNPi (as := [(39, 0), (0, p1)]) (rest := []) (ls' := [(39, 0), (0, p1)]) d_X1_heldByLog_5 ck_RX1_64 rfl rfl rfl (Nat.le_of_ble_eq_true rfl) (Nat.le_of_ble_eq_true rfl) (by decide) rfl rfl (fun Ψ hΨ => run_pH_read sh_31 (by decide) (R 31 rfl) (by decide) _ rfl hΨ) ?_
  show Run Γ rg κ Y_X1_heldByLog 8 [(28, 0), (0, p1)] [(0, (rd 2 31 p1 D))] D Φ
  exact e_iret d_X1_heldByLog_8 rfl h hΦ
set_option maxRecDepth 20000 in
theorem run_pH_log {Γ : GG} {rg : Nat → Bool} {κ : Nat} {Φ : OT → DD → Prop} (R : cov rg rg0) (p1 : Int) {D : DD} (h : WP (some .int) κ Φ (pH_log p1 D)) : Run Γ rg κ Y_X7_log 0 [(8, 0), (0, p1)] [] D Φ := by
  unfold pH_log at h
  show Run Γ rg κ Y_X7_log 0 [(8, 0), (0, p1)] [] D Φ
  refine r_iload_n d_X7_log_0 rfl ?_
  refine c_jn (fun J => ∀ (D1 : DD), WP (some .int) κ Φ (J D1) → Run Γ rg κ Y_X7_log 9 [(5, 0), (5, 0)] [] D1 Φ) h ?_ (fun J1 hJ1 h => ?_)
  · intro D1 h
    show Run Γ rg κ Y_X7_log 9 [(5, 0), (5, 0)] [] D1 Φ
    exact c_throwW (text := "there are the logs 0 and 1 only") tk_RX7_279_283 (by decide +kernel) d_X7_log_9 d_X7_log_12 d_X7_log_13 d_X7_log_16 d_X7_log_19 rfl (by decide) (Nat.le_of_ble_eq_true rfl) h
  refine c_if_lt (tgt := 9) d_X7_log_1 (by decide) (nz_w _) h (fun h => ?_) (fun h => ?_)
  · skip
    exact Run.forget (ls' := [(5, 0), (5, 0)]) ⟨Or.inl rfl, Or.inl rfl, trivial⟩ (hJ1 D h)
  · skip
    show Run Γ rg κ Y_X7_log 4 [(8, 0), (0, p1)] [] D Φ
    refine r_iload_n d_X7_log_4 rfl ?_
    refine r_iconst d_X7_log_5 ?_
    refine c_icmp_le (tgt := 20) d_X7_log_6 (by decide) (nz_w _) (nz_k rfl) h (fun h => ?_) (fun h => ?_)
    · skip
      show Run Γ rg κ Y_X7_log 20 [(8, 0), (0, p1)] [] D Φ
      refine r_aload_n d_X7_log_20 rfl (by decide) ?_
      refine r_getR (t := 20) d_X7_log_21 fk_RX7_62 sh_0 rfl (by decide) (R 0 rfl) ?_
      refine r_iload_n d_X7_log_24 rfl ?_
      refine c_callVPi (a := 20) (z := 0) (as := [(0, p1)]) (rest := []) (ls' := [(28, 0), (0, p1)]) d_X7_log_25 ck_RX7_331 rfl sh_20 rfl (by decide) (R 20 rfl) rfl rfl (Nat.le_of_ble_eq_true rfl) (Nat.le_of_ble_eq_true rfl) (by decide) rfl rfl (fun Ψ hΨ => run_pF_heldByLog R _ rfl hΨ) ?_
      show Run Γ rg κ Y_X7_log 28 [(8, 0), (0, p1)] [(0, (pF_heldByLog p1 D))] D Φ
      exact c_iret d_X7_log_28 rfl h
    · skip
      exact Run.forget (ls' := [(5, 0), (5, 0)]) ⟨Or.inl rfl, Or.inl rfl, trivial⟩ (hJ1 D h)
set_option maxRecDepth 20000 in
theorem run_pF_breakOff {Γ : GG} {rg : Nat → Bool} {κ : Nat} {Φ : OT → DD → Prop} (R : cov rg rg0) {D : DD} (h : WPD Φ (pF_breakOff D)) : Run Γ rg κ Y_X1_breakOff 0 [(28, 0)] [] D Φ := by
  unfold pF_breakOff at h
  show Run Γ rg κ Y_X1_breakOff 0 [(28, 0)] [] D Φ
  refine r_aload_n d_X1_breakOff_0 rfl (by decide) ?_
  refine r_getI d_X1_breakOff_1 fk_RX1_34 sh_20 rfl (by decide) (by decide) (R 20 rfl) ?_
  refine c_jn (fun J => ∀ (D1 : DD), WPD Φ (J D1) → Run Γ rg κ Y_X1_breakOff 18 [(28, 0)] [] D1 Φ) h ?_ (fun J1 hJ1 h => ?_)
  · intro D1 h
    show Run Γ rg κ Y_X1_breakOff 18 [(28, 0)] [] D1 Φ
    refine r_aload_n d_X1_breakOff_18 rfl (by decide) ?_
    refine r_iconst d_X1_breakOff_19 ?_
    refine c_putZ (k := 6) d_X1_breakOff_20 pk_RX1_34 sh_20 rfl (by decide) (R 20 rfl) (Or.inl rfl) h (fun D2 h => ?_)
    exact d_vret d_X1_breakOff_23 rfl h
  refine c_if_eq (tgt := 18) d_X1_breakOff_4 (by decide) (nz_w _) h (fun h => ?_) (fun h => ?_)
  · skip
    exact (hJ1 D h)
  · skip
    show Run Γ rg κ Y_X1_breakOff 7 [(28, 0)] [] D Φ
    refine r_aload_n d_X1_breakOff_7 rfl (by decide) ?_
    refine c_callVPi (a := 20) (z := 0) (as := []) (rest := []) (ls' := [(28, 0)]) d_X1_breakOff_8 ck_RX1_51 rfl sh_20 rfl (by decide) (R 20 rfl) rfl rfl (Nat.le_of_ble_eq_true rfl) (Nat.le_of_ble_eq_true rfl) (by decide) rfl rfl (fun Ψ hΨ => run_pF_isSealed R rfl hΨ) ?_
    show Run Γ rg κ Y_X1_breakOff 11 [(28, 0)] [(0, (pF_isSealed D))] D Φ
    refine c_if_eq (tgt := 18) d_X1_breakOff_11 (by decide) (nz_b (pF_isSealed_b D)) h (fun h => ?_) (fun h => ?_)
    · skip
      exact (hJ1 D h)
    · skip
      show Run Γ rg κ Y_X1_breakOff 14 [(28, 0)] [] D Φ
      refine r_aload_n d_X1_breakOff_14 rfl (by decide) ?_
      refine c_callVD (a := 20) (z := 0) (as := []) (rest := []) (ls' := [(28, 0)]) d_X1_breakOff_15 ck_RX1_61 rfl sh_20 rfl (by decide) (R 20 rfl) rfl rfl (Nat.le_of_ble_eq_true rfl) (Nat.le_of_ble_eq_true rfl) (by decide) rfl rfl (fun Ψ hΨ => run_pF_endWhole R hΨ) h (fun D3 h => ?_)
      show Run Γ rg κ Y_X1_breakOff 18 [(28, 0)] [] D3 Φ
      exact (hJ1 D3 h)
set_option maxRecDepth 20000 in
theorem run_pI_copyFrom_2_21 {Γ : GG} {rg : Nat → Bool} {κ : Nat} {Φ : OT → DD → Prop} (R : cov rg rg0) {D : DD} (h : WPD Φ (pI_copyFrom_2_21 D)) : Run Γ rg κ Y_X2_copyFrom 0 [(10, 0), (29, 0)] [] D Φ := by
  unfold pI_copyFrom_2_21 at h
  show Run Γ rg κ Y_X2_copyFrom 0 [(10, 0), (29, 0)] [] D Φ
  refine r_aload_n d_X2_copyFrom_0 rfl (by decide) ?_
  refine r_getR (t := 22) d_X2_copyFrom_1 fk_RX2_11 sh_21 rfl (by decide) (R 21 rfl) ?_
  refine r_iconst d_X2_copyFrom_4 ?_
  refine r_aload_n d_X2_copyFrom_5 rfl (by decide) ?_
  refine r_getR (t := 3) d_X2_copyFrom_6 fk_RX2_11 sh_2 rfl (by decide) (R 2 rfl) ?_
  refine r_iconst d_X2_copyFrom_9 ?_
  refine r_sipush d_X2_copyFrom_10 (by decide) ?_
  refine c_acopy (n := 1024) d_X2_copyFrom_13 ak_RX2_35 sh_22 sh_3 (by decide) (by decide) (R 22 rfl) (R 3 rfl) (by decide) rfl (by decide) (by decide) (Nat.le_of_ble_eq_true rfl) (by decide) h (fun D1 h => ?_)
  refine r_aload_n d_X2_copyFrom_16 rfl (by decide) ?_
  refine r_getR (t := 23) d_X2_copyFrom_17 fk_RX2_15 sh_21 rfl (by decide) (R 21 rfl) ?_
  refine r_iconst d_X2_copyFrom_20 ?_
  show Run Γ rg κ Y_X2_copyFrom 21 [(10, 0), (29, 0)] [(0, 0), (31, 0)] D1 Φ
  refine r_aload_n d_X2_copyFrom_21 rfl (by decide) ?_
  refine r_getR (t := 4) d_X2_copyFrom_22 fk_RX2_15 sh_2 rfl (by decide) (R 2 rfl) ?_
  refine r_iconst d_X2_copyFrom_25 ?_
  refine r_sipush d_X2_copyFrom_26 (by decide) ?_
  refine c_acopy (n := 1024) d_X2_copyFrom_29 ak_RX2_35 sh_23 sh_4 (by decide) (by decide) (R 23 rfl) (R 4 rfl) (by decide) rfl (by decide) (by decide) (Nat.le_of_ble_eq_true rfl) (by decide) h (fun D2 h => ?_)
  refine r_aload_n d_X2_copyFrom_32 rfl (by decide) ?_
  refine r_getR (t := 24) d_X2_copyFrom_33 fk_RX2_18 sh_21 rfl (by decide) (R 21 rfl) ?_
  refine r_iconst d_X2_copyFrom_36 ?_
  refine r_aload_n d_X2_copyFrom_37 rfl (by decide) ?_
  refine r_getR (t := 5) d_X2_copyFrom_38 fk_RX2_18 sh_2 rfl (by decide) (R 2 rfl) ?_
  refine r_iconst d_X2_copyFrom_41 ?_
  refine r_bipush d_X2_copyFrom_42 (by decide) ?_
  show Run Γ rg κ Y_X2_copyFrom 44 [(10, 0), (29, 0)] [(0, 80), (0, 0), (13, 0), (0, 0), (32, 0)] D2 Φ
  refine c_acopy (n := 80) d_X2_copyFrom_44 ak_RX2_35 sh_24 sh_5 (by decide) (by decide) (R 24 rfl) (R 5 rfl) (by decide) rfl (by decide) (by decide) (Nat.le_of_ble_eq_true rfl) (by decide) h (fun D3 h => ?_)
  refine r_aload_n d_X2_copyFrom_47 rfl (by decide) ?_
  refine r_getR (t := 25) d_X2_copyFrom_48 fk_RX2_21 sh_21 rfl (by decide) (R 21 rfl) ?_
  refine r_iconst d_X2_copyFrom_51 ?_
  refine r_aload_n d_X2_copyFrom_52 rfl (by decide) ?_
  refine r_getR (t := 6) d_X2_copyFrom_53 fk_RX2_21 sh_2 rfl (by decide) (R 2 rfl) ?_
  refine r_iconst d_X2_copyFrom_56 ?_
  refine r_sipush d_X2_copyFrom_57 (by decide) ?_
  refine c_acopy (n := 256) d_X2_copyFrom_60 ak_RX2_35 sh_25 sh_6 (by decide) (by decide) (R 25 rfl) (R 6 rfl) (by decide) rfl (by decide) (by decide) (Nat.le_of_ble_eq_true rfl) (by decide) h (fun D4 h => ?_)
  refine r_aload_n d_X2_copyFrom_63 rfl (by decide) ?_
  refine r_aload_n d_X2_copyFrom_64 rfl (by decide) ?_
  refine r_getI d_X2_copyFrom_65 fk_RX2_24 sh_21 rfl (by decide) (by decide) (R 21 rfl) ?_
  show Run Γ rg κ Y_X2_copyFrom 68 [(10, 0), (29, 0)] [(0, (D4 21 4)), (10, 0)] D4 Φ
  refine c_putI (k := 4) d_X2_copyFrom_68 pk_RX2_24 sh_2 rfl (by decide) (R 2 rfl) h (fun D5 h => ?_)
  refine r_aload_n d_X2_copyFrom_71 rfl (by decide) ?_
  refine r_aload_n d_X2_copyFrom_72 rfl (by decide) ?_
  refine r_getI d_X2_copyFrom_73 fk_RX2_28 sh_21 rfl (by decide) (by decide) (R 21 rfl) ?_
  refine c_putI (k := 5) d_X2_copyFrom_76 pk_RX2_28 sh_2 rfl (by decide) (R 2 rfl) h (fun D6 h => ?_)
  exact d_vret d_X2_copyFrom_79 rfl h
set_option maxRecDepth 20000 in
theorem run_pF_restoreWhole {Γ : GG} {rg : Nat → Bool} {κ : Nat} {Φ : OT → DD → Prop} (R : cov rg rg0) {D : DD} (h : WPD Φ (pF_restoreWhole D)) : Run Γ rg κ Y_X1_restoreWhole 0 [(28, 0), (10, 0)] [] D Φ := by
  unfold pF_restoreWhole at h
  show Run Γ rg κ Y_X1_restoreWhole 0 [(28, 0), (10, 0)] [] D Φ
  refine r_aload_n d_X1_restoreWhole_0 rfl (by decide) ?_
  refine r_aload_n d_X1_restoreWhole_1 rfl (by decide) ?_
  refine r_getR (t := 21) d_X1_restoreWhole_2 fk_RX1_10 sh_20 rfl (by decide) (R 20 rfl) ?_
  refine c_callVD (a := 2) (z := 0) (as := [(29, 0)]) (rest := []) (ls' := [(10, 0), (29, 0)]) d_X1_restoreWhole_5 ck_RX1_23 rfl sh_2 rfl (by decide) (R 2 rfl) rfl rfl (Nat.le_of_ble_eq_true rfl) (Nat.le_of_ble_eq_true rfl) (by decide) rfl rfl (fun Ψ hΨ => run_pI_copyFrom_2_21 R hΨ) h (fun D1 h => ?_)
  show Run Γ rg κ Y_X1_restoreWhole 8 [(28, 0), (10, 0)] [] D1 Φ
  exact d_vret d_X1_restoreWhole_8 rfl h
set_option maxRecDepth 20000 in
theorem run_pW_endAll_2 {Γ : GG} {rg : Nat → Bool} {κ : Nat} {Φ : OT → DD → Prop} (R : cov rg rg0) : ∀ (n : Nat) (a1 : Int) (D : DD), WP none κ Φ (pW_endAll_2 n a1 D) → Run Γ rg κ Y_X6_endAll 2 [(23, 0), (0, a1)] [] D Φ := by
  intro n
  induction n with
  | zero => intro a1 D h; exact h.no.elim
  | succ n ih =>
    intro a1 D h
    rw [pW_endAll_2] at h
    show Run Γ rg κ Y_X6_endAll 2 [(23, 0), (0, a1)] [] D Φ
    refine r_iload_n d_X6_endAll_2 rfl ?_
    refine r_bipush d_X6_endAll_3 (by decide) ?_
    refine c_icmp_ge (tgt := 19) d_X6_endAll_5 (by decide) (nz_w _) (nz_k rfl) h (fun h => ?_) (fun h => ?_)
    · skip
      show Run Γ rg κ Y_X6_endAll 19 [(23, 0), (0, a1)] [] D Φ
      exact c_vret d_X6_endAll_19 rfl h
    · skip
      show Run Γ rg κ Y_X6_endAll 8 [(23, 0), (0, a1)] [] D Φ
      refine r_aload_n d_X6_endAll_8 rfl (by decide) ?_
      refine r_iload_n d_X6_endAll_9 rfl ?_
      refine c_callVD (a := 15) (z := 0) (as := [(0, a1)]) (rest := []) (ls' := [(23, 0), (0, a1)]) d_X6_endAll_10 ck_RX6_36 rfl sh_15 rfl (by decide) (R 15 rfl) rfl rfl (Nat.le_of_ble_eq_true rfl) (Nat.le_of_ble_eq_true rfl) (by decide) rfl rfl (fun Ψ hΨ => run_pW_end R _ hΨ) h (fun D1 h => ?_)
      show Run Γ rg κ Y_X6_endAll 13 [(23, 0), (0, a1)] [] D1 Φ
      refine r_iinc d_X6_endAll_13 rfl (by decide) rfl ?_
      show Run Γ rg κ Y_X6_endAll 16 [(23, 0), (0, (a1 + 1))] [] D1 Φ
      refine r_goto (tgt := 2) d_X6_endAll_16 (by decide) ?_
      exact (ih (a1 + 1) D1 h)
set_option maxRecDepth 20000 in
theorem run_pW_endAll {Γ : GG} {rg : Nat → Bool} {κ : Nat} {Φ : OT → DD → Prop} (R : cov rg rg0) {D : DD} (h : WP none κ Φ (pW_endAll D)) : Run Γ rg κ Y_X6_endAll 0 [(23, 0), (5, 0)] [] D Φ := by
  unfold pW_endAll at h
  show Run Γ rg κ Y_X6_endAll 0 [(23, 0), (5, 0)] [] D Φ
  refine r_iconst d_X6_endAll_0 ?_
  refine r_istore_n d_X6_endAll_1 (by decide) rfl ?_
  show Run Γ rg κ Y_X6_endAll 2 [(23, 0), (0, 0)] [] D Φ
  exact run_pW_endAll_2 R fu 0 D h
set_option maxRecDepth 20000 in
theorem run_pH_crash {Γ : GG} {rg : Nat → Bool} {κ : Nat} {Φ : OT → DD → Prop} (R : cov rg rg0) {D : DD} (h : WP (some .int) κ Φ (pH_crash D)) : Run Γ rg κ Y_X7_crash 0 [(8, 0)] [] D Φ := by
  unfold pH_crash at h
  show Run Γ rg κ Y_X7_crash 0 [(8, 0)] [] D Φ
  refine r_aload_n d_X7_crash_0 rfl (by decide) ?_
  refine r_getR (t := 20) d_X7_crash_1 fk_RX7_62 sh_0 rfl (by decide) (R 0 rfl) ?_
  refine c_callVD (a := 20) (z := 0) (as := []) (rest := []) (ls' := [(28, 0)]) d_X7_crash_4 ck_RX7_334 rfl sh_20 rfl (by decide) (R 20 rfl) rfl rfl (Nat.le_of_ble_eq_true rfl) (Nat.le_of_ble_eq_true rfl) (by decide) rfl rfl (fun Ψ hΨ => run_pF_breakOff R hΨ) h (fun D1 h => ?_)
  show Run Γ rg κ Y_X7_crash 7 [(8, 0)] [] D1 Φ
  refine r_aload_n d_X7_crash_7 rfl (by decide) ?_
  refine r_getR (t := 20) d_X7_crash_8 fk_RX7_62 sh_0 rfl (by decide) (R 0 rfl) ?_
  refine r_aload_n d_X7_crash_11 rfl (by decide) ?_
  refine r_getR (t := 2) d_X7_crash_12 fk_RX7_21 sh_0 rfl (by decide) (R 0 rfl) ?_
  refine c_callVD (a := 20) (z := 0) (as := [(10, 0)]) (rest := []) (ls' := [(28, 0), (10, 0)]) d_X7_crash_15 ck_RX7_337 rfl sh_20 rfl (by decide) (R 20 rfl) rfl rfl (Nat.le_of_ble_eq_true rfl) (Nat.le_of_ble_eq_true rfl) (by decide) rfl rfl (fun Ψ hΨ => run_pF_restoreWhole R hΨ) h (fun D2 h => ?_)
  show Run Γ rg κ Y_X7_crash 18 [(8, 0)] [] D2 Φ
  refine r_aload_n d_X7_crash_18 rfl (by decide) ?_
  refine r_getR (t := 7) d_X7_crash_19 fk_RX7_25 sh_0 rfl (by decide) (R 0 rfl) ?_
  refine c_callVD (a := 7) (z := 0) (as := []) (rest := []) (ls' := [(15, 0)]) d_X7_crash_22 ck_RX7_89 rfl sh_7 rfl (by decide) (R 7 rfl) rfl rfl (Nat.le_of_ble_eq_true rfl) (Nat.le_of_ble_eq_true rfl) (by decide) rfl rfl (fun Ψ hΨ => run_pC_forgetDirty R hΨ) h (fun D3 h => ?_)
  show Run Γ rg κ Y_X7_crash 25 [(8, 0)] [] D3 Φ
  show Run Γ rg κ Y_X7_crash 25 [(8, 0)] [] D3 Φ
  refine r_aload_n d_X7_crash_25 rfl (by decide) ?_
  refine r_getR (t := 15) d_X7_crash_26 fk_RX7_55 sh_0 rfl (by decide) (R 0 rfl) ?_
  refine c_callVv (a := 15) (z := 0) (as := []) (rest := []) (ls' := [(23, 0), (5, 0)]) d_X7_crash_29 ck_RX7_340 rfl sh_15 rfl (by decide) (R 15 rfl) rfl rfl (Nat.le_of_ble_eq_true rfl) (Nat.le_of_ble_eq_true rfl) (by decide) rfl rfl (fun κ' Ψ hΨ => run_pW_endAll R hΨ) h (fun _ D4 h => ?_)
  show Run Γ rg κ Y_X7_crash 32 [(8, 0)] [] D4 Φ
  refine r_aload_n d_X7_crash_32 rfl (by decide) ?_
  refine r_getR (t := 20) d_X7_crash_33 fk_RX7_62 sh_0 rfl (by decide) (R 0 rfl) ?_
  refine r_getI d_X7_crash_36 fk_RX7_343 sh_20 rfl (by decide) (by decide) (R 20 rfl) ?_
  exact c_iret d_X7_crash_39 rfl h
