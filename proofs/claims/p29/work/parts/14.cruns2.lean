/-! the class: each run keeps to its reading -/
set_option maxRecDepth 20000 in
theorem run_pV_unitsOf_35 {Γ : GG} {rg : Nat → Bool} {κ : Nat} {Φ : OT → DD → Prop} (R : cov rg rg0) (a1 : Int) (a2 : Int) : ∀ (n : Nat) (a3 : Int) (a4 : Int) (D : DD), WP (some .int) κ Φ (pV_unitsOf_35 a1 a2 n a3 a4 D) → Run Γ rg κ Y_X5_unitsOf 35 [(20, 0), (0, a1), (0, a2), (0, a3), (0, a4), (5, 0), (5, 0), (5, 0)] [] D Φ := by
  intro n
  induction n with
  | zero => intro a3 a4 D h; exact h.no.elim
  | succ n ih =>
    intro a3 a4 D h
    rw [pV_unitsOf_35] at h
    show Run Γ rg κ Y_X5_unitsOf 35 [(20, 0), (0, a1), (0, a2), (0, a3), (0, a4), (5, 0), (5, 0), (5, 0)] [] D Φ
    refine r_iload d_X5_unitsOf_35 rfl ?_
    refine r_iload_n d_X5_unitsOf_37 rfl ?_
    refine c_icmp_ge (tgt := 124) d_X5_unitsOf_38 (by decide) (nz_w _) (nz_w _) h (fun h => ?_) (fun h => ?_)
    · skip
      show Run Γ rg κ Y_X5_unitsOf 124 [(20, 0), (0, a1), (0, a2), (0, a3), (0, a4), (5, 0), (5, 0), (5, 0)] [] D Φ
      refine r_iload_n d_X5_unitsOf_124 rfl ?_
      exact c_iret d_X5_unitsOf_125 rfl h
    · skip
      show Run Γ rg κ Y_X5_unitsOf 41 [(20, 0), (0, a1), (0, a2), (0, a3), (0, a4), (5, 0), (5, 0), (5, 0)] [] D Φ
      refine r_aload_n d_X5_unitsOf_41 rfl (by decide) ?_
      refine r_iload_n d_X5_unitsOf_42 rfl ?_
      refine r_iload d_X5_unitsOf_43 rfl ?_
      refine c_callVPi (a := 12) (z := 0) (as := [(0, a1), (0, a4)]) (rest := []) (ls' := [(20, 0), (0, a1), (0, a4)]) d_X5_unitsOf_45 ck_RX5_31 rfl sh_12 rfl (by decide) (R 12 rfl) rfl rfl (Nat.le_of_ble_eq_true rfl) (Nat.le_of_ble_eq_true rfl) (by decide) rfl rfl (fun Ψ hΨ => run_pV_cellNumbered R _ _ rfl hΨ) ?_
      show Run Γ rg κ Y_X5_unitsOf 48 [(20, 0), (0, a1), (0, a2), (0, a3), (0, a4), (5, 0), (5, 0), (5, 0)] [(0, (pV_cellNumbered a1 a4 D))] D Φ
      refine c_lt d_X5_unitsOf_48 (by decide) rfl h (fun x1 h => ?_)
      show Run Γ rg κ Y_X5_unitsOf 50 [(20, 0), (0, a1), (0, a2), (0, a3), (0, a4), (0, x1), (5, 0), (5, 0)] [] D Φ
      refine r_iload_n d_X5_unitsOf_50 rfl ?_
      refine r_aload_n d_X5_unitsOf_51 rfl (by decide) ?_
      refine r_getR (t := 2) d_X5_unitsOf_52 fk_RX5_9 sh_12 rfl (by decide) (R 12 rfl) ?_
      refine r_iload d_X5_unitsOf_55 rfl ?_
      refine c_callVPi (a := 2) (z := 0) (as := [(0, x1)]) (rest := [(0, a3)]) (ls' := [(10, 0), (0, x1)]) d_X5_unitsOf_57 ck_RX5_35 rfl sh_2 rfl (by decide) (R 2 rfl) rfl rfl (Nat.le_of_ble_eq_true rfl) (Nat.le_of_ble_eq_true rfl) (by decide) rfl rfl (fun Ψ hΨ => run_pI_sizeAt R _ rfl hΨ) ?_
      show Run Γ rg κ Y_X5_unitsOf 60 [(20, 0), (0, a1), (0, a2), (0, a3), (0, a4), (0, x1), (5, 0), (5, 0)] [(0, (pI_sizeAt x1 D)), (0, a3)] D Φ
      refine r_iadd d_X5_unitsOf_60 ?_
      show Run Γ rg κ Y_X5_unitsOf 61 [(20, 0), (0, a1), (0, a2), (0, a3), (0, a4), (0, x1), (5, 0), (5, 0)] [(0, (a3 + (pI_sizeAt x1 D)))] D Φ
      refine c_lt_n d_X5_unitsOf_61 (by decide) rfl h (fun x2 h => ?_)
      show Run Γ rg κ Y_X5_unitsOf 62 [(20, 0), (0, a1), (0, a2), (0, x2), (0, a4), (0, x1), (5, 0), (5, 0)] [] D Φ
      refine r_aload_n d_X5_unitsOf_62 rfl (by decide) ?_
      refine r_getR (t := 2) d_X5_unitsOf_63 fk_RX5_9 sh_12 rfl (by decide) (R 12 rfl) ?_
      refine r_iload d_X5_unitsOf_66 rfl ?_
      refine r_iconst d_X5_unitsOf_68 ?_
      refine r_iadd d_X5_unitsOf_69 ?_
      refine c_callVPi (a := 2) (z := 0) (as := [(0, (x1 + 2))]) (rest := []) (ls' := [(10, 0), (0, (x1 + 2))]) d_X5_unitsOf_70 ck_RX5_19 rfl sh_2 rfl (by decide) (R 2 rfl) rfl rfl (Nat.le_of_ble_eq_true rfl) (Nat.le_of_ble_eq_true rfl) (by decide) rfl rfl (fun Ψ hΨ => run_pI_unitAt R _ rfl hΨ) ?_
      show Run Γ rg κ Y_X5_unitsOf 73 [(20, 0), (0, a1), (0, a2), (0, x2), (0, a4), (0, x1), (5, 0), (5, 0)] [(0, (pI_unitAt (x1 + 2) D))] D Φ
      refine c_lt d_X5_unitsOf_73 (by decide) rfl h (fun x3 h => ?_)
      show Run Γ rg κ Y_X5_unitsOf 75 [(20, 0), (0, a1), (0, a2), (0, x2), (0, a4), (0, x1), (0, x3), (5, 0)] [] D Φ
      refine r_iconst d_X5_unitsOf_75 ?_
      refine r_istore d_X5_unitsOf_76 (by decide) rfl ?_
      show Run Γ rg κ Y_X5_unitsOf 78 [(20, 0), (0, a1), (0, a2), (0, x2), (0, a4), (0, x1), (0, x3), (0, 0)] [] D Φ
      refine Run.forget (ls' := [(20, 0), (0, a1), (0, a2), (0, x2), (0, a4), (5, 0), (0, x3), (0, 0)]) ⟨Or.inr rfl, Or.inr rfl, Or.inr rfl, Or.inr rfl, Or.inr rfl, Or.inl rfl, Or.inr rfl, Or.inr rfl, trivial⟩ ?_
      refine run_pV_unitsOf_78 R a1 a2 a4 ?_ fu x2 x3 0 D h
      intro x4 D1 h
      show Run Γ rg κ Y_X5_unitsOf 118 [(20, 0), (0, a1), (0, a2), (0, x4), (0, a4), (5, 0), (5, 0), (5, 0)] [] D1 Φ
      refine r_iinc d_X5_unitsOf_118 rfl (by decide) rfl ?_
      show Run Γ rg κ Y_X5_unitsOf 121 [(20, 0), (0, a1), (0, a2), (0, x4), (0, (a4 + 1)), (5, 0), (5, 0), (5, 0)] [] D1 Φ
      refine r_goto (tgt := 35) d_X5_unitsOf_121 (by decide) ?_
      exact (ih x4 (a4 + 1) D1 h)
set_option maxRecDepth 20000 in
theorem run_pV_unitsOf {Γ : GG} {rg : Nat → Bool} {κ : Nat} {Φ : OT → DD → Prop} (R : cov rg rg0) (p1 : Int) {D : DD} (h : WP (some .int) κ Φ (pV_unitsOf p1 D)) : Run Γ rg κ Y_X5_unitsOf 0 [(20, 0), (0, p1), (5, 0), (5, 0), (5, 0), (5, 0), (5, 0), (5, 0)] [] D Φ := by
  unfold pV_unitsOf at h
  show Run Γ rg κ Y_X5_unitsOf 0 [(20, 0), (0, p1), (5, 0), (5, 0), (5, 0), (5, 0), (5, 0), (5, 0)] [] D Φ
  refine r_aload_n d_X5_unitsOf_0 rfl (by decide) ?_
  refine r_iload_n d_X5_unitsOf_1 rfl ?_
  refine c_callVPi (a := 12) (z := 0) (as := [(0, p1)]) (rest := []) (ls' := [(20, 0), (0, p1), (5, 0)]) d_X5_unitsOf_2 ck_RX5_28 rfl sh_12 rfl (by decide) (R 12 rfl) rfl rfl (Nat.le_of_ble_eq_true rfl) (Nat.le_of_ble_eq_true rfl) (by decide) rfl rfl (fun Ψ hΨ => run_pV_valueCount R _ rfl hΨ) ?_
  show Run Γ rg κ Y_X5_unitsOf 5 [(20, 0), (0, p1), (5, 0), (5, 0), (5, 0), (5, 0), (5, 0), (5, 0)] [(0, (pV_valueCount p1 D))] D Φ
  refine c_lt_n d_X5_unitsOf_5 (by decide) rfl h (fun x1 h => ?_)
  show Run Γ rg κ Y_X5_unitsOf 6 [(20, 0), (0, p1), (0, x1), (5, 0), (5, 0), (5, 0), (5, 0), (5, 0)] [] D Φ
  refine r_iload_n d_X5_unitsOf_6 rfl ?_
  refine c_jn (fun J => ∀ (x2 : Int) (D1 : DD), WP (some .int) κ Φ (J x2 D1) → Run Γ rg κ Y_X5_unitsOf 31 [(20, 0), (0, p1), (0, x1), (5, 0), (5, 0), (5, 0), (5, 0), (5, 0)] [(0, x2)] D1 Φ) h ?_ (fun J1 hJ1 h => ?_)
  · intro x2 D1 h
    show Run Γ rg κ Y_X5_unitsOf 31 [(20, 0), (0, p1), (0, x1), (5, 0), (5, 0), (5, 0), (5, 0), (5, 0)] [(0, x2)] D1 Φ
    refine r_istore_n d_X5_unitsOf_31 (by decide) rfl ?_
    show Run Γ rg κ Y_X5_unitsOf 32 [(20, 0), (0, p1), (0, x1), (0, x2), (5, 0), (5, 0), (5, 0), (5, 0)] [] D1 Φ
    refine r_iconst d_X5_unitsOf_32 ?_
    refine r_istore d_X5_unitsOf_33 (by decide) rfl ?_
    show Run Γ rg κ Y_X5_unitsOf 35 [(20, 0), (0, p1), (0, x1), (0, x2), (0, 0), (5, 0), (5, 0), (5, 0)] [] D1 Φ
    exact run_pV_unitsOf_35 R p1 x1 fu x2 0 D1 h
  refine c_if_ne (tgt := 14) d_X5_unitsOf_7 (by decide) (nz_w _) h (fun h => ?_) (fun h => ?_)
  · skip
    show Run Γ rg κ Y_X5_unitsOf 14 [(20, 0), (0, p1), (0, x1), (5, 0), (5, 0), (5, 0), (5, 0), (5, 0)] [] D Φ
    refine r_aload_n d_X5_unitsOf_14 rfl (by decide) ?_
    refine r_getR (t := 2) d_X5_unitsOf_15 fk_RX5_9 sh_12 rfl (by decide) (R 12 rfl) ?_
    refine r_aload_n d_X5_unitsOf_18 rfl (by decide) ?_
    refine r_getR (t := 2) d_X5_unitsOf_19 fk_RX5_9 sh_12 rfl (by decide) (R 12 rfl) ?_
    refine r_iload_n d_X5_unitsOf_22 rfl ?_
    refine r_iconst d_X5_unitsOf_23 ?_
    refine r_iadd d_X5_unitsOf_24 ?_
    refine c_callVPi (a := 2) (z := 0) (as := [(0, (p1 + 3))]) (rest := [(10, 0)]) (ls' := [(10, 0), (0, (p1 + 3))]) d_X5_unitsOf_25 ck_RX5_19 rfl sh_2 rfl (by decide) (R 2 rfl) rfl rfl (Nat.le_of_ble_eq_true rfl) (Nat.le_of_ble_eq_true rfl) (by decide) rfl rfl (fun Ψ hΨ => run_pI_unitAt R _ rfl hΨ) ?_
    show Run Γ rg κ Y_X5_unitsOf 28 [(20, 0), (0, p1), (0, x1), (5, 0), (5, 0), (5, 0), (5, 0), (5, 0)] [(0, (pI_unitAt (p1 + 3) D)), (10, 0)] D Φ
    refine c_callVPi (a := 2) (z := 0) (as := [(0, (pI_unitAt (p1 + 3) D))]) (rest := []) (ls' := [(10, 0), (0, (pI_unitAt (p1 + 3) D))]) d_X5_unitsOf_28 ck_RX5_35 rfl sh_2 rfl (by decide) (R 2 rfl) rfl rfl (Nat.le_of_ble_eq_true rfl) (Nat.le_of_ble_eq_true rfl) (by decide) rfl rfl (fun Ψ hΨ => run_pI_sizeAt R _ rfl hΨ) ?_
    show Run Γ rg κ Y_X5_unitsOf 31 [(20, 0), (0, p1), (0, x1), (5, 0), (5, 0), (5, 0), (5, 0), (5, 0)] [(0, (pI_sizeAt (pI_unitAt (p1 + 3) D) D))] D Φ
    exact (hJ1 (pI_sizeAt (pI_unitAt (p1 + 3) D) D) D h)
  · skip
    show Run Γ rg κ Y_X5_unitsOf 10 [(20, 0), (0, p1), (0, x1), (5, 0), (5, 0), (5, 0), (5, 0), (5, 0)] [] D Φ
    refine r_iconst d_X5_unitsOf_10 ?_
    refine r_goto (tgt := 31) d_X5_unitsOf_11 (by decide) ?_
    exact (hJ1 0 D h)
set_option maxRecDepth 20000 in
theorem run_pI_placeOfRights {Γ : GG} {rg : Nat → Bool} {κ : Nat} {Φ : OT → DD → Prop} (R : cov rg rg0) (p1 : Int) {D : DD} {x : Int} (h : EQx x (pI_placeOfRights p1 D)) (hΦ : Φ (.inl (some (0, x))) D) : Run Γ rg κ Y_X2_placeOfRights 0 [(10, 0), (0, p1)] [] D Φ := by
  unfold pI_placeOfRights at h
  show Run Γ rg κ Y_X2_placeOfRights 0 [(10, 0), (0, p1)] [] D Φ
  refine r_aload_n d_X2_placeOfRights_0 rfl (by decide) ?_
  refine r_getR (t := 6) d_X2_placeOfRights_1 fk_RX2_21 sh_2 rfl (by decide) (R 2 rfl) ?_
  refine r_iload_n d_X2_placeOfRights_4 rfl ?_
  refine c_callNPi (as := [(14, 0), (0, p1)]) (rest := []) (ls' := [(14, 0), (0, p1)]) d_X2_placeOfRights_5 ck_RX2_41 rfl rfl rfl (Nat.le_of_ble_eq_true rfl) (Nat.le_of_ble_eq_true rfl) (by decide) rfl rfl (fun Ψ hΨ => run_pH_read sh_6 (by decide) (R 6 rfl) (by decide) _ rfl hΨ) ?_
  show Run Γ rg κ Y_X2_placeOfRights 8 [(10, 0), (0, p1)] [(0, (rd 256 6 p1 D))] D Φ
  exact e_iret d_X2_placeOfRights_8 rfl h hΦ
set_option maxRecDepth 20000 in
theorem run_pS_unitsNotYetCounted {Γ : GG} {rg : Nat → Bool} {κ : Nat} {Φ : OT → DD → Prop} (R : cov rg rg0) (p1 : Int) {D : DD} (h : WP (some .int) κ Φ (pS_unitsNotYetCounted p1 D)) : Run Γ rg κ Y_X4_unitsNotYetCounted 0 [(21, 0), (0, p1), (5, 0)] [] D Φ := by
  unfold pS_unitsNotYetCounted at h
  show Run Γ rg κ Y_X4_unitsNotYetCounted 0 [(21, 0), (0, p1), (5, 0)] [] D Φ
  refine r_aload_n d_X4_unitsNotYetCounted_0 rfl (by decide) ?_
  refine r_getR (t := 14) d_X4_unitsNotYetCounted_1 fk_RX4_9 sh_13 rfl (by decide) (R 13 rfl) ?_
  refine r_iload_n d_X4_unitsNotYetCounted_4 rfl ?_
  refine c_callNPi (as := [(22, 0), (0, p1)]) (rest := []) (ls' := [(22, 0), (0, p1)]) d_X4_unitsNotYetCounted_5 ck_RX4_73 rfl rfl rfl (Nat.le_of_ble_eq_true rfl) (Nat.le_of_ble_eq_true rfl) (by decide) rfl rfl (fun Ψ hΨ => run_pH_read sh_14 (by decide) (R 14 rfl) (by decide) _ rfl hΨ) ?_
  show Run Γ rg κ Y_X4_unitsNotYetCounted 8 [(21, 0), (0, p1), (5, 0)] [(0, (rd 256 14 p1 D))] D Φ
  refine c_jn (fun J => ∀ (x1 : Int) (D1 : DD), WP (some .int) κ Φ (J x1 D1) → Run Γ rg κ Y_X4_unitsNotYetCounted 30 [(21, 0), (0, p1), (5, 0)] [(0, x1)] D1 Φ) h ?_ (fun J1 hJ1 h => ?_)
  · intro x1 D1 h
    show Run Γ rg κ Y_X4_unitsNotYetCounted 30 [(21, 0), (0, p1), (5, 0)] [(0, x1)] D1 Φ
    refine r_istore_n d_X4_unitsNotYetCounted_30 (by decide) rfl ?_
    show Run Γ rg κ Y_X4_unitsNotYetCounted 31 [(21, 0), (0, p1), (0, x1)] [] D1 Φ
    refine r_aload_n d_X4_unitsNotYetCounted_31 rfl (by decide) ?_
    refine r_getR (t := 14) d_X4_unitsNotYetCounted_32 fk_RX4_9 sh_13 rfl (by decide) (R 13 rfl) ?_
    refine r_iload_n d_X4_unitsNotYetCounted_35 rfl ?_
    refine r_iconst d_X4_unitsNotYetCounted_36 ?_
    refine c_callND (as := [(22, 0), (0, p1), (0, 1)]) (rest := []) (ls' := [(22, 0), (0, p1), (0, 1)]) d_X4_unitsNotYetCounted_37 ck_RX4_80 rfl rfl rfl (Nat.le_of_ble_eq_true rfl) (Nat.le_of_ble_eq_true rfl) (by decide) rfl rfl (fun Ψ hΨ => run_pH_store sh_14 (by decide) (R 14 rfl) (by decide) _ _ hΨ) h (fun D2 h => ?_)
    show Run Γ rg κ Y_X4_unitsNotYetCounted 40 [(21, 0), (0, p1), (0, x1)] [] D2 Φ
    refine r_iload_n d_X4_unitsNotYetCounted_40 rfl ?_
    exact c_iret d_X4_unitsNotYetCounted_41 rfl h
  refine c_if_ne (tgt := 29) d_X4_unitsNotYetCounted_8 (by decide) (nz_w _) h (fun h => ?_) (fun h => ?_)
  · skip
    show Run Γ rg κ Y_X4_unitsNotYetCounted 29 [(21, 0), (0, p1), (5, 0)] [] D Φ
    refine r_iconst d_X4_unitsNotYetCounted_29 ?_
    exact (hJ1 0 D h)
  · skip
    show Run Γ rg κ Y_X4_unitsNotYetCounted 11 [(21, 0), (0, p1), (5, 0)] [] D Φ
    refine r_aload_n d_X4_unitsNotYetCounted_11 rfl (by decide) ?_
    refine r_getR (t := 2) d_X4_unitsNotYetCounted_12 fk_RX4_15 sh_13 rfl (by decide) (R 13 rfl) ?_
    refine r_aload_n d_X4_unitsNotYetCounted_15 rfl (by decide) ?_
    refine r_getR (t := 2) d_X4_unitsNotYetCounted_16 fk_RX4_15 sh_13 rfl (by decide) (R 13 rfl) ?_
    refine r_iload_n d_X4_unitsNotYetCounted_19 rfl ?_
    refine c_callVPi (a := 2) (z := 0) (as := [(0, p1)]) (rest := [(10, 0)]) (ls' := [(10, 0), (0, p1)]) d_X4_unitsNotYetCounted_20 ck_RX4_23 rfl sh_2 rfl (by decide) (R 2 rfl) rfl rfl (Nat.le_of_ble_eq_true rfl) (Nat.le_of_ble_eq_true rfl) (by decide) rfl rfl (fun Ψ hΨ => run_pI_placeOfRights R _ rfl hΨ) ?_
    show Run Γ rg κ Y_X4_unitsNotYetCounted 23 [(21, 0), (0, p1), (5, 0)] [(0, (pI_placeOfRights p1 D)), (10, 0)] D Φ
    refine c_callVPi (a := 2) (z := 0) (as := [(0, (pI_placeOfRights p1 D))]) (rest := []) (ls' := [(10, 0), (0, (pI_placeOfRights p1 D))]) d_X4_unitsNotYetCounted_23 ck_RX4_77 rfl sh_2 rfl (by decide) (R 2 rfl) rfl rfl (Nat.le_of_ble_eq_true rfl) (Nat.le_of_ble_eq_true rfl) (by decide) rfl rfl (fun Ψ hΨ => run_pI_sizeAt R _ rfl hΨ) ?_
    show Run Γ rg κ Y_X4_unitsNotYetCounted 26 [(21, 0), (0, p1), (5, 0)] [(0, (pI_sizeAt (pI_placeOfRights p1 D) D))] D Φ
    refine r_goto (tgt := 30) d_X4_unitsNotYetCounted_26 (by decide) ?_
    exact (hJ1 (pI_sizeAt (pI_placeOfRights p1 D) D) D h)
set_option maxRecDepth 20000 in
theorem run_pH_addSubkeysToWalk_12 {Γ : GG} {rg : Nat → Bool} {κ : Nat} {Φ : OT → DD → Prop} (R : cov rg rg0) (a1 : Int) (a2 : Int) (a3 : Int) {K : DD → Res} (hK : ∀ (D : DD), WP (some .int) κ Φ (K D) → Run Γ rg κ Y_X7_addSubkeysToWalk 45 [(5, 0), (5, 0), (0, a2), (0, a3), (5, 0)] [] D Φ) : ∀ (n : Nat) (a4 : Int) (D : DD), WP (some .int) κ Φ (pH_addSubkeysToWalk_12 a1 a2 a3 n a4 D K) → Run Γ rg κ Y_X7_addSubkeysToWalk 12 [(8, 0), (0, a1), (0, a2), (0, a3), (0, a4)] [] D Φ := by
  intro n
  induction n with
  | zero => intro a4 D h; exact h.no.elim
  | succ n ih =>
    intro a4 D h
    rw [pH_addSubkeysToWalk_12] at h
    show Run Γ rg κ Y_X7_addSubkeysToWalk 12 [(8, 0), (0, a1), (0, a2), (0, a3), (0, a4)] [] D Φ
    refine r_iload d_X7_addSubkeysToWalk_12 rfl ?_
    refine r_iload_n d_X7_addSubkeysToWalk_14 rfl ?_
    refine c_icmp_ge (tgt := 45) d_X7_addSubkeysToWalk_15 (by decide) (nz_w _) (nz_w _) h (fun h => ?_) (fun h => ?_)
    · skip
      exact Run.forget (ls' := [(5, 0), (5, 0), (0, a2), (0, a3), (5, 0)]) ⟨Or.inl rfl, Or.inl rfl, Or.inr rfl, Or.inr rfl, Or.inl rfl, trivial⟩ (hK D h)
    · skip
      show Run Γ rg κ Y_X7_addSubkeysToWalk 18 [(8, 0), (0, a1), (0, a2), (0, a3), (0, a4)] [] D Φ
      refine r_aload_n d_X7_addSubkeysToWalk_18 rfl (by decide) ?_
      refine r_getR (t := 1) d_X7_addSubkeysToWalk_19 fk_RX7_9 sh_0 rfl (by decide) (R 0 rfl) ?_
      refine r_iload_n d_X7_addSubkeysToWalk_22 rfl ?_
      refine r_iload d_X7_addSubkeysToWalk_23 rfl ?_
      refine r_iadd d_X7_addSubkeysToWalk_25 ?_
      refine r_aload_n d_X7_addSubkeysToWalk_26 rfl (by decide) ?_
      refine r_getR (t := 11) d_X7_addSubkeysToWalk_27 fk_RX7_34 sh_0 rfl (by decide) (R 0 rfl) ?_
      refine r_iload_n d_X7_addSubkeysToWalk_30 rfl ?_
      refine r_iload d_X7_addSubkeysToWalk_31 rfl ?_
      refine c_callVi (t' := (some .int)) (a := 11) (z := 0) (as := [(0, a1), (0, a4)]) (rest := [(0, (a2 + a4)), (9, 0)]) (ls' := [(19, 0), (0, a1), (0, a4), (5, 0), (5, 0), (5, 0), (5, 0)]) d_X7_addSubkeysToWalk_33 ck_RX7_180 rfl sh_11 rfl (by decide) (R 11 rfl) rfl rfl (Nat.le_of_ble_eq_true rfl) (Nat.le_of_ble_eq_true rfl) (by decide) rfl rfl (fun _ => rfl) (fun κ' Ψ hΨ => run_pL_subkeyNumbered R _ _ hΨ) h (fun v1 D1 h => ?_)
      show Run Γ rg κ Y_X7_addSubkeysToWalk 36 [(8, 0), (0, a1), (0, a2), (0, a3), (0, a4)] [(0, v1), (0, (a2 + a4)), (9, 0)] D1 Φ
      refine c_callSD (as := [(9, 0), (0, (a2 + a4)), (0, v1)]) (rest := []) (ls' := [(9, 0), (0, (a2 + a4)), (0, v1)]) d_X7_addSubkeysToWalk_36 ck_RX7_261 rfl rfl rfl (Nat.le_of_ble_eq_true rfl) (Nat.le_of_ble_eq_true rfl) (by decide) rfl rfl (fun Ψ hΨ => run_pH_store sh_1 (by decide) (R 1 rfl) (by decide) _ _ hΨ) h (fun D2 h => ?_)
      show Run Γ rg κ Y_X7_addSubkeysToWalk 39 [(8, 0), (0, a1), (0, a2), (0, a3), (0, a4)] [] D2 Φ
      show Run Γ rg κ Y_X7_addSubkeysToWalk 39 [(8, 0), (0, a1), (0, a2), (0, a3), (0, a4)] [] D2 Φ
      refine r_iinc d_X7_addSubkeysToWalk_39 rfl (by decide) rfl ?_
      show Run Γ rg κ Y_X7_addSubkeysToWalk 42 [(8, 0), (0, a1), (0, a2), (0, a3), (0, (a4 + 1))] [] D2 Φ
      refine r_goto (tgt := 12) d_X7_addSubkeysToWalk_42 (by decide) ?_
      exact (ih (a4 + 1) D2 h)
set_option maxRecDepth 20000 in
theorem run_pH_addSubkeysToWalk {Γ : GG} {rg : Nat → Bool} {κ : Nat} {Φ : OT → DD → Prop} (R : cov rg rg0) (p1 : Int) (p2 : Int) {D : DD} (h : WP (some .int) κ Φ (pH_addSubkeysToWalk p1 p2 D)) : Run Γ rg κ Y_X7_addSubkeysToWalk 0 [(8, 0), (0, p1), (0, p2), (5, 0), (5, 0)] [] D Φ := by
  unfold pH_addSubkeysToWalk at h
  show Run Γ rg κ Y_X7_addSubkeysToWalk 0 [(8, 0), (0, p1), (0, p2), (5, 0), (5, 0)] [] D Φ
  refine r_aload_n d_X7_addSubkeysToWalk_0 rfl (by decide) ?_
  refine r_getR (t := 11) d_X7_addSubkeysToWalk_1 fk_RX7_34 sh_0 rfl (by decide) (R 0 rfl) ?_
  refine r_iload_n d_X7_addSubkeysToWalk_4 rfl ?_
  refine c_callVi (t' := (some .int)) (a := 11) (z := 0) (as := [(0, p1)]) (rest := []) (ls' := [(19, 0), (0, p1), (5, 0), (5, 0), (5, 0)]) d_X7_addSubkeysToWalk_5 ck_RX7_170 rfl sh_11 rfl (by decide) (R 11 rfl) rfl rfl (Nat.le_of_ble_eq_true rfl) (Nat.le_of_ble_eq_true rfl) (by decide) rfl rfl (fun _ => rfl) (fun κ' Ψ hΨ => run_pL_entryCount R _ hΨ) h (fun v1 D1 h => ?_)
  show Run Γ rg κ Y_X7_addSubkeysToWalk 8 [(8, 0), (0, p1), (0, p2), (5, 0), (5, 0)] [(0, v1)] D1 Φ
  refine r_istore_n d_X7_addSubkeysToWalk_8 (by decide) rfl ?_
  show Run Γ rg κ Y_X7_addSubkeysToWalk 9 [(8, 0), (0, p1), (0, p2), (0, v1), (5, 0)] [] D1 Φ
  refine r_iconst d_X7_addSubkeysToWalk_9 ?_
  refine r_istore d_X7_addSubkeysToWalk_10 (by decide) rfl ?_
  show Run Γ rg κ Y_X7_addSubkeysToWalk 12 [(8, 0), (0, p1), (0, p2), (0, v1), (0, 0)] [] D1 Φ
  refine run_pH_addSubkeysToWalk_12 R p1 p2 v1 ?_ fu 0 D1 h
  intro D2 h
  show Run Γ rg κ Y_X7_addSubkeysToWalk 45 [(5, 0), (5, 0), (0, p2), (0, v1), (5, 0)] [] D2 Φ
  refine r_iload_n d_X7_addSubkeysToWalk_45 rfl ?_
  refine r_iload_n d_X7_addSubkeysToWalk_46 rfl ?_
  refine r_iadd d_X7_addSubkeysToWalk_47 ?_
  exact c_iret d_X7_addSubkeysToWalk_48 rfl h
set_option maxRecDepth 20000 in
theorem run_pH_usedByTree_22 {Γ : GG} {rg : Nat → Bool} {κ : Nat} {Φ : OT → DD → Prop} (R : cov rg rg0) : ∀ (n : Nat) (a1 : Int) (a2 : Int) (a3 : Int) (D : DD), WP (some .int) κ Φ (pH_usedByTree_22 n a1 a2 a3 D) → Run Γ rg κ Y_X7_usedByTree 22 [(8, 0), (0, a1), (0, a2), (0, a3), (5, 0)] [] D Φ := by
  intro n
  induction n with
  | zero => intro a1 a2 a3 D h; exact h.no.elim
  | succ n ih =>
    intro a1 a2 a3 D h
    rw [pH_usedByTree_22] at h
    show Run Γ rg κ Y_X7_usedByTree 22 [(8, 0), (0, a1), (0, a2), (0, a3), (5, 0)] [] D Φ
    refine r_iload_n d_X7_usedByTree_22 rfl ?_
    refine r_iload_n d_X7_usedByTree_23 rfl ?_
    refine c_icmp_ge (tgt := 121) d_X7_usedByTree_24 (by decide) (nz_w _) (nz_w _) h (fun h => ?_) (fun h => ?_)
    · skip
      show Run Γ rg κ Y_X7_usedByTree 121 [(8, 0), (0, a1), (0, a2), (0, a3), (5, 0)] [] D Φ
      refine r_iload_n d_X7_usedByTree_121 rfl ?_
      exact c_iret d_X7_usedByTree_122 rfl h
    · skip
      show Run Γ rg κ Y_X7_usedByTree 27 [(8, 0), (0, a1), (0, a2), (0, a3), (5, 0)] [] D Φ
      refine r_iload_n d_X7_usedByTree_27 rfl ?_
      refine r_bipush d_X7_usedByTree_28 (by decide) ?_
      refine c_icmp_ge (tgt := 121) d_X7_usedByTree_30 (by decide) (nz_w _) (nz_k rfl) h (fun h => ?_) (fun h => ?_)
      · skip
        show Run Γ rg κ Y_X7_usedByTree 121 [(8, 0), (0, a1), (0, a2), (0, a3), (5, 0)] [] D Φ
        refine r_iload_n d_X7_usedByTree_121 rfl ?_
        exact c_iret d_X7_usedByTree_122 rfl h
      · skip
        show Run Γ rg κ Y_X7_usedByTree 33 [(8, 0), (0, a1), (0, a2), (0, a3), (5, 0)] [] D Φ
        refine r_aload_n d_X7_usedByTree_33 rfl (by decide) ?_
        refine r_getR (t := 2) d_X7_usedByTree_34 fk_RX7_21 sh_0 rfl (by decide) (R 0 rfl) ?_
        refine r_aload_n d_X7_usedByTree_37 rfl (by decide) ?_
        refine r_getR (t := 1) d_X7_usedByTree_38 fk_RX7_9 sh_0 rfl (by decide) (R 0 rfl) ?_
        refine r_iload_n d_X7_usedByTree_41 rfl ?_
        refine c_callSPi (as := [(9, 0), (0, a3)]) (rest := [(10, 0)]) (ls' := [(9, 0), (0, a3)]) d_X7_usedByTree_42 ck_RX7_265 rfl rfl rfl (Nat.le_of_ble_eq_true rfl) (Nat.le_of_ble_eq_true rfl) (by decide) rfl rfl (fun Ψ hΨ => run_pH_read sh_1 (by decide) (R 1 rfl) (by decide) _ rfl hΨ) ?_
        show Run Γ rg κ Y_X7_usedByTree 45 [(8, 0), (0, a1), (0, a2), (0, a3), (5, 0)] [(0, (rd 80 1 a3 D)), (10, 0)] D Φ
        refine c_callVPi (a := 2) (z := 0) (as := [(0, (rd 80 1 a3 D))]) (rest := []) (ls' := [(10, 0), (0, (rd 80 1 a3 D))]) d_X7_usedByTree_45 ck_RX7_108 rfl sh_2 rfl (by decide) (R 2 rfl) rfl rfl (Nat.le_of_ble_eq_true rfl) (Nat.le_of_ble_eq_true rfl) (by decide) rfl rfl (fun Ψ hΨ => run_pI_placeOfKey R _ rfl hΨ) ?_
        show Run Γ rg κ Y_X7_usedByTree 48 [(8, 0), (0, a1), (0, a2), (0, a3), (5, 0)] [(0, (pI_placeOfKey (rd 80 1 a3 D) D))] D Φ
        refine c_lt d_X7_usedByTree_48 (by decide) rfl h (fun x1 h => ?_)
        show Run Γ rg κ Y_X7_usedByTree 50 [(8, 0), (0, a1), (0, a2), (0, a3), (0, x1)] [] D Φ
        refine r_iload_n d_X7_usedByTree_50 rfl ?_
        refine r_aload_n d_X7_usedByTree_51 rfl (by decide) ?_
        refine r_getR (t := 2) d_X7_usedByTree_52 fk_RX7_21 sh_0 rfl (by decide) (R 0 rfl) ?_
        show Run Γ rg κ Y_X7_usedByTree 55 [(8, 0), (0, a1), (0, a2), (0, a3), (0, x1)] [(10, 0), (0, a2)] D Φ
        refine r_iload d_X7_usedByTree_55 rfl ?_
        refine c_callVPi (a := 2) (z := 0) (as := [(0, x1)]) (rest := [(0, a2)]) (ls' := [(10, 0), (0, x1)]) d_X7_usedByTree_57 ck_RX7_252 rfl sh_2 rfl (by decide) (R 2 rfl) rfl rfl (Nat.le_of_ble_eq_true rfl) (Nat.le_of_ble_eq_true rfl) (by decide) rfl rfl (fun Ψ hΨ => run_pI_sizeAt R _ rfl hΨ) ?_
        show Run Γ rg κ Y_X7_usedByTree 60 [(8, 0), (0, a1), (0, a2), (0, a3), (0, x1)] [(0, (pI_sizeAt x1 D)), (0, a2)] D Φ
        refine r_iadd d_X7_usedByTree_60 ?_
        refine c_lt_n d_X7_usedByTree_61 (by decide) rfl h (fun x2 h => ?_)
        show Run Γ rg κ Y_X7_usedByTree 62 [(8, 0), (0, a1), (0, x2), (0, a3), (0, x1)] [] D Φ
        refine r_iload_n d_X7_usedByTree_62 rfl ?_
        refine r_aload_n d_X7_usedByTree_63 rfl (by decide) ?_
        refine r_getR (t := 11) d_X7_usedByTree_64 fk_RX7_34 sh_0 rfl (by decide) (R 0 rfl) ?_
        refine r_iload d_X7_usedByTree_67 rfl ?_
        refine c_callVi (t' := (some .int)) (a := 11) (z := 0) (as := [(0, x1)]) (rest := [(0, x2)]) (ls' := [(19, 0), (0, x1), (5, 0), (5, 0), (5, 0), (5, 0)]) d_X7_usedByTree_69 ck_RX7_269 rfl sh_11 rfl (by decide) (R 11 rfl) rfl rfl (Nat.le_of_ble_eq_true rfl) (Nat.le_of_ble_eq_true rfl) (by decide) rfl rfl (fun _ => rfl) (fun κ' Ψ hΨ => run_pL_unitsOf R _ hΨ) h (fun v1 D1 h => ?_)
        show Run Γ rg κ Y_X7_usedByTree 72 [(8, 0), (0, a1), (0, x2), (0, a3), (0, x1)] [(0, v1), (0, x2)] D1 Φ
        refine r_iadd d_X7_usedByTree_72 ?_
        refine c_lt_n d_X7_usedByTree_73 (by decide) rfl h (fun x3 h => ?_)
        show Run Γ rg κ Y_X7_usedByTree 74 [(8, 0), (0, a1), (0, x3), (0, a3), (0, x1)] [] D1 Φ
        refine r_iload_n d_X7_usedByTree_74 rfl ?_
        show Run Γ rg κ Y_X7_usedByTree 75 [(8, 0), (0, a1), (0, x3), (0, a3), (0, x1)] [(0, x3)] D1 Φ
        refine r_aload_n d_X7_usedByTree_75 rfl (by decide) ?_
        refine r_getR (t := 12) d_X7_usedByTree_76 fk_RX7_41 sh_0 rfl (by decide) (R 0 rfl) ?_
        refine r_iload d_X7_usedByTree_79 rfl ?_
        refine c_callVi (t' := (some .int)) (a := 12) (z := 0) (as := [(0, x1)]) (rest := [(0, x3)]) (ls' := [(20, 0), (0, x1), (5, 0), (5, 0), (5, 0), (5, 0), (5, 0), (5, 0)]) d_X7_usedByTree_81 ck_RX7_272 rfl sh_12 rfl (by decide) (R 12 rfl) rfl rfl (Nat.le_of_ble_eq_true rfl) (Nat.le_of_ble_eq_true rfl) (by decide) rfl rfl (fun _ => rfl) (fun κ' Ψ hΨ => run_pV_unitsOf R _ hΨ) h (fun v2 D2 h => ?_)
        show Run Γ rg κ Y_X7_usedByTree 84 [(8, 0), (0, a1), (0, x3), (0, a3), (0, x1)] [(0, v2), (0, x3)] D2 Φ
        refine r_iadd d_X7_usedByTree_84 ?_
        refine c_lt_n d_X7_usedByTree_85 (by decide) rfl h (fun x4 h => ?_)
        show Run Γ rg κ Y_X7_usedByTree 86 [(8, 0), (0, a1), (0, x4), (0, a3), (0, x1)] [] D2 Φ
        refine r_iload_n d_X7_usedByTree_86 rfl ?_
        refine r_aload_n d_X7_usedByTree_87 rfl (by decide) ?_
        refine r_getR (t := 13) d_X7_usedByTree_88 fk_RX7_48 sh_0 rfl (by decide) (R 0 rfl) ?_
        refine r_aload_n d_X7_usedByTree_91 rfl (by decide) ?_
        refine r_getR (t := 2) d_X7_usedByTree_92 fk_RX7_21 sh_0 rfl (by decide) (R 0 rfl) ?_
        refine r_iload d_X7_usedByTree_95 rfl ?_
        show Run Γ rg κ Y_X7_usedByTree 97 [(8, 0), (0, a1), (0, x4), (0, a3), (0, x1)] [(0, x1), (10, 0), (21, 0), (0, x4)] D2 Φ
        refine r_iconst d_X7_usedByTree_97 ?_
        refine r_iadd d_X7_usedByTree_98 ?_
        refine c_callVPi (a := 2) (z := 0) (as := [(0, (x1 + 4))]) (rest := [(21, 0), (0, x4)]) (ls' := [(10, 0), (0, (x1 + 4))]) d_X7_usedByTree_99 ck_RX7_111 rfl sh_2 rfl (by decide) (R 2 rfl) rfl rfl (Nat.le_of_ble_eq_true rfl) (Nat.le_of_ble_eq_true rfl) (by decide) rfl rfl (fun Ψ hΨ => run_pI_unitAt R _ rfl hΨ) ?_
        show Run Γ rg κ Y_X7_usedByTree 102 [(8, 0), (0, a1), (0, x4), (0, a3), (0, x1)] [(0, (pI_unitAt (x1 + 4) D2)), (21, 0), (0, x4)] D2 Φ
        refine c_callVi (t' := (some .int)) (a := 13) (z := 0) (as := [(0, (pI_unitAt (x1 + 4) D2))]) (rest := [(0, x4)]) (ls' := [(21, 0), (0, (pI_unitAt (x1 + 4) D2)), (5, 0)]) d_X7_usedByTree_102 ck_RX7_273 rfl sh_13 rfl (by decide) (R 13 rfl) rfl rfl (Nat.le_of_ble_eq_true rfl) (Nat.le_of_ble_eq_true rfl) (by decide) rfl rfl (fun _ => rfl) (fun κ' Ψ hΨ => run_pS_unitsNotYetCounted R _ hΨ) h (fun v3 D3 h => ?_)
        show Run Γ rg κ Y_X7_usedByTree 105 [(8, 0), (0, a1), (0, x4), (0, a3), (0, x1)] [(0, v3), (0, x4)] D3 Φ
        refine r_iadd d_X7_usedByTree_105 ?_
        refine c_lt_n d_X7_usedByTree_106 (by decide) rfl h (fun x5 h => ?_)
        show Run Γ rg κ Y_X7_usedByTree 107 [(8, 0), (0, a1), (0, x5), (0, a3), (0, x1)] [] D3 Φ
        refine r_aload_n d_X7_usedByTree_107 rfl (by decide) ?_
        refine r_iload d_X7_usedByTree_108 rfl ?_
        refine r_iload_n d_X7_usedByTree_110 rfl ?_
        refine c_callVi (t' := (some .int)) (a := 0) (z := 0) (as := [(0, x1), (0, a1)]) (rest := []) (ls' := [(8, 0), (0, x1), (0, a1), (5, 0), (5, 0)]) d_X7_usedByTree_111 ck_RX7_276 rfl sh_0 rfl (by decide) (R 0 rfl) rfl rfl (Nat.le_of_ble_eq_true rfl) (Nat.le_of_ble_eq_true rfl) (by decide) rfl rfl (fun _ => rfl) (fun κ' Ψ hΨ => run_pH_addSubkeysToWalk R _ _ hΨ) h (fun v4 D4 h => ?_)
        show Run Γ rg κ Y_X7_usedByTree 114 [(8, 0), (0, a1), (0, x5), (0, a3), (0, x1)] [(0, v4)] D4 Φ
        refine r_istore_n d_X7_usedByTree_114 (by decide) rfl ?_
        show Run Γ rg κ Y_X7_usedByTree 115 [(8, 0), (0, v4), (0, x5), (0, a3), (0, x1)] [] D4 Φ
        refine r_iinc d_X7_usedByTree_115 rfl (by decide) rfl ?_
        show Run Γ rg κ Y_X7_usedByTree 118 [(8, 0), (0, v4), (0, x5), (0, (a3 + 1)), (0, x1)] [] D4 Φ
        show Run Γ rg κ Y_X7_usedByTree 118 [(8, 0), (0, v4), (0, x5), (0, (a3 + 1)), (0, x1)] [] D4 Φ
        refine r_goto (tgt := 22) d_X7_usedByTree_118 (by decide) ?_
        exact Run.forget (ls' := [(8, 0), (0, v4), (0, x5), (0, (a3 + 1)), (5, 0)]) ⟨Or.inr rfl, Or.inr rfl, Or.inr rfl, Or.inr rfl, Or.inl rfl, trivial⟩ (ih v4 x5 (a3 + 1) D4 h)
set_option maxRecDepth 20000 in
theorem run_pH_usedByTree {Γ : GG} {rg : Nat → Bool} {κ : Nat} {Φ : OT → DD → Prop} (R : cov rg rg0) {D : DD} (h : WP (some .int) κ Φ (pH_usedByTree D)) : Run Γ rg κ Y_X7_usedByTree 0 [(8, 0), (5, 0), (5, 0), (5, 0), (5, 0)] [] D Φ := by
  unfold pH_usedByTree at h
  show Run Γ rg κ Y_X7_usedByTree 0 [(8, 0), (5, 0), (5, 0), (5, 0), (5, 0)] [] D Φ
  refine r_aload_n d_X7_usedByTree_0 rfl (by decide) ?_
  refine r_getR (t := 13) d_X7_usedByTree_1 fk_RX7_48 sh_0 rfl (by decide) (R 0 rfl) ?_
  refine c_callVv (a := 13) (z := 0) (as := []) (rest := []) (ls' := [(21, 0)]) d_X7_usedByTree_4 ck_RX7_258 rfl sh_13 rfl (by decide) (R 13 rfl) rfl rfl (Nat.le_of_ble_eq_true rfl) (Nat.le_of_ble_eq_true rfl) (by decide) rfl rfl (fun κ' Ψ hΨ => run_pS_startCounting R hΨ) h (fun _ D1 h => ?_)
  show Run Γ rg κ Y_X7_usedByTree 7 [(8, 0), (5, 0), (5, 0), (5, 0), (5, 0)] [] D1 Φ
  refine r_aload_n d_X7_usedByTree_7 rfl (by decide) ?_
  refine r_getR (t := 1) d_X7_usedByTree_8 fk_RX7_9 sh_0 rfl (by decide) (R 0 rfl) ?_
  refine r_iconst d_X7_usedByTree_11 ?_
  refine r_iconst d_X7_usedByTree_12 ?_
  refine c_callSD (as := [(9, 0), (0, 0), (0, 0)]) (rest := []) (ls' := [(9, 0), (0, 0), (0, 0)]) d_X7_usedByTree_13 ck_RX7_261 rfl rfl rfl (Nat.le_of_ble_eq_true rfl) (Nat.le_of_ble_eq_true rfl) (by decide) rfl rfl (fun Ψ hΨ => run_pH_store sh_1 (by decide) (R 1 rfl) (by decide) _ _ hΨ) h (fun D2 h => ?_)
  show Run Γ rg κ Y_X7_usedByTree 16 [(8, 0), (5, 0), (5, 0), (5, 0), (5, 0)] [] D2 Φ
  refine r_iconst d_X7_usedByTree_16 ?_
  refine r_istore_n d_X7_usedByTree_17 (by decide) rfl ?_
  show Run Γ rg κ Y_X7_usedByTree 18 [(8, 0), (0, 1), (5, 0), (5, 0), (5, 0)] [] D2 Φ
  refine r_iconst d_X7_usedByTree_18 ?_
  show Run Γ rg κ Y_X7_usedByTree 19 [(8, 0), (0, 1), (5, 0), (5, 0), (5, 0)] [(0, 0)] D2 Φ
  refine r_istore_n d_X7_usedByTree_19 (by decide) rfl ?_
  show Run Γ rg κ Y_X7_usedByTree 20 [(8, 0), (0, 1), (0, 0), (5, 0), (5, 0)] [] D2 Φ
  refine r_iconst d_X7_usedByTree_20 ?_
  refine r_istore_n d_X7_usedByTree_21 (by decide) rfl ?_
  show Run Γ rg κ Y_X7_usedByTree 22 [(8, 0), (0, 1), (0, 0), (0, 0), (5, 0)] [] D2 Φ
  exact run_pH_usedByTree_22 R fu 1 0 0 D2 h
set_option maxRecDepth 20000 in
theorem run_pV_cellNamed_9 {Γ : GG} {rg : Nat → Bool} {κ : Nat} {Φ : OT → DD → Prop} (R : cov rg rg0) (a1 : Int) (a2 : Int) (a3 : Int) : ∀ (n : Nat) (a4 : Int) (D : DD), WP (some .int) κ Φ (pV_cellNamed_9 a1 a2 a3 n a4 D) → Run Γ rg κ Y_X5_cellNamed 9 [(20, 0), (0, a1), (0, a2), (0, a3), (0, a4), (5, 0)] [] D Φ := by
  intro n
  induction n with
  | zero => intro a4 D h; exact h.no.elim
  | succ n ih =>
    intro a4 D h
    rw [pV_cellNamed_9] at h
    show Run Γ rg κ Y_X5_cellNamed 9 [(20, 0), (0, a1), (0, a2), (0, a3), (0, a4), (5, 0)] [] D Φ
    refine r_iload d_X5_cellNamed_9 rfl ?_
    refine r_iload_n d_X5_cellNamed_11 rfl ?_
    refine c_icmp_ge (tgt := 51) d_X5_cellNamed_12 (by decide) (nz_w _) (nz_w _) h (fun h => ?_) (fun h => ?_)
    · skip
      show Run Γ rg κ Y_X5_cellNamed 51 [(20, 0), (0, a1), (0, a2), (0, a3), (0, a4), (5, 0)] [] D Φ
      refine r_iconst d_X5_cellNamed_51 ?_
      exact c_iret d_X5_cellNamed_52 rfl h
    · skip
      show Run Γ rg κ Y_X5_cellNamed 15 [(20, 0), (0, a1), (0, a2), (0, a3), (0, a4), (5, 0)] [] D Φ
      refine r_aload_n d_X5_cellNamed_15 rfl (by decide) ?_
      refine r_iload_n d_X5_cellNamed_16 rfl ?_
      refine r_iload d_X5_cellNamed_17 rfl ?_
      refine c_callVPi (a := 12) (z := 0) (as := [(0, a1), (0, a4)]) (rest := []) (ls' := [(20, 0), (0, a1), (0, a4)]) d_X5_cellNamed_19 ck_RX5_31 rfl sh_12 rfl (by decide) (R 12 rfl) rfl rfl (Nat.le_of_ble_eq_true rfl) (Nat.le_of_ble_eq_true rfl) (by decide) rfl rfl (fun Ψ hΨ => run_pV_cellNumbered R _ _ rfl hΨ) ?_
      show Run Γ rg κ Y_X5_cellNamed 22 [(20, 0), (0, a1), (0, a2), (0, a3), (0, a4), (5, 0)] [(0, (pV_cellNumbered a1 a4 D))] D Φ
      refine c_lt d_X5_cellNamed_22 (by decide) rfl h (fun x1 h => ?_)
      show Run Γ rg κ Y_X5_cellNamed 24 [(20, 0), (0, a1), (0, a2), (0, a3), (0, a4), (0, x1)] [] D Φ
      refine r_aload_n d_X5_cellNamed_24 rfl (by decide) ?_
      refine r_getR (t := 2) d_X5_cellNamed_25 fk_RX5_9 sh_12 rfl (by decide) (R 12 rfl) ?_
      refine r_iload d_X5_cellNamed_28 rfl ?_
      refine r_iconst d_X5_cellNamed_30 ?_
      refine r_iadd d_X5_cellNamed_31 ?_
      refine c_callVPi (a := 2) (z := 0) (as := [(0, (x1 + 0))]) (rest := []) (ls' := [(10, 0), (0, (x1 + 0))]) d_X5_cellNamed_32 ck_RX5_19 rfl sh_2 rfl (by decide) (R 2 rfl) rfl rfl (Nat.le_of_ble_eq_true rfl) (Nat.le_of_ble_eq_true rfl) (by decide) rfl rfl (fun Ψ hΨ => run_pI_unitAt R _ rfl hΨ) ?_
      show Run Γ rg κ Y_X5_cellNamed 35 [(20, 0), (0, a1), (0, a2), (0, a3), (0, a4), (0, x1)] [(0, (pI_unitAt (x1 + 0) D))] D Φ
      show Run Γ rg κ Y_X5_cellNamed 35 [(20, 0), (0, a1), (0, a2), (0, a3), (0, a4), (0, x1)] [(0, (pI_unitAt (x1 + 0) D))] D Φ
      refine r_bipush d_X5_cellNamed_35 (by decide) ?_
      refine c_idiv d_X5_cellNamed_37 (nz_w _) ⟨by decide, by decide⟩ (by decide) ?_
      refine r_iload_n d_X5_cellNamed_38 rfl ?_
      refine c_icmp_ne (tgt := 45) d_X5_cellNamed_39 (by decide) (nz_w _) (nz_w _) h (fun h => ?_) (fun h => ?_)
      · skip
        show Run Γ rg κ Y_X5_cellNamed 45 [(20, 0), (0, a1), (0, a2), (0, a3), (0, a4), (0, x1)] [] D Φ
        refine r_iinc d_X5_cellNamed_45 rfl (by decide) rfl ?_
        show Run Γ rg κ Y_X5_cellNamed 48 [(20, 0), (0, a1), (0, a2), (0, a3), (0, (a4 + 1)), (0, x1)] [] D Φ
        refine r_goto (tgt := 9) d_X5_cellNamed_48 (by decide) ?_
        exact Run.forget (ls' := [(20, 0), (0, a1), (0, a2), (0, a3), (0, (a4 + 1)), (5, 0)]) ⟨Or.inr rfl, Or.inr rfl, Or.inr rfl, Or.inr rfl, Or.inr rfl, Or.inl rfl, trivial⟩ (ih (a4 + 1) D h)
      · skip
        show Run Γ rg κ Y_X5_cellNamed 42 [(20, 0), (0, a1), (0, a2), (0, a3), (0, a4), (0, x1)] [] D Φ
        refine r_iload d_X5_cellNamed_42 rfl ?_
        exact c_iret d_X5_cellNamed_44 rfl h
set_option maxRecDepth 20000 in
theorem run_pV_cellNamed {Γ : GG} {rg : Nat → Bool} {κ : Nat} {Φ : OT → DD → Prop} (R : cov rg rg0) (p1 : Int) (p2 : Int) {D : DD} (h : WP (some .int) κ Φ (pV_cellNamed p1 p2 D)) : Run Γ rg κ Y_X5_cellNamed 0 [(20, 0), (0, p1), (0, p2), (5, 0), (5, 0), (5, 0)] [] D Φ := by
  unfold pV_cellNamed at h
  show Run Γ rg κ Y_X5_cellNamed 0 [(20, 0), (0, p1), (0, p2), (5, 0), (5, 0), (5, 0)] [] D Φ
  refine r_aload_n d_X5_cellNamed_0 rfl (by decide) ?_
  refine r_iload_n d_X5_cellNamed_1 rfl ?_
  refine c_callVPi (a := 12) (z := 0) (as := [(0, p1)]) (rest := []) (ls' := [(20, 0), (0, p1), (5, 0)]) d_X5_cellNamed_2 ck_RX5_28 rfl sh_12 rfl (by decide) (R 12 rfl) rfl rfl (Nat.le_of_ble_eq_true rfl) (Nat.le_of_ble_eq_true rfl) (by decide) rfl rfl (fun Ψ hΨ => run_pV_valueCount R _ rfl hΨ) ?_
  show Run Γ rg κ Y_X5_cellNamed 5 [(20, 0), (0, p1), (0, p2), (5, 0), (5, 0), (5, 0)] [(0, (pV_valueCount p1 D))] D Φ
  refine c_lt_n d_X5_cellNamed_5 (by decide) rfl h (fun x1 h => ?_)
  show Run Γ rg κ Y_X5_cellNamed 6 [(20, 0), (0, p1), (0, p2), (0, x1), (5, 0), (5, 0)] [] D Φ
  refine r_iconst d_X5_cellNamed_6 ?_
  refine r_istore d_X5_cellNamed_7 (by decide) rfl ?_
  show Run Γ rg κ Y_X5_cellNamed 9 [(20, 0), (0, p1), (0, p2), (0, x1), (0, 0), (5, 0)] [] D Φ
  exact run_pV_cellNamed_9 R p1 p2 x1 fu 0 D h
set_option maxRecDepth 20000 in
theorem run_pH_requireValue {Γ : GG} {rg : Nat → Bool} {κ : Nat} {Φ : OT → DD → Prop} (R : cov rg rg0) (p1 : Int) {D : DD} (h : WP none κ Φ (pH_requireValue p1 D)) : Run Γ rg κ Y_X7_requireValue 0 [(0, p1)] [] D Φ := by
  unfold pH_requireValue at h
  show Run Γ rg κ Y_X7_requireValue 0 [(0, p1)] [] D Φ
  refine r_iload_n d_X7_requireValue_0 rfl ?_
  refine c_if_ne (tgt := 15) d_X7_requireValue_1 (by decide) (nz_w _) h (fun h => ?_) (fun h => ?_)
  · skip
    show Run Γ rg κ Y_X7_requireValue 15 [(0, p1)] [] D Φ
    exact c_vret d_X7_requireValue_15 rfl h
  · skip
    show Run Γ rg κ Y_X7_requireValue 4 [(0, p1)] [] D Φ
    exact c_throwW (text := "there is no such value") tk_RX7_173_177 (by decide +kernel) d_X7_requireValue_4 d_X7_requireValue_7 d_X7_requireValue_8 d_X7_requireValue_11 d_X7_requireValue_14 rfl (by decide) (Nat.le_of_ble_eq_true rfl) h
set_option maxRecDepth 20000 in
theorem run_pV_lengthOf {Γ : GG} {rg : Nat → Bool} {κ : Nat} {Φ : OT → DD → Prop} (R : cov rg rg0) (p1 : Int) {D : DD} {x : Int} (h : EQx x (pV_lengthOf p1 D)) (hΦ : Φ (.inl (some (0, x))) D) : Run Γ rg κ Y_X5_lengthOf 0 [(20, 0), (0, p1)] [] D Φ := by
  unfold pV_lengthOf at h
  show Run Γ rg κ Y_X5_lengthOf 0 [(20, 0), (0, p1)] [] D Φ
  refine r_aload_n d_X5_lengthOf_0 rfl (by decide) ?_
  refine r_getR (t := 2) d_X5_lengthOf_1 fk_RX5_9 sh_12 rfl (by decide) (R 12 rfl) ?_
  refine r_iload_n d_X5_lengthOf_4 rfl ?_
  refine r_iconst d_X5_lengthOf_5 ?_
  refine r_iadd d_X5_lengthOf_6 ?_
  refine c_callVPi (a := 2) (z := 0) (as := [(0, (p1 + 0))]) (rest := []) (ls' := [(10, 0), (0, (p1 + 0))]) d_X5_lengthOf_7 ck_RX5_19 rfl sh_2 rfl (by decide) (R 2 rfl) rfl rfl (Nat.le_of_ble_eq_true rfl) (Nat.le_of_ble_eq_true rfl) (by decide) rfl rfl (fun Ψ hΨ => run_pI_unitAt R _ rfl hΨ) ?_
  show Run Γ rg κ Y_X5_lengthOf 10 [(20, 0), (0, p1)] [(0, (pI_unitAt (p1 + 0) D))] D Φ
  refine r_bipush d_X5_lengthOf_10 (by decide) ?_
  refine c_irem d_X5_lengthOf_12 (nz_w _) ⟨by decide, by decide⟩ (by decide) ?_
  exact e_iret d_X5_lengthOf_13 rfl h hΦ
set_option maxRecDepth 20000 in
theorem run_pV_seedOf {Γ : GG} {rg : Nat → Bool} {κ : Nat} {Φ : OT → DD → Prop} (R : cov rg rg0) (p1 : Int) {D : DD} {x : Int} (h : EQx x (pV_seedOf p1 D)) (hΦ : Φ (.inl (some (0, x))) D) : Run Γ rg κ Y_X5_seedOf 0 [(20, 0), (0, p1)] [] D Φ := by
  unfold pV_seedOf at h
  show Run Γ rg κ Y_X5_seedOf 0 [(20, 0), (0, p1)] [] D Φ
  refine r_aload_n d_X5_seedOf_0 rfl (by decide) ?_
  refine r_getR (t := 2) d_X5_seedOf_1 fk_RX5_9 sh_12 rfl (by decide) (R 12 rfl) ?_
  refine r_iload_n d_X5_seedOf_4 rfl ?_
  refine r_iconst d_X5_seedOf_5 ?_
  refine r_iadd d_X5_seedOf_6 ?_
  refine c_callVPi (a := 2) (z := 0) (as := [(0, (p1 + 1))]) (rest := []) (ls' := [(10, 0), (0, (p1 + 1))]) d_X5_seedOf_7 ck_RX5_19 rfl sh_2 rfl (by decide) (R 2 rfl) rfl rfl (Nat.le_of_ble_eq_true rfl) (Nat.le_of_ble_eq_true rfl) (by decide) rfl rfl (fun Ψ hΨ => run_pI_unitAt R _ rfl hΨ) ?_
  show Run Γ rg κ Y_X5_seedOf 10 [(20, 0), (0, p1)] [(0, (pI_unitAt (p1 + 1) D))] D Φ
  exact e_iret d_X5_seedOf_10 rfl h hΦ
set_option maxRecDepth 20000 in
theorem run_pH_unit {Γ : GG} {rg : Nat → Bool} {κ : Nat} {Φ : OT → DD → Prop} (R : cov rg rg0) (p1 : Int) (p2 : Int) (p3 : Int) {D : DD} (h : WP (some .int) κ Φ (pH_unit p1 p2 p3 D)) : Run Γ rg κ Y_X7_unit 0 [(8, 0), (0, p1), (0, p2), (0, p3), (5, 0)] [] D Φ := by
  unfold pH_unit at h
  show Run Γ rg κ Y_X7_unit 0 [(8, 0), (0, p1), (0, p2), (0, p3), (5, 0)] [] D Φ
  refine r_aload_n d_X7_unit_0 rfl (by decide) ?_
  refine r_iload_n d_X7_unit_1 rfl ?_
  refine c_callVv (a := 0) (z := 0) (as := [(0, p1)]) (rest := []) (ls' := [(8, 0), (0, p1)]) d_X7_unit_2 ck_RX7_95 rfl sh_0 rfl (by decide) (R 0 rfl) rfl rfl (Nat.le_of_ble_eq_true rfl) (Nat.le_of_ble_eq_true rfl) (by decide) rfl rfl (fun κ' Ψ hΨ => run_pH_requireKey R _ hΨ) h (fun _ D1 h => ?_)
  show Run Γ rg κ Y_X7_unit 5 [(8, 0), (0, p1), (0, p2), (0, p3), (5, 0)] [] D1 Φ
  refine r_aload_n d_X7_unit_5 rfl (by decide) ?_
  refine r_getR (t := 12) d_X7_unit_6 fk_RX7_41 sh_0 rfl (by decide) (R 0 rfl) ?_
  refine r_aload_n d_X7_unit_9 rfl (by decide) ?_
  refine r_getR (t := 2) d_X7_unit_10 fk_RX7_21 sh_0 rfl (by decide) (R 0 rfl) ?_
  refine r_iload_n d_X7_unit_13 rfl ?_
  refine c_callVPi (a := 2) (z := 0) (as := [(0, p1)]) (rest := [(20, 0)]) (ls' := [(10, 0), (0, p1)]) d_X7_unit_14 ck_RX7_108 rfl sh_2 rfl (by decide) (R 2 rfl) rfl rfl (Nat.le_of_ble_eq_true rfl) (Nat.le_of_ble_eq_true rfl) (by decide) rfl rfl (fun Ψ hΨ => run_pI_placeOfKey R _ rfl hΨ) ?_
  show Run Γ rg κ Y_X7_unit 17 [(8, 0), (0, p1), (0, p2), (0, p3), (5, 0)] [(0, (pI_placeOfKey p1 D1)), (20, 0)] D1 Φ
  refine r_iload_n d_X7_unit_17 rfl ?_
  refine c_callVi (t' := (some .int)) (a := 12) (z := 0) (as := [(0, (pI_placeOfKey p1 D1)), (0, p2)]) (rest := []) (ls' := [(20, 0), (0, (pI_placeOfKey p1 D1)), (0, p2), (5, 0), (5, 0), (5, 0)]) d_X7_unit_18 ck_RX7_216 rfl sh_12 rfl (by decide) (R 12 rfl) rfl rfl (Nat.le_of_ble_eq_true rfl) (Nat.le_of_ble_eq_true rfl) (by decide) rfl rfl (fun _ => rfl) (fun κ' Ψ hΨ => run_pV_cellNamed R _ _ hΨ) h (fun v1 D2 h => ?_)
  show Run Γ rg κ Y_X7_unit 21 [(8, 0), (0, p1), (0, p2), (0, p3), (5, 0)] [(0, v1)] D2 Φ
  show Run Γ rg κ Y_X7_unit 21 [(8, 0), (0, p1), (0, p2), (0, p3), (5, 0)] [(0, v1)] D2 Φ
  refine r_istore d_X7_unit_21 (by decide) rfl ?_
  show Run Γ rg κ Y_X7_unit 23 [(8, 0), (0, p1), (0, p2), (0, p3), (0, v1)] [] D2 Φ
  refine r_iload d_X7_unit_23 rfl ?_
  refine c_callSv (as := [(0, v1)]) (rest := []) (ls' := [(0, v1)]) d_X7_unit_25 ck_RX7_219 rfl rfl rfl (Nat.le_of_ble_eq_true rfl) (Nat.le_of_ble_eq_true rfl) (by decide) rfl rfl (fun κ' Ψ hΨ => run_pH_requireValue R _ hΨ) h (fun _ D3 h => ?_)
  show Run Γ rg κ Y_X7_unit 28 [(8, 0), (0, p1), (0, p2), (0, p3), (0, v1)] [] D3 Φ
  refine r_iload_n d_X7_unit_28 rfl ?_
  refine c_jn (fun J => ∀ (D4 : DD), WP (some .int) κ Φ (J D4) → Run Γ rg κ Y_X7_unit 45 [(5, 0), (5, 0), (5, 0), (5, 0), (5, 0)] [] D4 Φ) h ?_ (fun J1 hJ1 h => ?_)
  · intro D4 h
    show Run Γ rg κ Y_X7_unit 45 [(5, 0), (5, 0), (5, 0), (5, 0), (5, 0)] [] D4 Φ
    exact c_throw (text := "there is no such unit of the value") tk_RX7_173_177 (by decide +kernel) d_X7_unit_45 d_X7_unit_48 d_X7_unit_49 d_X7_unit_51 d_X7_unit_54 rfl (by decide) (Nat.le_of_ble_eq_true rfl) h
  refine c_if_lt (tgt := 45) d_X7_unit_29 (by decide) (nz_w _) h (fun h => ?_) (fun h => ?_)
  · skip
    exact Run.forget (ls' := [(5, 0), (5, 0), (5, 0), (5, 0), (5, 0)]) ⟨Or.inl rfl, Or.inl rfl, Or.inl rfl, Or.inl rfl, Or.inl rfl, trivial⟩ (hJ1 D3 h)
  · skip
    show Run Γ rg κ Y_X7_unit 32 [(8, 0), (0, p1), (0, p2), (0, p3), (0, v1)] [] D3 Φ
    refine r_iload_n d_X7_unit_32 rfl ?_
    refine r_aload_n d_X7_unit_33 rfl (by decide) ?_
    refine r_getR (t := 12) d_X7_unit_34 fk_RX7_41 sh_0 rfl (by decide) (R 0 rfl) ?_
    refine r_iload d_X7_unit_37 rfl ?_
    refine c_callVPi (a := 12) (z := 0) (as := [(0, v1)]) (rest := [(0, p3)]) (ls' := [(20, 0), (0, v1)]) d_X7_unit_39 ck_RX7_222 rfl sh_12 rfl (by decide) (R 12 rfl) rfl rfl (Nat.le_of_ble_eq_true rfl) (Nat.le_of_ble_eq_true rfl) (by decide) rfl rfl (fun Ψ hΨ => run_pV_lengthOf R _ rfl hΨ) ?_
    show Run Γ rg κ Y_X7_unit 42 [(8, 0), (0, p1), (0, p2), (0, p3), (0, v1)] [(0, (pV_lengthOf v1 D3)), (0, p3)] D3 Φ
    refine c_icmp_lt (tgt := 55) d_X7_unit_42 (by decide) (nz_w _) (nz_w _) h (fun h => ?_) (fun h => ?_)
    · skip
      show Run Γ rg κ Y_X7_unit 55 [(8, 0), (0, p1), (0, p2), (0, p3), (0, v1)] [] D3 Φ
      refine r_bipush d_X7_unit_55 (by decide) ?_
      refine r_aload_n d_X7_unit_57 rfl (by decide) ?_
      refine r_getR (t := 12) d_X7_unit_58 fk_RX7_41 sh_0 rfl (by decide) (R 0 rfl) ?_
      refine r_iload d_X7_unit_61 rfl ?_
      refine c_callVPi (a := 12) (z := 0) (as := [(0, v1)]) (rest := [(0, 31)]) (ls' := [(20, 0), (0, v1)]) d_X7_unit_63 ck_RX7_234 rfl sh_12 rfl (by decide) (R 12 rfl) rfl rfl (Nat.le_of_ble_eq_true rfl) (Nat.le_of_ble_eq_true rfl) (by decide) rfl rfl (fun Ψ hΨ => run_pV_seedOf R _ rfl hΨ) ?_
      show Run Γ rg κ Y_X7_unit 66 [(8, 0), (0, p1), (0, p2), (0, p3), (0, v1)] [(0, (pV_seedOf v1 D3)), (0, 31)] D3 Φ
      refine r_imul d_X7_unit_66 ?_
      refine r_bipush d_X7_unit_67 (by decide) ?_
      refine r_iload_n d_X7_unit_69 rfl ?_
      refine r_imul d_X7_unit_70 ?_
      refine r_iadd d_X7_unit_71 ?_
      exact c_iret d_X7_unit_72 rfl h
    · skip
      exact Run.forget (ls' := [(5, 0), (5, 0), (5, 0), (5, 0), (5, 0)]) ⟨Or.inl rfl, Or.inl rfl, Or.inl rfl, Or.inl rfl, Or.inl rfl, trivial⟩ (hJ1 D3 h)
set_option maxRecDepth 20000 in
theorem run_pH_requireRights {Γ : GG} {rg : Nat → Bool} {κ : Nat} {Φ : OT → DD → Prop} (R : cov rg rg0) (p1 : Int) {D : DD} (h : WP none κ Φ (pH_requireRights p1 D)) : Run Γ rg κ Y_X7_requireRights 0 [(0, p1)] [] D Φ := by
  unfold pH_requireRights at h
  show Run Γ rg κ Y_X7_requireRights 0 [(0, p1)] [] D Φ
  refine r_iload_n d_X7_requireRights_0 rfl ?_
  refine c_jn (fun J => ∀ (D1 : DD), WP none κ Φ (J D1) → Run Γ rg κ Y_X7_requireRights 11 [(5, 0)] [] D1 Φ) h ?_ (fun J1 hJ1 h => ?_)
  · intro D1 h
    show Run Γ rg κ Y_X7_requireRights 11 [(5, 0)] [] D1 Φ
    exact c_throwW (text := "the rights are out of range") tk_RX7_279_283 (by decide +kernel) d_X7_requireRights_11 d_X7_requireRights_14 d_X7_requireRights_15 d_X7_requireRights_18 d_X7_requireRights_21 rfl (by decide) (Nat.le_of_ble_eq_true rfl) h
  refine c_if_lt (tgt := 11) d_X7_requireRights_1 (by decide) (nz_w _) h (fun h => ?_) (fun h => ?_)
  · skip
    exact Run.forget (ls' := [(5, 0)]) ⟨Or.inl rfl, trivial⟩ (hJ1 D h)
  · skip
    show Run Γ rg κ Y_X7_requireRights 4 [(0, p1)] [] D Φ
    refine r_iload_n d_X7_requireRights_4 rfl ?_
    refine r_sipush d_X7_requireRights_5 (by decide) ?_
    refine c_icmp_le (tgt := 22) d_X7_requireRights_8 (by decide) (nz_w _) (nz_k rfl) h (fun h => ?_) (fun h => ?_)
    · skip
      show Run Γ rg κ Y_X7_requireRights 22 [(0, p1)] [] D Φ
      exact c_vret d_X7_requireRights_22 rfl h
    · skip
      exact Run.forget (ls' := [(5, 0)]) ⟨Or.inl rfl, trivial⟩ (hJ1 D h)
set_option maxRecDepth 20000 in
theorem run_pS_keysWith {Γ : GG} {rg : Nat → Bool} {κ : Nat} {Φ : OT → DD → Prop} (R : cov rg rg0) (p1 : Int) {D : DD} {x : Int} (h : EQx x (pS_keysWith p1 D)) (hΦ : Φ (.inl (some (0, x))) D) : Run Γ rg κ Y_X4_keysWith 0 [(21, 0), (0, p1), (5, 0)] [] D Φ := by
  unfold pS_keysWith at h
  show Run Γ rg κ Y_X4_keysWith 0 [(21, 0), (0, p1), (5, 0)] [] D Φ
  refine r_aload_n d_X4_keysWith_0 rfl (by decide) ?_
  refine r_getR (t := 2) d_X4_keysWith_1 fk_RX4_15 sh_13 rfl (by decide) (R 13 rfl) ?_
  refine r_iload_n d_X4_keysWith_4 rfl ?_
  refine c_callVPi (a := 2) (z := 0) (as := [(0, p1)]) (rest := []) (ls' := [(10, 0), (0, p1)]) d_X4_keysWith_5 ck_RX4_23 rfl sh_2 rfl (by decide) (R 2 rfl) rfl rfl (Nat.le_of_ble_eq_true rfl) (Nat.le_of_ble_eq_true rfl) (by decide) rfl rfl (fun Ψ hΨ => run_pI_placeOfRights R _ rfl hΨ) ?_
  show Run Γ rg κ Y_X4_keysWith 8 [(21, 0), (0, p1), (5, 0)] [(0, (pI_placeOfRights p1 D))] D Φ
  refine c_lt_n d_X4_keysWith_8 (by decide) rfl h (fun x1 h => ?_)
  show Run Γ rg κ Y_X4_keysWith 9 [(21, 0), (0, p1), (0, x1)] [] D Φ
  refine r_iload_n d_X4_keysWith_9 rfl ?_
  refine c_if_ne (tgt := 17) d_X4_keysWith_10 (by decide) (nz_w _) h (fun h => ?_) (fun h => ?_)
  · skip
    show Run Γ rg κ Y_X4_keysWith 17 [(21, 0), (0, p1), (0, x1)] [] D Φ
    refine r_aload_n d_X4_keysWith_17 rfl (by decide) ?_
    refine r_getR (t := 2) d_X4_keysWith_18 fk_RX4_15 sh_13 rfl (by decide) (R 13 rfl) ?_
    refine r_iload_n d_X4_keysWith_21 rfl ?_
    refine c_callVPi (a := 2) (z := 0) (as := [(0, x1)]) (rest := []) (ls' := [(10, 0), (0, x1)]) d_X4_keysWith_22 ck_RX4_29 rfl sh_2 rfl (by decide) (R 2 rfl) rfl rfl (Nat.le_of_ble_eq_true rfl) (Nat.le_of_ble_eq_true rfl) (by decide) rfl rfl (fun Ψ hΨ => run_pI_unitAt R _ rfl hΨ) ?_
    show Run Γ rg κ Y_X4_keysWith 25 [(21, 0), (0, p1), (0, x1)] [(0, (pI_unitAt x1 D))] D Φ
    exact e_iret d_X4_keysWith_25 rfl h hΦ
  · skip
    show Run Γ rg κ Y_X4_keysWith 13 [(21, 0), (0, p1), (0, x1)] [] D Φ
    refine r_iconst d_X4_keysWith_13 ?_
    refine r_goto (tgt := 25) d_X4_keysWith_14 (by decide) ?_
    show Run Γ rg κ Y_X4_keysWith 25 [(21, 0), (0, p1), (0, x1)] [(0, 0)] D Φ
    exact e_iret d_X4_keysWith_25 rfl h hΦ
set_option maxRecDepth 20000 in
theorem run_pH_sharers {Γ : GG} {rg : Nat → Bool} {κ : Nat} {Φ : OT → DD → Prop} (R : cov rg rg0) (p1 : Int) {D : DD} (h : WP (some .int) κ Φ (pH_sharers p1 D)) : Run Γ rg κ Y_X7_sharers 0 [(8, 0), (0, p1)] [] D Φ := by
  unfold pH_sharers at h
  show Run Γ rg κ Y_X7_sharers 0 [(8, 0), (0, p1)] [] D Φ
  refine r_iload_n d_X7_sharers_0 rfl ?_
  refine c_callSv (as := [(0, p1)]) (rest := []) (ls' := [(0, p1)]) d_X7_sharers_1 ck_RX7_237 rfl rfl rfl (Nat.le_of_ble_eq_true rfl) (Nat.le_of_ble_eq_true rfl) (by decide) rfl rfl (fun κ' Ψ hΨ => run_pH_requireRights R _ hΨ) h (fun _ D1 h => ?_)
  show Run Γ rg κ Y_X7_sharers 4 [(8, 0), (0, p1)] [] D1 Φ
  refine r_aload_n d_X7_sharers_4 rfl (by decide) ?_
  refine r_getR (t := 13) d_X7_sharers_5 fk_RX7_48 sh_0 rfl (by decide) (R 0 rfl) ?_
  refine r_iload_n d_X7_sharers_8 rfl ?_
  refine c_callVPi (a := 13) (z := 0) (as := [(0, p1)]) (rest := []) (ls' := [(21, 0), (0, p1), (5, 0)]) d_X7_sharers_9 ck_RX7_240 rfl sh_13 rfl (by decide) (R 13 rfl) rfl rfl (Nat.le_of_ble_eq_true rfl) (Nat.le_of_ble_eq_true rfl) (by decide) rfl rfl (fun Ψ hΨ => run_pS_keysWith R _ rfl hΨ) ?_
  show Run Γ rg κ Y_X7_sharers 12 [(8, 0), (0, p1)] [(0, (pS_keysWith p1 D1))] D1 Φ
  exact c_iret d_X7_sharers_12 rfl h
set_option maxRecDepth 20000 in
theorem run_pF_heldByLog {Γ : GG} {rg : Nat → Bool} {κ : Nat} {Φ : OT → DD → Prop} (R : cov rg rg0) (p1 : Int) {D : DD} {x : Int} (h : EQx x (pF_heldByLog p1 D)) (hΦ : Φ (.inl (some (0, x))) D) : Run Γ rg κ Y_X1_heldByLog 0 [(28, 0), (0, p1)] [] D Φ := by
  unfold pF_heldByLog at h
  show Run Γ rg κ Y_X1_heldByLog 0 [(28, 0), (0, p1)] [] D Φ
  refine r_aload_n d_X1_heldByLog_0 rfl (by decide) ?_
  refine r_getR (t := 31) d_X1_heldByLog_1 fk_RX1_19 sh_20 rfl (by decide) (R 20 rfl) ?_
  refine r_iload_n d_X1_heldByLog_4 rfl ?_
  refine c_callNPi (as := [(39, 0), (0, p1)]) (rest := []) (ls' := [(39, 0), (0, p1)]) d_X1_heldByLog_5 ck_RX1_64 rfl rfl rfl (Nat.le_of_ble_eq_true rfl) (Nat.le_of_ble_eq_true rfl) (by decide) rfl rfl (fun Ψ hΨ => run_pH_read sh_31 (by decide) (R 31 rfl) (by decide) _ rfl hΨ) ?_
  show Run Γ rg κ Y_X1_heldByLog 8 [(28, 0), (0, p1)] [(0, (rd 2 31 p1 D))] D Φ
  exact e_iret d_X1_heldByLog_8 rfl h hΦ
set_option maxRecDepth 20000 in
theorem run_pH_log {Γ : GG} {rg : Nat → Bool} {κ : Nat} {Φ : OT → DD → Prop} (R : cov rg rg0) (p1 : Int) {D : DD} (h : WP (some .int) κ Φ (pH_log p1 D)) : Run Γ rg κ Y_X7_log 0 [(8, 0), (0, p1)] [] D Φ := by
  unfold pH_log at h
  show Run Γ rg κ Y_X7_log 0 [(8, 0), (0, p1)] [] D Φ
  refine r_iload_n d_X7_log_0 rfl ?_
  refine c_jn (fun J => ∀ (D1 : DD), WP (some .int) κ Φ (J D1) → Run Γ rg κ Y_X7_log 9 [(5, 0), (5, 0)] [] D1 Φ) h ?_ (fun J1 hJ1 h => ?_)
  · intro D1 h
    show Run Γ rg κ Y_X7_log 9 [(5, 0), (5, 0)] [] D1 Φ
    exact c_throwW (text := "there are the logs 0 and 1 only") tk_RX7_279_283 (by decide +kernel) d_X7_log_9 d_X7_log_12 d_X7_log_13 d_X7_log_16 d_X7_log_19 rfl (by decide) (Nat.le_of_ble_eq_true rfl) h
  refine c_if_lt (tgt := 9) d_X7_log_1 (by decide) (nz_w _) h (fun h => ?_) (fun h => ?_)
  · skip
    exact Run.forget (ls' := [(5, 0), (5, 0)]) ⟨Or.inl rfl, Or.inl rfl, trivial⟩ (hJ1 D h)
  · skip
    show Run Γ rg κ Y_X7_log 4 [(8, 0), (0, p1)] [] D Φ
    refine r_iload_n d_X7_log_4 rfl ?_
    refine r_iconst d_X7_log_5 ?_
    refine c_icmp_le (tgt := 20) d_X7_log_6 (by decide) (nz_w _) (nz_k rfl) h (fun h => ?_) (fun h => ?_)
    · skip
      show Run Γ rg κ Y_X7_log 20 [(8, 0), (0, p1)] [] D Φ
      refine r_aload_n d_X7_log_20 rfl (by decide) ?_
      refine r_getR (t := 20) d_X7_log_21 fk_RX7_62 sh_0 rfl (by decide) (R 0 rfl) ?_
      refine r_iload_n d_X7_log_24 rfl ?_
      refine c_callVPi (a := 20) (z := 0) (as := [(0, p1)]) (rest := []) (ls' := [(28, 0), (0, p1)]) d_X7_log_25 ck_RX7_331 rfl sh_20 rfl (by decide) (R 20 rfl) rfl rfl (Nat.le_of_ble_eq_true rfl) (Nat.le_of_ble_eq_true rfl) (by decide) rfl rfl (fun Ψ hΨ => run_pF_heldByLog R _ rfl hΨ) ?_
      show Run Γ rg κ Y_X7_log 28 [(8, 0), (0, p1)] [(0, (pF_heldByLog p1 D))] D Φ
      exact c_iret d_X7_log_28 rfl h
    · skip
      exact Run.forget (ls' := [(5, 0), (5, 0)]) ⟨Or.inl rfl, Or.inl rfl, trivial⟩ (hJ1 D h)
set_option maxRecDepth 20000 in
theorem run_pH_dirty {Γ : GG} {rg : Nat → Bool} {κ : Nat} {Φ : OT → DD → Prop} (R : cov rg rg0) {D : DD} {x : Int} (h : EQx x (pH_dirty D)) (hΦ : Φ (.inl (some (1, x))) D) : Run Γ rg κ Y_X7_dirty 0 [(8, 0)] [] D Φ := by
  unfold pH_dirty at h
  show Run Γ rg κ Y_X7_dirty 0 [(8, 0)] [] D Φ
  refine r_aload_n d_X7_dirty_0 rfl (by decide) ?_
  refine r_getR (t := 7) d_X7_dirty_1 fk_RX7_25 sh_0 rfl (by decide) (R 0 rfl) ?_
  refine r_getJ d_X7_dirty_4 fk_RX7_297 sh_7 rfl (by decide) (R 7 rfl) ?_
  exact e_lret d_X7_dirty_7 rfl h hΦ
set_option maxRecDepth 20000 in
theorem run_pW_keyToldFirst_4 {Γ : GG} {rg : Nat → Bool} {κ : Nat} {Φ : OT → DD → Prop} (R : cov rg rg0) : ∀ (n : Nat) (a1 : Int) (a2 : Int) (D : DD), WP (some .int) κ Φ (pW_keyToldFirst_4 n a1 a2 D) → Run Γ rg κ Y_X6_keyToldFirst 4 [(23, 0), (0, a1), (0, a2), (5, 0)] [] D Φ := by
  intro n
  induction n with
  | zero => intro a1 a2 D h; exact h.no.elim
  | succ n ih =>
    intro a1 a2 D h
    rw [pW_keyToldFirst_4] at h
    show Run Γ rg κ Y_X6_keyToldFirst 4 [(23, 0), (0, a1), (0, a2), (5, 0)] [] D Φ
    refine r_iload_n d_X6_keyToldFirst_4 rfl ?_
    refine r_bipush d_X6_keyToldFirst_5 (by decide) ?_
    refine c_icmp_ge (tgt := 48) d_X6_keyToldFirst_7 (by decide) (nz_w _) (nz_k rfl) h (fun h => ?_) (fun h => ?_)
    · skip
      show Run Γ rg κ Y_X6_keyToldFirst 48 [(23, 0), (0, a1), (0, a2), (5, 0)] [] D Φ
      refine r_iload_n d_X6_keyToldFirst_48 rfl ?_
      exact c_iret d_X6_keyToldFirst_49 rfl h
    · skip
      show Run Γ rg κ Y_X6_keyToldFirst 10 [(23, 0), (0, a1), (0, a2), (5, 0)] [] D Φ
      refine r_aload_n d_X6_keyToldFirst_10 rfl (by decide) ?_
      refine r_getR (t := 19) d_X6_keyToldFirst_11 fk_RX6_21 sh_15 rfl (by decide) (R 15 rfl) ?_
      refine r_iload_n d_X6_keyToldFirst_14 rfl ?_
      refine c_callNPi (as := [(27, 0), (0, a2)]) (rest := []) (ls' := [(27, 0), (0, a2)]) d_X6_keyToldFirst_15 ck_RX6_24 rfl rfl rfl (Nat.le_of_ble_eq_true rfl) (Nat.le_of_ble_eq_true rfl) (by decide) rfl rfl (fun Ψ hΨ => run_pH_read sh_19 (by decide) (R 19 rfl) (by decide) _ rfl hΨ) ?_
      show Run Γ rg κ Y_X6_keyToldFirst 18 [(23, 0), (0, a1), (0, a2), (5, 0)] [(0, (rd 80 19 a2 D))] D Φ
      refine c_lt_n d_X6_keyToldFirst_18 (by decide) rfl h (fun x1 h => ?_)
      show Run Γ rg κ Y_X6_keyToldFirst 19 [(23, 0), (0, a1), (0, a2), (0, x1)] [] D Φ
      refine r_iload_n d_X6_keyToldFirst_19 rfl ?_
      refine c_jn (fun J => ∀ (x2 : Int) (D1 : DD), WP (some .int) κ Φ (J x2 D1) → Run Γ rg κ Y_X6_keyToldFirst 42 [(23, 0), (0, x2), (0, a2), (5, 0)] [] D1 Φ) h ?_ (fun J1 hJ1 h => ?_)
      · intro x2 D1 h
        show Run Γ rg κ Y_X6_keyToldFirst 42 [(23, 0), (0, x2), (0, a2), (5, 0)] [] D1 Φ
        refine r_iinc d_X6_keyToldFirst_42 rfl (by decide) rfl ?_
        show Run Γ rg κ Y_X6_keyToldFirst 45 [(23, 0), (0, x2), (0, (a2 + 1)), (5, 0)] [] D1 Φ
        refine r_goto (tgt := 4) d_X6_keyToldFirst_45 (by decide) ?_
        exact (ih x2 (a2 + 1) D1 h)
      refine c_if_eq (tgt := 42) d_X6_keyToldFirst_20 (by decide) (nz_w _) h (fun h => ?_) (fun h => ?_)
      · skip
        exact Run.forget (ls' := [(23, 0), (0, a1), (0, a2), (5, 0)]) ⟨Or.inr rfl, Or.inr rfl, Or.inr rfl, Or.inl rfl, trivial⟩ (hJ1 a1 D h)
      · skip
        show Run Γ rg κ Y_X6_keyToldFirst 23 [(23, 0), (0, a1), (0, a2), (0, x1)] [] D Φ
        refine r_iload_n d_X6_keyToldFirst_23 rfl ?_
        refine r_iconst d_X6_keyToldFirst_24 ?_
        refine c_jn (fun J => ∀ (D2 : DD), WP (some .int) κ Φ (J D2) → Run Γ rg κ Y_X6_keyToldFirst 40 [(23, 0), (5, 0), (0, a2), (5, 0)] [] D2 Φ) h ?_ (fun J2 hJ2 h => ?_)
        · intro D2 h
          show Run Γ rg κ Y_X6_keyToldFirst 40 [(23, 0), (5, 0), (0, a2), (5, 0)] [] D2 Φ
          refine r_iload_n d_X6_keyToldFirst_40 rfl ?_
          refine r_istore_n d_X6_keyToldFirst_41 (by decide) rfl ?_
          show Run Γ rg κ Y_X6_keyToldFirst 42 [(23, 0), (0, a2), (0, a2), (5, 0)] [] D2 Φ
          exact (hJ1 a2 D2 h)
        refine c_icmp_eq (tgt := 40) d_X6_keyToldFirst_25 (by decide) (nz_w _) (nz_k rfl) h (fun h => ?_) (fun h => ?_)
        · skip
          exact Run.forget (ls' := [(23, 0), (5, 0), (0, a2), (5, 0)]) ⟨Or.inr rfl, Or.inl rfl, Or.inr rfl, Or.inl rfl, trivial⟩ (hJ2 D h)
        · skip
          show Run Γ rg κ Y_X6_keyToldFirst 28 [(23, 0), (0, a1), (0, a2), (0, x1)] [] D Φ
          refine r_iload_n d_X6_keyToldFirst_28 rfl ?_
          refine r_aload_n d_X6_keyToldFirst_29 rfl (by decide) ?_
          refine r_getR (t := 19) d_X6_keyToldFirst_30 fk_RX6_21 sh_15 rfl (by decide) (R 15 rfl) ?_
          refine r_iload_n d_X6_keyToldFirst_33 rfl ?_
          refine c_callNPi (as := [(27, 0), (0, a1)]) (rest := [(0, x1)]) (ls' := [(27, 0), (0, a1)]) d_X6_keyToldFirst_34 ck_RX6_24 rfl rfl rfl (Nat.le_of_ble_eq_true rfl) (Nat.le_of_ble_eq_true rfl) (by decide) rfl rfl (fun Ψ hΨ => run_pH_read sh_19 (by decide) (R 19 rfl) (by decide) _ rfl hΨ) ?_
          show Run Γ rg κ Y_X6_keyToldFirst 37 [(23, 0), (0, a1), (0, a2), (0, x1)] [(0, (rd 80 19 a1 D)), (0, x1)] D Φ
          refine c_icmp_ge (tgt := 42) d_X6_keyToldFirst_37 (by decide) (nz_w _) (nz_w _) h (fun h => ?_) (fun h => ?_)
          · skip
            exact Run.forget (ls' := [(23, 0), (0, a1), (0, a2), (5, 0)]) ⟨Or.inr rfl, Or.inr rfl, Or.inr rfl, Or.inl rfl, trivial⟩ (hJ1 a1 D h)
          · skip
            exact Run.forget (ls' := [(23, 0), (5, 0), (0, a2), (5, 0)]) ⟨Or.inr rfl, Or.inl rfl, Or.inr rfl, Or.inl rfl, trivial⟩ (hJ2 D h)
set_option maxRecDepth 20000 in
theorem run_pW_keyToldFirst {Γ : GG} {rg : Nat → Bool} {κ : Nat} {Φ : OT → DD → Prop} (R : cov rg rg0) {D : DD} (h : WP (some .int) κ Φ (pW_keyToldFirst D)) : Run Γ rg κ Y_X6_keyToldFirst 0 [(23, 0), (5, 0), (5, 0), (5, 0)] [] D Φ := by
  unfold pW_keyToldFirst at h
  show Run Γ rg κ Y_X6_keyToldFirst 0 [(23, 0), (5, 0), (5, 0), (5, 0)] [] D Φ
  refine r_iconst d_X6_keyToldFirst_0 ?_
  refine r_istore_n d_X6_keyToldFirst_1 (by decide) rfl ?_
  show Run Γ rg κ Y_X6_keyToldFirst 2 [(23, 0), (0, (-1)), (5, 0), (5, 0)] [] D Φ
  refine r_iconst d_X6_keyToldFirst_2 ?_
  refine r_istore_n d_X6_keyToldFirst_3 (by decide) rfl ?_
  show Run Γ rg κ Y_X6_keyToldFirst 4 [(23, 0), (0, (-1)), (0, 0), (5, 0)] [] D Φ
  exact run_pW_keyToldFirst_4 R fu (-1) 0 D h
set_option maxRecDepth 20000 in
theorem run_pW_takeKindTold {Γ : GG} {rg : Nat → Bool} {κ : Nat} {Φ : OT → DD → Prop} (R : cov rg rg0) (p1 : Int) {D : DD} (h : WP (some .int) κ Φ (pW_takeKindTold p1 D)) : Run Γ rg κ Y_X6_takeKindTold 0 [(23, 0), (0, p1)] [] D Φ := by
  unfold pW_takeKindTold at h
  show Run Γ rg κ Y_X6_takeKindTold 0 [(23, 0), (0, p1)] [] D Φ
  refine r_aload_n d_X6_takeKindTold_0 rfl (by decide) ?_
  refine r_getR (t := 19) d_X6_takeKindTold_1 fk_RX6_21 sh_15 rfl (by decide) (R 15 rfl) ?_
  refine r_iload_n d_X6_takeKindTold_4 rfl ?_
  refine r_iconst d_X6_takeKindTold_5 ?_
  refine c_callND (as := [(27, 0), (0, p1), (0, 0)]) (rest := []) (ls' := [(27, 0), (0, p1), (0, 0)]) d_X6_takeKindTold_6 ck_RX6_28 rfl rfl rfl (Nat.le_of_ble_eq_true rfl) (Nat.le_of_ble_eq_true rfl) (by decide) rfl rfl (fun Ψ hΨ => run_pH_store sh_19 (by decide) (R 19 rfl) (by decide) _ _ hΨ) h (fun D1 h => ?_)
  show Run Γ rg κ Y_X6_takeKindTold 9 [(23, 0), (0, p1)] [] D1 Φ
  refine r_aload_n d_X6_takeKindTold_9 rfl (by decide) ?_
  refine r_getR (t := 18) d_X6_takeKindTold_10 fk_RX6_18 sh_15 rfl (by decide) (R 15 rfl) ?_
  refine r_iload_n d_X6_takeKindTold_13 rfl ?_
  refine c_callNPi (as := [(26, 0), (0, p1)]) (rest := []) (ls' := [(26, 0), (0, p1)]) d_X6_takeKindTold_14 ck_RX6_24 rfl rfl rfl (Nat.le_of_ble_eq_true rfl) (Nat.le_of_ble_eq_true rfl) (by decide) rfl rfl (fun Ψ hΨ => run_pH_read sh_18 (by decide) (R 18 rfl) (by decide) _ rfl hΨ) ?_
  show Run Γ rg κ Y_X6_takeKindTold 17 [(23, 0), (0, p1)] [(0, (rd 80 18 p1 D1))] D1 Φ
  exact c_iret d_X6_takeKindTold_17 rfl h
set_option maxRecDepth 20000 in
theorem run_pH_takeNotice {Γ : GG} {rg : Nat → Bool} {κ : Nat} {Φ : OT → DD → Prop} (R : cov rg rg0) {D : DD} (h : WP (some .int) κ Φ (pH_takeNotice D)) : Run Γ rg κ Y_X7_takeNotice 0 [(8, 0), (5, 0)] [] D Φ := by
  unfold pH_takeNotice at h
  show Run Γ rg κ Y_X7_takeNotice 0 [(8, 0), (5, 0)] [] D Φ
  refine r_aload_n d_X7_takeNotice_0 rfl (by decide) ?_
  refine r_getR (t := 15) d_X7_takeNotice_1 fk_RX7_55 sh_0 rfl (by decide) (R 0 rfl) ?_
  refine c_callVi (t' := (some .int)) (a := 15) (z := 0) (as := []) (rest := []) (ls' := [(23, 0), (5, 0), (5, 0), (5, 0)]) d_X7_takeNotice_4 ck_RX7_291 rfl sh_15 rfl (by decide) (R 15 rfl) rfl rfl (Nat.le_of_ble_eq_true rfl) (Nat.le_of_ble_eq_true rfl) (by decide) rfl rfl (fun _ => rfl) (fun κ' Ψ hΨ => run_pW_keyToldFirst R hΨ) h (fun v1 D1 h => ?_)
  show Run Γ rg κ Y_X7_takeNotice 7 [(8, 0), (5, 0)] [(0, v1)] D1 Φ
  refine r_istore_n d_X7_takeNotice_7 (by decide) rfl ?_
  show Run Γ rg κ Y_X7_takeNotice 8 [(8, 0), (0, v1)] [] D1 Φ
  refine r_iload_n d_X7_takeNotice_8 rfl ?_
  refine r_iconst d_X7_takeNotice_9 ?_
  refine c_icmp_ne (tgt := 17) d_X7_takeNotice_10 (by decide) (nz_w _) (nz_k rfl) h (fun h => ?_) (fun h => ?_)
  · skip
    show Run Γ rg κ Y_X7_takeNotice 17 [(8, 0), (0, v1)] [] D1 Φ
    refine r_bipush d_X7_takeNotice_17 (by decide) ?_
    refine r_iload_n d_X7_takeNotice_19 rfl ?_
    refine r_imul d_X7_takeNotice_20 ?_
    refine r_aload_n d_X7_takeNotice_21 rfl (by decide) ?_
    refine r_getR (t := 15) d_X7_takeNotice_22 fk_RX7_55 sh_0 rfl (by decide) (R 0 rfl) ?_
    refine r_iload_n d_X7_takeNotice_25 rfl ?_
    refine c_callVi (t' := (some .int)) (a := 15) (z := 0) (as := [(0, v1)]) (rest := [(0, (10 * v1))]) (ls' := [(23, 0), (0, v1)]) d_X7_takeNotice_26 ck_RX7_294 rfl sh_15 rfl (by decide) (R 15 rfl) rfl rfl (Nat.le_of_ble_eq_true rfl) (Nat.le_of_ble_eq_true rfl) (by decide) rfl rfl (fun _ => rfl) (fun κ' Ψ hΨ => run_pW_takeKindTold R _ hΨ) h (fun v2 D2 h => ?_)
    show Run Γ rg κ Y_X7_takeNotice 29 [(8, 0), (0, v1)] [(0, v2), (0, (10 * v1))] D2 Φ
    refine r_iadd d_X7_takeNotice_29 ?_
    exact c_iret d_X7_takeNotice_30 rfl h
  · skip
    show Run Γ rg κ Y_X7_takeNotice 13 [(8, 0), (0, v1)] [] D1 Φ
    refine r_iconst d_X7_takeNotice_13 ?_
    refine r_goto (tgt := 30) d_X7_takeNotice_14 (by decide) ?_
    show Run Γ rg κ Y_X7_takeNotice 30 [(8, 0), (0, v1)] [(0, (-1))] D1 Φ
    exact c_iret d_X7_takeNotice_30 rfl h
set_option maxRecDepth 20000 in
theorem run_pF_isSealed {Γ : GG} {rg : Nat → Bool} {κ : Nat} {Φ : OT → DD → Prop} (R : cov rg rg0) {D : DD} {x : Int} (h : EQx x (pF_isSealed D)) (hΦ : Φ (.inl (some (0, x))) D) : Run Γ rg κ Y_X1_isSealed 0 [(28, 0)] [] D Φ := by
  unfold pF_isSealed at h
  show Run Γ rg κ Y_X1_isSealed 0 [(28, 0)] [] D Φ
  refine r_aload_n d_X1_isSealed_0 rfl (by decide) ?_
  refine r_getI d_X1_isSealed_1 fk_RX1_31 sh_20 rfl (by decide) (by decide) (R 20 rfl) ?_
  refine r_aload_n d_X1_isSealed_4 rfl (by decide) ?_
  refine r_getI d_X1_isSealed_5 fk_RX1_27 sh_20 rfl (by decide) (by decide) (R 20 rfl) ?_
  refine r_iconst d_X1_isSealed_8 ?_
  refine r_iadd d_X1_isSealed_9 ?_
  refine c_icmp_lt (tgt := 17) d_X1_isSealed_10 (by decide) (nz_w _) (nz_w _) h (fun h => ?_) (fun h => ?_)
  · skip
    show Run Γ rg κ Y_X1_isSealed 17 [(28, 0)] [] D Φ
    refine r_iconst d_X1_isSealed_17 ?_
    exact e_zret d_X1_isSealed_18 rfl (Or.inl rfl) h hΦ
  · skip
    show Run Γ rg κ Y_X1_isSealed 13 [(28, 0)] [] D Φ
    refine r_iconst d_X1_isSealed_13 ?_
    refine r_goto (tgt := 18) d_X1_isSealed_14 (by decide) ?_
    show Run Γ rg κ Y_X1_isSealed 18 [(28, 0)] [(0, 1)] D Φ
    exact e_zret d_X1_isSealed_18 rfl (Or.inr rfl) h hΦ
set_option maxRecDepth 20000 in
theorem run_pI_copyFrom_21_26 {Γ : GG} {rg : Nat → Bool} {κ : Nat} {Φ : OT → DD → Prop} (R : cov rg rg0) {D : DD} (h : WPD Φ (pI_copyFrom_21_26 D)) : Run Γ rg κ Y_X2_copyFrom 0 [(29, 0), (34, 0)] [] D Φ := by
  unfold pI_copyFrom_21_26 at h
  show Run Γ rg κ Y_X2_copyFrom 0 [(29, 0), (34, 0)] [] D Φ
  refine r_aload_n d_X2_copyFrom_0 rfl (by decide) ?_
  refine r_getR (t := 27) d_X2_copyFrom_1 fk_RX2_11 sh_26 rfl (by decide) (R 26 rfl) ?_
  refine r_iconst d_X2_copyFrom_4 ?_
  refine r_aload_n d_X2_copyFrom_5 rfl (by decide) ?_
  refine r_getR (t := 22) d_X2_copyFrom_6 fk_RX2_11 sh_21 rfl (by decide) (R 21 rfl) ?_
  refine r_iconst d_X2_copyFrom_9 ?_
  refine r_sipush d_X2_copyFrom_10 (by decide) ?_
  refine c_acopy (n := 1024) d_X2_copyFrom_13 ak_RX2_35 sh_27 sh_22 (by decide) (by decide) (R 27 rfl) (R 22 rfl) (by decide) rfl (by decide) (by decide) (Nat.le_of_ble_eq_true rfl) (by decide) h (fun D1 h => ?_)
  refine r_aload_n d_X2_copyFrom_16 rfl (by decide) ?_
  refine r_getR (t := 28) d_X2_copyFrom_17 fk_RX2_15 sh_26 rfl (by decide) (R 26 rfl) ?_
  refine r_iconst d_X2_copyFrom_20 ?_
  show Run Γ rg κ Y_X2_copyFrom 21 [(29, 0), (34, 0)] [(0, 0), (36, 0)] D1 Φ
  refine r_aload_n d_X2_copyFrom_21 rfl (by decide) ?_
  refine r_getR (t := 23) d_X2_copyFrom_22 fk_RX2_15 sh_21 rfl (by decide) (R 21 rfl) ?_
  refine r_iconst d_X2_copyFrom_25 ?_
  refine r_sipush d_X2_copyFrom_26 (by decide) ?_
  refine c_acopy (n := 1024) d_X2_copyFrom_29 ak_RX2_35 sh_28 sh_23 (by decide) (by decide) (R 28 rfl) (R 23 rfl) (by decide) rfl (by decide) (by decide) (Nat.le_of_ble_eq_true rfl) (by decide) h (fun D2 h => ?_)
  refine r_aload_n d_X2_copyFrom_32 rfl (by decide) ?_
  refine r_getR (t := 29) d_X2_copyFrom_33 fk_RX2_18 sh_26 rfl (by decide) (R 26 rfl) ?_
  refine r_iconst d_X2_copyFrom_36 ?_
  refine r_aload_n d_X2_copyFrom_37 rfl (by decide) ?_
  refine r_getR (t := 24) d_X2_copyFrom_38 fk_RX2_18 sh_21 rfl (by decide) (R 21 rfl) ?_
  refine r_iconst d_X2_copyFrom_41 ?_
  refine r_bipush d_X2_copyFrom_42 (by decide) ?_
  show Run Γ rg κ Y_X2_copyFrom 44 [(29, 0), (34, 0)] [(0, 80), (0, 0), (32, 0), (0, 0), (37, 0)] D2 Φ
  refine c_acopy (n := 80) d_X2_copyFrom_44 ak_RX2_35 sh_29 sh_24 (by decide) (by decide) (R 29 rfl) (R 24 rfl) (by decide) rfl (by decide) (by decide) (Nat.le_of_ble_eq_true rfl) (by decide) h (fun D3 h => ?_)
  refine r_aload_n d_X2_copyFrom_47 rfl (by decide) ?_
  refine r_getR (t := 30) d_X2_copyFrom_48 fk_RX2_21 sh_26 rfl (by decide) (R 26 rfl) ?_
  refine r_iconst d_X2_copyFrom_51 ?_
  refine r_aload_n d_X2_copyFrom_52 rfl (by decide) ?_
  refine r_getR (t := 25) d_X2_copyFrom_53 fk_RX2_21 sh_21 rfl (by decide) (R 21 rfl) ?_
  refine r_iconst d_X2_copyFrom_56 ?_
  refine r_sipush d_X2_copyFrom_57 (by decide) ?_
  refine c_acopy (n := 256) d_X2_copyFrom_60 ak_RX2_35 sh_30 sh_25 (by decide) (by decide) (R 30 rfl) (R 25 rfl) (by decide) rfl (by decide) (by decide) (Nat.le_of_ble_eq_true rfl) (by decide) h (fun D4 h => ?_)
  refine r_aload_n d_X2_copyFrom_63 rfl (by decide) ?_
  refine r_aload_n d_X2_copyFrom_64 rfl (by decide) ?_
  refine r_getI d_X2_copyFrom_65 fk_RX2_24 sh_26 rfl (by decide) (by decide) (R 26 rfl) ?_
  show Run Γ rg κ Y_X2_copyFrom 68 [(29, 0), (34, 0)] [(0, (D4 26 4)), (29, 0)] D4 Φ
  refine c_putI (k := 4) d_X2_copyFrom_68 pk_RX2_24 sh_21 rfl (by decide) (R 21 rfl) h (fun D5 h => ?_)
  refine r_aload_n d_X2_copyFrom_71 rfl (by decide) ?_
  refine r_aload_n d_X2_copyFrom_72 rfl (by decide) ?_
  refine r_getI d_X2_copyFrom_73 fk_RX2_28 sh_26 rfl (by decide) (by decide) (R 26 rfl) ?_
  refine c_putI (k := 5) d_X2_copyFrom_76 pk_RX2_28 sh_21 rfl (by decide) (R 21 rfl) h (fun D6 h => ?_)
  exact d_vret d_X2_copyFrom_79 rfl h
set_option maxRecDepth 20000 in
theorem run_pF_endWhole {Γ : GG} {rg : Nat → Bool} {κ : Nat} {Φ : OT → DD → Prop} (R : cov rg rg0) {D : DD} (h : WPD Φ (pF_endWhole D)) : Run Γ rg κ Y_X1_endWhole 0 [(28, 0)] [] D Φ := by
  unfold pF_endWhole at h
  show Run Γ rg κ Y_X1_endWhole 0 [(28, 0)] [] D Φ
  refine r_aload_n d_X1_endWhole_0 rfl (by decide) ?_
  refine r_getR (t := 21) d_X1_endWhole_1 fk_RX1_10 sh_20 rfl (by decide) (R 20 rfl) ?_
  refine r_aload_n d_X1_endWhole_4 rfl (by decide) ?_
  refine r_getR (t := 26) d_X1_endWhole_5 fk_RX1_16 sh_20 rfl (by decide) (R 20 rfl) ?_
  refine c_callVD (a := 21) (z := 0) (as := [(34, 0)]) (rest := []) (ls' := [(29, 0), (34, 0)]) d_X1_endWhole_8 ck_RX1_23 rfl sh_21 rfl (by decide) (R 21 rfl) rfl rfl (Nat.le_of_ble_eq_true rfl) (Nat.le_of_ble_eq_true rfl) (by decide) rfl rfl (fun Ψ hΨ => run_pI_copyFrom_21_26 R hΨ) h (fun D1 h => ?_)
  show Run Γ rg κ Y_X1_endWhole 11 [(28, 0)] [] D1 Φ
  refine r_aload_n d_X1_endWhole_11 rfl (by decide) ?_
  refine r_dup d_X1_endWhole_12 (by decide) ?_
  refine r_getI d_X1_endWhole_13 fk_RX1_48 sh_20 rfl (by decide) (by decide) (R 20 rfl) ?_
  refine r_iconst d_X1_endWhole_16 ?_
  refine r_iadd d_X1_endWhole_17 ?_
  refine c_putI (k := 5) d_X1_endWhole_18 pk_RX1_48 sh_20 rfl (by decide) (R 20 rfl) h (fun D2 h => ?_)
  show Run Γ rg κ Y_X1_endWhole 21 [(28, 0)] [] D2 Φ
  refine r_aload_n d_X1_endWhole_21 rfl (by decide) ?_
  refine r_iconst d_X1_endWhole_22 ?_
  refine c_putZ (k := 6) d_X1_endWhole_23 pk_RX1_34 sh_20 rfl (by decide) (R 20 rfl) (Or.inl rfl) h (fun D3 h => ?_)
  exact d_vret d_X1_endWhole_26 rfl h
set_option maxRecDepth 20000 in
theorem run_pF_breakOff {Γ : GG} {rg : Nat → Bool} {κ : Nat} {Φ : OT → DD → Prop} (R : cov rg rg0) {D : DD} (h : WPD Φ (pF_breakOff D)) : Run Γ rg κ Y_X1_breakOff 0 [(28, 0)] [] D Φ := by
  unfold pF_breakOff at h
  show Run Γ rg κ Y_X1_breakOff 0 [(28, 0)] [] D Φ
  refine r_aload_n d_X1_breakOff_0 rfl (by decide) ?_
  refine r_getI d_X1_breakOff_1 fk_RX1_34 sh_20 rfl (by decide) (by decide) (R 20 rfl) ?_
  refine c_jn (fun J => ∀ (D1 : DD), WPD Φ (J D1) → Run Γ rg κ Y_X1_breakOff 18 [(28, 0)] [] D1 Φ) h ?_ (fun J1 hJ1 h => ?_)
  · intro D1 h
    show Run Γ rg κ Y_X1_breakOff 18 [(28, 0)] [] D1 Φ
    refine r_aload_n d_X1_breakOff_18 rfl (by decide) ?_
    refine r_iconst d_X1_breakOff_19 ?_
    refine c_putZ (k := 6) d_X1_breakOff_20 pk_RX1_34 sh_20 rfl (by decide) (R 20 rfl) (Or.inl rfl) h (fun D2 h => ?_)
    exact d_vret d_X1_breakOff_23 rfl h
  refine c_if_eq (tgt := 18) d_X1_breakOff_4 (by decide) (nz_w _) h (fun h => ?_) (fun h => ?_)
  · skip
    exact (hJ1 D h)
  · skip
    show Run Γ rg κ Y_X1_breakOff 7 [(28, 0)] [] D Φ
    refine r_aload_n d_X1_breakOff_7 rfl (by decide) ?_
    refine c_callVPi (a := 20) (z := 0) (as := []) (rest := []) (ls' := [(28, 0)]) d_X1_breakOff_8 ck_RX1_51 rfl sh_20 rfl (by decide) (R 20 rfl) rfl rfl (Nat.le_of_ble_eq_true rfl) (Nat.le_of_ble_eq_true rfl) (by decide) rfl rfl (fun Ψ hΨ => run_pF_isSealed R rfl hΨ) ?_
    show Run Γ rg κ Y_X1_breakOff 11 [(28, 0)] [(0, (pF_isSealed D))] D Φ
    refine c_if_eq (tgt := 18) d_X1_breakOff_11 (by decide) (nz_b (pF_isSealed_b D)) h (fun h => ?_) (fun h => ?_)
    · skip
      exact (hJ1 D h)
    · skip
      show Run Γ rg κ Y_X1_breakOff 14 [(28, 0)] [] D Φ
      refine r_aload_n d_X1_breakOff_14 rfl (by decide) ?_
      refine c_callVD (a := 20) (z := 0) (as := []) (rest := []) (ls' := [(28, 0)]) d_X1_breakOff_15 ck_RX1_61 rfl sh_20 rfl (by decide) (R 20 rfl) rfl rfl (Nat.le_of_ble_eq_true rfl) (Nat.le_of_ble_eq_true rfl) (by decide) rfl rfl (fun Ψ hΨ => run_pF_endWhole R hΨ) h (fun D3 h => ?_)
      show Run Γ rg κ Y_X1_breakOff 18 [(28, 0)] [] D3 Φ
      exact (hJ1 D3 h)
set_option maxRecDepth 20000 in
theorem run_pI_copyFrom_2_21 {Γ : GG} {rg : Nat → Bool} {κ : Nat} {Φ : OT → DD → Prop} (R : cov rg rg0) {D : DD} (h : WPD Φ (pI_copyFrom_2_21 D)) : Run Γ rg κ Y_X2_copyFrom 0 [(10, 0), (29, 0)] [] D Φ := by
  unfold pI_copyFrom_2_21 at h
  show Run Γ rg κ Y_X2_copyFrom 0 [(10, 0), (29, 0)] [] D Φ
  refine r_aload_n d_X2_copyFrom_0 rfl (by decide) ?_
  refine r_getR (t := 22) d_X2_copyFrom_1 fk_RX2_11 sh_21 rfl (by decide) (R 21 rfl) ?_
  refine r_iconst d_X2_copyFrom_4 ?_
  refine r_aload_n d_X2_copyFrom_5 rfl (by decide) ?_
  refine r_getR (t := 3) d_X2_copyFrom_6 fk_RX2_11 sh_2 rfl (by decide) (R 2 rfl) ?_
  refine r_iconst d_X2_copyFrom_9 ?_
  refine r_sipush d_X2_copyFrom_10 (by decide) ?_
  refine c_acopy (n := 1024) d_X2_copyFrom_13 ak_RX2_35 sh_22 sh_3 (by decide) (by decide) (R 22 rfl) (R 3 rfl) (by decide) rfl (by decide) (by decide) (Nat.le_of_ble_eq_true rfl) (by decide) h (fun D1 h => ?_)
  refine r_aload_n d_X2_copyFrom_16 rfl (by decide) ?_
  refine r_getR (t := 23) d_X2_copyFrom_17 fk_RX2_15 sh_21 rfl (by decide) (R 21 rfl) ?_
  refine r_iconst d_X2_copyFrom_20 ?_
  show Run Γ rg κ Y_X2_copyFrom 21 [(10, 0), (29, 0)] [(0, 0), (31, 0)] D1 Φ
  refine r_aload_n d_X2_copyFrom_21 rfl (by decide) ?_
  refine r_getR (t := 4) d_X2_copyFrom_22 fk_RX2_15 sh_2 rfl (by decide) (R 2 rfl) ?_
  refine r_iconst d_X2_copyFrom_25 ?_
  refine r_sipush d_X2_copyFrom_26 (by decide) ?_
  refine c_acopy (n := 1024) d_X2_copyFrom_29 ak_RX2_35 sh_23 sh_4 (by decide) (by decide) (R 23 rfl) (R 4 rfl) (by decide) rfl (by decide) (by decide) (Nat.le_of_ble_eq_true rfl) (by decide) h (fun D2 h => ?_)
  refine r_aload_n d_X2_copyFrom_32 rfl (by decide) ?_
  refine r_getR (t := 24) d_X2_copyFrom_33 fk_RX2_18 sh_21 rfl (by decide) (R 21 rfl) ?_
  refine r_iconst d_X2_copyFrom_36 ?_
  refine r_aload_n d_X2_copyFrom_37 rfl (by decide) ?_
  refine r_getR (t := 5) d_X2_copyFrom_38 fk_RX2_18 sh_2 rfl (by decide) (R 2 rfl) ?_
  refine r_iconst d_X2_copyFrom_41 ?_
  refine r_bipush d_X2_copyFrom_42 (by decide) ?_
  show Run Γ rg κ Y_X2_copyFrom 44 [(10, 0), (29, 0)] [(0, 80), (0, 0), (13, 0), (0, 0), (32, 0)] D2 Φ
  refine c_acopy (n := 80) d_X2_copyFrom_44 ak_RX2_35 sh_24 sh_5 (by decide) (by decide) (R 24 rfl) (R 5 rfl) (by decide) rfl (by decide) (by decide) (Nat.le_of_ble_eq_true rfl) (by decide) h (fun D3 h => ?_)
  refine r_aload_n d_X2_copyFrom_47 rfl (by decide) ?_
  refine r_getR (t := 25) d_X2_copyFrom_48 fk_RX2_21 sh_21 rfl (by decide) (R 21 rfl) ?_
  refine r_iconst d_X2_copyFrom_51 ?_
  refine r_aload_n d_X2_copyFrom_52 rfl (by decide) ?_
  refine r_getR (t := 6) d_X2_copyFrom_53 fk_RX2_21 sh_2 rfl (by decide) (R 2 rfl) ?_
  refine r_iconst d_X2_copyFrom_56 ?_
  refine r_sipush d_X2_copyFrom_57 (by decide) ?_
  refine c_acopy (n := 256) d_X2_copyFrom_60 ak_RX2_35 sh_25 sh_6 (by decide) (by decide) (R 25 rfl) (R 6 rfl) (by decide) rfl (by decide) (by decide) (Nat.le_of_ble_eq_true rfl) (by decide) h (fun D4 h => ?_)
  refine r_aload_n d_X2_copyFrom_63 rfl (by decide) ?_
  refine r_aload_n d_X2_copyFrom_64 rfl (by decide) ?_
  refine r_getI d_X2_copyFrom_65 fk_RX2_24 sh_21 rfl (by decide) (by decide) (R 21 rfl) ?_
  show Run Γ rg κ Y_X2_copyFrom 68 [(10, 0), (29, 0)] [(0, (D4 21 4)), (10, 0)] D4 Φ
  refine c_putI (k := 4) d_X2_copyFrom_68 pk_RX2_24 sh_2 rfl (by decide) (R 2 rfl) h (fun D5 h => ?_)
  refine r_aload_n d_X2_copyFrom_71 rfl (by decide) ?_
  refine r_aload_n d_X2_copyFrom_72 rfl (by decide) ?_
  refine r_getI d_X2_copyFrom_73 fk_RX2_28 sh_21 rfl (by decide) (by decide) (R 21 rfl) ?_
  refine c_putI (k := 5) d_X2_copyFrom_76 pk_RX2_28 sh_2 rfl (by decide) (R 2 rfl) h (fun D6 h => ?_)
  exact d_vret d_X2_copyFrom_79 rfl h
set_option maxRecDepth 20000 in
theorem run_pF_restoreWhole {Γ : GG} {rg : Nat → Bool} {κ : Nat} {Φ : OT → DD → Prop} (R : cov rg rg0) {D : DD} (h : WPD Φ (pF_restoreWhole D)) : Run Γ rg κ Y_X1_restoreWhole 0 [(28, 0), (10, 0)] [] D Φ := by
  unfold pF_restoreWhole at h
  show Run Γ rg κ Y_X1_restoreWhole 0 [(28, 0), (10, 0)] [] D Φ
  refine r_aload_n d_X1_restoreWhole_0 rfl (by decide) ?_
  refine r_aload_n d_X1_restoreWhole_1 rfl (by decide) ?_
  refine r_getR (t := 21) d_X1_restoreWhole_2 fk_RX1_10 sh_20 rfl (by decide) (R 20 rfl) ?_
  refine c_callVD (a := 2) (z := 0) (as := [(29, 0)]) (rest := []) (ls' := [(10, 0), (29, 0)]) d_X1_restoreWhole_5 ck_RX1_23 rfl sh_2 rfl (by decide) (R 2 rfl) rfl rfl (Nat.le_of_ble_eq_true rfl) (Nat.le_of_ble_eq_true rfl) (by decide) rfl rfl (fun Ψ hΨ => run_pI_copyFrom_2_21 R hΨ) h (fun D1 h => ?_)
  show Run Γ rg κ Y_X1_restoreWhole 8 [(28, 0), (10, 0)] [] D1 Φ
  exact d_vret d_X1_restoreWhole_8 rfl h
set_option maxRecDepth 20000 in
theorem run_pC_forgetDirty {Γ : GG} {rg : Nat → Bool} {κ : Nat} {Φ : OT → DD → Prop} (R : cov rg rg0) {D : DD} (h : WPD Φ (pC_forgetDirty D)) : Run Γ rg κ Y_X0_forgetDirty 0 [(15, 0)] [] D Φ := by
  unfold pC_forgetDirty at h
  show Run Γ rg κ Y_X0_forgetDirty 0 [(15, 0)] [] D Φ
  refine r_aload_n d_X0_forgetDirty_0 rfl (by decide) ?_
  refine c_lconst d_X0_forgetDirty_1 rfl ?_
  refine c_putJ (k := 5) d_X0_forgetDirty_2 pk_RX0_62 sh_7 rfl (by decide) (R 7 rfl) h (fun D1 h => ?_)
  exact d_vret d_X0_forgetDirty_5 rfl h
set_option maxRecDepth 20000 in
theorem run_pW_start {Γ : GG} {rg : Nat → Bool} {κ : Nat} {Φ : OT → DD → Prop} (R : cov rg rg0) (p1 : Int) (p2 : Int) (p3 : Int) {D : DD} (h : WPD Φ (pW_start p1 p2 p3 D)) : Run Γ rg κ Y_X6_start 0 [(23, 0), (0, p1), (0, p2), (0, p3)] [] D Φ := by
  unfold pW_start at h
  show Run Γ rg κ Y_X6_start 0 [(23, 0), (0, p1), (0, p2), (0, p3)] [] D Φ
  refine r_aload_n d_X6_start_0 rfl (by decide) ?_
  refine r_getR (t := 16) d_X6_start_1 fk_RX6_9 sh_15 rfl (by decide) (R 15 rfl) ?_
  refine r_iload_n d_X6_start_4 rfl ?_
  refine r_iload_n d_X6_start_5 rfl ?_
  refine c_callND (as := [(24, 0), (0, p1), (0, p2)]) (rest := []) (ls' := [(24, 0), (0, p1), (0, p2)]) d_X6_start_6 ck_RX6_28 rfl rfl rfl (Nat.le_of_ble_eq_true rfl) (Nat.le_of_ble_eq_true rfl) (by decide) rfl rfl (fun Ψ hΨ => run_pH_store sh_16 (by decide) (R 16 rfl) (by decide) _ _ hΨ) h (fun D1 h => ?_)
  show Run Γ rg κ Y_X6_start 9 [(23, 0), (0, p1), (0, p2), (0, p3)] [] D1 Φ
  refine r_aload_n d_X6_start_9 rfl (by decide) ?_
  refine r_getR (t := 17) d_X6_start_10 fk_RX6_15 sh_15 rfl (by decide) (R 15 rfl) ?_
  refine r_iload_n d_X6_start_13 rfl ?_
  refine r_iload_n d_X6_start_14 rfl ?_
  refine c_jn (fun J => ∀ (x1 : Int) (D2 : DD), WPD Φ (J x1 D2) → Run Γ rg κ Y_X6_start 23 [(23, 0), (0, p1), (5, 0), (5, 0)] [(0, x1), (0, p1), (25, 0)] D2 Φ) h ?_ (fun J1 hJ1 h => ?_)
  · intro x1 D2 h
    show Run Γ rg κ Y_X6_start 23 [(23, 0), (0, p1), (5, 0), (5, 0)] [(0, x1), (0, p1), (25, 0)] D2 Φ
    refine c_callND (as := [(25, 0), (0, p1), (0, x1)]) (rest := []) (ls' := [(25, 0), (0, p1), (0, x1)]) d_X6_start_23 ck_RX6_28 rfl rfl rfl (Nat.le_of_ble_eq_true rfl) (Nat.le_of_ble_eq_true rfl) (by decide) rfl rfl (fun Ψ hΨ => run_pH_store sh_17 (by decide) (R 17 rfl) (by decide) _ _ hΨ) h (fun D3 h => ?_)
    show Run Γ rg κ Y_X6_start 26 [(23, 0), (0, p1), (5, 0), (5, 0)] [] D3 Φ
    refine r_aload_n d_X6_start_26 rfl (by decide) ?_
    refine r_getR (t := 18) d_X6_start_27 fk_RX6_18 sh_15 rfl (by decide) (R 15 rfl) ?_
    refine r_iload_n d_X6_start_30 rfl ?_
    refine r_iconst d_X6_start_31 ?_
    refine c_callND (as := [(26, 0), (0, p1), (0, 0)]) (rest := []) (ls' := [(26, 0), (0, p1), (0, 0)]) d_X6_start_32 ck_RX6_28 rfl rfl rfl (Nat.le_of_ble_eq_true rfl) (Nat.le_of_ble_eq_true rfl) (by decide) rfl rfl (fun Ψ hΨ => run_pH_store sh_18 (by decide) (R 18 rfl) (by decide) _ _ hΨ) h (fun D4 h => ?_)
    show Run Γ rg κ Y_X6_start 35 [(23, 0), (0, p1), (5, 0), (5, 0)] [] D4 Φ
    refine r_aload_n d_X6_start_35 rfl (by decide) ?_
    refine r_getR (t := 19) d_X6_start_36 fk_RX6_21 sh_15 rfl (by decide) (R 15 rfl) ?_
    refine r_iload_n d_X6_start_39 rfl ?_
    refine r_iconst d_X6_start_40 ?_
    refine c_callND (as := [(27, 0), (0, p1), (0, 0)]) (rest := []) (ls' := [(27, 0), (0, p1), (0, 0)]) d_X6_start_41 ck_RX6_28 rfl rfl rfl (Nat.le_of_ble_eq_true rfl) (Nat.le_of_ble_eq_true rfl) (by decide) rfl rfl (fun Ψ hΨ => run_pH_store sh_19 (by decide) (R 19 rfl) (by decide) _ _ hΨ) h (fun D5 h => ?_)
    show Run Γ rg κ Y_X6_start 44 [(23, 0), (0, p1), (5, 0), (5, 0)] [] D5 Φ
    show Run Γ rg κ Y_X6_start 44 [(23, 0), (0, p1), (5, 0), (5, 0)] [] D5 Φ
    exact d_vret d_X6_start_44 rfl h
  refine c_if_eq (tgt := 22) d_X6_start_15 (by decide) (nz_w _) h (fun h => ?_) (fun h => ?_)
  · skip
    show Run Γ rg κ Y_X6_start 22 [(23, 0), (0, p1), (0, p2), (0, p3)] [(0, p1), (25, 0)] D1 Φ
    refine r_iconst d_X6_start_22 ?_
    exact Run.forget (ls' := [(23, 0), (0, p1), (5, 0), (5, 0)]) ⟨Or.inr rfl, Or.inr rfl, Or.inl rfl, Or.inl rfl, trivial⟩ (hJ1 0 D1 h)
  · skip
    show Run Γ rg κ Y_X6_start 18 [(23, 0), (0, p1), (0, p2), (0, p3)] [(0, p1), (25, 0)] D1 Φ
    refine r_iconst d_X6_start_18 ?_
    refine r_goto (tgt := 23) d_X6_start_19 (by decide) ?_
    exact Run.forget (ls' := [(23, 0), (0, p1), (5, 0), (5, 0)]) ⟨Or.inr rfl, Or.inr rfl, Or.inl rfl, Or.inl rfl, trivial⟩ (hJ1 1 D1 h)
set_option maxRecDepth 20000 in
theorem run_pW_end {Γ : GG} {rg : Nat → Bool} {κ : Nat} {Φ : OT → DD → Prop} (R : cov rg rg0) (p1 : Int) {D : DD} (h : WPD Φ (pW_end p1 D)) : Run Γ rg κ Y_X6_end 0 [(23, 0), (0, p1)] [] D Φ := by
  unfold pW_end at h
  show Run Γ rg κ Y_X6_end 0 [(23, 0), (0, p1)] [] D Φ
  refine r_aload_n d_X6_end_0 rfl (by decide) ?_
  refine r_iload_n d_X6_end_1 rfl ?_
  refine r_iconst d_X6_end_2 ?_
  refine r_iconst d_X6_end_3 ?_
  refine c_callVD (a := 15) (z := 0) (as := [(0, p1), (0, 0), (0, 0)]) (rest := []) (ls' := [(23, 0), (0, p1), (0, 0), (0, 0)]) d_X6_end_4 ck_RX6_32 rfl sh_15 rfl (by decide) (R 15 rfl) rfl rfl (Nat.le_of_ble_eq_true rfl) (Nat.le_of_ble_eq_true rfl) (by decide) rfl rfl (fun Ψ hΨ => run_pW_start R _ _ _ hΨ) h (fun D1 h => ?_)
  show Run Γ rg κ Y_X6_end 7 [(23, 0), (0, p1)] [] D1 Φ
  exact d_vret d_X6_end_7 rfl h
set_option maxRecDepth 20000 in
theorem run_pW_endAll_2 {Γ : GG} {rg : Nat → Bool} {κ : Nat} {Φ : OT → DD → Prop} (R : cov rg rg0) : ∀ (n : Nat) (a1 : Int) (D : DD), WP none κ Φ (pW_endAll_2 n a1 D) → Run Γ rg κ Y_X6_endAll 2 [(23, 0), (0, a1)] [] D Φ := by
  intro n
  induction n with
  | zero => intro a1 D h; exact h.no.elim
  | succ n ih =>
    intro a1 D h
    rw [pW_endAll_2] at h
    show Run Γ rg κ Y_X6_endAll 2 [(23, 0), (0, a1)] [] D Φ
    refine r_iload_n d_X6_endAll_2 rfl ?_
    refine r_bipush d_X6_endAll_3 (by decide) ?_
    refine c_icmp_ge (tgt := 19) d_X6_endAll_5 (by decide) (nz_w _) (nz_k rfl) h (fun h => ?_) (fun h => ?_)
    · skip
      show Run Γ rg κ Y_X6_endAll 19 [(23, 0), (0, a1)] [] D Φ
      exact c_vret d_X6_endAll_19 rfl h
    · skip
      show Run Γ rg κ Y_X6_endAll 8 [(23, 0), (0, a1)] [] D Φ
      refine r_aload_n d_X6_endAll_8 rfl (by decide) ?_
      refine r_iload_n d_X6_endAll_9 rfl ?_
      refine c_callVD (a := 15) (z := 0) (as := [(0, a1)]) (rest := []) (ls' := [(23, 0), (0, a1)]) d_X6_endAll_10 ck_RX6_36 rfl sh_15 rfl (by decide) (R 15 rfl) rfl rfl (Nat.le_of_ble_eq_true rfl) (Nat.le_of_ble_eq_true rfl) (by decide) rfl rfl (fun Ψ hΨ => run_pW_end R _ hΨ) h (fun D1 h => ?_)
      show Run Γ rg κ Y_X6_endAll 13 [(23, 0), (0, a1)] [] D1 Φ
      refine r_iinc d_X6_endAll_13 rfl (by decide) rfl ?_
      show Run Γ rg κ Y_X6_endAll 16 [(23, 0), (0, (a1 + 1))] [] D1 Φ
      refine r_goto (tgt := 2) d_X6_endAll_16 (by decide) ?_
      exact (ih (a1 + 1) D1 h)
set_option maxRecDepth 20000 in
theorem run_pW_endAll {Γ : GG} {rg : Nat → Bool} {κ : Nat} {Φ : OT → DD → Prop} (R : cov rg rg0) {D : DD} (h : WP none κ Φ (pW_endAll D)) : Run Γ rg κ Y_X6_endAll 0 [(23, 0), (5, 0)] [] D Φ := by
  unfold pW_endAll at h
  show Run Γ rg κ Y_X6_endAll 0 [(23, 0), (5, 0)] [] D Φ
  refine r_iconst d_X6_endAll_0 ?_
  refine r_istore_n d_X6_endAll_1 (by decide) rfl ?_
  show Run Γ rg κ Y_X6_endAll 2 [(23, 0), (0, 0)] [] D Φ
  exact run_pW_endAll_2 R fu 0 D h
set_option maxRecDepth 20000 in
theorem run_pH_crash {Γ : GG} {rg : Nat → Bool} {κ : Nat} {Φ : OT → DD → Prop} (R : cov rg rg0) {D : DD} (h : WP (some .int) κ Φ (pH_crash D)) : Run Γ rg κ Y_X7_crash 0 [(8, 0)] [] D Φ := by
  unfold pH_crash at h
  show Run Γ rg κ Y_X7_crash 0 [(8, 0)] [] D Φ
  refine r_aload_n d_X7_crash_0 rfl (by decide) ?_
  refine r_getR (t := 20) d_X7_crash_1 fk_RX7_62 sh_0 rfl (by decide) (R 0 rfl) ?_
  refine c_callVD (a := 20) (z := 0) (as := []) (rest := []) (ls' := [(28, 0)]) d_X7_crash_4 ck_RX7_334 rfl sh_20 rfl (by decide) (R 20 rfl) rfl rfl (Nat.le_of_ble_eq_true rfl) (Nat.le_of_ble_eq_true rfl) (by decide) rfl rfl (fun Ψ hΨ => run_pF_breakOff R hΨ) h (fun D1 h => ?_)
  show Run Γ rg κ Y_X7_crash 7 [(8, 0)] [] D1 Φ
  refine r_aload_n d_X7_crash_7 rfl (by decide) ?_
  refine r_getR (t := 20) d_X7_crash_8 fk_RX7_62 sh_0 rfl (by decide) (R 0 rfl) ?_
  refine r_aload_n d_X7_crash_11 rfl (by decide) ?_
  refine r_getR (t := 2) d_X7_crash_12 fk_RX7_21 sh_0 rfl (by decide) (R 0 rfl) ?_
  refine c_callVD (a := 20) (z := 0) (as := [(10, 0)]) (rest := []) (ls' := [(28, 0), (10, 0)]) d_X7_crash_15 ck_RX7_337 rfl sh_20 rfl (by decide) (R 20 rfl) rfl rfl (Nat.le_of_ble_eq_true rfl) (Nat.le_of_ble_eq_true rfl) (by decide) rfl rfl (fun Ψ hΨ => run_pF_restoreWhole R hΨ) h (fun D2 h => ?_)
  show Run Γ rg κ Y_X7_crash 18 [(8, 0)] [] D2 Φ
  refine r_aload_n d_X7_crash_18 rfl (by decide) ?_
  refine r_getR (t := 7) d_X7_crash_19 fk_RX7_25 sh_0 rfl (by decide) (R 0 rfl) ?_
  refine c_callVD (a := 7) (z := 0) (as := []) (rest := []) (ls' := [(15, 0)]) d_X7_crash_22 ck_RX7_89 rfl sh_7 rfl (by decide) (R 7 rfl) rfl rfl (Nat.le_of_ble_eq_true rfl) (Nat.le_of_ble_eq_true rfl) (by decide) rfl rfl (fun Ψ hΨ => run_pC_forgetDirty R hΨ) h (fun D3 h => ?_)
  show Run Γ rg κ Y_X7_crash 25 [(8, 0)] [] D3 Φ
  show Run Γ rg κ Y_X7_crash 25 [(8, 0)] [] D3 Φ
  refine r_aload_n d_X7_crash_25 rfl (by decide) ?_
  refine r_getR (t := 15) d_X7_crash_26 fk_RX7_55 sh_0 rfl (by decide) (R 0 rfl) ?_
  refine c_callVv (a := 15) (z := 0) (as := []) (rest := []) (ls' := [(23, 0), (5, 0)]) d_X7_crash_29 ck_RX7_340 rfl sh_15 rfl (by decide) (R 15 rfl) rfl rfl (Nat.le_of_ble_eq_true rfl) (Nat.le_of_ble_eq_true rfl) (by decide) rfl rfl (fun κ' Ψ hΨ => run_pW_endAll R hΨ) h (fun _ D4 h => ?_)
  show Run Γ rg κ Y_X7_crash 32 [(8, 0)] [] D4 Φ
  refine r_aload_n d_X7_crash_32 rfl (by decide) ?_
  refine r_getR (t := 20) d_X7_crash_33 fk_RX7_62 sh_0 rfl (by decide) (R 0 rfl) ?_
  refine r_getI d_X7_crash_36 fk_RX7_343 sh_20 rfl (by decide) (by decide) (R 20 rfl) ?_
  exact c_iret d_X7_crash_39 rfl h
