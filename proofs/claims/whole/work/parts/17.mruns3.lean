/-! the reference: each run keeps to its reading -/
set_option maxRecDepth 20000 in
theorem run_pM_moves_50 {Γ : GG} {rg : Nat → Bool} {κ : Nat} {Φ : OT → DD → Prop} (R : cov rg rg1) (a1 : Int) (a2 : Int) : ∀ (n : Nat) (a3 : Int) (D : DD), WP none κ Φ (pM_moves_50 a1 a2 n a3 D) → Run Γ rg κ Y_X8_moves 50 [(40, 0), (0, a1), (0, a2), (0, a3)] [] D Φ := by
  intro n
  induction n with
  | zero => intro a3 D h; exact h.no.elim
  | succ n ih =>
    intro a3 D h
    rw [pM_moves_50] at h
    show Run Γ rg κ Y_X8_moves 50 [(40, 0), (0, a1), (0, a2), (0, a3)] [] D Φ
    refine r_iload_n d_X8_moves_50 rfl ?_
    refine r_iconst d_X8_moves_51 ?_
    refine c_icmp_ge (tgt := 81) d_X8_moves_52 (by decide) (nz_w _) (nz_k rfl) h (fun h => ?_) (fun h => ?_)
    · skip
      show Run Γ rg κ Y_X8_moves 81 [(40, 0), (0, a1), (0, a2), (0, a3)] [] D Φ
      exact c_vret d_X8_moves_81 rfl h
    · skip
      show Run Γ rg κ Y_X8_moves 55 [(40, 0), (0, a1), (0, a2), (0, a3)] [] D Φ
      refine r_aload_n d_X8_moves_55 rfl (by decide) ?_
      refine r_getR (t := 55) d_X8_moves_56 fk_RX8_77 sh_32 rfl (by decide) (R 32 rfl) ?_
      refine r_iconst d_X8_moves_59 ?_
      refine r_iload_n d_X8_moves_60 rfl ?_
      refine r_imul d_X8_moves_61 ?_
      refine r_iload_n d_X8_moves_62 rfl ?_
      refine r_iadd d_X8_moves_63 ?_
      refine r_aload_n d_X8_moves_64 rfl (by decide) ?_
      refine r_getR (t := 55) d_X8_moves_65 fk_RX8_77 sh_32 rfl (by decide) (R 32 rfl) ?_
      refine r_iconst d_X8_moves_68 ?_
      refine r_iload_n d_X8_moves_69 rfl ?_
      show Run Γ rg κ Y_X8_moves 70 [(40, 0), (0, a1), (0, a2), (0, a3)] [(0, a2), (0, 4), (63, 0), (0, ((4 * a1) + a3)), (63, 0)] D Φ
      refine r_imul d_X8_moves_70 ?_
      refine r_iload_n d_X8_moves_71 rfl ?_
      refine r_iadd d_X8_moves_72 ?_
      refine c_iald d_X8_moves_73 sh_55 (by decide) (R 55 rfl) (by decide) h (fun v1 h => ?_)
      refine c_iast d_X8_moves_74 sh_55 (by decide) (R 55 rfl) (by decide) h (fun D1 h => ?_)
      refine r_iinc d_X8_moves_75 rfl (by decide) rfl ?_
      show Run Γ rg κ Y_X8_moves 78 [(40, 0), (0, a1), (0, a2), (0, (a3 + 1))] [] D1 Φ
      refine r_goto (tgt := 50) d_X8_moves_78 (by decide) ?_
      exact (ih (a3 + 1) D1 h)
set_option maxRecDepth 20000 in
theorem run_pM_moves {Γ : GG} {rg : Nat → Bool} {κ : Nat} {Φ : OT → DD → Prop} (R : cov rg rg1) (p1 : Int) (p2 : Int) {D : DD} (h : WP none κ Φ (pM_moves p1 p2 D)) : Run Γ rg κ Y_X8_moves 0 [(40, 0), (0, p1), (0, p2), (5, 0)] [] D Φ := by
  unfold pM_moves at h
  show Run Γ rg κ Y_X8_moves 0 [(40, 0), (0, p1), (0, p2), (5, 0)] [] D Φ
  refine r_aload_n d_X8_moves_0 rfl (by decide) ?_
  refine r_getR (t := 51) d_X8_moves_1 fk_RX8_65 sh_32 rfl (by decide) (R 32 rfl) ?_
  refine r_iload_n d_X8_moves_4 rfl ?_
  refine r_aload_n d_X8_moves_5 rfl (by decide) ?_
  refine r_getR (t := 51) d_X8_moves_6 fk_RX8_65 sh_32 rfl (by decide) (R 32 rfl) ?_
  refine r_iload_n d_X8_moves_9 rfl ?_
  refine c_iald d_X8_moves_10 sh_51 (by decide) (R 51 rfl) (by decide) h (fun v1 h => ?_)
  refine c_iast d_X8_moves_11 sh_51 (by decide) (R 51 rfl) (by decide) h (fun D1 h => ?_)
  refine r_aload_n d_X8_moves_12 rfl (by decide) ?_
  refine r_getR (t := 54) d_X8_moves_13 fk_RX8_74 sh_32 rfl (by decide) (R 32 rfl) ?_
  refine r_iload_n d_X8_moves_16 rfl ?_
  show Run Γ rg κ Y_X8_moves 17 [(40, 0), (0, p1), (0, p2), (5, 0)] [(0, p1), (62, 0)] D1 Φ
  refine r_aload_n d_X8_moves_17 rfl (by decide) ?_
  refine r_getR (t := 54) d_X8_moves_18 fk_RX8_74 sh_32 rfl (by decide) (R 32 rfl) ?_
  refine r_iload_n d_X8_moves_21 rfl ?_
  refine c_iald d_X8_moves_22 sh_54 (by decide) (R 54 rfl) (by decide) h (fun v2 h => ?_)
  refine c_iast d_X8_moves_23 sh_54 (by decide) (R 54 rfl) (by decide) h (fun D2 h => ?_)
  refine r_aload_n d_X8_moves_24 rfl (by decide) ?_
  refine r_getR (t := 53) d_X8_moves_25 fk_RX8_71 sh_32 rfl (by decide) (R 32 rfl) ?_
  refine r_iload_n d_X8_moves_28 rfl ?_
  refine r_aload_n d_X8_moves_29 rfl (by decide) ?_
  refine r_getR (t := 53) d_X8_moves_30 fk_RX8_71 sh_32 rfl (by decide) (R 32 rfl) ?_
  refine r_iload_n d_X8_moves_33 rfl ?_
  refine c_iald d_X8_moves_34 sh_53 (by decide) (R 53 rfl) (by decide) h (fun v3 h => ?_)
  show Run Γ rg κ Y_X8_moves 35 [(40, 0), (0, p1), (0, p2), (5, 0)] [(0, v3), (0, p1), (61, 0)] D2 Φ
  refine c_iast d_X8_moves_35 sh_53 (by decide) (R 53 rfl) (by decide) h (fun D3 h => ?_)
  refine r_aload_n d_X8_moves_36 rfl (by decide) ?_
  refine r_getR (t := 52) d_X8_moves_37 fk_RX8_68 sh_32 rfl (by decide) (R 32 rfl) ?_
  refine r_iload_n d_X8_moves_40 rfl ?_
  refine r_aload_n d_X8_moves_41 rfl (by decide) ?_
  refine r_getR (t := 52) d_X8_moves_42 fk_RX8_68 sh_32 rfl (by decide) (R 32 rfl) ?_
  refine r_iload_n d_X8_moves_45 rfl ?_
  refine c_iald d_X8_moves_46 sh_52 (by decide) (R 52 rfl) (by decide) h (fun v4 h => ?_)
  refine c_iast d_X8_moves_47 sh_52 (by decide) (R 52 rfl) (by decide) h (fun D4 h => ?_)
  refine r_iconst d_X8_moves_48 ?_
  refine r_istore_n d_X8_moves_49 (by decide) rfl ?_
  show Run Γ rg κ Y_X8_moves 50 [(40, 0), (0, p1), (0, p2), (0, 0)] [] D4 Φ
  exact run_pM_moves_50 R p1 p2 fu 0 D4 h
set_option maxRecDepth 20000 in
theorem run_pM_dropValue_87 {Γ : GG} {rg : Nat → Bool} {κ : Nat} {Φ : OT → DD → Prop} (R : cov rg rg1) (a1 : Int) {K : DD → Res} (hK : ∀ (D : DD), WP (some .int) κ Φ (K D) → Run Γ rg κ Y_X8_dropValue 119 [(40, 0), (0, a1), (5, 0), (5, 0), (5, 0), (5, 0)] [] D Φ) : ∀ (n : Nat) (a5 : Int) (D : DD), WP (some .int) κ Φ (pM_dropValue_87 a1 n a5 D K) → Run Γ rg κ Y_X8_dropValue 87 [(40, 0), (0, a1), (5, 0), (5, 0), (5, 0), (0, a5)] [] D Φ := by
  intro n
  induction n with
  | zero => intro a5 D h; exact h.no.elim
  | succ n ih =>
    intro a5 D h
    rw [pM_dropValue_87] at h
    show Run Γ rg κ Y_X8_dropValue 87 [(40, 0), (0, a1), (5, 0), (5, 0), (5, 0), (0, a5)] [] D Φ
    refine r_iload d_X8_dropValue_87 rfl ?_
    refine r_bipush d_X8_dropValue_89 (by decide) ?_
    refine r_iload_n d_X8_dropValue_91 rfl ?_
    refine r_imul d_X8_dropValue_92 ?_
    refine r_aload_n d_X8_dropValue_93 rfl (by decide) ?_
    refine r_getR (t := 48) d_X8_dropValue_94 fk_RX8_56 sh_32 rfl (by decide) (R 32 rfl) ?_
    refine r_iload_n d_X8_dropValue_97 rfl ?_
    refine c_iald d_X8_dropValue_98 sh_48 (by decide) (R 48 rfl) (by decide) h (fun v1 h => ?_)
    refine r_iadd d_X8_dropValue_99 ?_
    refine c_icmp_ge (tgt := 119) d_X8_dropValue_100 (by decide) (nz_w _) (nz_w _) h (fun h => ?_) (fun h => ?_)
    · skip
      exact Run.forget (ls' := [(40, 0), (0, a1), (5, 0), (5, 0), (5, 0), (5, 0)]) ⟨Or.inr rfl, Or.inr rfl, Or.inr rfl, Or.inr rfl, Or.inr rfl, Or.inl rfl, trivial⟩ (hK D h)
    · skip
      show Run Γ rg κ Y_X8_dropValue 103 [(40, 0), (0, a1), (5, 0), (5, 0), (5, 0), (0, a5)] [] D Φ
      refine r_aload_n d_X8_dropValue_103 rfl (by decide) ?_
      refine r_iload d_X8_dropValue_104 rfl ?_
      refine r_iload d_X8_dropValue_106 rfl ?_
      refine r_iconst d_X8_dropValue_108 ?_
      refine r_iadd d_X8_dropValue_109 ?_
      refine c_callVv (a := 32) (z := 0) (as := [(0, a5), (0, (a5 + 1))]) (rest := []) (ls' := [(40, 0), (0, a5), (0, (a5 + 1)), (5, 0)]) d_X8_dropValue_110 ck_RX8_264 rfl sh_32 rfl (by decide) (R 32 rfl) rfl rfl (Nat.le_of_ble_eq_true rfl) (Nat.le_of_ble_eq_true rfl) (by decide) rfl rfl (fun κ' Ψ hΨ => run_pM_moves R _ _ hΨ) h (fun _ D1 h => ?_)
      show Run Γ rg κ Y_X8_dropValue 113 [(40, 0), (0, a1), (5, 0), (5, 0), (5, 0), (0, a5)] [] D1 Φ
      refine r_iinc d_X8_dropValue_113 rfl (by decide) rfl ?_
      show Run Γ rg κ Y_X8_dropValue 116 [(40, 0), (0, a1), (5, 0), (5, 0), (5, 0), (0, (a5 + 1))] [] D1 Φ
      refine r_goto (tgt := 87) d_X8_dropValue_116 (by decide) ?_
      exact (ih (a5 + 1) D1 h)
set_option maxRecDepth 20000 in
theorem run_pM_dropValue {Γ : GG} {rg : Nat → Bool} {κ : Nat} {Φ : OT → DD → Prop} (R : cov rg rg1) (p1 : Int) (p2 : Int) {D : DD} (h : WP (some .int) κ Φ (pM_dropValue p1 p2 D)) : Run Γ rg κ Y_X8_dropValue 0 [(40, 0), (0, p1), (0, p2), (5, 0), (5, 0), (5, 0)] [] D Φ := by
  unfold pM_dropValue at h
  show Run Γ rg κ Y_X8_dropValue 0 [(40, 0), (0, p1), (0, p2), (5, 0), (5, 0), (5, 0)] [] D Φ
  refine r_aload_n d_X8_dropValue_0 rfl (by decide) ?_
  refine r_iload_n d_X8_dropValue_1 rfl ?_
  refine c_callVi (t' := (some .boolean)) (a := 32) (z := 0) (as := [(0, p1)]) (rest := []) (ls' := [(40, 0), (0, p1)]) d_X8_dropValue_2 ck_RX8_191 rfl sh_32 rfl (by decide) (R 32 rfl) rfl rfl (Nat.le_of_ble_eq_true rfl) (Nat.le_of_ble_eq_true rfl) (by decide) rfl rfl (fun _ => rfl) (fun κ' Ψ hΨ => run_pM_isKey R _ hΨ) h (fun v1 D1 h => ?_)
  show Run Γ rg κ Y_X8_dropValue 5 [(40, 0), (0, p1), (0, p2), (5, 0), (5, 0), (5, 0)] [(0, v1)] D1 Φ
  refine c_jn (fun J => ∀ (x1 : Int) (D2 : DD), WP (some .int) κ Φ (J x1 D2) → Run Γ rg κ Y_X8_dropValue 23 [(40, 0), (0, p1), (0, p2), (5, 0), (5, 0), (5, 0)] [(0, x1)] D2 Φ) h ?_ (fun J1 hJ1 h => ?_)
  · intro x1 D2 h
    show Run Γ rg κ Y_X8_dropValue 23 [(40, 0), (0, p1), (0, p2), (5, 0), (5, 0), (5, 0)] [(0, x1)] D2 Φ
    refine r_istore_n d_X8_dropValue_23 (by decide) rfl ?_
    show Run Γ rg κ Y_X8_dropValue 24 [(40, 0), (0, p1), (0, p2), (0, x1), (5, 0), (5, 0)] [] D2 Φ
    refine r_aload_n d_X8_dropValue_24 rfl (by decide) ?_
    refine r_iload_n d_X8_dropValue_25 rfl ?_
    refine c_jn (fun J => ∀ (x2 : Int) (D3 : DD), WP (some .int) κ Φ (J x2 D3) → Run Γ rg κ Y_X8_dropValue 34 [(40, 0), (0, p1), (0, p2), (5, 0), (5, 0), (5, 0)] [(0, x2), (40, 0)] D3 Φ) h ?_ (fun J2 hJ2 h => ?_)
    · intro x2 D3 h
      show Run Γ rg κ Y_X8_dropValue 34 [(40, 0), (0, p1), (0, p2), (5, 0), (5, 0), (5, 0)] [(0, x2), (40, 0)] D3 Φ
      refine c_callVi (t' := (some .boolean)) (a := 32) (z := 0) (as := [(0, x2)]) (rest := []) (ls' := [(40, 0), (0, x2)]) d_X8_dropValue_34 ck_RX8_195 rfl sh_32 rfl (by decide) (R 32 rfl) rfl rfl (Nat.le_of_ble_eq_true rfl) (Nat.le_of_ble_eq_true rfl) (by decide) rfl rfl (fun _ => rfl) (fun κ' Ψ hΨ => run_pM_fails R _ hΨ) h (fun v2 D4 h => ?_)
      show Run Γ rg κ Y_X8_dropValue 37 [(40, 0), (0, p1), (0, p2), (5, 0), (5, 0), (5, 0)] [(0, v2)] D4 Φ
      refine c_if_eq (tgt := 42) d_X8_dropValue_37 (by decide) (nz_w _) h (fun h => ?_) (fun h => ?_)
      · skip
        show Run Γ rg κ Y_X8_dropValue 42 [(40, 0), (0, p1), (0, p2), (5, 0), (5, 0), (5, 0)] [] D4 Φ
        refine r_aload_n d_X8_dropValue_42 rfl (by decide) ?_
        refine r_iload_n d_X8_dropValue_43 rfl ?_
        refine r_iload_n d_X8_dropValue_44 rfl ?_
        refine c_callVi (t' := (some .int)) (a := 32) (z := 0) (as := [(0, p1), (0, p2)]) (rest := []) (ls' := [(40, 0), (0, p1), (0, p2), (5, 0), (5, 0)]) d_X8_dropValue_45 ck_RX8_246 rfl sh_32 rfl (by decide) (R 32 rfl) rfl rfl (Nat.le_of_ble_eq_true rfl) (Nat.le_of_ble_eq_true rfl) (by decide) rfl rfl (fun _ => rfl) (fun κ' Ψ hΨ => run_pM_valueOf R _ _ hΨ) h (fun v3 D5 h => ?_)
        show Run Γ rg κ Y_X8_dropValue 48 [(40, 0), (0, p1), (0, p2), (5, 0), (5, 0), (5, 0)] [(0, v3)] D5 Φ
        refine r_istore d_X8_dropValue_48 (by decide) rfl ?_
        show Run Γ rg κ Y_X8_dropValue 50 [(40, 0), (0, p1), (0, p2), (5, 0), (0, v3), (5, 0)] [] D5 Φ
        refine r_aload_n d_X8_dropValue_50 rfl (by decide) ?_
        refine r_iconst d_X8_dropValue_51 ?_
        refine c_putI (k := 41) d_X8_dropValue_52 pk_RX8_156 sh_32 rfl (by decide) (R 32 rfl) h (fun D6 h => ?_)
        refine r_aload_n d_X8_dropValue_55 rfl (by decide) ?_
        refine r_iload d_X8_dropValue_56 rfl ?_
        refine r_iconst d_X8_dropValue_58 ?_
        show Run Γ rg κ Y_X8_dropValue 59 [(40, 0), (0, p1), (0, p2), (5, 0), (0, v3), (5, 0)] [(0, 0), (0, v3), (40, 0)] D6 Φ
        refine c_callVv (a := 32) (z := 0) (as := [(0, v3), (0, 0)]) (rest := []) (ls' := [(40, 0), (0, v3), (0, 0), (5, 0)]) d_X8_dropValue_59 ck_RX8_240 rfl sh_32 rfl (by decide) (R 32 rfl) rfl rfl (Nat.le_of_ble_eq_true rfl) (Nat.le_of_ble_eq_true rfl) (by decide) rfl rfl (fun κ' Ψ hΨ => run_pM_givesPieces R _ _ hΨ) h (fun _ D7 h => ?_)
        show Run Γ rg κ Y_X8_dropValue 62 [(40, 0), (0, p1), (0, p2), (5, 0), (0, v3), (5, 0)] [] D7 Φ
        refine r_aload_n d_X8_dropValue_62 rfl (by decide) ?_
        refine r_aload_n d_X8_dropValue_63 rfl (by decide) ?_
        refine r_getR (t := 54) d_X8_dropValue_64 fk_RX8_74 sh_32 rfl (by decide) (R 32 rfl) ?_
        refine r_iload d_X8_dropValue_67 rfl ?_
        refine c_iald d_X8_dropValue_69 sh_54 (by decide) (R 54 rfl) (by decide) h (fun v4 h => ?_)
        refine c_callVv (a := 32) (z := 0) (as := [(0, v4)]) (rest := []) (ls' := [(40, 0), (0, v4), (5, 0), (5, 0), (5, 0)]) d_X8_dropValue_70 ck_RX8_182 rfl sh_32 rfl (by decide) (R 32 rfl) rfl rfl (Nat.le_of_ble_eq_true rfl) (Nat.le_of_ble_eq_true rfl) (by decide) rfl rfl (fun κ' Ψ hΨ => run_pM_gives R _ hΨ) h (fun _ D8 h => ?_)
        show Run Γ rg κ Y_X8_dropValue 73 [(40, 0), (0, p1), (0, p2), (5, 0), (0, v3), (5, 0)] [] D8 Φ
        refine r_aload_n d_X8_dropValue_73 rfl (by decide) ?_
        refine r_getR (t := 48) d_X8_dropValue_74 fk_RX8_56 sh_32 rfl (by decide) (R 32 rfl) ?_
        refine r_iload_n d_X8_dropValue_77 rfl ?_
        refine r_dup2 d_X8_dropValue_78 (show (0 : Nat) ≠ 1 by decide) (by decide) ?_
        refine c_iald d_X8_dropValue_79 sh_48 (by decide) (R 48 rfl) (by decide) h (fun v5 h => ?_)
        show Run Γ rg κ Y_X8_dropValue 80 [(40, 0), (0, p1), (0, p2), (5, 0), (0, v3), (5, 0)] [(0, v5), (0, p1), (56, 0)] D8 Φ
        refine r_iconst d_X8_dropValue_80 ?_
        refine r_isub d_X8_dropValue_81 ?_
        refine c_iast d_X8_dropValue_82 sh_48 (by decide) (R 48 rfl) (by decide) h (fun D9 h => ?_)
        refine r_iload d_X8_dropValue_83 rfl ?_
        refine r_istore d_X8_dropValue_85 (by decide) rfl ?_
        show Run Γ rg κ Y_X8_dropValue 87 [(40, 0), (0, p1), (0, p2), (5, 0), (0, v3), (0, v3)] [] D9 Φ
        refine Run.forget (ls' := [(40, 0), (0, p1), (5, 0), (5, 0), (5, 0), (0, v3)]) ⟨Or.inr rfl, Or.inr rfl, Or.inl rfl, Or.inr rfl, Or.inl rfl, Or.inr rfl, trivial⟩ ?_
        refine run_pM_dropValue_87 R p1 ?_ fu v3 D9 h
        intro D10 h
        show Run Γ rg κ Y_X8_dropValue 119 [(40, 0), (0, p1), (5, 0), (5, 0), (5, 0), (5, 0)] [] D10 Φ
        refine r_aload_n d_X8_dropValue_119 rfl (by decide) ?_
        refine r_aload_n d_X8_dropValue_120 rfl (by decide) ?_
        refine r_getR (t := 49) d_X8_dropValue_121 fk_RX8_59 sh_32 rfl (by decide) (R 32 rfl) ?_
        refine r_iload_n d_X8_dropValue_124 rfl ?_
        refine c_iald d_X8_dropValue_125 sh_49 (by decide) (R 49 rfl) (by decide) h (fun v6 h => ?_)
        refine c_callVv (a := 32) (z := 0) (as := [(0, v6)]) (rest := []) (ls' := [(40, 0), (0, v6), (5, 0), (5, 0)]) d_X8_dropValue_126 ck_RX8_152 rfl sh_32 rfl (by decide) (R 32 rfl) rfl rfl (Nat.le_of_ble_eq_true rfl) (Nat.le_of_ble_eq_true rfl) (by decide) rfl rfl (fun κ' Ψ hΨ => run_pM_writes R _ hΨ) h (fun _ D11 h => ?_)
        show Run Γ rg κ Y_X8_dropValue 129 [(40, 0), (0, p1), (5, 0), (5, 0), (5, 0), (5, 0)] [] D11 Φ
        refine r_aload_n d_X8_dropValue_129 rfl (by decide) ?_
        refine r_getR (t := 48) d_X8_dropValue_130 fk_RX8_56 sh_32 rfl (by decide) (R 32 rfl) ?_
        refine r_iload_n d_X8_dropValue_133 rfl ?_
        refine c_iald d_X8_dropValue_134 sh_48 (by decide) (R 48 rfl) (by decide) h (fun v7 h => ?_)
        refine c_jn (fun J => ∀ (D12 : DD), WP (some .int) κ Φ (J D12) → Run Γ rg κ Y_X8_dropValue 155 [(40, 0), (0, p1), (5, 0), (5, 0), (5, 0), (5, 0)] [] D12 Φ) h ?_ (fun J3 hJ3 h => ?_)
        · intro D12 h
          show Run Γ rg κ Y_X8_dropValue 155 [(40, 0), (0, p1), (5, 0), (5, 0), (5, 0), (5, 0)] [] D12 Φ
          refine r_aload_n d_X8_dropValue_155 rfl (by decide) ?_
          refine r_aload_n d_X8_dropValue_156 rfl (by decide) ?_
          refine r_getR (t := 40) d_X8_dropValue_157 fk_RX8_32 sh_32 rfl (by decide) (R 32 rfl) ?_
          refine r_iload_n d_X8_dropValue_160 rfl ?_
          refine c_iald d_X8_dropValue_161 sh_40 (by decide) (R 40 rfl) (by decide) h (fun v8 h => ?_)
          refine c_callVv (a := 32) (z := 0) (as := [(0, v8)]) (rest := []) (ls' := [(40, 0), (0, v8), (5, 0), (5, 0)]) d_X8_dropValue_162 ck_RX8_152 rfl sh_32 rfl (by decide) (R 32 rfl) rfl rfl (Nat.le_of_ble_eq_true rfl) (Nat.le_of_ble_eq_true rfl) (by decide) rfl rfl (fun κ' Ψ hΨ => run_pM_writes R _ hΨ) h (fun _ D13 h => ?_)
          show Run Γ rg κ Y_X8_dropValue 165 [(40, 0), (0, p1), (5, 0), (5, 0), (5, 0), (5, 0)] [] D13 Φ
          refine r_aload_n d_X8_dropValue_165 rfl (by decide) ?_
          refine r_iload_n d_X8_dropValue_166 rfl ?_
          refine r_iconst d_X8_dropValue_167 ?_
          refine c_callVv (a := 32) (z := 0) (as := [(0, p1), (0, 2)]) (rest := []) (ls' := [(40, 0), (0, p1), (0, 2), (5, 0)]) d_X8_dropValue_168 ck_RX8_218 rfl sh_32 rfl (by decide) (R 32 rfl) rfl rfl (Nat.le_of_ble_eq_true rfl) (Nat.le_of_ble_eq_true rfl) (by decide) rfl rfl (fun κ' Ψ hΨ => run_pM_changes R _ _ hΨ) h (fun _ D14 h => ?_)
          show Run Γ rg κ Y_X8_dropValue 171 [(40, 0), (0, p1), (5, 0), (5, 0), (5, 0), (5, 0)] [] D14 Φ
          refine r_aload_n d_X8_dropValue_171 rfl (by decide) ?_
          show Run Γ rg κ Y_X8_dropValue 172 [(40, 0), (0, p1), (5, 0), (5, 0), (5, 0), (5, 0)] [(40, 0)] D14 Φ
          refine r_getI d_X8_dropValue_172 fk_RX8_156 sh_32 rfl (by decide) (by decide) (R 32 rfl) ?_
          exact c_iret d_X8_dropValue_175 rfl h
        refine c_if_ne (tgt := 155) d_X8_dropValue_135 (by decide) (nz_w _) h (fun h => ?_) (fun h => ?_)
        · skip
          exact (hJ3 D11 h)
        · skip
          show Run Γ rg κ Y_X8_dropValue 138 [(40, 0), (0, p1), (5, 0), (5, 0), (5, 0), (5, 0)] [] D11 Φ
          refine r_aload_n d_X8_dropValue_138 rfl (by decide) ?_
          refine r_aload_n d_X8_dropValue_139 rfl (by decide) ?_
          refine r_getR (t := 49) d_X8_dropValue_140 fk_RX8_59 sh_32 rfl (by decide) (R 32 rfl) ?_
          refine r_iload_n d_X8_dropValue_143 rfl ?_
          refine c_iald d_X8_dropValue_144 sh_49 (by decide) (R 49 rfl) (by decide) h (fun v9 h => ?_)
          refine c_callVv (a := 32) (z := 0) (as := [(0, v9)]) (rest := []) (ls' := [(40, 0), (0, v9), (5, 0), (5, 0), (5, 0)]) d_X8_dropValue_145 ck_RX8_182 rfl sh_32 rfl (by decide) (R 32 rfl) rfl rfl (Nat.le_of_ble_eq_true rfl) (Nat.le_of_ble_eq_true rfl) (by decide) rfl rfl (fun κ' Ψ hΨ => run_pM_gives R _ hΨ) h (fun _ D15 h => ?_)
          show Run Γ rg κ Y_X8_dropValue 148 [(40, 0), (0, p1), (5, 0), (5, 0), (5, 0), (5, 0)] [] D15 Φ
          refine r_aload_n d_X8_dropValue_148 rfl (by decide) ?_
          refine r_getR (t := 49) d_X8_dropValue_149 fk_RX8_59 sh_32 rfl (by decide) (R 32 rfl) ?_
          refine r_iload_n d_X8_dropValue_152 rfl ?_
          refine r_iconst d_X8_dropValue_153 ?_
          refine c_iast d_X8_dropValue_154 sh_49 (by decide) (R 49 rfl) (by decide) h (fun D16 h => ?_)
          exact (hJ3 D16 h)
      · skip
        show Run Γ rg κ Y_X8_dropValue 40 [(40, 0), (0, p1), (0, p2), (5, 0), (5, 0), (5, 0)] [] D4 Φ
        refine r_iconst d_X8_dropValue_40 ?_
        exact c_iret d_X8_dropValue_41 rfl h
    refine c_if_eq (tgt := 33) d_X8_dropValue_26 (by decide) (nz_w _) h (fun h => ?_) (fun h => ?_)
    · skip
      show Run Γ rg κ Y_X8_dropValue 33 [(40, 0), (0, p1), (0, p2), (0, x1), (5, 0), (5, 0)] [(40, 0)] D2 Φ
      refine r_iconst d_X8_dropValue_33 ?_
      exact Run.forget (ls' := [(40, 0), (0, p1), (0, p2), (5, 0), (5, 0), (5, 0)]) ⟨Or.inr rfl, Or.inr rfl, Or.inr rfl, Or.inl rfl, Or.inr rfl, Or.inr rfl, trivial⟩ (hJ2 1 D2 h)
    · skip
      show Run Γ rg κ Y_X8_dropValue 29 [(40, 0), (0, p1), (0, p2), (0, x1), (5, 0), (5, 0)] [(40, 0)] D2 Φ
      refine r_iconst d_X8_dropValue_29 ?_
      refine r_goto (tgt := 34) d_X8_dropValue_30 (by decide) ?_
      exact Run.forget (ls' := [(40, 0), (0, p1), (0, p2), (5, 0), (5, 0), (5, 0)]) ⟨Or.inr rfl, Or.inr rfl, Or.inr rfl, Or.inl rfl, Or.inr rfl, Or.inr rfl, trivial⟩ (hJ2 0 D2 h)
  refine c_jn (fun J => ∀ (D17 : DD), WP (some .int) κ Φ (J D17) → Run Γ rg κ Y_X8_dropValue 22 [(40, 0), (0, p1), (0, p2), (5, 0), (5, 0), (5, 0)] [] D17 Φ) h ?_ (fun J4 hJ4 h => ?_)
  · intro D17 h
    show Run Γ rg κ Y_X8_dropValue 22 [(40, 0), (0, p1), (0, p2), (5, 0), (5, 0), (5, 0)] [] D17 Φ
    refine r_iconst d_X8_dropValue_22 ?_
    exact (hJ1 0 D17 h)
  refine c_if_eq (tgt := 22) d_X8_dropValue_5 (by decide) (nz_w _) h (fun h => ?_) (fun h => ?_)
  · skip
    exact (hJ4 D1 h)
  · skip
    show Run Γ rg κ Y_X8_dropValue 8 [(40, 0), (0, p1), (0, p2), (5, 0), (5, 0), (5, 0)] [] D1 Φ
    refine r_aload_n d_X8_dropValue_8 rfl (by decide) ?_
    refine r_iload_n d_X8_dropValue_9 rfl ?_
    refine r_iload_n d_X8_dropValue_10 rfl ?_
    refine c_callVi (t' := (some .int)) (a := 32) (z := 0) (as := [(0, p1), (0, p2)]) (rest := []) (ls' := [(40, 0), (0, p1), (0, p2), (5, 0), (5, 0)]) d_X8_dropValue_11 ck_RX8_246 rfl sh_32 rfl (by decide) (R 32 rfl) rfl rfl (Nat.le_of_ble_eq_true rfl) (Nat.le_of_ble_eq_true rfl) (by decide) rfl rfl (fun _ => rfl) (fun κ' Ψ hΨ => run_pM_valueOf R _ _ hΨ) h (fun v10 D18 h => ?_)
    show Run Γ rg κ Y_X8_dropValue 14 [(40, 0), (0, p1), (0, p2), (5, 0), (5, 0), (5, 0)] [(0, v10)] D18 Φ
    refine r_iconst d_X8_dropValue_14 ?_
    refine c_icmp_eq (tgt := 22) d_X8_dropValue_15 (by decide) (nz_w _) (nz_k rfl) h (fun h => ?_) (fun h => ?_)
    · skip
      exact (hJ4 D18 h)
    · skip
      show Run Γ rg κ Y_X8_dropValue 18 [(40, 0), (0, p1), (0, p2), (5, 0), (5, 0), (5, 0)] [] D18 Φ
      refine r_iconst d_X8_dropValue_18 ?_
      refine r_goto (tgt := 23) d_X8_dropValue_19 (by decide) ?_
      exact (hJ1 1 D18 h)
set_option maxRecDepth 20000 in
theorem run_pM_unit {Γ : GG} {rg : Nat → Bool} {κ : Nat} {Φ : OT → DD → Prop} (R : cov rg rg1) (p1 : Int) (p2 : Int) (p3 : Int) {D : DD} (h : WP (some .int) κ Φ (pM_unit p1 p2 p3 D)) : Run Γ rg κ Y_X8_unit 0 [(40, 0), (0, p1), (0, p2), (0, p3), (5, 0), (5, 0)] [] D Φ := by
  unfold pM_unit at h
  show Run Γ rg κ Y_X8_unit 0 [(40, 0), (0, p1), (0, p2), (0, p3), (5, 0), (5, 0)] [] D Φ
  refine r_aload_n d_X8_unit_0 rfl (by decide) ?_
  refine r_iload_n d_X8_unit_1 rfl ?_
  refine c_callVi (t' := (some .boolean)) (a := 32) (z := 0) (as := [(0, p1)]) (rest := []) (ls' := [(40, 0), (0, p1)]) d_X8_unit_2 ck_RX8_191 rfl sh_32 rfl (by decide) (R 32 rfl) rfl rfl (Nat.le_of_ble_eq_true rfl) (Nat.le_of_ble_eq_true rfl) (by decide) rfl rfl (fun _ => rfl) (fun κ' Ψ hΨ => run_pM_isKey R _ hΨ) h (fun v1 D1 h => ?_)
  show Run Γ rg κ Y_X8_unit 5 [(40, 0), (0, p1), (0, p2), (0, p3), (5, 0), (5, 0)] [(0, v1)] D1 Φ
  refine c_jn (fun J => ∀ (x1 : Int) (D2 : DD), WP (some .int) κ Φ (J x1 D2) → Run Γ rg κ Y_X8_unit 23 [(40, 0), (0, p1), (0, p2), (0, p3), (5, 0), (5, 0)] [(0, x1)] D2 Φ) h ?_ (fun J1 hJ1 h => ?_)
  · intro x1 D2 h
    show Run Γ rg κ Y_X8_unit 23 [(40, 0), (0, p1), (0, p2), (0, p3), (5, 0), (5, 0)] [(0, x1)] D2 Φ
    refine r_istore d_X8_unit_23 (by decide) rfl ?_
    show Run Γ rg κ Y_X8_unit 25 [(40, 0), (0, p1), (0, p2), (0, p3), (0, x1), (5, 0)] [] D2 Φ
    refine r_iload d_X8_unit_25 rfl ?_
    refine c_jn (fun J => ∀ (x2 : Int) (D3 : DD), WP (some .int) κ Φ (J x2 D3) → Run Γ rg κ Y_X8_unit 40 [(40, 0), (5, 0), (5, 0), (0, p3), (0, x1), (5, 0)] [(0, x2)] D3 Φ) h ?_ (fun J2 hJ2 h => ?_)
    · intro x2 D3 h
      show Run Γ rg κ Y_X8_unit 40 [(40, 0), (5, 0), (5, 0), (0, p3), (0, x1), (5, 0)] [(0, x2)] D3 Φ
      refine r_istore d_X8_unit_40 (by decide) rfl ?_
      show Run Γ rg κ Y_X8_unit 42 [(40, 0), (5, 0), (5, 0), (0, p3), (0, x1), (0, x2)] [] D3 Φ
      refine r_aload_n d_X8_unit_42 rfl (by decide) ?_
      refine r_iload d_X8_unit_43 rfl ?_
      refine c_jn (fun J => ∀ (x3 : Int) (D4 : DD), WP (some .int) κ Φ (J x3 D4) → Run Γ rg κ Y_X8_unit 70 [(40, 0), (5, 0), (5, 0), (0, p3), (5, 0), (0, x2)] [(0, x3), (40, 0)] D4 Φ) h ?_ (fun J3 hJ3 h => ?_)
      · intro x3 D4 h
        show Run Γ rg κ Y_X8_unit 70 [(40, 0), (5, 0), (5, 0), (0, p3), (5, 0), (0, x2)] [(0, x3), (40, 0)] D4 Φ
        refine c_callVi (t' := (some .boolean)) (a := 32) (z := 0) (as := [(0, x3)]) (rest := []) (ls' := [(40, 0), (0, x3)]) d_X8_unit_70 ck_RX8_195 rfl sh_32 rfl (by decide) (R 32 rfl) rfl rfl (Nat.le_of_ble_eq_true rfl) (Nat.le_of_ble_eq_true rfl) (by decide) rfl rfl (fun _ => rfl) (fun κ' Ψ hΨ => run_pM_fails R _ hΨ) h (fun v2 D5 h => ?_)
        show Run Γ rg κ Y_X8_unit 73 [(40, 0), (5, 0), (5, 0), (0, p3), (5, 0), (0, x2)] [(0, v2)] D5 Φ
        refine c_if_eq (tgt := 78) d_X8_unit_73 (by decide) (nz_w _) h (fun h => ?_) (fun h => ?_)
        · skip
          show Run Γ rg κ Y_X8_unit 78 [(40, 0), (5, 0), (5, 0), (0, p3), (5, 0), (0, x2)] [] D5 Φ
          refine r_bipush d_X8_unit_78 (by decide) ?_
          refine r_aload_n d_X8_unit_80 rfl (by decide) ?_
          refine r_getR (t := 52) d_X8_unit_81 fk_RX8_68 sh_32 rfl (by decide) (R 32 rfl) ?_
          refine r_iload d_X8_unit_84 rfl ?_
          refine c_iald d_X8_unit_86 sh_52 (by decide) (R 52 rfl) (by decide) h (fun v3 h => ?_)
          refine r_imul d_X8_unit_87 ?_
          refine r_bipush d_X8_unit_88 (by decide) ?_
          refine r_iload_n d_X8_unit_90 rfl ?_
          refine r_imul d_X8_unit_91 ?_
          refine r_iadd d_X8_unit_92 ?_
          exact c_iret d_X8_unit_93 rfl h
        · skip
          show Run Γ rg κ Y_X8_unit 76 [(40, 0), (5, 0), (5, 0), (0, p3), (5, 0), (0, x2)] [] D5 Φ
          refine r_iconst d_X8_unit_76 ?_
          exact c_iret d_X8_unit_77 rfl h
      refine c_jn (fun J => ∀ (D6 : DD), WP (some .int) κ Φ (J D6) → Run Γ rg κ Y_X8_unit 69 [(40, 0), (5, 0), (5, 0), (0, p3), (5, 0), (0, x2)] [(40, 0)] D6 Φ) h ?_ (fun J4 hJ4 h => ?_)
      · intro D6 h
        show Run Γ rg κ Y_X8_unit 69 [(40, 0), (5, 0), (5, 0), (0, p3), (5, 0), (0, x2)] [(40, 0)] D6 Φ
        refine r_iconst d_X8_unit_69 ?_
        exact (hJ3 1 D6 h)
      refine c_if_eq (tgt := 69) d_X8_unit_45 (by decide) (nz_w _) h (fun h => ?_) (fun h => ?_)
      · skip
        exact Run.forget (ls' := [(40, 0), (5, 0), (5, 0), (0, p3), (5, 0), (0, x2)]) ⟨Or.inr rfl, Or.inr rfl, Or.inr rfl, Or.inr rfl, Or.inl rfl, Or.inr rfl, trivial⟩ (hJ4 D3 h)
      · skip
        show Run Γ rg κ Y_X8_unit 48 [(40, 0), (5, 0), (5, 0), (0, p3), (0, x1), (0, x2)] [(40, 0)] D3 Φ
        refine r_iload_n d_X8_unit_48 rfl ?_
        refine r_iconst d_X8_unit_49 ?_
        refine r_aload_n d_X8_unit_50 rfl (by decide) ?_
        refine r_getR (t := 53) d_X8_unit_51 fk_RX8_71 sh_32 rfl (by decide) (R 32 rfl) ?_
        refine r_iload d_X8_unit_54 rfl ?_
        refine c_iald d_X8_unit_56 sh_53 (by decide) (R 53 rfl) (by decide) h (fun v4 h => ?_)
        refine r_iconst d_X8_unit_57 ?_
        refine r_isub d_X8_unit_58 ?_
        refine c_callSPi (as := [(0, p3), (0, 0), (0, (v4 - 1))]) (rest := [(40, 0)]) (ls' := [(0, p3), (0, 0), (0, (v4 - 1))]) d_X8_unit_59 ck_RX8_124 rfl rfl rfl (Nat.le_of_ble_eq_true rfl) (Nat.le_of_ble_eq_true rfl) (by decide) rfl rfl (fun Ψ hΨ => run_pM_isIn R _ _ _ rfl hΨ) ?_
        show Run Γ rg κ Y_X8_unit 62 [(40, 0), (5, 0), (5, 0), (0, p3), (0, x1), (0, x2)] [(0, (pM_isIn p3 0 (v4 - 1))), (40, 0)] D3 Φ
        refine c_if_eq (tgt := 69) d_X8_unit_62 (by decide) (nz_b (pM_isIn_b p3 0 (v4 - 1))) h (fun h => ?_) (fun h => ?_)
        · skip
          exact Run.forget (ls' := [(40, 0), (5, 0), (5, 0), (0, p3), (5, 0), (0, x2)]) ⟨Or.inr rfl, Or.inr rfl, Or.inr rfl, Or.inr rfl, Or.inl rfl, Or.inr rfl, trivial⟩ (hJ4 D3 h)
        · skip
          show Run Γ rg κ Y_X8_unit 65 [(40, 0), (5, 0), (5, 0), (0, p3), (0, x1), (0, x2)] [(40, 0)] D3 Φ
          refine r_iconst d_X8_unit_65 ?_
          refine r_goto (tgt := 70) d_X8_unit_66 (by decide) ?_
          exact Run.forget (ls' := [(40, 0), (5, 0), (5, 0), (0, p3), (5, 0), (0, x2)]) ⟨Or.inr rfl, Or.inr rfl, Or.inr rfl, Or.inr rfl, Or.inl rfl, Or.inr rfl, trivial⟩ (hJ3 0 D3 h)
    refine c_if_eq (tgt := 39) d_X8_unit_27 (by decide) (nz_w _) h (fun h => ?_) (fun h => ?_)
    · skip
      show Run Γ rg κ Y_X8_unit 39 [(40, 0), (0, p1), (0, p2), (0, p3), (0, x1), (5, 0)] [] D2 Φ
      refine r_iconst d_X8_unit_39 ?_
      exact Run.forget (ls' := [(40, 0), (5, 0), (5, 0), (0, p3), (0, x1), (5, 0)]) ⟨Or.inr rfl, Or.inl rfl, Or.inl rfl, Or.inr rfl, Or.inr rfl, Or.inr rfl, trivial⟩ (hJ2 0 D2 h)
    · skip
      show Run Γ rg κ Y_X8_unit 30 [(40, 0), (0, p1), (0, p2), (0, p3), (0, x1), (5, 0)] [] D2 Φ
      refine r_aload_n d_X8_unit_30 rfl (by decide) ?_
      refine r_iload_n d_X8_unit_31 rfl ?_
      refine r_iload_n d_X8_unit_32 rfl ?_
      refine c_callVi (t' := (some .int)) (a := 32) (z := 0) (as := [(0, p1), (0, p2)]) (rest := []) (ls' := [(40, 0), (0, p1), (0, p2), (5, 0), (5, 0)]) d_X8_unit_33 ck_RX8_246 rfl sh_32 rfl (by decide) (R 32 rfl) rfl rfl (Nat.le_of_ble_eq_true rfl) (Nat.le_of_ble_eq_true rfl) (by decide) rfl rfl (fun _ => rfl) (fun κ' Ψ hΨ => run_pM_valueOf R _ _ hΨ) h (fun v5 D7 h => ?_)
      show Run Γ rg κ Y_X8_unit 36 [(40, 0), (0, p1), (0, p2), (0, p3), (0, x1), (5, 0)] [(0, v5)] D7 Φ
      refine r_goto (tgt := 40) d_X8_unit_36 (by decide) ?_
      exact Run.forget (ls' := [(40, 0), (5, 0), (5, 0), (0, p3), (0, x1), (5, 0)]) ⟨Or.inr rfl, Or.inl rfl, Or.inl rfl, Or.inr rfl, Or.inr rfl, Or.inr rfl, trivial⟩ (hJ2 v5 D7 h)
  refine c_jn (fun J => ∀ (D8 : DD), WP (some .int) κ Φ (J D8) → Run Γ rg κ Y_X8_unit 22 [(40, 0), (0, p1), (0, p2), (0, p3), (5, 0), (5, 0)] [] D8 Φ) h ?_ (fun J5 hJ5 h => ?_)
  · intro D8 h
    show Run Γ rg κ Y_X8_unit 22 [(40, 0), (0, p1), (0, p2), (0, p3), (5, 0), (5, 0)] [] D8 Φ
    refine r_iconst d_X8_unit_22 ?_
    exact (hJ1 0 D8 h)
  refine c_if_eq (tgt := 22) d_X8_unit_5 (by decide) (nz_w _) h (fun h => ?_) (fun h => ?_)
  · skip
    exact (hJ5 D1 h)
  · skip
    show Run Γ rg κ Y_X8_unit 8 [(40, 0), (0, p1), (0, p2), (0, p3), (5, 0), (5, 0)] [] D1 Φ
    refine r_aload_n d_X8_unit_8 rfl (by decide) ?_
    refine r_iload_n d_X8_unit_9 rfl ?_
    refine r_iload_n d_X8_unit_10 rfl ?_
    refine c_callVi (t' := (some .int)) (a := 32) (z := 0) (as := [(0, p1), (0, p2)]) (rest := []) (ls' := [(40, 0), (0, p1), (0, p2), (5, 0), (5, 0)]) d_X8_unit_11 ck_RX8_246 rfl sh_32 rfl (by decide) (R 32 rfl) rfl rfl (Nat.le_of_ble_eq_true rfl) (Nat.le_of_ble_eq_true rfl) (by decide) rfl rfl (fun _ => rfl) (fun κ' Ψ hΨ => run_pM_valueOf R _ _ hΨ) h (fun v6 D9 h => ?_)
    show Run Γ rg κ Y_X8_unit 14 [(40, 0), (0, p1), (0, p2), (0, p3), (5, 0), (5, 0)] [(0, v6)] D9 Φ
    refine r_iconst d_X8_unit_14 ?_
    refine c_icmp_eq (tgt := 22) d_X8_unit_15 (by decide) (nz_w _) (nz_k rfl) h (fun h => ?_) (fun h => ?_)
    · skip
      exact (hJ5 D9 h)
    · skip
      show Run Γ rg κ Y_X8_unit 18 [(40, 0), (0, p1), (0, p2), (0, p3), (5, 0), (5, 0)] [] D9 Φ
      refine r_iconst d_X8_unit_18 ?_
      refine r_goto (tgt := 23) d_X8_unit_19 (by decide) ?_
      exact (hJ1 1 D9 h)
set_option maxRecDepth 20000 in
theorem run_pM_cannotHave {Γ : GG} {rg : Nat → Bool} {κ : Nat} {Φ : OT → DD → Prop} (R : cov rg rg1) (p1 : Int) {D : DD} (h : WP (some .boolean) κ Φ (pM_cannotHave p1 D)) : Run Γ rg κ Y_X8_cannotHave 0 [(40, 0), (0, p1)] [] D Φ := by
  unfold pM_cannotHave at h
  show Run Γ rg κ Y_X8_cannotHave 0 [(40, 0), (0, p1)] [] D Φ
  refine r_aload_n d_X8_cannotHave_0 rfl (by decide) ?_
  refine r_iconst d_X8_cannotHave_1 ?_
  refine c_putI (k := 37) d_X8_cannotHave_2 pk_RX8_146 sh_32 rfl (by decide) (R 32 rfl) h (fun D1 h => ?_)
  refine r_aload_n d_X8_cannotHave_5 rfl (by decide) ?_
  refine r_getR (t := 57) d_X8_cannotHave_6 fk_RX8_83 sh_32 rfl (by decide) (R 32 rfl) ?_
  refine r_iload_n d_X8_cannotHave_9 rfl ?_
  refine c_iald d_X8_cannotHave_10 sh_57 (by decide) (R 57 rfl) (by decide) h (fun v1 h => ?_)
  refine c_jn (fun J => ∀ (D2 : DD), WP (some .boolean) κ Φ (J D2) → Run Γ rg κ Y_X8_cannotHave 19 [(40, 0), (5, 0)] [] D2 Φ) h ?_ (fun J1 hJ1 h => ?_)
  · intro D2 h
    show Run Γ rg κ Y_X8_cannotHave 19 [(40, 0), (5, 0)] [] D2 Φ
    refine r_aload_n d_X8_cannotHave_19 rfl (by decide) ?_
    refine c_callVi (t' := (some .boolean)) (a := 32) (z := 0) (as := []) (rest := []) (ls' := [(40, 0), (5, 0), (5, 0), (5, 0)]) d_X8_cannotHave_20 ck_RX8_207 rfl sh_32 rfl (by decide) (R 32 rfl) rfl rfl (Nat.le_of_ble_eq_true rfl) (Nat.le_of_ble_eq_true rfl) (by decide) rfl rfl (fun _ => rfl) (fun κ' Ψ hΨ => run_pM_gets R hΨ) h (fun v2 D3 h => ?_)
    show Run Γ rg κ Y_X8_cannotHave 23 [(40, 0), (5, 0)] [(0, v2)] D3 Φ
    refine c_if_ne (tgt := 30) d_X8_cannotHave_23 (by decide) (nz_w _) h (fun h => ?_) (fun h => ?_)
    · skip
      show Run Γ rg κ Y_X8_cannotHave 30 [(40, 0), (5, 0)] [] D3 Φ
      refine r_iconst d_X8_cannotHave_30 ?_
      exact c_zret d_X8_cannotHave_31 rfl (Or.inl rfl) h
    · skip
      show Run Γ rg κ Y_X8_cannotHave 26 [(40, 0), (5, 0)] [] D3 Φ
      refine r_iconst d_X8_cannotHave_26 ?_
      refine r_goto (tgt := 31) d_X8_cannotHave_27 (by decide) ?_
      show Run Γ rg κ Y_X8_cannotHave 31 [(40, 0), (5, 0)] [(0, 1)] D3 Φ
      exact c_zret d_X8_cannotHave_31 rfl (Or.inr rfl) h
  refine c_if_ne (tgt := 19) d_X8_cannotHave_11 (by decide) (nz_w _) h (fun h => ?_) (fun h => ?_)
  · skip
    exact Run.forget (ls' := [(40, 0), (5, 0)]) ⟨Or.inr rfl, Or.inl rfl, trivial⟩ (hJ1 D1 h)
  · skip
    show Run Γ rg κ Y_X8_cannotHave 14 [(40, 0), (0, p1)] [] D1 Φ
    refine r_aload_n d_X8_cannotHave_14 rfl (by decide) ?_
    refine r_iconst d_X8_cannotHave_15 ?_
    refine c_callVv (a := 32) (z := 0) (as := [(0, 2)]) (rest := []) (ls' := [(40, 0), (0, 2)]) d_X8_cannotHave_16 ck_RX8_176 rfl sh_32 rfl (by decide) (R 32 rfl) rfl rfl (Nat.le_of_ble_eq_true rfl) (Nat.le_of_ble_eq_true rfl) (by decide) rfl rfl (fun κ' Ψ hΨ => run_pM_wants R _ hΨ) h (fun _ D4 h => ?_)
    show Run Γ rg κ Y_X8_cannotHave 19 [(40, 0), (0, p1)] [] D4 Φ
    exact Run.forget (ls' := [(40, 0), (5, 0)]) ⟨Or.inr rfl, Or.inl rfl, trivial⟩ (hJ1 D4 h)
set_option maxRecDepth 20000 in
theorem run_pM_setRights {Γ : GG} {rg : Nat → Bool} {κ : Nat} {Φ : OT → DD → Prop} (R : cov rg rg1) (p1 : Int) (p2 : Int) {D : DD} (h : WP (some .int) κ Φ (pM_setRights p1 p2 D)) : Run Γ rg κ Y_X8_setRights 0 [(40, 0), (0, p1), (0, p2), (5, 0), (5, 0)] [] D Φ := by
  unfold pM_setRights at h
  show Run Γ rg κ Y_X8_setRights 0 [(40, 0), (0, p1), (0, p2), (5, 0), (5, 0)] [] D Φ
  refine r_aload_n d_X8_setRights_0 rfl (by decide) ?_
  refine r_iload_n d_X8_setRights_1 rfl ?_
  refine c_callVi (t' := (some .boolean)) (a := 32) (z := 0) (as := [(0, p1)]) (rest := []) (ls' := [(40, 0), (0, p1)]) d_X8_setRights_2 ck_RX8_191 rfl sh_32 rfl (by decide) (R 32 rfl) rfl rfl (Nat.le_of_ble_eq_true rfl) (Nat.le_of_ble_eq_true rfl) (by decide) rfl rfl (fun _ => rfl) (fun κ' Ψ hΨ => run_pM_isKey R _ hΨ) h (fun v1 D1 h => ?_)
  show Run Γ rg κ Y_X8_setRights 5 [(40, 0), (0, p1), (0, p2), (5, 0), (5, 0)] [(0, v1)] D1 Φ
  refine r_istore_n d_X8_setRights_5 (by decide) rfl ?_
  show Run Γ rg κ Y_X8_setRights 6 [(40, 0), (0, p1), (0, p2), (0, v1), (5, 0)] [] D1 Φ
  refine r_aload_n d_X8_setRights_6 rfl (by decide) ?_
  refine r_iload_n d_X8_setRights_7 rfl ?_
  refine c_jn (fun J => ∀ (x1 : Int) (D2 : DD), WP (some .int) κ Φ (J x1 D2) → Run Γ rg κ Y_X8_setRights 43 [(40, 0), (0, p1), (0, p2), (5, 0), (5, 0)] [(0, x1), (40, 0)] D2 Φ) h ?_ (fun J1 hJ1 h => ?_)
  · intro x1 D2 h
    show Run Γ rg κ Y_X8_setRights 43 [(40, 0), (0, p1), (0, p2), (5, 0), (5, 0)] [(0, x1), (40, 0)] D2 Φ
    refine c_callVi (t' := (some .boolean)) (a := 32) (z := 0) (as := [(0, x1)]) (rest := []) (ls' := [(40, 0), (0, x1)]) d_X8_setRights_43 ck_RX8_195 rfl sh_32 rfl (by decide) (R 32 rfl) rfl rfl (Nat.le_of_ble_eq_true rfl) (Nat.le_of_ble_eq_true rfl) (by decide) rfl rfl (fun _ => rfl) (fun κ' Ψ hΨ => run_pM_fails R _ hΨ) h (fun v2 D3 h => ?_)
    show Run Γ rg κ Y_X8_setRights 46 [(40, 0), (0, p1), (0, p2), (5, 0), (5, 0)] [(0, v2)] D3 Φ
    refine c_if_eq (tgt := 51) d_X8_setRights_46 (by decide) (nz_w _) h (fun h => ?_) (fun h => ?_)
    · skip
      show Run Γ rg κ Y_X8_setRights 51 [(40, 0), (0, p1), (0, p2), (5, 0), (5, 0)] [] D3 Φ
      refine r_aload_n d_X8_setRights_51 rfl (by decide) ?_
      refine r_getR (t := 41) d_X8_setRights_52 fk_RX8_35 sh_32 rfl (by decide) (R 32 rfl) ?_
      refine r_iload_n d_X8_setRights_55 rfl ?_
      refine c_iald d_X8_setRights_56 sh_41 (by decide) (R 41 rfl) (by decide) h (fun v3 h => ?_)
      refine r_istore d_X8_setRights_57 (by decide) rfl ?_
      show Run Γ rg κ Y_X8_setRights 59 [(40, 0), (0, p1), (0, p2), (5, 0), (0, v3)] [] D3 Φ
      refine r_iload d_X8_setRights_59 rfl ?_
      refine r_iload_n d_X8_setRights_61 rfl ?_
      refine c_icmp_eq (tgt := 137) d_X8_setRights_62 (by decide) (nz_w _) (nz_w _) h (fun h => ?_) (fun h => ?_)
      · skip
        show Run Γ rg κ Y_X8_setRights 137 [(40, 0), (0, p1), (0, p2), (5, 0), (0, v3)] [] D3 Φ
        refine r_iload d_X8_setRights_137 rfl ?_
        exact c_iret d_X8_setRights_139 rfl h
      · skip
        show Run Γ rg κ Y_X8_setRights 65 [(40, 0), (0, p1), (0, p2), (5, 0), (0, v3)] [] D3 Φ
        refine r_aload_n d_X8_setRights_65 rfl (by decide) ?_
        refine c_callVv (a := 32) (z := 0) (as := []) (rest := []) (ls' := [(40, 0), (5, 0)]) d_X8_setRights_66 ck_RX8_211 rfl sh_32 rfl (by decide) (R 32 rfl) rfl rfl (Nat.le_of_ble_eq_true rfl) (Nat.le_of_ble_eq_true rfl) (by decide) rfl rfl (fun κ' Ψ hΨ => run_pM_writesGot R hΨ) h (fun _ D4 h => ?_)
        show Run Γ rg κ Y_X8_setRights 69 [(40, 0), (0, p1), (0, p2), (5, 0), (0, v3)] [] D4 Φ
        refine r_aload_n d_X8_setRights_69 rfl (by decide) ?_
        refine r_getI d_X8_setRights_70 fk_RX8_146 sh_32 rfl (by decide) (by decide) (R 32 rfl) ?_
        refine c_jn (fun J => ∀ (D5 : DD), WP (some .int) κ Φ (J D5) → Run Γ rg κ Y_X8_setRights 88 [(40, 0), (0, p1), (0, p2), (5, 0), (0, v3)] [] D5 Φ) h ?_ (fun J2 hJ2 h => ?_)
        · intro D5 h
          show Run Γ rg κ Y_X8_setRights 88 [(40, 0), (0, p1), (0, p2), (5, 0), (0, v3)] [] D5 Φ
          refine r_aload_n d_X8_setRights_88 rfl (by decide) ?_
          refine r_getR (t := 57) d_X8_setRights_89 fk_RX8_83 sh_32 rfl (by decide) (R 32 rfl) ?_
          refine r_iload_n d_X8_setRights_92 rfl ?_
          refine r_dup2 d_X8_setRights_93 (show (0 : Nat) ≠ 1 by decide) (by decide) ?_
          refine c_iald d_X8_setRights_94 sh_57 (by decide) (R 57 rfl) (by decide) h (fun v4 h => ?_)
          refine r_iconst d_X8_setRights_95 ?_
          refine r_iadd d_X8_setRights_96 ?_
          refine c_iast d_X8_setRights_97 sh_57 (by decide) (R 57 rfl) (by decide) h (fun D6 h => ?_)
          refine r_aload_n d_X8_setRights_98 rfl (by decide) ?_
          refine r_aload_n d_X8_setRights_99 rfl (by decide) ?_
          refine r_getR (t := 56) d_X8_setRights_100 fk_RX8_80 sh_32 rfl (by decide) (R 32 rfl) ?_
          show Run Γ rg κ Y_X8_setRights 103 [(40, 0), (0, p1), (0, p2), (5, 0), (0, v3)] [(64, 0), (40, 0)] D6 Φ
          refine r_iload_n d_X8_setRights_103 rfl ?_
          refine c_iald d_X8_setRights_104 sh_56 (by decide) (R 56 rfl) (by decide) h (fun v5 h => ?_)
          refine c_callVv (a := 32) (z := 0) (as := [(0, v5)]) (rest := []) (ls' := [(40, 0), (0, v5), (5, 0), (5, 0)]) d_X8_setRights_105 ck_RX8_152 rfl sh_32 rfl (by decide) (R 32 rfl) rfl rfl (Nat.le_of_ble_eq_true rfl) (Nat.le_of_ble_eq_true rfl) (by decide) rfl rfl (fun κ' Ψ hΨ => run_pM_writes R _ hΨ) h (fun _ D7 h => ?_)
          show Run Γ rg κ Y_X8_setRights 108 [(40, 0), (0, p1), (0, p2), (5, 0), (0, v3)] [] D7 Φ
          refine r_aload_n d_X8_setRights_108 rfl (by decide) ?_
          refine r_iload d_X8_setRights_109 rfl ?_
          refine c_callVv (a := 32) (z := 0) (as := [(0, v3)]) (rest := []) (ls' := [(40, 0), (0, v3)]) d_X8_setRights_111 ck_RX8_243 rfl sh_32 rfl (by decide) (R 32 rfl) rfl rfl (Nat.le_of_ble_eq_true rfl) (Nat.le_of_ble_eq_true rfl) (by decide) rfl rfl (fun κ' Ψ hΨ => run_pM_leavesRights R _ hΨ) h (fun _ D8 h => ?_)
          show Run Γ rg κ Y_X8_setRights 114 [(40, 0), (0, p1), (0, p2), (5, 0), (0, v3)] [] D8 Φ
          refine r_aload_n d_X8_setRights_114 rfl (by decide) ?_
          refine r_getR (t := 41) d_X8_setRights_115 fk_RX8_35 sh_32 rfl (by decide) (R 32 rfl) ?_
          refine r_iload_n d_X8_setRights_118 rfl ?_
          refine r_iload_n d_X8_setRights_119 rfl ?_
          refine c_iast d_X8_setRights_120 sh_41 (by decide) (R 41 rfl) (by decide) h (fun D9 h => ?_)
          refine r_aload_n d_X8_setRights_121 rfl (by decide) ?_
          show Run Γ rg κ Y_X8_setRights 122 [(40, 0), (0, p1), (0, p2), (5, 0), (0, v3)] [(40, 0)] D9 Φ
          refine r_aload_n d_X8_setRights_122 rfl (by decide) ?_
          refine r_getR (t := 40) d_X8_setRights_123 fk_RX8_32 sh_32 rfl (by decide) (R 32 rfl) ?_
          refine r_iload_n d_X8_setRights_126 rfl ?_
          refine c_iald d_X8_setRights_127 sh_40 (by decide) (R 40 rfl) (by decide) h (fun v6 h => ?_)
          refine c_callVv (a := 32) (z := 0) (as := [(0, v6)]) (rest := []) (ls' := [(40, 0), (0, v6), (5, 0), (5, 0)]) d_X8_setRights_128 ck_RX8_152 rfl sh_32 rfl (by decide) (R 32 rfl) rfl rfl (Nat.le_of_ble_eq_true rfl) (Nat.le_of_ble_eq_true rfl) (by decide) rfl rfl (fun κ' Ψ hΨ => run_pM_writes R _ hΨ) h (fun _ D10 h => ?_)
          show Run Γ rg κ Y_X8_setRights 131 [(40, 0), (0, p1), (0, p2), (5, 0), (0, v3)] [] D10 Φ
          refine r_aload_n d_X8_setRights_131 rfl (by decide) ?_
          refine r_iload_n d_X8_setRights_132 rfl ?_
          refine r_iconst d_X8_setRights_133 ?_
          refine c_callVv (a := 32) (z := 0) (as := [(0, p1), (0, 4)]) (rest := []) (ls' := [(40, 0), (0, p1), (0, 4), (5, 0)]) d_X8_setRights_134 ck_RX8_218 rfl sh_32 rfl (by decide) (R 32 rfl) rfl rfl (Nat.le_of_ble_eq_true rfl) (Nat.le_of_ble_eq_true rfl) (by decide) rfl rfl (fun κ' Ψ hΨ => run_pM_changes R _ _ hΨ) h (fun _ D11 h => ?_)
          show Run Γ rg κ Y_X8_setRights 137 [(40, 0), (0, p1), (0, p2), (5, 0), (0, v3)] [] D11 Φ
          refine r_iload d_X8_setRights_137 rfl ?_
          exact c_iret d_X8_setRights_139 rfl h
        refine c_if_le (tgt := 88) d_X8_setRights_73 (by decide) (nz_w _) h (fun h => ?_) (fun h => ?_)
        · skip
          exact (hJ2 D4 h)
        · skip
          show Run Γ rg κ Y_X8_setRights 76 [(40, 0), (0, p1), (0, p2), (5, 0), (0, v3)] [] D4 Φ
          refine r_aload_n d_X8_setRights_76 rfl (by decide) ?_
          refine r_getR (t := 56) d_X8_setRights_77 fk_RX8_80 sh_32 rfl (by decide) (R 32 rfl) ?_
          refine r_iload_n d_X8_setRights_80 rfl ?_
          refine r_aload_n d_X8_setRights_81 rfl (by decide) ?_
          refine r_getR (t := 66) d_X8_setRights_82 fk_RX8_110 sh_32 rfl (by decide) (R 32 rfl) ?_
          refine r_iconst d_X8_setRights_85 ?_
          refine c_iald0 (k := 0) d_X8_setRights_86 sh_66 (by decide) (R 66 rfl) (by decide) rfl (by decide) ?_
          refine c_iast d_X8_setRights_87 sh_56 (by decide) (R 56 rfl) (by decide) h (fun D12 h => ?_)
          exact (hJ2 D12 h)
    · skip
      show Run Γ rg κ Y_X8_setRights 49 [(40, 0), (0, p1), (0, p2), (5, 0), (5, 0)] [] D3 Φ
      refine r_iconst d_X8_setRights_49 ?_
      exact c_iret d_X8_setRights_50 rfl h
  refine c_if_ne (tgt := 15) d_X8_setRights_8 (by decide) (nz_w _) h (fun h => ?_) (fun h => ?_)
  · skip
    show Run Γ rg κ Y_X8_setRights 15 [(40, 0), (0, p1), (0, p2), (0, v1), (5, 0)] [(40, 0)] D1 Φ
    refine r_iload_n d_X8_setRights_15 rfl ?_
    refine r_iconst d_X8_setRights_16 ?_
    refine r_sipush d_X8_setRights_17 (by decide) ?_
    refine c_callSPi (as := [(0, p2), (0, 0), (0, 255)]) (rest := [(40, 0)]) (ls' := [(0, p2), (0, 0), (0, 255)]) d_X8_setRights_20 ck_RX8_124 rfl rfl rfl (Nat.le_of_ble_eq_true rfl) (Nat.le_of_ble_eq_true rfl) (by decide) rfl rfl (fun Ψ hΨ => run_pM_isIn R _ _ _ rfl hΨ) ?_
    show Run Γ rg κ Y_X8_setRights 23 [(40, 0), (0, p1), (0, p2), (0, v1), (5, 0)] [(0, (pM_isIn p2 0 255)), (40, 0)] D1 Φ
    refine c_if_ne (tgt := 30) d_X8_setRights_23 (by decide) (nz_b (pM_isIn_b p2 0 255)) h (fun h => ?_) (fun h => ?_)
    · skip
      show Run Γ rg κ Y_X8_setRights 30 [(40, 0), (0, p1), (0, p2), (0, v1), (5, 0)] [(40, 0)] D1 Φ
      refine r_aload_n d_X8_setRights_30 rfl (by decide) ?_
      refine r_iload_n d_X8_setRights_31 rfl ?_
      refine c_callVi (t' := (some .boolean)) (a := 32) (z := 0) (as := [(0, p2)]) (rest := [(40, 0)]) (ls' := [(40, 0), (0, p2)]) d_X8_setRights_32 ck_RX8_267 rfl sh_32 rfl (by decide) (R 32 rfl) rfl rfl (Nat.le_of_ble_eq_true rfl) (Nat.le_of_ble_eq_true rfl) (by decide) rfl rfl (fun _ => rfl) (fun κ' Ψ hΨ => run_pM_cannotHave R _ hΨ) h (fun v7 D13 h => ?_)
      show Run Γ rg κ Y_X8_setRights 35 [(40, 0), (0, p1), (0, p2), (0, v1), (5, 0)] [(0, v7), (40, 0)] D13 Φ
      refine c_if_eq (tgt := 42) d_X8_setRights_35 (by decide) (nz_w _) h (fun h => ?_) (fun h => ?_)
      · skip
        show Run Γ rg κ Y_X8_setRights 42 [(40, 0), (0, p1), (0, p2), (0, v1), (5, 0)] [(40, 0)] D13 Φ
        refine r_iconst d_X8_setRights_42 ?_
        exact Run.forget (ls' := [(40, 0), (0, p1), (0, p2), (5, 0), (5, 0)]) ⟨Or.inr rfl, Or.inr rfl, Or.inr rfl, Or.inl rfl, Or.inr rfl, trivial⟩ (hJ1 0 D13 h)
      · skip
        show Run Γ rg κ Y_X8_setRights 38 [(40, 0), (0, p1), (0, p2), (0, v1), (5, 0)] [(40, 0)] D13 Φ
        refine r_iconst d_X8_setRights_38 ?_
        refine r_goto (tgt := 43) d_X8_setRights_39 (by decide) ?_
        exact Run.forget (ls' := [(40, 0), (0, p1), (0, p2), (5, 0), (5, 0)]) ⟨Or.inr rfl, Or.inr rfl, Or.inr rfl, Or.inl rfl, Or.inr rfl, trivial⟩ (hJ1 3 D13 h)
    · skip
      show Run Γ rg κ Y_X8_setRights 26 [(40, 0), (0, p1), (0, p2), (0, v1), (5, 0)] [(40, 0)] D1 Φ
      refine r_iconst d_X8_setRights_26 ?_
      refine r_goto (tgt := 43) d_X8_setRights_27 (by decide) ?_
      exact Run.forget (ls' := [(40, 0), (0, p1), (0, p2), (5, 0), (5, 0)]) ⟨Or.inr rfl, Or.inr rfl, Or.inr rfl, Or.inl rfl, Or.inr rfl, trivial⟩ (hJ1 2 D1 h)
  · skip
    show Run Γ rg κ Y_X8_setRights 11 [(40, 0), (0, p1), (0, p2), (0, v1), (5, 0)] [(40, 0)] D1 Φ
    refine r_iconst d_X8_setRights_11 ?_
    refine r_goto (tgt := 43) d_X8_setRights_12 (by decide) ?_
    exact Run.forget (ls' := [(40, 0), (0, p1), (0, p2), (5, 0), (5, 0)]) ⟨Or.inr rfl, Or.inr rfl, Or.inr rfl, Or.inl rfl, Or.inr rfl, trivial⟩ (hJ1 1 D1 h)
set_option maxRecDepth 20000 in
theorem run_pM_sharers {Γ : GG} {rg : Nat → Bool} {κ : Nat} {Φ : OT → DD → Prop} (R : cov rg rg1) (p1 : Int) {D : DD} (h : WP (some .int) κ Φ (pM_sharers p1 D)) : Run Γ rg κ Y_X8_sharers 0 [(40, 0), (0, p1)] [] D Φ := by
  unfold pM_sharers at h
  show Run Γ rg κ Y_X8_sharers 0 [(40, 0), (0, p1)] [] D Φ
  refine r_aload_n d_X8_sharers_0 rfl (by decide) ?_
  refine r_iload_n d_X8_sharers_1 rfl ?_
  refine r_iconst d_X8_sharers_2 ?_
  refine r_sipush d_X8_sharers_3 (by decide) ?_
  refine c_callSPi (as := [(0, p1), (0, 0), (0, 255)]) (rest := [(40, 0)]) (ls' := [(0, p1), (0, 0), (0, 255)]) d_X8_sharers_6 ck_RX8_124 rfl rfl rfl (Nat.le_of_ble_eq_true rfl) (Nat.le_of_ble_eq_true rfl) (by decide) rfl rfl (fun Ψ hΨ => run_pM_isIn R _ _ _ rfl hΨ) ?_
  show Run Γ rg κ Y_X8_sharers 9 [(40, 0), (0, p1)] [(0, (pM_isIn p1 0 255)), (40, 0)] D Φ
  refine c_jn (fun J => ∀ (x1 : Int) (D1 : DD), WP (some .int) κ Φ (J x1 D1) → Run Γ rg κ Y_X8_sharers 17 [(40, 0), (0, p1)] [(0, x1), (40, 0)] D1 Φ) h ?_ (fun J1 hJ1 h => ?_)
  · intro x1 D1 h
    show Run Γ rg κ Y_X8_sharers 17 [(40, 0), (0, p1)] [(0, x1), (40, 0)] D1 Φ
    refine c_callVi (t' := (some .boolean)) (a := 32) (z := 0) (as := [(0, x1)]) (rest := []) (ls' := [(40, 0), (0, x1)]) d_X8_sharers_17 ck_RX8_195 rfl sh_32 rfl (by decide) (R 32 rfl) rfl rfl (Nat.le_of_ble_eq_true rfl) (Nat.le_of_ble_eq_true rfl) (by decide) rfl rfl (fun _ => rfl) (fun κ' Ψ hΨ => run_pM_fails R _ hΨ) h (fun v1 D2 h => ?_)
    show Run Γ rg κ Y_X8_sharers 20 [(40, 0), (0, p1)] [(0, v1)] D2 Φ
    refine c_if_eq (tgt := 27) d_X8_sharers_20 (by decide) (nz_w _) h (fun h => ?_) (fun h => ?_)
    · skip
      show Run Γ rg κ Y_X8_sharers 27 [(40, 0), (0, p1)] [] D2 Φ
      refine r_aload_n d_X8_sharers_27 rfl (by decide) ?_
      refine r_getR (t := 57) d_X8_sharers_28 fk_RX8_83 sh_32 rfl (by decide) (R 32 rfl) ?_
      refine r_iload_n d_X8_sharers_31 rfl ?_
      refine c_iald d_X8_sharers_32 sh_57 (by decide) (R 57 rfl) (by decide) h (fun v2 h => ?_)
      exact c_iret d_X8_sharers_33 rfl h
    · skip
      show Run Γ rg κ Y_X8_sharers 23 [(40, 0), (0, p1)] [] D2 Φ
      refine r_iconst d_X8_sharers_23 ?_
      refine r_goto (tgt := 33) d_X8_sharers_24 (by decide) ?_
      show Run Γ rg κ Y_X8_sharers 33 [(40, 0), (0, p1)] [(0, 0)] D2 Φ
      exact c_iret d_X8_sharers_33 rfl h
  refine c_if_eq (tgt := 16) d_X8_sharers_9 (by decide) (nz_b (pM_isIn_b p1 0 255)) h (fun h => ?_) (fun h => ?_)
  · skip
    show Run Γ rg κ Y_X8_sharers 16 [(40, 0), (0, p1)] [(40, 0)] D Φ
    refine r_iconst d_X8_sharers_16 ?_
    exact (hJ1 1 D h)
  · skip
    show Run Γ rg κ Y_X8_sharers 12 [(40, 0), (0, p1)] [(40, 0)] D Φ
    refine r_iconst d_X8_sharers_12 ?_
    refine r_goto (tgt := 17) d_X8_sharers_13 (by decide) ?_
    exact (hJ1 0 D h)
set_option maxRecDepth 20000 in
theorem run_pM_sectors {Γ : GG} {rg : Nat → Bool} {κ : Nat} {Φ : OT → DD → Prop} (R : cov rg rg1) {D : DD} (h : WP (some .int) κ Φ (pM_sectors D)) : Run Γ rg κ Y_X8_sectors 0 [(40, 0)] [] D Φ := by
  unfold pM_sectors at h
  show Run Γ rg κ Y_X8_sectors 0 [(40, 0)] [] D Φ
  refine r_aload_n d_X8_sectors_0 rfl (by decide) ?_
  refine r_iconst d_X8_sectors_1 ?_
  refine c_putI (k := 42) d_X8_sectors_2 pk_RX8_120 sh_32 rfl (by decide) (R 32 rfl) h (fun D1 h => ?_)
  refine r_aload_n d_X8_sectors_5 rfl (by decide) ?_
  refine r_getR (t := 34) d_X8_sectors_6 fk_RX8_13 sh_32 rfl (by decide) (R 32 rfl) ?_
  refine r_iconst d_X8_sectors_9 ?_
  refine c_iald0 (k := 0) d_X8_sectors_10 sh_34 (by decide) (R 34 rfl) (by decide) rfl (by decide) ?_
  exact c_iret d_X8_sectors_11 rfl h
set_option maxRecDepth 20000 in
theorem run_pM_cell {Γ : GG} {rg : Nat → Bool} {κ : Nat} {Φ : OT → DD → Prop} (R : cov rg rg1) (p1 : Int) {D : DD} (h : WP (some .int) κ Φ (pM_cell p1 D)) : Run Γ rg κ Y_X8_cell 0 [(40, 0), (0, p1)] [] D Φ := by
  unfold pM_cell at h
  show Run Γ rg κ Y_X8_cell 0 [(40, 0), (0, p1)] [] D Φ
  refine r_aload_n d_X8_cell_0 rfl (by decide) ?_
  refine r_iload_n d_X8_cell_1 rfl ?_
  refine r_iconst d_X8_cell_2 ?_
  refine r_aload_n d_X8_cell_3 rfl (by decide) ?_
  refine c_callVPi (a := 32) (z := 0) (as := []) (rest := [(0, 0), (0, p1), (40, 0)]) (ls' := [(40, 0)]) d_X8_cell_4 ck_RX8_132 rfl sh_32 rfl (by decide) (R 32 rfl) rfl rfl (Nat.le_of_ble_eq_true rfl) (Nat.le_of_ble_eq_true rfl) (by decide) rfl rfl (fun Ψ hΨ => run_pM_units R rfl hΨ) ?_
  show Run Γ rg κ Y_X8_cell 7 [(40, 0), (0, p1)] [(0, (pM_units D)), (0, 0), (0, p1), (40, 0)] D Φ
  refine r_iconst d_X8_cell_7 ?_
  refine r_isub d_X8_cell_8 ?_
  refine c_callSPi (as := [(0, p1), (0, 0), (0, ((pM_units D) - 1))]) (rest := [(40, 0)]) (ls' := [(0, p1), (0, 0), (0, ((pM_units D) - 1))]) d_X8_cell_9 ck_RX8_124 rfl rfl rfl (Nat.le_of_ble_eq_true rfl) (Nat.le_of_ble_eq_true rfl) (by decide) rfl rfl (fun Ψ hΨ => run_pM_isIn R _ _ _ rfl hΨ) ?_
  show Run Γ rg κ Y_X8_cell 12 [(40, 0), (0, p1)] [(0, (pM_isIn p1 0 ((pM_units D) - 1))), (40, 0)] D Φ
  refine c_jn (fun J => ∀ (x1 : Int) (D1 : DD), WP (some .int) κ Φ (J x1 D1) → Run Γ rg κ Y_X8_cell 20 [(40, 0), (0, p1)] [(0, x1), (40, 0)] D1 Φ) h ?_ (fun J1 hJ1 h => ?_)
  · intro x1 D1 h
    show Run Γ rg κ Y_X8_cell 20 [(40, 0), (0, p1)] [(0, x1), (40, 0)] D1 Φ
    refine c_callVi (t' := (some .boolean)) (a := 32) (z := 0) (as := [(0, x1)]) (rest := []) (ls' := [(40, 0), (0, x1)]) d_X8_cell_20 ck_RX8_195 rfl sh_32 rfl (by decide) (R 32 rfl) rfl rfl (Nat.le_of_ble_eq_true rfl) (Nat.le_of_ble_eq_true rfl) (by decide) rfl rfl (fun _ => rfl) (fun κ' Ψ hΨ => run_pM_fails R _ hΨ) h (fun v1 D2 h => ?_)
    show Run Γ rg κ Y_X8_cell 23 [(40, 0), (0, p1)] [(0, v1)] D2 Φ
    refine c_if_eq (tgt := 30) d_X8_cell_23 (by decide) (nz_w _) h (fun h => ?_) (fun h => ?_)
    · skip
      show Run Γ rg κ Y_X8_cell 30 [(40, 0), (0, p1)] [] D2 Φ
      refine r_aload_n d_X8_cell_30 rfl (by decide) ?_
      refine r_getR (t := 33) d_X8_cell_31 fk_RX8_7 sh_32 rfl (by decide) (R 32 rfl) ?_
      refine r_iload_n d_X8_cell_34 rfl ?_
      refine c_iald d_X8_cell_35 sh_33 (by decide) (R 33 rfl) (by decide) h (fun v2 h => ?_)
      exact c_iret d_X8_cell_36 rfl h
    · skip
      show Run Γ rg κ Y_X8_cell 26 [(40, 0), (0, p1)] [] D2 Φ
      refine r_iconst d_X8_cell_26 ?_
      refine r_goto (tgt := 36) d_X8_cell_27 (by decide) ?_
      show Run Γ rg κ Y_X8_cell 36 [(40, 0), (0, p1)] [(0, 0)] D2 Φ
      exact c_iret d_X8_cell_36 rfl h
  refine c_if_eq (tgt := 19) d_X8_cell_12 (by decide) (nz_b (pM_isIn_b p1 0 ((pM_units D) - 1))) h (fun h => ?_) (fun h => ?_)
  · skip
    show Run Γ rg κ Y_X8_cell 19 [(40, 0), (0, p1)] [(40, 0)] D Φ
    refine r_iconst d_X8_cell_19 ?_
    exact (hJ1 1 D h)
  · skip
    show Run Γ rg κ Y_X8_cell 15 [(40, 0), (0, p1)] [(40, 0)] D Φ
    refine r_iconst d_X8_cell_15 ?_
    refine r_goto (tgt := 20) d_X8_cell_16 (by decide) ?_
    exact (hJ1 0 D h)
set_option maxRecDepth 20000 in
theorem run_pM_place {Γ : GG} {rg : Nat → Bool} {κ : Nat} {Φ : OT → DD → Prop} (R : cov rg rg1) (p1 : Int) {D : DD} (h : WP (some .int) κ Φ (pM_place p1 D)) : Run Γ rg κ Y_X8_place 0 [(40, 0), (0, p1)] [] D Φ := by
  unfold pM_place at h
  show Run Γ rg κ Y_X8_place 0 [(40, 0), (0, p1)] [] D Φ
  refine r_aload_n d_X8_place_0 rfl (by decide) ?_
  refine r_aload_n d_X8_place_1 rfl (by decide) ?_
  refine r_iload_n d_X8_place_2 rfl ?_
  refine c_callVi (t' := (some .boolean)) (a := 32) (z := 0) (as := [(0, p1)]) (rest := [(40, 0)]) (ls' := [(40, 0), (0, p1)]) d_X8_place_3 ck_RX8_191 rfl sh_32 rfl (by decide) (R 32 rfl) rfl rfl (Nat.le_of_ble_eq_true rfl) (Nat.le_of_ble_eq_true rfl) (by decide) rfl rfl (fun _ => rfl) (fun κ' Ψ hΨ => run_pM_isKey R _ hΨ) h (fun v1 D1 h => ?_)
  show Run Γ rg κ Y_X8_place 6 [(40, 0), (0, p1)] [(0, v1), (40, 0)] D1 Φ
  refine c_jn (fun J => ∀ (x1 : Int) (D2 : DD), WP (some .int) κ Φ (J x1 D2) → Run Γ rg κ Y_X8_place 14 [(40, 0), (0, p1)] [(0, x1), (40, 0)] D2 Φ) h ?_ (fun J1 hJ1 h => ?_)
  · intro x1 D2 h
    show Run Γ rg κ Y_X8_place 14 [(40, 0), (0, p1)] [(0, x1), (40, 0)] D2 Φ
    refine c_callVi (t' := (some .boolean)) (a := 32) (z := 0) (as := [(0, x1)]) (rest := []) (ls' := [(40, 0), (0, x1)]) d_X8_place_14 ck_RX8_195 rfl sh_32 rfl (by decide) (R 32 rfl) rfl rfl (Nat.le_of_ble_eq_true rfl) (Nat.le_of_ble_eq_true rfl) (by decide) rfl rfl (fun _ => rfl) (fun κ' Ψ hΨ => run_pM_fails R _ hΨ) h (fun v2 D3 h => ?_)
    show Run Γ rg κ Y_X8_place 17 [(40, 0), (0, p1)] [(0, v2)] D3 Φ
    refine c_if_eq (tgt := 24) d_X8_place_17 (by decide) (nz_w _) h (fun h => ?_) (fun h => ?_)
    · skip
      show Run Γ rg κ Y_X8_place 24 [(40, 0), (0, p1)] [] D3 Φ
      refine r_aload_n d_X8_place_24 rfl (by decide) ?_
      refine r_getR (t := 40) d_X8_place_25 fk_RX8_32 sh_32 rfl (by decide) (R 32 rfl) ?_
      refine r_iload_n d_X8_place_28 rfl ?_
      refine c_iald d_X8_place_29 sh_40 (by decide) (R 40 rfl) (by decide) h (fun v3 h => ?_)
      exact c_iret d_X8_place_30 rfl h
    · skip
      show Run Γ rg κ Y_X8_place 20 [(40, 0), (0, p1)] [] D3 Φ
      refine r_iconst d_X8_place_20 ?_
      refine r_goto (tgt := 30) d_X8_place_21 (by decide) ?_
      show Run Γ rg κ Y_X8_place 30 [(40, 0), (0, p1)] [(0, 0)] D3 Φ
      exact c_iret d_X8_place_30 rfl h
  refine c_if_eq (tgt := 13) d_X8_place_6 (by decide) (nz_w _) h (fun h => ?_) (fun h => ?_)
  · skip
    show Run Γ rg κ Y_X8_place 13 [(40, 0), (0, p1)] [(40, 0)] D1 Φ
    refine r_iconst d_X8_place_13 ?_
    exact (hJ1 1 D1 h)
  · skip
    show Run Γ rg κ Y_X8_place 9 [(40, 0), (0, p1)] [(40, 0)] D1 Φ
    refine r_iconst d_X8_place_9 ?_
    refine r_goto (tgt := 14) d_X8_place_10 (by decide) ?_
    exact (hJ1 0 D1 h)
set_option maxRecDepth 20000 in
theorem run_pM_used_9 {Γ : GG} {rg : Nat → Bool} {κ : Nat} {Φ : OT → DD → Prop} (R : cov rg rg1) : ∀ (n : Nat) (a1 : Int) (a2 : Int) (D : DD), WP (some .int) κ Φ (pM_used_9 n a1 a2 D) → Run Γ rg κ Y_X8_used 9 [(40, 0), (0, a1), (0, a2)] [] D Φ := by
  intro n
  induction n with
  | zero => intro a1 a2 D h; exact h.no.elim
  | succ n ih =>
    intro a1 a2 D h
    rw [pM_used_9] at h
    show Run Γ rg κ Y_X8_used 9 [(40, 0), (0, a1), (0, a2)] [] D Φ
    refine r_iload_n d_X8_used_9 rfl ?_
    refine r_aload_n d_X8_used_10 rfl (by decide) ?_
    refine c_callVPi (a := 32) (z := 0) (as := []) (rest := [(0, a2)]) (ls' := [(40, 0)]) d_X8_used_11 ck_RX8_132 rfl sh_32 rfl (by decide) (R 32 rfl) rfl rfl (Nat.le_of_ble_eq_true rfl) (Nat.le_of_ble_eq_true rfl) (by decide) rfl rfl (fun Ψ hΨ => run_pM_units R rfl hΨ) ?_
    show Run Γ rg κ Y_X8_used 14 [(40, 0), (0, a1), (0, a2)] [(0, (pM_units D)), (0, a2)] D Φ
    refine c_icmp_ge (tgt := 45) d_X8_used_14 (by decide) (nz_w _) (nz_w _) h (fun h => ?_) (fun h => ?_)
    · skip
      show Run Γ rg κ Y_X8_used 45 [(40, 0), (0, a1), (0, a2)] [] D Φ
      refine r_iload_n d_X8_used_45 rfl ?_
      exact c_iret d_X8_used_46 rfl h
    · skip
      show Run Γ rg κ Y_X8_used 17 [(40, 0), (0, a1), (0, a2)] [] D Φ
      refine r_iload_n d_X8_used_17 rfl ?_
      refine r_aload_n d_X8_used_18 rfl (by decide) ?_
      refine r_getR (t := 33) d_X8_used_19 fk_RX8_7 sh_32 rfl (by decide) (R 32 rfl) ?_
      refine r_iload_n d_X8_used_22 rfl ?_
      refine c_iald d_X8_used_23 sh_33 (by decide) (R 33 rfl) (by decide) h (fun v1 h => ?_)
      refine c_jn (fun J => ∀ (x1 : Int) (D1 : DD), WP (some .int) κ Φ (J x1 D1) → Run Γ rg κ Y_X8_used 37 [(40, 0), (5, 0), (0, a2)] [(0, x1), (0, a1)] D1 Φ) h ?_ (fun J1 hJ1 h => ?_)
      · intro x1 D1 h
        show Run Γ rg κ Y_X8_used 37 [(40, 0), (5, 0), (0, a2)] [(0, x1), (0, a1)] D1 Φ
        refine r_iadd d_X8_used_37 ?_
        refine c_lt_n d_X8_used_38 (by decide) rfl h (fun x2 h => ?_)
        show Run Γ rg κ Y_X8_used 39 [(40, 0), (0, x2), (0, a2)] [] D1 Φ
        refine r_iinc d_X8_used_39 rfl (by decide) rfl ?_
        show Run Γ rg κ Y_X8_used 42 [(40, 0), (0, x2), (0, (a2 + 1))] [] D1 Φ
        refine r_goto (tgt := 9) d_X8_used_42 (by decide) ?_
        exact (ih x2 (a2 + 1) D1 h)
      refine c_if_le (tgt := 36) d_X8_used_24 (by decide) (nz_w _) h (fun h => ?_) (fun h => ?_)
      · skip
        show Run Γ rg κ Y_X8_used 36 [(40, 0), (0, a1), (0, a2)] [(0, a1)] D Φ
        refine r_iconst d_X8_used_36 ?_
        exact Run.forget (ls' := [(40, 0), (5, 0), (0, a2)]) ⟨Or.inr rfl, Or.inl rfl, Or.inr rfl, trivial⟩ (hJ1 0 D h)
      · skip
        show Run Γ rg κ Y_X8_used 27 [(40, 0), (0, a1), (0, a2)] [(0, a1)] D Φ
        refine r_aload_n d_X8_used_27 rfl (by decide) ?_
        refine r_getR (t := 33) d_X8_used_28 fk_RX8_7 sh_32 rfl (by decide) (R 32 rfl) ?_
        refine r_iload_n d_X8_used_31 rfl ?_
        refine c_iald d_X8_used_32 sh_33 (by decide) (R 33 rfl) (by decide) h (fun v2 h => ?_)
        refine r_goto (tgt := 37) d_X8_used_33 (by decide) ?_
        exact Run.forget (ls' := [(40, 0), (5, 0), (0, a2)]) ⟨Or.inr rfl, Or.inl rfl, Or.inr rfl, trivial⟩ (hJ1 v2 D h)
set_option maxRecDepth 20000 in
theorem run_pM_used {Γ : GG} {rg : Nat → Bool} {κ : Nat} {Φ : OT → DD → Prop} (R : cov rg rg1) {D : DD} (h : WP (some .int) κ Φ (pM_used D)) : Run Γ rg κ Y_X8_used 0 [(40, 0), (5, 0), (5, 0)] [] D Φ := by
  unfold pM_used at h
  show Run Γ rg κ Y_X8_used 0 [(40, 0), (5, 0), (5, 0)] [] D Φ
  refine r_aload_n d_X8_used_0 rfl (by decide) ?_
  refine r_iconst d_X8_used_1 ?_
  refine c_putI (k := 42) d_X8_used_2 pk_RX8_120 sh_32 rfl (by decide) (R 32 rfl) h (fun D1 h => ?_)
  refine r_iconst d_X8_used_5 ?_
  refine r_istore_n d_X8_used_6 (by decide) rfl ?_
  show Run Γ rg κ Y_X8_used 7 [(40, 0), (0, 0), (5, 0)] [] D1 Φ
  refine r_iconst d_X8_used_7 ?_
  refine r_istore_n d_X8_used_8 (by decide) rfl ?_
  show Run Γ rg κ Y_X8_used 9 [(40, 0), (0, 0), (0, 0)] [] D1 Φ
  exact run_pM_used_9 R fu 0 0 D1 h
set_option maxRecDepth 20000 in
theorem run_pM_usedByTree_9 {Γ : GG} {rg : Nat → Bool} {κ : Nat} {Φ : OT → DD → Prop} (R : cov rg rg1) {K : Int → DD → Res} (hK : ∀ (z1 : Int) (D : DD), WP (some .int) κ Φ (K z1 D) → Run Γ rg κ Y_X8_usedByTree 39 [(40, 0), (0, z1), (5, 0), (5, 0)] [] D Φ) : ∀ (n : Nat) (a1 : Int) (a2 : Int) (D : DD), WP (some .int) κ Φ (pM_usedByTree_9 n a1 a2 D K) → Run Γ rg κ Y_X8_usedByTree 9 [(40, 0), (0, a1), (0, a2), (5, 0)] [] D Φ := by
  intro n
  induction n with
  | zero => intro a1 a2 D h; exact h.no.elim
  | succ n ih =>
    intro a1 a2 D h
    rw [pM_usedByTree_9] at h
    show Run Γ rg κ Y_X8_usedByTree 9 [(40, 0), (0, a1), (0, a2), (5, 0)] [] D Φ
    refine r_iload_n d_X8_usedByTree_9 rfl ?_
    refine r_sipush d_X8_usedByTree_10 (by decide) ?_
    refine c_icmp_ge (tgt := 39) d_X8_usedByTree_13 (by decide) (nz_w _) (nz_k rfl) h (fun h => ?_) (fun h => ?_)
    · skip
      exact Run.forget (ls' := [(40, 0), (0, a1), (5, 0), (5, 0)]) ⟨Or.inr rfl, Or.inr rfl, Or.inl rfl, Or.inr rfl, trivial⟩ (hK a1 D h)
    · skip
      show Run Γ rg κ Y_X8_usedByTree 16 [(40, 0), (0, a1), (0, a2), (5, 0)] [] D Φ
      refine r_iload_n d_X8_usedByTree_16 rfl ?_
      refine r_aload_n d_X8_usedByTree_17 rfl (by decide) ?_
      refine r_getR (t := 57) d_X8_usedByTree_18 fk_RX8_83 sh_32 rfl (by decide) (R 32 rfl) ?_
      refine r_iload_n d_X8_usedByTree_21 rfl ?_
      refine c_iald d_X8_usedByTree_22 sh_57 (by decide) (R 57 rfl) (by decide) h (fun v1 h => ?_)
      refine c_jn (fun J => ∀ (x1 : Int) (D1 : DD), WP (some .int) κ Φ (J x1 D1) → Run Γ rg κ Y_X8_usedByTree 31 [(40, 0), (5, 0), (0, a2), (5, 0)] [(0, x1), (0, a1)] D1 Φ) h ?_ (fun J1 hJ1 h => ?_)
      · intro x1 D1 h
        show Run Γ rg κ Y_X8_usedByTree 31 [(40, 0), (5, 0), (0, a2), (5, 0)] [(0, x1), (0, a1)] D1 Φ
        refine r_iadd d_X8_usedByTree_31 ?_
        refine c_lt_n d_X8_usedByTree_32 (by decide) rfl h (fun x2 h => ?_)
        show Run Γ rg κ Y_X8_usedByTree 33 [(40, 0), (0, x2), (0, a2), (5, 0)] [] D1 Φ
        refine r_iinc d_X8_usedByTree_33 rfl (by decide) rfl ?_
        show Run Γ rg κ Y_X8_usedByTree 36 [(40, 0), (0, x2), (0, (a2 + 1)), (5, 0)] [] D1 Φ
        refine r_goto (tgt := 9) d_X8_usedByTree_36 (by decide) ?_
        exact (ih x2 (a2 + 1) D1 h)
      refine c_if_le (tgt := 30) d_X8_usedByTree_23 (by decide) (nz_w _) h (fun h => ?_) (fun h => ?_)
      · skip
        show Run Γ rg κ Y_X8_usedByTree 30 [(40, 0), (0, a1), (0, a2), (5, 0)] [(0, a1)] D Φ
        refine r_iconst d_X8_usedByTree_30 ?_
        exact Run.forget (ls' := [(40, 0), (5, 0), (0, a2), (5, 0)]) ⟨Or.inr rfl, Or.inl rfl, Or.inr rfl, Or.inr rfl, trivial⟩ (hJ1 0 D h)
      · skip
        show Run Γ rg κ Y_X8_usedByTree 26 [(40, 0), (0, a1), (0, a2), (5, 0)] [(0, a1)] D Φ
        refine r_iconst d_X8_usedByTree_26 ?_
        refine r_goto (tgt := 31) d_X8_usedByTree_27 (by decide) ?_
        exact Run.forget (ls' := [(40, 0), (5, 0), (0, a2), (5, 0)]) ⟨Or.inr rfl, Or.inl rfl, Or.inr rfl, Or.inr rfl, trivial⟩ (hJ1 2 D h)
set_option maxRecDepth 20000 in
theorem run_pM_usedByTree_112 {Γ : GG} {rg : Nat → Bool} {κ : Nat} {Φ : OT → DD → Prop} (R : cov rg rg1) (a2 : Int) {K : Int → DD → Res} (hK : ∀ (z1 : Int) (D : DD), WP (some .int) κ Φ (K z1 D) → Run Γ rg κ Y_X8_usedByTree 170 [(40, 0), (0, z1), (0, a2), (5, 0)] [] D Φ) : ∀ (n : Nat) (a1 : Int) (a3 : Int) (D : DD), WP (some .int) κ Φ (pM_usedByTree_112 a2 n a1 a3 D K) → Run Γ rg κ Y_X8_usedByTree 112 [(40, 0), (0, a1), (0, a2), (0, a3)] [] D Φ := by
  intro n
  induction n with
  | zero => intro a1 a3 D h; exact h.no.elim
  | succ n ih =>
    intro a1 a3 D h
    rw [pM_usedByTree_112] at h
    show Run Γ rg κ Y_X8_usedByTree 112 [(40, 0), (0, a1), (0, a2), (0, a3)] [] D Φ
    refine r_iload_n d_X8_usedByTree_112 rfl ?_
    refine r_bipush d_X8_usedByTree_113 (by decide) ?_
    refine r_iload_n d_X8_usedByTree_115 rfl ?_
    refine r_imul d_X8_usedByTree_116 ?_
    refine r_aload_n d_X8_usedByTree_117 rfl (by decide) ?_
    refine r_getR (t := 48) d_X8_usedByTree_118 fk_RX8_56 sh_32 rfl (by decide) (R 32 rfl) ?_
    refine r_iload_n d_X8_usedByTree_121 rfl ?_
    refine c_iald d_X8_usedByTree_122 sh_48 (by decide) (R 48 rfl) (by decide) h (fun v1 h => ?_)
    refine r_iadd d_X8_usedByTree_123 ?_
    refine c_icmp_ge (tgt := 170) d_X8_usedByTree_124 (by decide) (nz_w _) (nz_w _) h (fun h => ?_) (fun h => ?_)
    · skip
      exact Run.forget (ls' := [(40, 0), (0, a1), (0, a2), (5, 0)]) ⟨Or.inr rfl, Or.inr rfl, Or.inr rfl, Or.inl rfl, trivial⟩ (hK a1 D h)
    · skip
      show Run Γ rg κ Y_X8_usedByTree 127 [(40, 0), (0, a1), (0, a2), (0, a3)] [] D Φ
      refine r_iload_n d_X8_usedByTree_127 rfl ?_
      refine r_iconst d_X8_usedByTree_128 ?_
      refine r_aload_n d_X8_usedByTree_129 rfl (by decide) ?_
      refine r_getR (t := 53) d_X8_usedByTree_130 fk_RX8_71 sh_32 rfl (by decide) (R 32 rfl) ?_
      refine r_iload_n d_X8_usedByTree_133 rfl ?_
      refine c_iald d_X8_usedByTree_134 sh_53 (by decide) (R 53 rfl) (by decide) h (fun v2 h => ?_)
      refine r_iconst d_X8_usedByTree_135 ?_
      refine c_jn (fun J => ∀ (x1 : Int) (D1 : DD), WP (some .int) κ Φ (J x1 D1) → Run Γ rg κ Y_X8_usedByTree 161 [(40, 0), (5, 0), (0, a2), (0, a3)] [(0, x1), (0, 3), (0, a1)] D1 Φ) h ?_ (fun J1 hJ1 h => ?_)
      · intro x1 D1 h
        show Run Γ rg κ Y_X8_usedByTree 161 [(40, 0), (5, 0), (0, a2), (0, a3)] [(0, x1), (0, 3), (0, a1)] D1 Φ
        refine r_iadd d_X8_usedByTree_161 ?_
        refine r_iadd d_X8_usedByTree_162 ?_
        refine c_lt_n d_X8_usedByTree_163 (by decide) rfl h (fun x2 h => ?_)
        show Run Γ rg κ Y_X8_usedByTree 164 [(40, 0), (0, x2), (0, a2), (0, a3)] [] D1 Φ
        refine r_iinc d_X8_usedByTree_164 rfl (by decide) rfl ?_
        show Run Γ rg κ Y_X8_usedByTree 167 [(40, 0), (0, x2), (0, a2), (0, (a3 + 1))] [] D1 Φ
        refine r_goto (tgt := 112) d_X8_usedByTree_167 (by decide) ?_
        exact (ih x2 (a3 + 1) D1 h)
      refine c_icmp_le (tgt := 160) d_X8_usedByTree_136 (by decide) (nz_w _) (nz_k rfl) h (fun h => ?_) (fun h => ?_)
      · skip
        show Run Γ rg κ Y_X8_usedByTree 160 [(40, 0), (0, a1), (0, a2), (0, a3)] [(0, 3), (0, a1)] D Φ
        refine r_iconst d_X8_usedByTree_160 ?_
        exact Run.forget (ls' := [(40, 0), (5, 0), (0, a2), (0, a3)]) ⟨Or.inr rfl, Or.inl rfl, Or.inr rfl, Or.inr rfl, trivial⟩ (hJ1 0 D h)
      · skip
        show Run Γ rg κ Y_X8_usedByTree 139 [(40, 0), (0, a1), (0, a2), (0, a3)] [(0, 3), (0, a1)] D Φ
        refine r_aload_n d_X8_usedByTree_139 rfl (by decide) ?_
        refine r_getR (t := 53) d_X8_usedByTree_140 fk_RX8_71 sh_32 rfl (by decide) (R 32 rfl) ?_
        refine r_iload_n d_X8_usedByTree_143 rfl ?_
        refine c_iald d_X8_usedByTree_144 sh_53 (by decide) (R 53 rfl) (by decide) h (fun v3 h => ?_)
        refine r_iconst d_X8_usedByTree_145 ?_
        refine r_aload_n d_X8_usedByTree_146 rfl (by decide) ?_
        refine r_getR (t := 53) d_X8_usedByTree_147 fk_RX8_71 sh_32 rfl (by decide) (R 32 rfl) ?_
        refine r_iload_n d_X8_usedByTree_150 rfl ?_
        refine c_iald d_X8_usedByTree_151 sh_53 (by decide) (R 53 rfl) (by decide) h (fun v4 h => ?_)
        refine c_callSPi (as := [(0, v4)]) (rest := [(0, 2), (0, v3), (0, 3), (0, a1)]) (ls' := [(0, v4)]) d_X8_usedByTree_152 ck_RX8_237 rfl rfl rfl (Nat.le_of_ble_eq_true rfl) (Nat.le_of_ble_eq_true rfl) (by decide) rfl rfl (fun Ψ hΨ => run_pM_piecesFor R _ rfl hΨ) ?_
        show Run Γ rg κ Y_X8_usedByTree 155 [(40, 0), (0, a1), (0, a2), (0, a3)] [(0, (pM_piecesFor v4)), (0, 2), (0, v3), (0, 3), (0, a1)] D Φ
        refine r_imul d_X8_usedByTree_155 ?_
        show Run Γ rg κ Y_X8_usedByTree 156 [(40, 0), (0, a1), (0, a2), (0, a3)] [(0, (2 * (pM_piecesFor v4))), (0, v3), (0, 3), (0, a1)] D Φ
        refine r_iadd d_X8_usedByTree_156 ?_
        refine r_goto (tgt := 161) d_X8_usedByTree_157 (by decide) ?_
        exact Run.forget (ls' := [(40, 0), (5, 0), (0, a2), (0, a3)]) ⟨Or.inr rfl, Or.inl rfl, Or.inr rfl, Or.inr rfl, trivial⟩ (hJ1 (v3 + (2 * (pM_piecesFor v4))) D h)
set_option maxRecDepth 20000 in
theorem run_pM_usedByTree_41 {Γ : GG} {rg : Nat → Bool} {κ : Nat} {Φ : OT → DD → Prop} (R : cov rg rg1) : ∀ (n : Nat) (a1 : Int) (a2 : Int) (D : DD), WP (some .int) κ Φ (pM_usedByTree_41 n a1 a2 D) → Run Γ rg κ Y_X8_usedByTree 41 [(40, 0), (0, a1), (0, a2), (5, 0)] [] D Φ := by
  intro n
  induction n with
  | zero => intro a1 a2 D h; exact h.no.elim
  | succ n ih =>
    intro a1 a2 D h
    rw [pM_usedByTree_41] at h
    show Run Γ rg κ Y_X8_usedByTree 41 [(40, 0), (0, a1), (0, a2), (5, 0)] [] D Φ
    refine r_iload_n d_X8_usedByTree_41 rfl ?_
    refine r_bipush d_X8_usedByTree_42 (by decide) ?_
    refine c_icmp_ge (tgt := 176) d_X8_usedByTree_44 (by decide) (nz_w _) (nz_k rfl) h (fun h => ?_) (fun h => ?_)
    · skip
      show Run Γ rg κ Y_X8_usedByTree 176 [(40, 0), (0, a1), (0, a2), (5, 0)] [] D Φ
      refine r_iload_n d_X8_usedByTree_176 rfl ?_
      exact c_iret d_X8_usedByTree_177 rfl h
    · skip
      show Run Γ rg κ Y_X8_usedByTree 47 [(40, 0), (0, a1), (0, a2), (5, 0)] [] D Φ
      refine r_aload_n d_X8_usedByTree_47 rfl (by decide) ?_
      refine r_getR (t := 36) d_X8_usedByTree_48 fk_RX8_19 sh_32 rfl (by decide) (R 32 rfl) ?_
      refine r_iload_n d_X8_usedByTree_51 rfl ?_
      refine c_zald d_X8_usedByTree_52 sh_36 (by decide) (R 36 rfl) (by decide) h (fun v1 h => ?_)
      refine c_jn (fun J => ∀ (x1 : Int) (D1 : DD), WP (some .int) κ Φ (J x1 D1) → Run Γ rg κ Y_X8_usedByTree 170 [(40, 0), (0, x1), (0, a2), (5, 0)] [] D1 Φ) h ?_ (fun J1 hJ1 h => ?_)
      · intro x1 D1 h
        show Run Γ rg κ Y_X8_usedByTree 170 [(40, 0), (0, x1), (0, a2), (5, 0)] [] D1 Φ
        refine r_iinc d_X8_usedByTree_170 rfl (by decide) rfl ?_
        show Run Γ rg κ Y_X8_usedByTree 173 [(40, 0), (0, x1), (0, (a2 + 1)), (5, 0)] [] D1 Φ
        refine r_goto (tgt := 41) d_X8_usedByTree_173 (by decide) ?_
        exact (ih x1 (a2 + 1) D1 h)
      refine c_if_eq (tgt := 170) d_X8_usedByTree_53 (by decide) (nz_w _) h (fun h => ?_) (fun h => ?_)
      · skip
        exact (hJ1 a1 D h)
      · skip
        show Run Γ rg κ Y_X8_usedByTree 56 [(40, 0), (0, a1), (0, a2), (5, 0)] [] D Φ
        refine r_iload_n d_X8_usedByTree_56 rfl ?_
        refine r_bipush d_X8_usedByTree_57 (by decide) ?_
        refine r_iconst d_X8_usedByTree_59 ?_
        refine r_aload_n d_X8_usedByTree_60 rfl (by decide) ?_
        refine r_getR (t := 42) d_X8_usedByTree_61 fk_RX8_38 sh_32 rfl (by decide) (R 32 rfl) ?_
        refine r_iload_n d_X8_usedByTree_64 rfl ?_
        refine c_iald d_X8_usedByTree_65 sh_42 (by decide) (R 42 rfl) (by decide) h (fun v2 h => ?_)
        refine r_imul d_X8_usedByTree_66 ?_
        refine r_iadd d_X8_usedByTree_67 ?_
        refine r_aload_n d_X8_usedByTree_68 rfl (by decide) ?_
        refine r_getR (t := 42) d_X8_usedByTree_69 fk_RX8_38 sh_32 rfl (by decide) (R 32 rfl) ?_
        show Run Γ rg κ Y_X8_usedByTree 72 [(40, 0), (0, a1), (0, a2), (5, 0)] [(50, 0), (0, (6 + (5 * v2))), (0, a1)] D Φ
        refine r_iload_n d_X8_usedByTree_72 rfl ?_
        refine c_iald d_X8_usedByTree_73 sh_42 (by decide) (R 42 rfl) (by decide) h (fun v3 h => ?_)
        refine r_iconst d_X8_usedByTree_74 ?_
        refine c_jn (fun J => ∀ (x2 : Int) (D2 : DD), WP (some .int) κ Φ (J x2 D2) → Run Γ rg κ Y_X8_usedByTree 84 [(40, 0), (5, 0), (0, a2), (5, 0)] [(0, x2), (0, (6 + (5 * v2))), (0, a1)] D2 Φ) h ?_ (fun J2 hJ2 h => ?_)
        · intro x2 D2 h
          show Run Γ rg κ Y_X8_usedByTree 84 [(40, 0), (5, 0), (0, a2), (5, 0)] [(0, x2), (0, (6 + (5 * v2))), (0, a1)] D2 Φ
          refine r_iadd d_X8_usedByTree_84 ?_
          refine r_aload_n d_X8_usedByTree_85 rfl (by decide) ?_
          refine r_getR (t := 48) d_X8_usedByTree_86 fk_RX8_56 sh_32 rfl (by decide) (R 32 rfl) ?_
          refine r_iload_n d_X8_usedByTree_89 rfl ?_
          refine c_iald d_X8_usedByTree_90 sh_48 (by decide) (R 48 rfl) (by decide) h (fun v4 h => ?_)
          refine c_jn (fun J => ∀ (x3 : Int) (D3 : DD), WP (some .int) κ Φ (J x3 D3) → Run Γ rg κ Y_X8_usedByTree 104 [(40, 0), (5, 0), (0, a2), (5, 0)] [(0, x3), (0, ((6 + (5 * v2)) + x2)), (0, a1)] D3 Φ) h ?_ (fun J3 hJ3 h => ?_)
          · intro x3 D3 h
            show Run Γ rg κ Y_X8_usedByTree 104 [(40, 0), (5, 0), (0, a2), (5, 0)] [(0, x3), (0, ((6 + (5 * v2)) + x2)), (0, a1)] D3 Φ
            refine r_iadd d_X8_usedByTree_104 ?_
            refine r_iadd d_X8_usedByTree_105 ?_
            refine c_lt_n d_X8_usedByTree_106 (by decide) rfl h (fun x4 h => ?_)
            show Run Γ rg κ Y_X8_usedByTree 107 [(40, 0), (0, x4), (0, a2), (5, 0)] [] D3 Φ
            refine r_bipush d_X8_usedByTree_107 (by decide) ?_
            refine r_iload_n d_X8_usedByTree_109 rfl ?_
            refine r_imul d_X8_usedByTree_110 ?_
            refine c_lt_n d_X8_usedByTree_111 (by decide) rfl h (fun x5 h => ?_)
            show Run Γ rg κ Y_X8_usedByTree 112 [(40, 0), (0, x4), (0, a2), (0, x5)] [] D3 Φ
            refine run_pM_usedByTree_112 R a2 ?_ fu x4 x5 D3 h
            intro x6 D4 h
            exact (hJ1 x6 D4 h)
          refine c_if_le (tgt := 103) d_X8_usedByTree_91 (by decide) (nz_w _) h (fun h => ?_) (fun h => ?_)
          · skip
            show Run Γ rg κ Y_X8_usedByTree 103 [(40, 0), (5, 0), (0, a2), (5, 0)] [(0, ((6 + (5 * v2)) + x2)), (0, a1)] D2 Φ
            refine r_iconst d_X8_usedByTree_103 ?_
            exact (hJ3 0 D2 h)
          · skip
            show Run Γ rg κ Y_X8_usedByTree 94 [(40, 0), (5, 0), (0, a2), (5, 0)] [(0, ((6 + (5 * v2)) + x2)), (0, a1)] D2 Φ
            refine r_aload_n d_X8_usedByTree_94 rfl (by decide) ?_
            refine r_getR (t := 50) d_X8_usedByTree_95 fk_RX8_62 sh_32 rfl (by decide) (R 32 rfl) ?_
            refine r_iload_n d_X8_usedByTree_98 rfl ?_
            refine c_iald d_X8_usedByTree_99 sh_50 (by decide) (R 50 rfl) (by decide) h (fun v5 h => ?_)
            refine r_goto (tgt := 104) d_X8_usedByTree_100 (by decide) ?_
            exact (hJ3 v5 D2 h)
        refine c_icmp_le (tgt := 83) d_X8_usedByTree_75 (by decide) (nz_w _) (nz_k rfl) h (fun h => ?_) (fun h => ?_)
        · skip
          show Run Γ rg κ Y_X8_usedByTree 83 [(40, 0), (0, a1), (0, a2), (5, 0)] [(0, (6 + (5 * v2))), (0, a1)] D Φ
          refine r_iconst d_X8_usedByTree_83 ?_
          exact Run.forget (ls' := [(40, 0), (5, 0), (0, a2), (5, 0)]) ⟨Or.inr rfl, Or.inl rfl, Or.inr rfl, Or.inr rfl, trivial⟩ (hJ2 0 D h)
        · skip
          show Run Γ rg κ Y_X8_usedByTree 78 [(40, 0), (0, a1), (0, a2), (5, 0)] [(0, (6 + (5 * v2))), (0, a1)] D Φ
          refine r_bipush d_X8_usedByTree_78 (by decide) ?_
          refine r_goto (tgt := 84) d_X8_usedByTree_80 (by decide) ?_
          exact Run.forget (ls' := [(40, 0), (5, 0), (0, a2), (5, 0)]) ⟨Or.inr rfl, Or.inl rfl, Or.inr rfl, Or.inr rfl, trivial⟩ (hJ2 9 D h)
set_option maxRecDepth 20000 in
theorem run_pM_usedByTree {Γ : GG} {rg : Nat → Bool} {κ : Nat} {Φ : OT → DD → Prop} (R : cov rg rg1) {D : DD} (h : WP (some .int) κ Φ (pM_usedByTree D)) : Run Γ rg κ Y_X8_usedByTree 0 [(40, 0), (5, 0), (5, 0), (5, 0)] [] D Φ := by
  unfold pM_usedByTree at h
  show Run Γ rg κ Y_X8_usedByTree 0 [(40, 0), (5, 0), (5, 0), (5, 0)] [] D Φ
  refine r_aload_n d_X8_usedByTree_0 rfl (by decide) ?_
  refine r_iconst d_X8_usedByTree_1 ?_
  refine c_putI (k := 42) d_X8_usedByTree_2 pk_RX8_120 sh_32 rfl (by decide) (R 32 rfl) h (fun D1 h => ?_)
  refine r_iconst d_X8_usedByTree_5 ?_
  refine r_istore_n d_X8_usedByTree_6 (by decide) rfl ?_
  show Run Γ rg κ Y_X8_usedByTree 7 [(40, 0), (0, 0), (5, 0), (5, 0)] [] D1 Φ
  refine r_iconst d_X8_usedByTree_7 ?_
  refine r_istore_n d_X8_usedByTree_8 (by decide) rfl ?_
  show Run Γ rg κ Y_X8_usedByTree 9 [(40, 0), (0, 0), (0, 0), (5, 0)] [] D1 Φ
  refine run_pM_usedByTree_9 R ?_ fu 0 0 D1 h
  intro x1 D2 h
  show Run Γ rg κ Y_X8_usedByTree 39 [(40, 0), (0, x1), (5, 0), (5, 0)] [] D2 Φ
  refine r_iconst d_X8_usedByTree_39 ?_
  refine r_istore_n d_X8_usedByTree_40 (by decide) rfl ?_
  show Run Γ rg κ Y_X8_usedByTree 41 [(40, 0), (0, x1), (0, 0), (5, 0)] [] D2 Φ
  exact run_pM_usedByTree_41 R fu x1 0 D2 h
set_option maxRecDepth 20000 in
theorem run_pM_watch {Γ : GG} {rg : Nat → Bool} {κ : Nat} {Φ : OT → DD → Prop} (R : cov rg rg1) (p1 : Int) (p2 : Int) (p3 : Int) {D : DD} (h : WP (some .boolean) κ Φ (pM_watch p1 p2 p3 D)) : Run Γ rg κ Y_X8_watch 0 [(40, 0), (0, p1), (0, p2), (0, p3), (5, 0), (5, 0)] [] D Φ := by
  unfold pM_watch at h
  show Run Γ rg κ Y_X8_watch 0 [(40, 0), (0, p1), (0, p2), (0, p3), (5, 0), (5, 0)] [] D Φ
  refine r_aload_n d_X8_watch_0 rfl (by decide) ?_
  refine r_iload_n d_X8_watch_1 rfl ?_
  refine c_callVi (t' := (some .boolean)) (a := 32) (z := 0) (as := [(0, p1)]) (rest := []) (ls' := [(40, 0), (0, p1)]) d_X8_watch_2 ck_RX8_191 rfl sh_32 rfl (by decide) (R 32 rfl) rfl rfl (Nat.le_of_ble_eq_true rfl) (Nat.le_of_ble_eq_true rfl) (by decide) rfl rfl (fun _ => rfl) (fun κ' Ψ hΨ => run_pM_isKey R _ hΨ) h (fun v1 D1 h => ?_)
  show Run Γ rg κ Y_X8_watch 5 [(40, 0), (0, p1), (0, p2), (0, p3), (5, 0), (5, 0)] [(0, v1)] D1 Φ
  refine r_istore d_X8_watch_5 (by decide) rfl ?_
  show Run Γ rg κ Y_X8_watch 7 [(40, 0), (0, p1), (0, p2), (0, p3), (0, v1), (5, 0)] [] D1 Φ
  refine r_aload_n d_X8_watch_7 rfl (by decide) ?_
  refine r_iload d_X8_watch_8 rfl ?_
  refine c_jn (fun J => ∀ (x1 : Int) (D2 : DD), WP (some .boolean) κ Φ (J x1 D2) → Run Γ rg κ Y_X8_watch 32 [(40, 0), (0, p1), (0, p2), (0, p3), (5, 0), (5, 0)] [(0, x1), (40, 0)] D2 Φ) h ?_ (fun J1 hJ1 h => ?_)
  · intro x1 D2 h
    show Run Γ rg κ Y_X8_watch 32 [(40, 0), (0, p1), (0, p2), (0, p3), (5, 0), (5, 0)] [(0, x1), (40, 0)] D2 Φ
    refine c_callVi (t' := (some .boolean)) (a := 32) (z := 0) (as := [(0, x1)]) (rest := []) (ls' := [(40, 0), (0, x1)]) d_X8_watch_32 ck_RX8_195 rfl sh_32 rfl (by decide) (R 32 rfl) rfl rfl (Nat.le_of_ble_eq_true rfl) (Nat.le_of_ble_eq_true rfl) (by decide) rfl rfl (fun _ => rfl) (fun κ' Ψ hΨ => run_pM_fails R _ hΨ) h (fun v2 D3 h => ?_)
    show Run Γ rg κ Y_X8_watch 35 [(40, 0), (0, p1), (0, p2), (0, p3), (5, 0), (5, 0)] [(0, v2)] D3 Φ
    refine c_if_eq (tgt := 40) d_X8_watch_35 (by decide) (nz_w _) h (fun h => ?_) (fun h => ?_)
    · skip
      show Run Γ rg κ Y_X8_watch 40 [(40, 0), (0, p1), (0, p2), (0, p3), (5, 0), (5, 0)] [] D3 Φ
      refine r_aload_n d_X8_watch_40 rfl (by decide) ?_
      refine r_getR (t := 59) d_X8_watch_41 fk_RX8_89 sh_32 rfl (by decide) (R 32 rfl) ?_
      refine r_iload_n d_X8_watch_44 rfl ?_
      refine c_iald d_X8_watch_45 sh_59 (by decide) (R 59 rfl) (by decide) h (fun v3 h => ?_)
      refine c_jn (fun J => ∀ (x2 : Int) (D4 : DD), WP (some .boolean) κ Φ (J x2 D4) → Run Γ rg κ Y_X8_watch 54 [(40, 0), (0, p1), (0, p2), (0, p3), (5, 0), (5, 0)] [(0, x2)] D4 Φ) h ?_ (fun J2 hJ2 h => ?_)
      · intro x2 D4 h
        show Run Γ rg κ Y_X8_watch 54 [(40, 0), (0, p1), (0, p2), (0, p3), (5, 0), (5, 0)] [(0, x2)] D4 Φ
        refine r_istore d_X8_watch_54 (by decide) rfl ?_
        show Run Γ rg κ Y_X8_watch 56 [(40, 0), (0, p1), (0, p2), (0, p3), (5, 0), (0, x2)] [] D4 Φ
        refine r_aload_n d_X8_watch_56 rfl (by decide) ?_
        refine r_iload_n d_X8_watch_57 rfl ?_
        refine c_callVv (a := 32) (z := 0) (as := [(0, p1)]) (rest := []) (ls' := [(40, 0), (0, p1), (5, 0), (5, 0)]) d_X8_watch_58 ck_RX8_198 rfl sh_32 rfl (by decide) (R 32 rfl) rfl rfl (Nat.le_of_ble_eq_true rfl) (Nat.le_of_ble_eq_true rfl) (by decide) rfl rfl (fun κ' Ψ hΨ => run_pM_forgets R _ hΨ) h (fun _ D5 h => ?_)
        show Run Γ rg κ Y_X8_watch 61 [(40, 0), (0, p1), (0, p2), (0, p3), (5, 0), (0, x2)] [] D5 Φ
        refine r_aload_n d_X8_watch_61 rfl (by decide) ?_
        refine r_getR (t := 59) d_X8_watch_62 fk_RX8_89 sh_32 rfl (by decide) (R 32 rfl) ?_
        refine r_iload_n d_X8_watch_65 rfl ?_
        refine r_iload_n d_X8_watch_66 rfl ?_
        refine c_iast d_X8_watch_67 sh_59 (by decide) (R 59 rfl) (by decide) h (fun D6 h => ?_)
        refine r_aload_n d_X8_watch_68 rfl (by decide) ?_
        refine r_getR (t := 60) d_X8_watch_69 fk_RX8_92 sh_32 rfl (by decide) (R 32 rfl) ?_
        show Run Γ rg κ Y_X8_watch 72 [(40, 0), (0, p1), (0, p2), (0, p3), (5, 0), (0, x2)] [(68, 0)] D6 Φ
        refine r_iload_n d_X8_watch_72 rfl ?_
        refine r_iload_n d_X8_watch_73 rfl ?_
        refine c_zast d_X8_watch_74 sh_60 (by decide) (R 60 rfl) (by decide) h (fun D7 h => ?_)
        refine r_iload d_X8_watch_75 rfl ?_
        refine c_if_ne (tgt := 84) d_X8_watch_77 (by decide) (nz_w _) h (fun h => ?_) (fun h => ?_)
        · skip
          show Run Γ rg κ Y_X8_watch 84 [(40, 0), (0, p1), (0, p2), (0, p3), (5, 0), (0, x2)] [] D7 Φ
          refine r_iconst d_X8_watch_84 ?_
          exact c_zret d_X8_watch_85 rfl (Or.inl rfl) h
        · skip
          show Run Γ rg κ Y_X8_watch 80 [(40, 0), (0, p1), (0, p2), (0, p3), (5, 0), (0, x2)] [] D7 Φ
          refine r_iconst d_X8_watch_80 ?_
          refine r_goto (tgt := 85) d_X8_watch_81 (by decide) ?_
          show Run Γ rg κ Y_X8_watch 85 [(40, 0), (0, p1), (0, p2), (0, p3), (5, 0), (0, x2)] [(0, 1)] D7 Φ
          exact c_zret d_X8_watch_85 rfl (Or.inr rfl) h
      refine c_if_le (tgt := 53) d_X8_watch_46 (by decide) (nz_w _) h (fun h => ?_) (fun h => ?_)
      · skip
        show Run Γ rg κ Y_X8_watch 53 [(40, 0), (0, p1), (0, p2), (0, p3), (5, 0), (5, 0)] [] D3 Φ
        refine r_iconst d_X8_watch_53 ?_
        exact (hJ2 0 D3 h)
      · skip
        show Run Γ rg κ Y_X8_watch 49 [(40, 0), (0, p1), (0, p2), (0, p3), (5, 0), (5, 0)] [] D3 Φ
        refine r_iconst d_X8_watch_49 ?_
        refine r_goto (tgt := 54) d_X8_watch_50 (by decide) ?_
        exact (hJ2 1 D3 h)
    · skip
      show Run Γ rg κ Y_X8_watch 38 [(40, 0), (0, p1), (0, p2), (0, p3), (5, 0), (5, 0)] [] D3 Φ
      refine r_iconst d_X8_watch_38 ?_
      exact c_zret d_X8_watch_39 rfl (Or.inl rfl) h
  refine c_if_ne (tgt := 17) d_X8_watch_10 (by decide) (nz_w _) h (fun h => ?_) (fun h => ?_)
  · skip
    show Run Γ rg κ Y_X8_watch 17 [(40, 0), (0, p1), (0, p2), (0, p3), (0, v1), (5, 0)] [(40, 0)] D1 Φ
    refine r_iload_n d_X8_watch_17 rfl ?_
    refine r_iconst d_X8_watch_18 ?_
    refine r_bipush d_X8_watch_19 (by decide) ?_
    refine c_callSPi (as := [(0, p2), (0, 1), (0, 7)]) (rest := [(40, 0)]) (ls' := [(0, p2), (0, 1), (0, 7)]) d_X8_watch_21 ck_RX8_124 rfl rfl rfl (Nat.le_of_ble_eq_true rfl) (Nat.le_of_ble_eq_true rfl) (by decide) rfl rfl (fun Ψ hΨ => run_pM_isIn R _ _ _ rfl hΨ) ?_
    show Run Γ rg κ Y_X8_watch 24 [(40, 0), (0, p1), (0, p2), (0, p3), (0, v1), (5, 0)] [(0, (pM_isIn p2 1 7)), (40, 0)] D1 Φ
    refine c_if_eq (tgt := 31) d_X8_watch_24 (by decide) (nz_b (pM_isIn_b p2 1 7)) h (fun h => ?_) (fun h => ?_)
    · skip
      show Run Γ rg κ Y_X8_watch 31 [(40, 0), (0, p1), (0, p2), (0, p3), (0, v1), (5, 0)] [(40, 0)] D1 Φ
      refine r_iconst d_X8_watch_31 ?_
      exact Run.forget (ls' := [(40, 0), (0, p1), (0, p2), (0, p3), (5, 0), (5, 0)]) ⟨Or.inr rfl, Or.inr rfl, Or.inr rfl, Or.inr rfl, Or.inl rfl, Or.inr rfl, trivial⟩ (hJ1 2 D1 h)
    · skip
      show Run Γ rg κ Y_X8_watch 27 [(40, 0), (0, p1), (0, p2), (0, p3), (0, v1), (5, 0)] [(40, 0)] D1 Φ
      refine r_iconst d_X8_watch_27 ?_
      refine r_goto (tgt := 32) d_X8_watch_28 (by decide) ?_
      exact Run.forget (ls' := [(40, 0), (0, p1), (0, p2), (0, p3), (5, 0), (5, 0)]) ⟨Or.inr rfl, Or.inr rfl, Or.inr rfl, Or.inr rfl, Or.inl rfl, Or.inr rfl, trivial⟩ (hJ1 0 D1 h)
  · skip
    show Run Γ rg κ Y_X8_watch 13 [(40, 0), (0, p1), (0, p2), (0, p3), (0, v1), (5, 0)] [(40, 0)] D1 Φ
    refine r_iconst d_X8_watch_13 ?_
    refine r_goto (tgt := 32) d_X8_watch_14 (by decide) ?_
    exact Run.forget (ls' := [(40, 0), (0, p1), (0, p2), (0, p3), (5, 0), (5, 0)]) ⟨Or.inr rfl, Or.inr rfl, Or.inr rfl, Or.inr rfl, Or.inl rfl, Or.inr rfl, trivial⟩ (hJ1 1 D1 h)
set_option maxRecDepth 20000 in
theorem run_pM_takeNotice_43 {Γ : GG} {rg : Nat → Bool} {κ : Nat} {Φ : OT → DD → Prop} (R : cov rg rg1) (a1 : Int) : ∀ (n : Nat) (a2 : Int) (D : DD), WP (some .int) κ Φ (pM_takeNotice_43 a1 n a2 D) → Run Γ rg κ Y_X8_takeNotice 43 [(40, 0), (0, a1), (0, a2)] [] D Φ := by
  intro n
  induction n with
  | zero => intro a2 D h; exact h.no.elim
  | succ n ih =>
    intro a2 D h
    rw [pM_takeNotice_43] at h
    show Run Γ rg κ Y_X8_takeNotice 43 [(40, 0), (0, a1), (0, a2)] [] D Φ
    refine r_iload_n d_X8_takeNotice_43 rfl ?_
    refine r_aload_n d_X8_takeNotice_44 rfl (by decide) ?_
    refine r_getI d_X8_takeNotice_45 fk_RX8_185 sh_32 rfl (by decide) (by decide) (R 32 rfl) ?_
    refine c_icmp_ge (tgt := 85) d_X8_takeNotice_48 (by decide) (nz_w _) (nz_w _) h (fun h => ?_) (fun h => ?_)
    · skip
      show Run Γ rg κ Y_X8_takeNotice 85 [(40, 0), (0, a1), (0, a2)] [] D Φ
      refine r_iload_n d_X8_takeNotice_85 rfl ?_
      exact c_iret d_X8_takeNotice_86 rfl h
    · skip
      show Run Γ rg κ Y_X8_takeNotice 51 [(40, 0), (0, a1), (0, a2)] [] D Φ
      refine r_aload_n d_X8_takeNotice_51 rfl (by decide) ?_
      refine r_getR (t := 62) d_X8_takeNotice_52 fk_RX8_98 sh_32 rfl (by decide) (R 32 rfl) ?_
      refine r_iload_n d_X8_takeNotice_55 rfl ?_
      refine r_aload_n d_X8_takeNotice_56 rfl (by decide) ?_
      refine r_getR (t := 62) d_X8_takeNotice_57 fk_RX8_98 sh_32 rfl (by decide) (R 32 rfl) ?_
      refine r_iload_n d_X8_takeNotice_60 rfl ?_
      refine r_iconst d_X8_takeNotice_61 ?_
      refine r_iadd d_X8_takeNotice_62 ?_
      refine c_iald d_X8_takeNotice_63 sh_62 (by decide) (R 62 rfl) (by decide) h (fun v1 h => ?_)
      refine c_iast d_X8_takeNotice_64 sh_62 (by decide) (R 62 rfl) (by decide) h (fun D1 h => ?_)
      refine r_aload_n d_X8_takeNotice_65 rfl (by decide) ?_
      show Run Γ rg κ Y_X8_takeNotice 66 [(40, 0), (0, a1), (0, a2)] [(40, 0)] D1 Φ
      refine r_getR (t := 63) d_X8_takeNotice_66 fk_RX8_101 sh_32 rfl (by decide) (R 32 rfl) ?_
      refine r_iload_n d_X8_takeNotice_69 rfl ?_
      refine r_aload_n d_X8_takeNotice_70 rfl (by decide) ?_
      refine r_getR (t := 63) d_X8_takeNotice_71 fk_RX8_101 sh_32 rfl (by decide) (R 32 rfl) ?_
      refine r_iload_n d_X8_takeNotice_74 rfl ?_
      refine r_iconst d_X8_takeNotice_75 ?_
      refine r_iadd d_X8_takeNotice_76 ?_
      refine c_iald d_X8_takeNotice_77 sh_63 (by decide) (R 63 rfl) (by decide) h (fun v2 h => ?_)
      refine c_iast d_X8_takeNotice_78 sh_63 (by decide) (R 63 rfl) (by decide) h (fun D2 h => ?_)
      refine r_iinc d_X8_takeNotice_79 rfl (by decide) rfl ?_
      show Run Γ rg κ Y_X8_takeNotice 82 [(40, 0), (0, a1), (0, (a2 + 1))] [] D2 Φ
      refine r_goto (tgt := 43) d_X8_takeNotice_82 (by decide) ?_
      exact (ih (a2 + 1) D2 h)
set_option maxRecDepth 20000 in
theorem run_pM_takeNotice {Γ : GG} {rg : Nat → Bool} {κ : Nat} {Φ : OT → DD → Prop} (R : cov rg rg1) {D : DD} (h : WP (some .int) κ Φ (pM_takeNotice D)) : Run Γ rg κ Y_X8_takeNotice 0 [(40, 0), (5, 0), (5, 0)] [] D Φ := by
  unfold pM_takeNotice at h
  show Run Γ rg κ Y_X8_takeNotice 0 [(40, 0), (5, 0), (5, 0)] [] D Φ
  refine r_aload_n d_X8_takeNotice_0 rfl (by decide) ?_
  refine r_iconst d_X8_takeNotice_1 ?_
  refine c_putI (k := 42) d_X8_takeNotice_2 pk_RX8_120 sh_32 rfl (by decide) (R 32 rfl) h (fun D1 h => ?_)
  refine r_aload_n d_X8_takeNotice_5 rfl (by decide) ?_
  refine r_getI d_X8_takeNotice_6 fk_RX8_185 sh_32 rfl (by decide) (by decide) (R 32 rfl) ?_
  refine c_if_ne (tgt := 14) d_X8_takeNotice_9 (by decide) (nz_w _) h (fun h => ?_) (fun h => ?_)
  · skip
    show Run Γ rg κ Y_X8_takeNotice 14 [(40, 0), (5, 0), (5, 0)] [] D1 Φ
    refine r_bipush d_X8_takeNotice_14 (by decide) ?_
    refine r_aload_n d_X8_takeNotice_16 rfl (by decide) ?_
    refine r_getR (t := 62) d_X8_takeNotice_17 fk_RX8_98 sh_32 rfl (by decide) (R 32 rfl) ?_
    refine r_iconst d_X8_takeNotice_20 ?_
    refine c_iald0 (k := 0) d_X8_takeNotice_21 sh_62 (by decide) (R 62 rfl) (by decide) rfl (by decide) ?_
    refine r_imul d_X8_takeNotice_22 ?_
    refine r_aload_n d_X8_takeNotice_23 rfl (by decide) ?_
    refine r_getR (t := 63) d_X8_takeNotice_24 fk_RX8_101 sh_32 rfl (by decide) (R 32 rfl) ?_
    refine r_iconst d_X8_takeNotice_27 ?_
    refine c_iald0 (k := 0) d_X8_takeNotice_28 sh_63 (by decide) (R 63 rfl) (by decide) rfl (by decide) ?_
    refine r_iadd d_X8_takeNotice_29 ?_
    show Run Γ rg κ Y_X8_takeNotice 30 [(40, 0), (5, 0), (5, 0)] [(0, ((10 * (D1 62 0)) + (D1 63 0)))] D1 Φ
    refine c_lt_n d_X8_takeNotice_30 (by decide) rfl h (fun x1 h => ?_)
    show Run Γ rg κ Y_X8_takeNotice 31 [(40, 0), (0, x1), (5, 0)] [] D1 Φ
    refine r_aload_n d_X8_takeNotice_31 rfl (by decide) ?_
    refine r_dup d_X8_takeNotice_32 (by decide) ?_
    refine r_getI d_X8_takeNotice_33 fk_RX8_185 sh_32 rfl (by decide) (by decide) (R 32 rfl) ?_
    refine r_iconst d_X8_takeNotice_36 ?_
    refine r_isub d_X8_takeNotice_37 ?_
    refine c_putI (k := 29) d_X8_takeNotice_38 pk_RX8_185 sh_32 rfl (by decide) (R 32 rfl) h (fun D2 h => ?_)
    refine r_iconst d_X8_takeNotice_41 ?_
    refine r_istore_n d_X8_takeNotice_42 (by decide) rfl ?_
    show Run Γ rg κ Y_X8_takeNotice 43 [(40, 0), (0, x1), (0, 0)] [] D2 Φ
    exact run_pM_takeNotice_43 R x1 fu 0 D2 h
  · skip
    show Run Γ rg κ Y_X8_takeNotice 12 [(40, 0), (5, 0), (5, 0)] [] D1 Φ
    refine r_iconst d_X8_takeNotice_12 ?_
    exact c_iret d_X8_takeNotice_13 rfl h
set_option maxRecDepth 20000 in
theorem run_pM_dirty_9 {Γ : GG} {rg : Nat → Bool} {κ : Nat} {Φ : OT → DD → Prop} (R : cov rg rg1) : ∀ (n : Nat) (a1 : Int) (a3 : Int) (D : DD), WP (some .long) κ Φ (pM_dirty_9 n a1 a3 D) → Run Γ rg κ Y_X8_dirty 9 [(40, 0), (1, a1), (5, 0), (0, a3)] [] D Φ := by
  intro n
  induction n with
  | zero => intro a1 a3 D h; exact h.no.elim
  | succ n ih =>
    intro a1 a3 D h
    rw [pM_dirty_9] at h
    show Run Γ rg κ Y_X8_dirty 9 [(40, 0), (1, a1), (5, 0), (0, a3)] [] D Φ
    refine r_iload_n d_X8_dirty_9 rfl ?_
    refine r_bipush d_X8_dirty_10 (by decide) ?_
    refine c_icmp_ge (tgt := 40) d_X8_dirty_12 (by decide) (nz_w _) (nz_k rfl) h (fun h => ?_) (fun h => ?_)
    · skip
      show Run Γ rg κ Y_X8_dirty 40 [(40, 0), (1, a1), (5, 0), (0, a3)] [] D Φ
      refine r_lload_n d_X8_dirty_40 rfl ?_
      exact c_lret d_X8_dirty_41 rfl h
    · skip
      show Run Γ rg κ Y_X8_dirty 15 [(40, 0), (1, a1), (5, 0), (0, a3)] [] D Φ
      refine r_lload_n d_X8_dirty_15 rfl ?_
      refine r_aload_n d_X8_dirty_16 rfl (by decide) ?_
      refine r_getR (t := 58) d_X8_dirty_17 fk_RX8_86 sh_32 rfl (by decide) (R 32 rfl) ?_
      refine r_iload_n d_X8_dirty_20 rfl ?_
      refine c_zald d_X8_dirty_21 sh_58 (by decide) (R 58 rfl) (by decide) h (fun v1 h => ?_)
      refine c_jn (fun J => ∀ (x1 : Int) (D1 : DD), WP (some .long) κ Φ (J x1 D1) → Run Γ rg κ Y_X8_dirty 32 [(40, 0), (5, 0), (5, 0), (0, a3)] [(1, x1), (1, a1)] D1 Φ) h ?_ (fun J1 hJ1 h => ?_)
      · intro x1 D1 h
        show Run Γ rg κ Y_X8_dirty 32 [(40, 0), (5, 0), (5, 0), (0, a3)] [(1, x1), (1, a1)] D1 Φ
        refine c_lor d_X8_dirty_32 ?_
        refine c_ltj_n d_X8_dirty_33 (by decide) rfl h (fun x2 h => ?_)
        show Run Γ rg κ Y_X8_dirty 34 [(40, 0), (1, x2), (5, 0), (0, a3)] [] D1 Φ
        refine r_iinc d_X8_dirty_34 rfl (by decide) rfl ?_
        show Run Γ rg κ Y_X8_dirty 37 [(40, 0), (1, x2), (5, 0), (0, (a3 + 1))] [] D1 Φ
        refine r_goto (tgt := 9) d_X8_dirty_37 (by decide) ?_
        exact (ih x2 (a3 + 1) D1 h)
      refine c_if_eq (tgt := 31) d_X8_dirty_22 (by decide) (nz_w _) h (fun h => ?_) (fun h => ?_)
      · skip
        show Run Γ rg κ Y_X8_dirty 31 [(40, 0), (1, a1), (5, 0), (0, a3)] [(1, a1)] D Φ
        refine c_lconst d_X8_dirty_31 rfl ?_
        exact Run.forget (ls' := [(40, 0), (5, 0), (5, 0), (0, a3)]) ⟨Or.inr rfl, Or.inl rfl, Or.inr rfl, Or.inr rfl, trivial⟩ (hJ1 0 D h)
      · skip
        show Run Γ rg κ Y_X8_dirty 25 [(40, 0), (1, a1), (5, 0), (0, a3)] [(1, a1)] D Φ
        refine c_lconst d_X8_dirty_25 rfl ?_
        refine r_iload_n d_X8_dirty_26 rfl ?_
        refine c_lshl d_X8_dirty_27 ?_
        refine r_goto (tgt := 32) d_X8_dirty_28 (by decide) ?_
        exact Run.forget (ls' := [(40, 0), (5, 0), (5, 0), (0, a3)]) ⟨Or.inr rfl, Or.inl rfl, Or.inr rfl, Or.inr rfl, trivial⟩ (hJ1 (lshlZ 1 a3) D h)
set_option maxRecDepth 20000 in
theorem run_pM_dirty {Γ : GG} {rg : Nat → Bool} {κ : Nat} {Φ : OT → DD → Prop} (R : cov rg rg1) {D : DD} (h : WP (some .long) κ Φ (pM_dirty D)) : Run Γ rg κ Y_X8_dirty 0 [(40, 0), (5, 0), (5, 0), (5, 0)] [] D Φ := by
  unfold pM_dirty at h
  show Run Γ rg κ Y_X8_dirty 0 [(40, 0), (5, 0), (5, 0), (5, 0)] [] D Φ
  refine r_aload_n d_X8_dirty_0 rfl (by decide) ?_
  refine r_iconst d_X8_dirty_1 ?_
  refine c_putI (k := 42) d_X8_dirty_2 pk_RX8_120 sh_32 rfl (by decide) (R 32 rfl) h (fun D1 h => ?_)
  refine c_lconst d_X8_dirty_5 rfl ?_
  refine c_ltj_n d_X8_dirty_6 (by decide) rfl h (fun x1 h => ?_)
  show Run Γ rg κ Y_X8_dirty 7 [(40, 0), (1, x1), (5, 0), (5, 0)] [] D1 Φ
  refine r_iconst d_X8_dirty_7 ?_
  refine r_istore_n d_X8_dirty_8 (by decide) rfl ?_
  show Run Γ rg κ Y_X8_dirty 9 [(40, 0), (1, x1), (5, 0), (0, 0)] [] D1 Φ
  exact run_pM_dirty_9 R fu x1 0 D1 h
set_option maxRecDepth 20000 in
theorem run_pM_dirtyOnes_4 {Γ : GG} {rg : Nat → Bool} {κ : Nat} {Φ : OT → DD → Prop} (R : cov rg rg1) : ∀ (n : Nat) (a1 : Int) (a2 : Int) (D : DD), WP (some .int) κ Φ (pM_dirtyOnes_4 n a1 a2 D) → Run Γ rg κ Y_X8_dirtyOnes 4 [(40, 0), (0, a1), (0, a2)] [] D Φ := by
  intro n
  induction n with
  | zero => intro a1 a2 D h; exact h.no.elim
  | succ n ih =>
    intro a1 a2 D h
    rw [pM_dirtyOnes_4] at h
    show Run Γ rg κ Y_X8_dirtyOnes 4 [(40, 0), (0, a1), (0, a2)] [] D Φ
    refine r_iload_n d_X8_dirtyOnes_4 rfl ?_
    refine r_bipush d_X8_dirtyOnes_5 (by decide) ?_
    refine c_icmp_ge (tgt := 33) d_X8_dirtyOnes_7 (by decide) (nz_w _) (nz_k rfl) h (fun h => ?_) (fun h => ?_)
    · skip
      show Run Γ rg κ Y_X8_dirtyOnes 33 [(40, 0), (0, a1), (0, a2)] [] D Φ
      refine r_iload_n d_X8_dirtyOnes_33 rfl ?_
      exact c_iret d_X8_dirtyOnes_34 rfl h
    · skip
      show Run Γ rg κ Y_X8_dirtyOnes 10 [(40, 0), (0, a1), (0, a2)] [] D Φ
      refine r_iload_n d_X8_dirtyOnes_10 rfl ?_
      refine r_aload_n d_X8_dirtyOnes_11 rfl (by decide) ?_
      refine r_getR (t := 58) d_X8_dirtyOnes_12 fk_RX8_86 sh_32 rfl (by decide) (R 32 rfl) ?_
      refine r_iload_n d_X8_dirtyOnes_15 rfl ?_
      refine c_zald d_X8_dirtyOnes_16 sh_58 (by decide) (R 58 rfl) (by decide) h (fun v1 h => ?_)
      refine c_jn (fun J => ∀ (x1 : Int) (D1 : DD), WP (some .int) κ Φ (J x1 D1) → Run Γ rg κ Y_X8_dirtyOnes 25 [(40, 0), (5, 0), (0, a2)] [(0, x1), (0, a1)] D1 Φ) h ?_ (fun J1 hJ1 h => ?_)
      · intro x1 D1 h
        show Run Γ rg κ Y_X8_dirtyOnes 25 [(40, 0), (5, 0), (0, a2)] [(0, x1), (0, a1)] D1 Φ
        refine r_iadd d_X8_dirtyOnes_25 ?_
        refine c_lt_n d_X8_dirtyOnes_26 (by decide) rfl h (fun x2 h => ?_)
        show Run Γ rg κ Y_X8_dirtyOnes 27 [(40, 0), (0, x2), (0, a2)] [] D1 Φ
        refine r_iinc d_X8_dirtyOnes_27 rfl (by decide) rfl ?_
        show Run Γ rg κ Y_X8_dirtyOnes 30 [(40, 0), (0, x2), (0, (a2 + 1))] [] D1 Φ
        refine r_goto (tgt := 4) d_X8_dirtyOnes_30 (by decide) ?_
        exact (ih x2 (a2 + 1) D1 h)
      refine c_if_eq (tgt := 24) d_X8_dirtyOnes_17 (by decide) (nz_w _) h (fun h => ?_) (fun h => ?_)
      · skip
        show Run Γ rg κ Y_X8_dirtyOnes 24 [(40, 0), (0, a1), (0, a2)] [(0, a1)] D Φ
        refine r_iconst d_X8_dirtyOnes_24 ?_
        exact Run.forget (ls' := [(40, 0), (5, 0), (0, a2)]) ⟨Or.inr rfl, Or.inl rfl, Or.inr rfl, trivial⟩ (hJ1 0 D h)
      · skip
        show Run Γ rg κ Y_X8_dirtyOnes 20 [(40, 0), (0, a1), (0, a2)] [(0, a1)] D Φ
        refine r_iconst d_X8_dirtyOnes_20 ?_
        refine r_goto (tgt := 25) d_X8_dirtyOnes_21 (by decide) ?_
        exact Run.forget (ls' := [(40, 0), (5, 0), (0, a2)]) ⟨Or.inr rfl, Or.inl rfl, Or.inr rfl, trivial⟩ (hJ1 1 D h)
set_option maxRecDepth 20000 in
theorem run_pM_dirtyOnes {Γ : GG} {rg : Nat → Bool} {κ : Nat} {Φ : OT → DD → Prop} (R : cov rg rg1) {D : DD} (h : WP (some .int) κ Φ (pM_dirtyOnes D)) : Run Γ rg κ Y_X8_dirtyOnes 0 [(40, 0), (5, 0), (5, 0)] [] D Φ := by
  unfold pM_dirtyOnes at h
  show Run Γ rg κ Y_X8_dirtyOnes 0 [(40, 0), (5, 0), (5, 0)] [] D Φ
  refine r_iconst d_X8_dirtyOnes_0 ?_
  refine r_istore_n d_X8_dirtyOnes_1 (by decide) rfl ?_
  show Run Γ rg κ Y_X8_dirtyOnes 2 [(40, 0), (0, 0), (5, 0)] [] D Φ
  refine r_iconst d_X8_dirtyOnes_2 ?_
  refine r_istore_n d_X8_dirtyOnes_3 (by decide) rfl ?_
  show Run Γ rg κ Y_X8_dirtyOnes 4 [(40, 0), (0, 0), (0, 0)] [] D Φ
  exact run_pM_dirtyOnes_4 R fu 0 0 D h
set_option maxRecDepth 20000 in
theorem run_pM_cleans_2 {Γ : GG} {rg : Nat → Bool} {κ : Nat} {Φ : OT → DD → Prop} (R : cov rg rg1) : ∀ (n : Nat) (a1 : Int) (D : DD), WP none κ Φ (pM_cleans_2 n a1 D) → Run Γ rg κ Y_X8_cleans 2 [(40, 0), (0, a1)] [] D Φ := by
  intro n
  induction n with
  | zero => intro a1 D h; exact h.no.elim
  | succ n ih =>
    intro a1 D h
    rw [pM_cleans_2] at h
    show Run Γ rg κ Y_X8_cleans 2 [(40, 0), (0, a1)] [] D Φ
    refine r_iload_n d_X8_cleans_2 rfl ?_
    refine r_bipush d_X8_cleans_3 (by decide) ?_
    refine c_icmp_ge (tgt := 21) d_X8_cleans_5 (by decide) (nz_w _) (nz_k rfl) h (fun h => ?_) (fun h => ?_)
    · skip
      show Run Γ rg κ Y_X8_cleans 21 [(40, 0), (0, a1)] [] D Φ
      exact c_vret d_X8_cleans_21 rfl h
    · skip
      show Run Γ rg κ Y_X8_cleans 8 [(40, 0), (0, a1)] [] D Φ
      refine r_aload_n d_X8_cleans_8 rfl (by decide) ?_
      refine r_getR (t := 58) d_X8_cleans_9 fk_RX8_86 sh_32 rfl (by decide) (R 32 rfl) ?_
      refine r_iload_n d_X8_cleans_12 rfl ?_
      refine r_iconst d_X8_cleans_13 ?_
      refine c_zast d_X8_cleans_14 sh_58 (by decide) (R 58 rfl) (by decide) h (fun D1 h => ?_)
      refine r_iinc d_X8_cleans_15 rfl (by decide) rfl ?_
      show Run Γ rg κ Y_X8_cleans 18 [(40, 0), (0, (a1 + 1))] [] D1 Φ
      refine r_goto (tgt := 2) d_X8_cleans_18 (by decide) ?_
      exact (ih (a1 + 1) D1 h)
set_option maxRecDepth 20000 in
theorem run_pM_cleans {Γ : GG} {rg : Nat → Bool} {κ : Nat} {Φ : OT → DD → Prop} (R : cov rg rg1) {D : DD} (h : WP none κ Φ (pM_cleans D)) : Run Γ rg κ Y_X8_cleans 0 [(40, 0), (5, 0)] [] D Φ := by
  unfold pM_cleans at h
  show Run Γ rg κ Y_X8_cleans 0 [(40, 0), (5, 0)] [] D Φ
  refine r_iconst d_X8_cleans_0 ?_
  refine r_istore_n d_X8_cleans_1 (by decide) rfl ?_
  show Run Γ rg κ Y_X8_cleans 2 [(40, 0), (0, 0)] [] D Φ
  exact run_pM_cleans_2 R fu 0 D h
set_option maxRecDepth 20000 in
theorem run_pM_copies_34 {Γ : GG} {rg : Nat → Bool} {κ : Nat} {Φ : OT → DD → Prop} (R : cov rg rg1) (a1 : Int) (a2 : Int) {K : DD → Res} (hK : ∀ (D : DD), WP none κ Φ (K D) → Run Γ rg κ Y_X8_copies 68 [(40, 0), (0, a1), (0, a2), (5, 0)] [] D Φ) : ∀ (n : Nat) (a3 : Int) (D : DD), WP none κ Φ (pM_copies_34 a1 a2 n a3 D K) → Run Γ rg κ Y_X8_copies 34 [(40, 0), (0, a1), (0, a2), (0, a3)] [] D Φ := by
  intro n
  induction n with
  | zero => intro a3 D h; exact h.no.elim
  | succ n ih =>
    intro a3 D h
    rw [pM_copies_34] at h
    show Run Γ rg κ Y_X8_copies 34 [(40, 0), (0, a1), (0, a2), (0, a3)] [] D Φ
    refine r_iload_n d_X8_copies_34 rfl ?_
    refine r_bipush d_X8_copies_35 (by decide) ?_
    refine c_icmp_ge (tgt := 68) d_X8_copies_37 (by decide) (nz_w _) (nz_k rfl) h (fun h => ?_) (fun h => ?_)
    · skip
      exact Run.forget (ls' := [(40, 0), (0, a1), (0, a2), (5, 0)]) ⟨Or.inr rfl, Or.inr rfl, Or.inr rfl, Or.inl rfl, trivial⟩ (hK D h)
    · skip
      show Run Γ rg κ Y_X8_copies 40 [(40, 0), (0, a1), (0, a2), (0, a3)] [] D Φ
      refine r_aload_n d_X8_copies_40 rfl (by decide) ?_
      refine r_getR (t := 36) d_X8_copies_41 fk_RX8_19 sh_32 rfl (by decide) (R 32 rfl) ?_
      refine r_bipush d_X8_copies_44 (by decide) ?_
      refine r_iload_n d_X8_copies_46 rfl ?_
      refine r_imul d_X8_copies_47 ?_
      refine r_iload_n d_X8_copies_48 rfl ?_
      refine r_iadd d_X8_copies_49 ?_
      refine r_aload_n d_X8_copies_50 rfl (by decide) ?_
      refine r_getR (t := 36) d_X8_copies_51 fk_RX8_19 sh_32 rfl (by decide) (R 32 rfl) ?_
      refine r_bipush d_X8_copies_54 (by decide) ?_
      refine r_iload_n d_X8_copies_56 rfl ?_
      show Run Γ rg κ Y_X8_copies 57 [(40, 0), (0, a1), (0, a2), (0, a3)] [(0, a1), (0, 80), (44, 0), (0, ((80 * a2) + a3)), (44, 0)] D Φ
      refine r_imul d_X8_copies_57 ?_
      refine r_iload_n d_X8_copies_58 rfl ?_
      refine r_iadd d_X8_copies_59 ?_
      refine c_zald d_X8_copies_60 sh_36 (by decide) (R 36 rfl) (by decide) h (fun v1 h => ?_)
      refine c_zast d_X8_copies_61 sh_36 (by decide) (R 36 rfl) (by decide) h (fun D1 h => ?_)
      refine r_iinc d_X8_copies_62 rfl (by decide) rfl ?_
      show Run Γ rg κ Y_X8_copies 65 [(40, 0), (0, a1), (0, a2), (0, (a3 + 1))] [] D1 Φ
      refine r_goto (tgt := 34) d_X8_copies_65 (by decide) ?_
      exact (ih (a3 + 1) D1 h)
set_option maxRecDepth 20000 in
theorem run_pM_copies {Γ : GG} {rg : Nat → Bool} {κ : Nat} {Φ : OT → DD → Prop} (R : cov rg rg1) (p1 : Int) (p2 : Int) {D : DD} (h : WP none κ Φ (pM_copies p1 p2 D)) : Run Γ rg κ Y_X8_copies 0 [(40, 0), (0, p1), (0, p2), (5, 0)] [] D Φ := by
  unfold pM_copies at h
  show Run Γ rg κ Y_X8_copies 0 [(40, 0), (0, p1), (0, p2), (5, 0)] [] D Φ
  refine r_aload_n d_X8_copies_0 rfl (by decide) ?_
  refine r_getR (t := 33) d_X8_copies_1 fk_RX8_7 sh_32 rfl (by decide) (R 32 rfl) ?_
  refine r_iload_n d_X8_copies_4 rfl ?_
  refine r_iload_n d_X8_copies_5 rfl ?_
  refine r_sipush d_X8_copies_6 (by decide) ?_
  refine c_callSv (as := [(41, 0), (0, p1), (0, p2), (0, 1024)]) (rest := []) (ls' := [(41, 0), (0, p1), (0, p2), (0, 1024), (5, 0)]) d_X8_copies_9 ck_RX8_128 rfl rfl rfl (Nat.le_of_ble_eq_true rfl) (Nat.le_of_ble_eq_true rfl) (by decide) rfl rfl (fun κ' Ψ hΨ => run_rowF sh_33 (by decide) (R 33 rfl) (by decide) _ _ _ hΨ) h (fun _ D1 h => ?_)
  show Run Γ rg κ Y_X8_copies 12 [(40, 0), (0, p1), (0, p2), (5, 0)] [] D1 Φ
  refine r_aload_n d_X8_copies_12 rfl (by decide) ?_
  refine r_getR (t := 34) d_X8_copies_13 fk_RX8_13 sh_32 rfl (by decide) (R 32 rfl) ?_
  refine r_iload_n d_X8_copies_16 rfl ?_
  refine r_iload_n d_X8_copies_17 rfl ?_
  refine r_iconst d_X8_copies_18 ?_
  show Run Γ rg κ Y_X8_copies 19 [(40, 0), (0, p1), (0, p2), (5, 0)] [(0, 1), (0, p2), (0, p1), (42, 0)] D1 Φ
  refine c_callSv (as := [(42, 0), (0, p1), (0, p2), (0, 1)]) (rest := []) (ls' := [(42, 0), (0, p1), (0, p2), (0, 1), (5, 0)]) d_X8_copies_19 ck_RX8_128 rfl rfl rfl (Nat.le_of_ble_eq_true rfl) (Nat.le_of_ble_eq_true rfl) (by decide) rfl rfl (fun κ' Ψ hΨ => run_rowF sh_34 (by decide) (R 34 rfl) (by decide) _ _ _ hΨ) h (fun _ D2 h => ?_)
  show Run Γ rg κ Y_X8_copies 22 [(40, 0), (0, p1), (0, p2), (5, 0)] [] D2 Φ
  refine r_aload_n d_X8_copies_22 rfl (by decide) ?_
  refine r_getR (t := 35) d_X8_copies_23 fk_RX8_16 sh_32 rfl (by decide) (R 32 rfl) ?_
  refine r_iload_n d_X8_copies_26 rfl ?_
  refine r_iload_n d_X8_copies_27 rfl ?_
  refine r_iconst d_X8_copies_28 ?_
  refine c_callSv (as := [(43, 0), (0, p1), (0, p2), (0, 1)]) (rest := []) (ls' := [(43, 0), (0, p1), (0, p2), (0, 1), (5, 0)]) d_X8_copies_29 ck_RX8_128 rfl rfl rfl (Nat.le_of_ble_eq_true rfl) (Nat.le_of_ble_eq_true rfl) (by decide) rfl rfl (fun κ' Ψ hΨ => run_rowF sh_35 (by decide) (R 35 rfl) (by decide) _ _ _ hΨ) h (fun _ D3 h => ?_)
  show Run Γ rg κ Y_X8_copies 32 [(40, 0), (0, p1), (0, p2), (5, 0)] [] D3 Φ
  refine r_iconst d_X8_copies_32 ?_
  refine r_istore_n d_X8_copies_33 (by decide) rfl ?_
  show Run Γ rg κ Y_X8_copies 34 [(40, 0), (0, p1), (0, p2), (0, 0)] [] D3 Φ
  refine run_pM_copies_34 R p1 p2 ?_ fu 0 D3 h
  intro D4 h
  show Run Γ rg κ Y_X8_copies 68 [(40, 0), (0, p1), (0, p2), (5, 0)] [] D4 Φ
  refine r_aload_n d_X8_copies_68 rfl (by decide) ?_
  refine r_getR (t := 37) d_X8_copies_69 fk_RX8_23 sh_32 rfl (by decide) (R 32 rfl) ?_
  refine r_iload_n d_X8_copies_72 rfl ?_
  refine r_iload_n d_X8_copies_73 rfl ?_
  refine r_bipush d_X8_copies_74 (by decide) ?_
  refine c_callSv (as := [(45, 0), (0, p1), (0, p2), (0, 80)]) (rest := []) (ls' := [(45, 0), (0, p1), (0, p2), (0, 80), (5, 0)]) d_X8_copies_76 ck_RX8_128 rfl rfl rfl (Nat.le_of_ble_eq_true rfl) (Nat.le_of_ble_eq_true rfl) (by decide) rfl rfl (fun κ' Ψ hΨ => run_rowF sh_37 (by decide) (R 37 rfl) (by decide) _ _ _ hΨ) h (fun _ D5 h => ?_)
  show Run Γ rg κ Y_X8_copies 79 [(40, 0), (0, p1), (0, p2), (5, 0)] [] D5 Φ
  refine r_aload_n d_X8_copies_79 rfl (by decide) ?_
  refine r_getR (t := 38) d_X8_copies_80 fk_RX8_26 sh_32 rfl (by decide) (R 32 rfl) ?_
  refine r_iload_n d_X8_copies_83 rfl ?_
  refine r_iload_n d_X8_copies_84 rfl ?_
  refine r_bipush d_X8_copies_85 (by decide) ?_
  show Run Γ rg κ Y_X8_copies 87 [(40, 0), (0, p1), (0, p2), (5, 0)] [(0, 80), (0, p2), (0, p1), (46, 0)] D5 Φ
  refine c_callSv (as := [(46, 0), (0, p1), (0, p2), (0, 80)]) (rest := []) (ls' := [(46, 0), (0, p1), (0, p2), (0, 80), (5, 0)]) d_X8_copies_87 ck_RX8_128 rfl rfl rfl (Nat.le_of_ble_eq_true rfl) (Nat.le_of_ble_eq_true rfl) (by decide) rfl rfl (fun κ' Ψ hΨ => run_rowF sh_38 (by decide) (R 38 rfl) (by decide) _ _ _ hΨ) h (fun _ D6 h => ?_)
  show Run Γ rg κ Y_X8_copies 90 [(40, 0), (0, p1), (0, p2), (5, 0)] [] D6 Φ
  refine r_aload_n d_X8_copies_90 rfl (by decide) ?_
  refine r_getR (t := 39) d_X8_copies_91 fk_RX8_29 sh_32 rfl (by decide) (R 32 rfl) ?_
  refine r_iload_n d_X8_copies_94 rfl ?_
  refine r_iload_n d_X8_copies_95 rfl ?_
  refine r_bipush d_X8_copies_96 (by decide) ?_
  refine c_callSv (as := [(47, 0), (0, p1), (0, p2), (0, 80)]) (rest := []) (ls' := [(47, 0), (0, p1), (0, p2), (0, 80), (5, 0)]) d_X8_copies_98 ck_RX8_128 rfl rfl rfl (Nat.le_of_ble_eq_true rfl) (Nat.le_of_ble_eq_true rfl) (by decide) rfl rfl (fun κ' Ψ hΨ => run_rowF sh_39 (by decide) (R 39 rfl) (by decide) _ _ _ hΨ) h (fun _ D7 h => ?_)
  show Run Γ rg κ Y_X8_copies 101 [(40, 0), (0, p1), (0, p2), (5, 0)] [] D7 Φ
  refine r_aload_n d_X8_copies_101 rfl (by decide) ?_
  refine r_getR (t := 40) d_X8_copies_102 fk_RX8_32 sh_32 rfl (by decide) (R 32 rfl) ?_
  refine r_iload_n d_X8_copies_105 rfl ?_
  refine r_iload_n d_X8_copies_106 rfl ?_
  refine r_bipush d_X8_copies_107 (by decide) ?_
  show Run Γ rg κ Y_X8_copies 109 [(40, 0), (0, p1), (0, p2), (5, 0)] [(0, 80), (0, p2), (0, p1), (48, 0)] D7 Φ
  refine c_callSv (as := [(48, 0), (0, p1), (0, p2), (0, 80)]) (rest := []) (ls' := [(48, 0), (0, p1), (0, p2), (0, 80), (5, 0)]) d_X8_copies_109 ck_RX8_128 rfl rfl rfl (Nat.le_of_ble_eq_true rfl) (Nat.le_of_ble_eq_true rfl) (by decide) rfl rfl (fun κ' Ψ hΨ => run_rowF sh_40 (by decide) (R 40 rfl) (by decide) _ _ _ hΨ) h (fun _ D8 h => ?_)
  show Run Γ rg κ Y_X8_copies 112 [(40, 0), (0, p1), (0, p2), (5, 0)] [] D8 Φ
  refine r_aload_n d_X8_copies_112 rfl (by decide) ?_
  refine r_getR (t := 41) d_X8_copies_113 fk_RX8_35 sh_32 rfl (by decide) (R 32 rfl) ?_
  refine r_iload_n d_X8_copies_116 rfl ?_
  refine r_iload_n d_X8_copies_117 rfl ?_
  refine r_bipush d_X8_copies_118 (by decide) ?_
  refine c_callSv (as := [(49, 0), (0, p1), (0, p2), (0, 80)]) (rest := []) (ls' := [(49, 0), (0, p1), (0, p2), (0, 80), (5, 0)]) d_X8_copies_120 ck_RX8_128 rfl rfl rfl (Nat.le_of_ble_eq_true rfl) (Nat.le_of_ble_eq_true rfl) (by decide) rfl rfl (fun κ' Ψ hΨ => run_rowF sh_41 (by decide) (R 41 rfl) (by decide) _ _ _ hΨ) h (fun _ D9 h => ?_)
  show Run Γ rg κ Y_X8_copies 123 [(40, 0), (0, p1), (0, p2), (5, 0)] [] D9 Φ
  refine r_aload_n d_X8_copies_123 rfl (by decide) ?_
  refine r_getR (t := 42) d_X8_copies_124 fk_RX8_38 sh_32 rfl (by decide) (R 32 rfl) ?_
  refine r_iload_n d_X8_copies_127 rfl ?_
  refine r_iload_n d_X8_copies_128 rfl ?_
  refine r_bipush d_X8_copies_129 (by decide) ?_
  show Run Γ rg κ Y_X8_copies 131 [(40, 0), (0, p1), (0, p2), (5, 0)] [(0, 80), (0, p2), (0, p1), (50, 0)] D9 Φ
  refine c_callSv (as := [(50, 0), (0, p1), (0, p2), (0, 80)]) (rest := []) (ls' := [(50, 0), (0, p1), (0, p2), (0, 80), (5, 0)]) d_X8_copies_131 ck_RX8_128 rfl rfl rfl (Nat.le_of_ble_eq_true rfl) (Nat.le_of_ble_eq_true rfl) (by decide) rfl rfl (fun κ' Ψ hΨ => run_rowF sh_42 (by decide) (R 42 rfl) (by decide) _ _ _ hΨ) h (fun _ D10 h => ?_)
  show Run Γ rg κ Y_X8_copies 134 [(40, 0), (0, p1), (0, p2), (5, 0)] [] D10 Φ
  refine r_aload_n d_X8_copies_134 rfl (by decide) ?_
  refine r_getR (t := 43) d_X8_copies_135 fk_RX8_41 sh_32 rfl (by decide) (R 32 rfl) ?_
  refine r_iload_n d_X8_copies_138 rfl ?_
  refine r_iload_n d_X8_copies_139 rfl ?_
  refine r_bipush d_X8_copies_140 (by decide) ?_
  refine c_callSv (as := [(51, 0), (0, p1), (0, p2), (0, 80)]) (rest := []) (ls' := [(51, 0), (0, p1), (0, p2), (0, 80), (5, 0)]) d_X8_copies_142 ck_RX8_128 rfl rfl rfl (Nat.le_of_ble_eq_true rfl) (Nat.le_of_ble_eq_true rfl) (by decide) rfl rfl (fun κ' Ψ hΨ => run_rowF sh_43 (by decide) (R 43 rfl) (by decide) _ _ _ hΨ) h (fun _ D11 h => ?_)
  show Run Γ rg κ Y_X8_copies 145 [(40, 0), (0, p1), (0, p2), (5, 0)] [] D11 Φ
  refine r_aload_n d_X8_copies_145 rfl (by decide) ?_
  refine r_getR (t := 44) d_X8_copies_146 fk_RX8_44 sh_32 rfl (by decide) (R 32 rfl) ?_
  refine r_iload_n d_X8_copies_149 rfl ?_
  refine r_iload_n d_X8_copies_150 rfl ?_
  refine r_sipush d_X8_copies_151 (by decide) ?_
  show Run Γ rg κ Y_X8_copies 154 [(40, 0), (0, p1), (0, p2), (5, 0)] [(0, 640), (0, p2), (0, p1), (52, 0)] D11 Φ
  refine c_callSv (as := [(52, 0), (0, p1), (0, p2), (0, 640)]) (rest := []) (ls' := [(52, 0), (0, p1), (0, p2), (0, 640), (5, 0)]) d_X8_copies_154 ck_RX8_128 rfl rfl rfl (Nat.le_of_ble_eq_true rfl) (Nat.le_of_ble_eq_true rfl) (by decide) rfl rfl (fun κ' Ψ hΨ => run_rowF sh_44 (by decide) (R 44 rfl) (by decide) _ _ _ hΨ) h (fun _ D12 h => ?_)
  show Run Γ rg κ Y_X8_copies 157 [(40, 0), (0, p1), (0, p2), (5, 0)] [] D12 Φ
  refine r_aload_n d_X8_copies_157 rfl (by decide) ?_
  refine r_getR (t := 45) d_X8_copies_158 fk_RX8_47 sh_32 rfl (by decide) (R 32 rfl) ?_
  refine r_iload_n d_X8_copies_161 rfl ?_
  refine r_iload_n d_X8_copies_162 rfl ?_
  refine r_sipush d_X8_copies_163 (by decide) ?_
  refine c_callSv (as := [(53, 0), (0, p1), (0, p2), (0, 640)]) (rest := []) (ls' := [(53, 0), (0, p1), (0, p2), (0, 640), (5, 0)]) d_X8_copies_166 ck_RX8_128 rfl rfl rfl (Nat.le_of_ble_eq_true rfl) (Nat.le_of_ble_eq_true rfl) (by decide) rfl rfl (fun κ' Ψ hΨ => run_rowF sh_45 (by decide) (R 45 rfl) (by decide) _ _ _ hΨ) h (fun _ D13 h => ?_)
  show Run Γ rg κ Y_X8_copies 169 [(40, 0), (0, p1), (0, p2), (5, 0)] [] D13 Φ
  refine r_aload_n d_X8_copies_169 rfl (by decide) ?_
  refine r_getR (t := 46) d_X8_copies_170 fk_RX8_50 sh_32 rfl (by decide) (R 32 rfl) ?_
  refine r_iload_n d_X8_copies_173 rfl ?_
  refine r_iload_n d_X8_copies_174 rfl ?_
  refine r_sipush d_X8_copies_175 (by decide) ?_
  show Run Γ rg κ Y_X8_copies 178 [(40, 0), (0, p1), (0, p2), (5, 0)] [(0, 2560), (0, p2), (0, p1), (54, 0)] D13 Φ
  refine c_callSv (as := [(54, 0), (0, p1), (0, p2), (0, 2560)]) (rest := []) (ls' := [(54, 0), (0, p1), (0, p2), (0, 2560), (5, 0)]) d_X8_copies_178 ck_RX8_128 rfl rfl rfl (Nat.le_of_ble_eq_true rfl) (Nat.le_of_ble_eq_true rfl) (by decide) rfl rfl (fun κ' Ψ hΨ => run_rowF sh_46 (by decide) (R 46 rfl) (by decide) _ _ _ hΨ) h (fun _ D14 h => ?_)
  show Run Γ rg κ Y_X8_copies 181 [(40, 0), (0, p1), (0, p2), (5, 0)] [] D14 Φ
  refine r_aload_n d_X8_copies_181 rfl (by decide) ?_
  refine r_getR (t := 47) d_X8_copies_182 fk_RX8_53 sh_32 rfl (by decide) (R 32 rfl) ?_
  refine r_iload_n d_X8_copies_185 rfl ?_
  refine r_iload_n d_X8_copies_186 rfl ?_
  refine r_sipush d_X8_copies_187 (by decide) ?_
  refine c_callSv (as := [(55, 0), (0, p1), (0, p2), (0, 2560)]) (rest := []) (ls' := [(55, 0), (0, p1), (0, p2), (0, 2560), (5, 0)]) d_X8_copies_190 ck_RX8_128 rfl rfl rfl (Nat.le_of_ble_eq_true rfl) (Nat.le_of_ble_eq_true rfl) (by decide) rfl rfl (fun κ' Ψ hΨ => run_rowF sh_47 (by decide) (R 47 rfl) (by decide) _ _ _ hΨ) h (fun _ D15 h => ?_)
  show Run Γ rg κ Y_X8_copies 193 [(40, 0), (0, p1), (0, p2), (5, 0)] [] D15 Φ
  refine r_aload_n d_X8_copies_193 rfl (by decide) ?_
  refine r_getR (t := 48) d_X8_copies_194 fk_RX8_56 sh_32 rfl (by decide) (R 32 rfl) ?_
  refine r_iload_n d_X8_copies_197 rfl ?_
  refine r_iload_n d_X8_copies_198 rfl ?_
  refine r_bipush d_X8_copies_199 (by decide) ?_
  show Run Γ rg κ Y_X8_copies 201 [(40, 0), (0, p1), (0, p2), (5, 0)] [(0, 80), (0, p2), (0, p1), (56, 0)] D15 Φ
  refine c_callSv (as := [(56, 0), (0, p1), (0, p2), (0, 80)]) (rest := []) (ls' := [(56, 0), (0, p1), (0, p2), (0, 80), (5, 0)]) d_X8_copies_201 ck_RX8_128 rfl rfl rfl (Nat.le_of_ble_eq_true rfl) (Nat.le_of_ble_eq_true rfl) (by decide) rfl rfl (fun κ' Ψ hΨ => run_rowF sh_48 (by decide) (R 48 rfl) (by decide) _ _ _ hΨ) h (fun _ D16 h => ?_)
  show Run Γ rg κ Y_X8_copies 204 [(40, 0), (0, p1), (0, p2), (5, 0)] [] D16 Φ
  refine r_aload_n d_X8_copies_204 rfl (by decide) ?_
  refine r_getR (t := 49) d_X8_copies_205 fk_RX8_59 sh_32 rfl (by decide) (R 32 rfl) ?_
  refine r_iload_n d_X8_copies_208 rfl ?_
  refine r_iload_n d_X8_copies_209 rfl ?_
  refine r_bipush d_X8_copies_210 (by decide) ?_
  refine c_callSv (as := [(57, 0), (0, p1), (0, p2), (0, 80)]) (rest := []) (ls' := [(57, 0), (0, p1), (0, p2), (0, 80), (5, 0)]) d_X8_copies_212 ck_RX8_128 rfl rfl rfl (Nat.le_of_ble_eq_true rfl) (Nat.le_of_ble_eq_true rfl) (by decide) rfl rfl (fun κ' Ψ hΨ => run_rowF sh_49 (by decide) (R 49 rfl) (by decide) _ _ _ hΨ) h (fun _ D17 h => ?_)
  show Run Γ rg κ Y_X8_copies 215 [(40, 0), (0, p1), (0, p2), (5, 0)] [] D17 Φ
  refine r_aload_n d_X8_copies_215 rfl (by decide) ?_
  refine r_getR (t := 50) d_X8_copies_216 fk_RX8_62 sh_32 rfl (by decide) (R 32 rfl) ?_
  refine r_iload_n d_X8_copies_219 rfl ?_
  refine r_iload_n d_X8_copies_220 rfl ?_
  refine r_bipush d_X8_copies_221 (by decide) ?_
  show Run Γ rg κ Y_X8_copies 223 [(40, 0), (0, p1), (0, p2), (5, 0)] [(0, 80), (0, p2), (0, p1), (58, 0)] D17 Φ
  refine c_callSv (as := [(58, 0), (0, p1), (0, p2), (0, 80)]) (rest := []) (ls' := [(58, 0), (0, p1), (0, p2), (0, 80), (5, 0)]) d_X8_copies_223 ck_RX8_128 rfl rfl rfl (Nat.le_of_ble_eq_true rfl) (Nat.le_of_ble_eq_true rfl) (by decide) rfl rfl (fun κ' Ψ hΨ => run_rowF sh_50 (by decide) (R 50 rfl) (by decide) _ _ _ hΨ) h (fun _ D18 h => ?_)
  show Run Γ rg κ Y_X8_copies 226 [(40, 0), (0, p1), (0, p2), (5, 0)] [] D18 Φ
  refine r_aload_n d_X8_copies_226 rfl (by decide) ?_
  refine r_getR (t := 51) d_X8_copies_227 fk_RX8_65 sh_32 rfl (by decide) (R 32 rfl) ?_
  refine r_iload_n d_X8_copies_230 rfl ?_
  refine r_iload_n d_X8_copies_231 rfl ?_
  refine r_sipush d_X8_copies_232 (by decide) ?_
  refine c_callSv (as := [(59, 0), (0, p1), (0, p2), (0, 640)]) (rest := []) (ls' := [(59, 0), (0, p1), (0, p2), (0, 640), (5, 0)]) d_X8_copies_235 ck_RX8_128 rfl rfl rfl (Nat.le_of_ble_eq_true rfl) (Nat.le_of_ble_eq_true rfl) (by decide) rfl rfl (fun κ' Ψ hΨ => run_rowF sh_51 (by decide) (R 51 rfl) (by decide) _ _ _ hΨ) h (fun _ D19 h => ?_)
  show Run Γ rg κ Y_X8_copies 238 [(40, 0), (0, p1), (0, p2), (5, 0)] [] D19 Φ
  refine r_aload_n d_X8_copies_238 rfl (by decide) ?_
  refine r_getR (t := 52) d_X8_copies_239 fk_RX8_68 sh_32 rfl (by decide) (R 32 rfl) ?_
  refine r_iload_n d_X8_copies_242 rfl ?_
  refine r_iload_n d_X8_copies_243 rfl ?_
  refine r_sipush d_X8_copies_244 (by decide) ?_
  show Run Γ rg κ Y_X8_copies 247 [(40, 0), (0, p1), (0, p2), (5, 0)] [(0, 640), (0, p2), (0, p1), (60, 0)] D19 Φ
  refine c_callSv (as := [(60, 0), (0, p1), (0, p2), (0, 640)]) (rest := []) (ls' := [(60, 0), (0, p1), (0, p2), (0, 640), (5, 0)]) d_X8_copies_247 ck_RX8_128 rfl rfl rfl (Nat.le_of_ble_eq_true rfl) (Nat.le_of_ble_eq_true rfl) (by decide) rfl rfl (fun κ' Ψ hΨ => run_rowF sh_52 (by decide) (R 52 rfl) (by decide) _ _ _ hΨ) h (fun _ D20 h => ?_)
  show Run Γ rg κ Y_X8_copies 250 [(40, 0), (0, p1), (0, p2), (5, 0)] [] D20 Φ
  refine r_aload_n d_X8_copies_250 rfl (by decide) ?_
  refine r_getR (t := 53) d_X8_copies_251 fk_RX8_71 sh_32 rfl (by decide) (R 32 rfl) ?_
  refine r_iload_n d_X8_copies_254 rfl ?_
  refine r_iload_n d_X8_copies_255 rfl ?_
  refine r_sipush d_X8_copies_256 (by decide) ?_
  refine c_callSv (as := [(61, 0), (0, p1), (0, p2), (0, 640)]) (rest := []) (ls' := [(61, 0), (0, p1), (0, p2), (0, 640), (5, 0)]) d_X8_copies_259 ck_RX8_128 rfl rfl rfl (Nat.le_of_ble_eq_true rfl) (Nat.le_of_ble_eq_true rfl) (by decide) rfl rfl (fun κ' Ψ hΨ => run_rowF sh_53 (by decide) (R 53 rfl) (by decide) _ _ _ hΨ) h (fun _ D21 h => ?_)
  show Run Γ rg κ Y_X8_copies 262 [(40, 0), (0, p1), (0, p2), (5, 0)] [] D21 Φ
  refine r_aload_n d_X8_copies_262 rfl (by decide) ?_
  refine r_getR (t := 54) d_X8_copies_263 fk_RX8_74 sh_32 rfl (by decide) (R 32 rfl) ?_
  refine r_iload_n d_X8_copies_266 rfl ?_
  refine r_iload_n d_X8_copies_267 rfl ?_
  refine r_sipush d_X8_copies_268 (by decide) ?_
  show Run Γ rg κ Y_X8_copies 271 [(40, 0), (0, p1), (0, p2), (5, 0)] [(0, 640), (0, p2), (0, p1), (62, 0)] D21 Φ
  refine c_callSv (as := [(62, 0), (0, p1), (0, p2), (0, 640)]) (rest := []) (ls' := [(62, 0), (0, p1), (0, p2), (0, 640), (5, 0)]) d_X8_copies_271 ck_RX8_128 rfl rfl rfl (Nat.le_of_ble_eq_true rfl) (Nat.le_of_ble_eq_true rfl) (by decide) rfl rfl (fun κ' Ψ hΨ => run_rowF sh_54 (by decide) (R 54 rfl) (by decide) _ _ _ hΨ) h (fun _ D22 h => ?_)
  show Run Γ rg κ Y_X8_copies 274 [(40, 0), (0, p1), (0, p2), (5, 0)] [] D22 Φ
  refine r_aload_n d_X8_copies_274 rfl (by decide) ?_
  refine r_getR (t := 55) d_X8_copies_275 fk_RX8_77 sh_32 rfl (by decide) (R 32 rfl) ?_
  refine r_iload_n d_X8_copies_278 rfl ?_
  refine r_iload_n d_X8_copies_279 rfl ?_
  refine r_sipush d_X8_copies_280 (by decide) ?_
  refine c_callSv (as := [(63, 0), (0, p1), (0, p2), (0, 2560)]) (rest := []) (ls' := [(63, 0), (0, p1), (0, p2), (0, 2560), (5, 0)]) d_X8_copies_283 ck_RX8_128 rfl rfl rfl (Nat.le_of_ble_eq_true rfl) (Nat.le_of_ble_eq_true rfl) (by decide) rfl rfl (fun κ' Ψ hΨ => run_rowF sh_55 (by decide) (R 55 rfl) (by decide) _ _ _ hΨ) h (fun _ D23 h => ?_)
  show Run Γ rg κ Y_X8_copies 286 [(40, 0), (0, p1), (0, p2), (5, 0)] [] D23 Φ
  refine r_aload_n d_X8_copies_286 rfl (by decide) ?_
  refine r_getR (t := 56) d_X8_copies_287 fk_RX8_80 sh_32 rfl (by decide) (R 32 rfl) ?_
  refine r_iload_n d_X8_copies_290 rfl ?_
  refine r_iload_n d_X8_copies_291 rfl ?_
  refine r_sipush d_X8_copies_292 (by decide) ?_
  show Run Γ rg κ Y_X8_copies 295 [(40, 0), (0, p1), (0, p2), (5, 0)] [(0, 256), (0, p2), (0, p1), (64, 0)] D23 Φ
  refine c_callSv (as := [(64, 0), (0, p1), (0, p2), (0, 256)]) (rest := []) (ls' := [(64, 0), (0, p1), (0, p2), (0, 256), (5, 0)]) d_X8_copies_295 ck_RX8_128 rfl rfl rfl (Nat.le_of_ble_eq_true rfl) (Nat.le_of_ble_eq_true rfl) (by decide) rfl rfl (fun κ' Ψ hΨ => run_rowF sh_56 (by decide) (R 56 rfl) (by decide) _ _ _ hΨ) h (fun _ D24 h => ?_)
  show Run Γ rg κ Y_X8_copies 298 [(40, 0), (0, p1), (0, p2), (5, 0)] [] D24 Φ
  refine r_aload_n d_X8_copies_298 rfl (by decide) ?_
  refine r_getR (t := 57) d_X8_copies_299 fk_RX8_83 sh_32 rfl (by decide) (R 32 rfl) ?_
  refine r_iload_n d_X8_copies_302 rfl ?_
  refine r_iload_n d_X8_copies_303 rfl ?_
  refine r_sipush d_X8_copies_304 (by decide) ?_
  refine c_callSv (as := [(65, 0), (0, p1), (0, p2), (0, 256)]) (rest := []) (ls' := [(65, 0), (0, p1), (0, p2), (0, 256), (5, 0)]) d_X8_copies_307 ck_RX8_128 rfl rfl rfl (Nat.le_of_ble_eq_true rfl) (Nat.le_of_ble_eq_true rfl) (by decide) rfl rfl (fun κ' Ψ hΨ => run_rowF sh_57 (by decide) (R 57 rfl) (by decide) _ _ _ hΨ) h (fun _ D25 h => ?_)
  show Run Γ rg κ Y_X8_copies 310 [(40, 0), (0, p1), (0, p2), (5, 0)] [] D25 Φ
  exact c_vret d_X8_copies_310 rfl h
set_option maxRecDepth 20000 in
theorem run_pM_flush {Γ : GG} {rg : Nat → Bool} {κ : Nat} {Φ : OT → DD → Prop} (R : cov rg rg1) {D : DD} (h : WP (some .int) κ Φ (pM_flush D)) : Run Γ rg κ Y_X8_flush 0 [(40, 0)] [] D Φ := by
  unfold pM_flush at h
  show Run Γ rg κ Y_X8_flush 0 [(40, 0)] [] D Φ
  refine r_aload_n d_X8_flush_0 rfl (by decide) ?_
  refine r_aload_n d_X8_flush_1 rfl (by decide) ?_
  refine r_getI d_X8_flush_2 fk_RX8_270 sh_32 rfl (by decide) (by decide) (R 32 rfl) ?_
  refine c_jn (fun J => ∀ (x1 : Int) (D1 : DD), WP (some .int) κ Φ (J x1 D1) → Run Γ rg κ Y_X8_flush 20 [(40, 0)] [(0, x1), (40, 0)] D1 Φ) h ?_ (fun J1 hJ1 h => ?_)
  · intro x1 D1 h
    show Run Γ rg κ Y_X8_flush 20 [(40, 0)] [(0, x1), (40, 0)] D1 Φ
    refine c_callVi (t' := (some .boolean)) (a := 32) (z := 0) (as := [(0, x1)]) (rest := []) (ls' := [(40, 0), (0, x1)]) d_X8_flush_20 ck_RX8_195 rfl sh_32 rfl (by decide) (R 32 rfl) rfl rfl (Nat.le_of_ble_eq_true rfl) (Nat.le_of_ble_eq_true rfl) (by decide) rfl rfl (fun _ => rfl) (fun κ' Ψ hΨ => run_pM_fails R _ hΨ) h (fun v1 D2 h => ?_)
    show Run Γ rg κ Y_X8_flush 23 [(40, 0)] [(0, v1)] D2 Φ
    refine c_if_eq (tgt := 28) d_X8_flush_23 (by decide) (nz_w _) h (fun h => ?_) (fun h => ?_)
    · skip
      show Run Γ rg κ Y_X8_flush 28 [(40, 0)] [] D2 Φ
      refine r_aload_n d_X8_flush_28 rfl (by decide) ?_
      refine r_iconst d_X8_flush_29 ?_
      refine c_putZ (k := 32) d_X8_flush_30 pk_RX8_270 sh_32 rfl (by decide) (R 32 rfl) (Or.inr rfl) h (fun D3 h => ?_)
      refine r_aload_n d_X8_flush_33 rfl (by decide) ?_
      refine r_iconst d_X8_flush_34 ?_
      refine c_putI (k := 34) d_X8_flush_35 pk_RX8_277 sh_32 rfl (by decide) (R 32 rfl) h (fun D4 h => ?_)
      refine r_aload_n d_X8_flush_38 rfl (by decide) ?_
      refine r_aload_n d_X8_flush_39 rfl (by decide) ?_
      refine c_callVi (t' := (some .int)) (a := 32) (z := 0) (as := []) (rest := [(40, 0)]) (ls' := [(40, 0), (5, 0), (5, 0)]) d_X8_flush_40 ck_RX8_274 rfl sh_32 rfl (by decide) (R 32 rfl) rfl rfl (Nat.le_of_ble_eq_true rfl) (Nat.le_of_ble_eq_true rfl) (by decide) rfl rfl (fun _ => rfl) (fun κ' Ψ hΨ => run_pM_dirtyOnes R hΨ) h (fun v2 D5 h => ?_)
      show Run Γ rg κ Y_X8_flush 43 [(40, 0)] [(0, v2), (40, 0)] D5 Φ
      refine c_putI (k := 35) d_X8_flush_43 pk_RX8_279 sh_32 rfl (by decide) (R 32 rfl) h (fun D6 h => ?_)
      refine r_aload_n d_X8_flush_46 rfl (by decide) ?_
      show Run Γ rg κ Y_X8_flush 47 [(40, 0)] [(40, 0)] D6 Φ
      refine c_callVv (a := 32) (z := 0) (as := []) (rest := []) (ls' := [(40, 0), (5, 0)]) d_X8_flush_47 ck_RX8_282 rfl sh_32 rfl (by decide) (R 32 rfl) rfl rfl (Nat.le_of_ble_eq_true rfl) (Nat.le_of_ble_eq_true rfl) (by decide) rfl rfl (fun κ' Ψ hΨ => run_pM_cleans R hΨ) h (fun _ D7 h => ?_)
      show Run Γ rg κ Y_X8_flush 50 [(40, 0)] [] D7 Φ
      refine r_aload_n d_X8_flush_50 rfl (by decide) ?_
      refine r_iconst d_X8_flush_51 ?_
      refine r_iconst d_X8_flush_52 ?_
      refine c_callVv (a := 32) (z := 0) (as := [(0, 0), (0, 1)]) (rest := []) (ls' := [(40, 0), (0, 0), (0, 1), (5, 0)]) d_X8_flush_53 ck_RX8_116 rfl sh_32 rfl (by decide) (R 32 rfl) rfl rfl (Nat.le_of_ble_eq_true rfl) (Nat.le_of_ble_eq_true rfl) (by decide) rfl rfl (fun κ' Ψ hΨ => run_pM_copies R _ _ hΨ) h (fun _ D8 h => ?_)
      show Run Γ rg κ Y_X8_flush 56 [(40, 0)] [] D8 Φ
      refine r_iconst d_X8_flush_56 ?_
      refine r_aload_n d_X8_flush_57 rfl (by decide) ?_
      refine r_getI d_X8_flush_58 fk_RX8_279 sh_32 rfl (by decide) (by decide) (R 32 rfl) ?_
      refine r_imul d_X8_flush_61 ?_
      refine r_iconst d_X8_flush_62 ?_
      refine r_iadd d_X8_flush_63 ?_
      exact c_iret d_X8_flush_64 rfl h
    · skip
      show Run Γ rg κ Y_X8_flush 26 [(40, 0)] [] D2 Φ
      refine r_iconst d_X8_flush_26 ?_
      exact c_iret d_X8_flush_27 rfl h
  refine c_jn (fun J => ∀ (D9 : DD), WP (some .int) κ Φ (J D9) → Run Γ rg κ Y_X8_flush 15 [(40, 0)] [(40, 0)] D9 Φ) h ?_ (fun J2 hJ2 h => ?_)
  · intro D9 h
    show Run Γ rg κ Y_X8_flush 15 [(40, 0)] [(40, 0)] D9 Φ
    refine r_iconst d_X8_flush_15 ?_
    refine r_goto (tgt := 20) d_X8_flush_16 (by decide) ?_
    exact (hJ1 1 D9 h)
  refine c_if_ne (tgt := 15) d_X8_flush_5 (by decide) (nz_w _) h (fun h => ?_) (fun h => ?_)
  · skip
    exact (hJ2 D h)
  · skip
    show Run Γ rg κ Y_X8_flush 8 [(40, 0)] [(40, 0)] D Φ
    refine r_aload_n d_X8_flush_8 rfl (by decide) ?_
    refine c_callVi (t' := (some .int)) (a := 32) (z := 0) (as := []) (rest := [(40, 0)]) (ls' := [(40, 0), (5, 0), (5, 0)]) d_X8_flush_9 ck_RX8_274 rfl sh_32 rfl (by decide) (R 32 rfl) rfl rfl (Nat.le_of_ble_eq_true rfl) (Nat.le_of_ble_eq_true rfl) (by decide) rfl rfl (fun _ => rfl) (fun κ' Ψ hΨ => run_pM_dirtyOnes R hΨ) h (fun v3 D10 h => ?_)
    show Run Γ rg κ Y_X8_flush 12 [(40, 0)] [(0, v3), (40, 0)] D10 Φ
    refine c_if_ne (tgt := 19) d_X8_flush_12 (by decide) (nz_w _) h (fun h => ?_) (fun h => ?_)
    · skip
      show Run Γ rg κ Y_X8_flush 19 [(40, 0)] [(40, 0)] D10 Φ
      refine r_iconst d_X8_flush_19 ?_
      exact (hJ1 0 D10 h)
    · skip
      exact (hJ2 D10 h)
set_option maxRecDepth 20000 in
theorem run_pM_ends {Γ : GG} {rg : Nat → Bool} {κ : Nat} {Φ : OT → DD → Prop} (R : cov rg rg1) {D : DD} (h : WP none κ Φ (pM_ends D)) : Run Γ rg κ Y_X8_ends 0 [(40, 0)] [] D Φ := by
  unfold pM_ends at h
  show Run Γ rg κ Y_X8_ends 0 [(40, 0)] [] D Φ
  refine r_aload_n d_X8_ends_0 rfl (by decide) ?_
  refine r_iconst d_X8_ends_1 ?_
  refine c_putZ (k := 32) d_X8_ends_2 pk_RX8_270 sh_32 rfl (by decide) (R 32 rfl) (Or.inl rfl) h (fun D1 h => ?_)
  refine r_aload_n d_X8_ends_5 rfl (by decide) ?_
  refine r_dup d_X8_ends_6 (by decide) ?_
  refine r_getI d_X8_ends_7 fk_RX8_285 sh_32 rfl (by decide) (by decide) (R 32 rfl) ?_
  refine r_iconst d_X8_ends_10 ?_
  refine r_iadd d_X8_ends_11 ?_
  refine c_putI (k := 33) d_X8_ends_12 pk_RX8_285 sh_32 rfl (by decide) (R 32 rfl) h (fun D2 h => ?_)
  refine r_aload_n d_X8_ends_15 rfl (by decide) ?_
  refine r_iconst d_X8_ends_16 ?_
  show Run Γ rg κ Y_X8_ends 17 [(40, 0)] [(0, 1), (40, 0)] D2 Φ
  refine r_iconst d_X8_ends_17 ?_
  refine c_callVv (a := 32) (z := 0) (as := [(0, 1), (0, 2)]) (rest := []) (ls' := [(40, 0), (0, 1), (0, 2), (5, 0)]) d_X8_ends_18 ck_RX8_116 rfl sh_32 rfl (by decide) (R 32 rfl) rfl rfl (Nat.le_of_ble_eq_true rfl) (Nat.le_of_ble_eq_true rfl) (by decide) rfl rfl (fun κ' Ψ hΨ => run_pM_copies R _ _ hΨ) h (fun _ D3 h => ?_)
  show Run Γ rg κ Y_X8_ends 21 [(40, 0)] [] D3 Φ
  exact c_vret d_X8_ends_21 rfl h
set_option maxRecDepth 20000 in
theorem run_pM_write {Γ : GG} {rg : Nat → Bool} {κ : Nat} {Φ : OT → DD → Prop} (R : cov rg rg1) (p1 : Int) {D : DD} (h : WP (some .int) κ Φ (pM_write p1 D)) : Run Γ rg κ Y_X8_write 0 [(40, 0), (0, p1), (5, 0)] [] D Φ := by
  unfold pM_write at h
  show Run Γ rg κ Y_X8_write 0 [(40, 0), (0, p1), (5, 0)] [] D Φ
  refine r_aload_n d_X8_write_0 rfl (by decide) ?_
  refine r_iload_n d_X8_write_1 rfl ?_
  refine r_iconst d_X8_write_2 ?_
  refine r_sipush d_X8_write_3 (by decide) ?_
  refine c_callSPi (as := [(0, p1), (0, 1), (0, 200)]) (rest := [(40, 0)]) (ls' := [(0, p1), (0, 1), (0, 200)]) d_X8_write_6 ck_RX8_124 rfl rfl rfl (Nat.le_of_ble_eq_true rfl) (Nat.le_of_ble_eq_true rfl) (by decide) rfl rfl (fun Ψ hΨ => run_pM_isIn R _ _ _ rfl hΨ) ?_
  show Run Γ rg κ Y_X8_write 9 [(40, 0), (0, p1), (5, 0)] [(0, (pM_isIn p1 1 200)), (40, 0)] D Φ
  refine c_jn (fun J => ∀ (x1 : Int) (D1 : DD), WP (some .int) κ Φ (J x1 D1) → Run Γ rg κ Y_X8_write 28 [(40, 0), (0, p1), (5, 0)] [(0, x1), (40, 0)] D1 Φ) h ?_ (fun J1 hJ1 h => ?_)
  · intro x1 D1 h
    show Run Γ rg κ Y_X8_write 28 [(40, 0), (0, p1), (5, 0)] [(0, x1), (40, 0)] D1 Φ
    refine c_callVi (t' := (some .boolean)) (a := 32) (z := 0) (as := [(0, x1)]) (rest := []) (ls' := [(40, 0), (0, x1)]) d_X8_write_28 ck_RX8_195 rfl sh_32 rfl (by decide) (R 32 rfl) rfl rfl (Nat.le_of_ble_eq_true rfl) (Nat.le_of_ble_eq_true rfl) (by decide) rfl rfl (fun _ => rfl) (fun κ' Ψ hΨ => run_pM_fails R _ hΨ) h (fun v1 D2 h => ?_)
    show Run Γ rg κ Y_X8_write 31 [(40, 0), (0, p1), (5, 0)] [(0, v1)] D2 Φ
    refine c_if_eq (tgt := 36) d_X8_write_31 (by decide) (nz_w _) h (fun h => ?_) (fun h => ?_)
    · skip
      show Run Γ rg κ Y_X8_write 36 [(40, 0), (0, p1), (5, 0)] [] D2 Φ
      refine r_iconst d_X8_write_36 ?_
      refine r_aload_n d_X8_write_37 rfl (by decide) ?_
      refine r_getI d_X8_write_38 fk_RX8_279 sh_32 rfl (by decide) (by decide) (R 32 rfl) ?_
      refine r_imul d_X8_write_41 ?_
      refine r_iconst d_X8_write_42 ?_
      refine r_iadd d_X8_write_43 ?_
      refine c_lt_n d_X8_write_44 (by decide) rfl h (fun x2 h => ?_)
      show Run Γ rg κ Y_X8_write 45 [(40, 0), (0, p1), (0, x2)] [] D2 Φ
      refine r_aload_n d_X8_write_45 rfl (by decide) ?_
      refine r_aload_n d_X8_write_46 rfl (by decide) ?_
      refine r_getI d_X8_write_47 fk_RX8_277 sh_32 rfl (by decide) (by decide) (R 32 rfl) ?_
      refine r_iload_n d_X8_write_50 rfl ?_
      show Run Γ rg κ Y_X8_write 51 [(40, 0), (0, p1), (0, x2)] [(0, p1), (0, (D2 32 34)), (40, 0)] D2 Φ
      refine r_iadd d_X8_write_51 ?_
      refine r_iload_n d_X8_write_52 rfl ?_
      refine c_jn (fun J => ∀ (x3 : Int) (D3 : DD), WP (some .int) κ Φ (J x3 D3) → Run Γ rg κ Y_X8_write 66 [(40, 0), (5, 0), (0, x2)] [(0, x3), (40, 0)] D3 Φ) h ?_ (fun J2 hJ2 h => ?_)
      · intro x3 D3 h
        show Run Γ rg κ Y_X8_write 66 [(40, 0), (5, 0), (0, x2)] [(0, x3), (40, 0)] D3 Φ
        refine c_putI (k := 34) d_X8_write_66 pk_RX8_277 sh_32 rfl (by decide) (R 32 rfl) h (fun D4 h => ?_)
        refine r_aload_n d_X8_write_69 rfl (by decide) ?_
        refine r_getR (t := 64) d_X8_write_70 fk_RX8_104 sh_32 rfl (by decide) (R 32 rfl) ?_
        refine r_aload_n d_X8_write_73 rfl (by decide) ?_
        refine r_getI d_X8_write_74 fk_RX8_285 sh_32 rfl (by decide) (by decide) (R 32 rfl) ?_
        refine r_iconst d_X8_write_77 ?_
        refine r_iadd d_X8_write_78 ?_
        refine r_iconst d_X8_write_79 ?_
        refine c_irem d_X8_write_80 (nz_w _) ⟨by decide, by decide⟩ (by decide) ?_
        refine r_aload_n d_X8_write_81 rfl (by decide) ?_
        refine r_getI d_X8_write_82 fk_RX8_277 sh_32 rfl (by decide) (by decide) (R 32 rfl) ?_
        show Run Γ rg κ Y_X8_write 85 [(40, 0), (5, 0), (0, x2)] [(0, (D4 32 34)), (0, (Int.tmod (w32 ((D4 32 33) + 1)) 2)), (72, 0)] D4 Φ
        refine r_aload_n d_X8_write_85 rfl (by decide) ?_
        refine r_getI d_X8_write_86 fk_RX8_279 sh_32 rfl (by decide) (by decide) (R 32 rfl) ?_
        refine r_iconst d_X8_write_89 ?_
        refine r_iadd d_X8_write_90 ?_
        refine c_jn (fun J => ∀ (x4 : Int) (D5 : DD), WP (some .int) κ Φ (J x4 D5) → Run Γ rg κ Y_X8_write 104 [(40, 0), (5, 0), (0, x2)] [(0, x4), (0, (Int.tmod (w32 ((D4 32 33) + 1)) 2)), (72, 0)] D5 Φ) h ?_ (fun J3 hJ3 h => ?_)
        · intro x4 D5 h
          show Run Γ rg κ Y_X8_write 104 [(40, 0), (5, 0), (0, x2)] [(0, x4), (0, (Int.tmod (w32 ((D4 32 33) + 1)) 2)), (72, 0)] D5 Φ
          refine c_iast d_X8_write_104 sh_64 (by decide) (R 64 rfl) (by decide) h (fun D6 h => ?_)
          refine r_aload_n d_X8_write_105 rfl (by decide) ?_
          refine r_getI d_X8_write_106 fk_RX8_277 sh_32 rfl (by decide) (by decide) (R 32 rfl) ?_
          refine r_iload_n d_X8_write_109 rfl ?_
          refine c_jn (fun J => ∀ (D7 : DD), WP (some .int) κ Φ (J D7) → Run Γ rg κ Y_X8_write 117 [(40, 0), (5, 0), (0, x2)] [] D7 Φ) h ?_ (fun J4 hJ4 h => ?_)
          · intro D7 h
            show Run Γ rg κ Y_X8_write 117 [(40, 0), (5, 0), (0, x2)] [] D7 Φ
            refine r_iload_n d_X8_write_117 rfl ?_
            refine r_aload_n d_X8_write_118 rfl (by decide) ?_
            refine r_getI d_X8_write_119 fk_RX8_277 sh_32 rfl (by decide) (by decide) (R 32 rfl) ?_
            refine r_isub d_X8_write_122 ?_
            exact c_iret d_X8_write_123 rfl h
          refine c_icmp_ne (tgt := 117) d_X8_write_110 (by decide) (nz_w _) (nz_w _) h (fun h => ?_) (fun h => ?_)
          · skip
            exact (hJ4 D6 h)
          · skip
            show Run Γ rg κ Y_X8_write 113 [(40, 0), (5, 0), (0, x2)] [] D6 Φ
            refine r_aload_n d_X8_write_113 rfl (by decide) ?_
            refine c_callVv (a := 32) (z := 0) (as := []) (rest := []) (ls' := [(40, 0)]) d_X8_write_114 ck_RX8_288 rfl sh_32 rfl (by decide) (R 32 rfl) rfl rfl (Nat.le_of_ble_eq_true rfl) (Nat.le_of_ble_eq_true rfl) (by decide) rfl rfl (fun κ' Ψ hΨ => run_pM_ends R hΨ) h (fun _ D8 h => ?_)
            show Run Γ rg κ Y_X8_write 117 [(40, 0), (5, 0), (0, x2)] [] D8 Φ
            exact (hJ4 D8 h)
        refine c_icmp_lt (tgt := 103) d_X8_write_91 (by decide) (nz_w _) (nz_w _) h (fun h => ?_) (fun h => ?_)
        · skip
          show Run Γ rg κ Y_X8_write 103 [(40, 0), (5, 0), (0, x2)] [(0, (Int.tmod (w32 ((D4 32 33) + 1)) 2)), (72, 0)] D4 Φ
          refine r_iconst d_X8_write_103 ?_
          exact (hJ3 0 D4 h)
        · skip
          show Run Γ rg κ Y_X8_write 94 [(40, 0), (5, 0), (0, x2)] [(0, (Int.tmod (w32 ((D4 32 33) + 1)) 2)), (72, 0)] D4 Φ
          refine r_aload_n d_X8_write_94 rfl (by decide) ?_
          refine r_getI d_X8_write_95 fk_RX8_285 sh_32 rfl (by decide) (by decide) (R 32 rfl) ?_
          refine r_iconst d_X8_write_98 ?_
          refine r_iadd d_X8_write_99 ?_
          refine r_goto (tgt := 104) d_X8_write_100 (by decide) ?_
          exact (hJ3 ((D4 32 33) + 1) D4 h)
      refine c_icmp_ge (tgt := 65) d_X8_write_53 (by decide) (nz_w _) (nz_w _) h (fun h => ?_) (fun h => ?_)
      · skip
        show Run Γ rg κ Y_X8_write 65 [(40, 0), (0, p1), (0, x2)] [(40, 0)] D2 Φ
        refine r_iload_n d_X8_write_65 rfl ?_
        exact Run.forget (ls' := [(40, 0), (5, 0), (0, x2)]) ⟨Or.inr rfl, Or.inl rfl, Or.inr rfl, trivial⟩ (hJ2 x2 D2 h)
      · skip
        show Run Γ rg κ Y_X8_write 56 [(40, 0), (0, p1), (0, x2)] [(40, 0)] D2 Φ
        refine r_aload_n d_X8_write_56 rfl (by decide) ?_
        refine r_getI d_X8_write_57 fk_RX8_277 sh_32 rfl (by decide) (by decide) (R 32 rfl) ?_
        refine r_iload_n d_X8_write_60 rfl ?_
        refine r_iadd d_X8_write_61 ?_
        refine r_goto (tgt := 66) d_X8_write_62 (by decide) ?_
        exact Run.forget (ls' := [(40, 0), (5, 0), (0, x2)]) ⟨Or.inr rfl, Or.inl rfl, Or.inr rfl, trivial⟩ (hJ2 ((D2 32 34) + p1) D2 h)
    · skip
      show Run Γ rg κ Y_X8_write 34 [(40, 0), (0, p1), (5, 0)] [] D2 Φ
      refine r_iconst d_X8_write_34 ?_
      exact c_iret d_X8_write_35 rfl h
  refine c_if_ne (tgt := 16) d_X8_write_9 (by decide) (nz_b (pM_isIn_b p1 1 200)) h (fun h => ?_) (fun h => ?_)
  · skip
    show Run Γ rg κ Y_X8_write 16 [(40, 0), (0, p1), (5, 0)] [(40, 0)] D Φ
    refine r_aload_n d_X8_write_16 rfl (by decide) ?_
    refine r_getI d_X8_write_17 fk_RX8_270 sh_32 rfl (by decide) (by decide) (R 32 rfl) ?_
    refine c_if_eq (tgt := 27) d_X8_write_20 (by decide) (nz_w _) h (fun h => ?_) (fun h => ?_)
    · skip
      show Run Γ rg κ Y_X8_write 27 [(40, 0), (0, p1), (5, 0)] [(40, 0)] D Φ
      refine r_iconst d_X8_write_27 ?_
      exact (hJ1 2 D h)
    · skip
      show Run Γ rg κ Y_X8_write 23 [(40, 0), (0, p1), (5, 0)] [(40, 0)] D Φ
      refine r_iconst d_X8_write_23 ?_
      refine r_goto (tgt := 28) d_X8_write_24 (by decide) ?_
      exact (hJ1 0 D h)
  · skip
    show Run Γ rg κ Y_X8_write 12 [(40, 0), (0, p1), (5, 0)] [(40, 0)] D Φ
    refine r_iconst d_X8_write_12 ?_
    refine r_goto (tgt := 28) d_X8_write_13 (by decide) ?_
    exact (hJ1 1 D h)
set_option maxRecDepth 20000 in
theorem run_pM_log {Γ : GG} {rg : Nat → Bool} {κ : Nat} {Φ : OT → DD → Prop} (R : cov rg rg1) (p1 : Int) {D : DD} (h : WP (some .int) κ Φ (pM_log p1 D)) : Run Γ rg κ Y_X8_log 0 [(40, 0), (0, p1)] [] D Φ := by
  unfold pM_log at h
  show Run Γ rg κ Y_X8_log 0 [(40, 0), (0, p1)] [] D Φ
  refine r_aload_n d_X8_log_0 rfl (by decide) ?_
  refine r_iload_n d_X8_log_1 rfl ?_
  refine r_iconst d_X8_log_2 ?_
  refine r_iconst d_X8_log_3 ?_
  refine c_callSPi (as := [(0, p1), (0, 0), (0, 1)]) (rest := [(40, 0)]) (ls' := [(0, p1), (0, 0), (0, 1)]) d_X8_log_4 ck_RX8_124 rfl rfl rfl (Nat.le_of_ble_eq_true rfl) (Nat.le_of_ble_eq_true rfl) (by decide) rfl rfl (fun Ψ hΨ => run_pM_isIn R _ _ _ rfl hΨ) ?_
  show Run Γ rg κ Y_X8_log 7 [(40, 0), (0, p1)] [(0, (pM_isIn p1 0 1)), (40, 0)] D Φ
  refine c_jn (fun J => ∀ (x1 : Int) (D1 : DD), WP (some .int) κ Φ (J x1 D1) → Run Γ rg κ Y_X8_log 15 [(40, 0), (0, p1)] [(0, x1), (40, 0)] D1 Φ) h ?_ (fun J1 hJ1 h => ?_)
  · intro x1 D1 h
    show Run Γ rg κ Y_X8_log 15 [(40, 0), (0, p1)] [(0, x1), (40, 0)] D1 Φ
    refine c_callVi (t' := (some .boolean)) (a := 32) (z := 0) (as := [(0, x1)]) (rest := []) (ls' := [(40, 0), (0, x1)]) d_X8_log_15 ck_RX8_195 rfl sh_32 rfl (by decide) (R 32 rfl) rfl rfl (Nat.le_of_ble_eq_true rfl) (Nat.le_of_ble_eq_true rfl) (by decide) rfl rfl (fun _ => rfl) (fun κ' Ψ hΨ => run_pM_fails R _ hΨ) h (fun v1 D2 h => ?_)
    show Run Γ rg κ Y_X8_log 18 [(40, 0), (0, p1)] [(0, v1)] D2 Φ
    refine c_if_eq (tgt := 25) d_X8_log_18 (by decide) (nz_w _) h (fun h => ?_) (fun h => ?_)
    · skip
      show Run Γ rg κ Y_X8_log 25 [(40, 0), (0, p1)] [] D2 Φ
      refine r_aload_n d_X8_log_25 rfl (by decide) ?_
      refine r_getR (t := 64) d_X8_log_26 fk_RX8_104 sh_32 rfl (by decide) (R 32 rfl) ?_
      refine r_iload_n d_X8_log_29 rfl ?_
      refine c_iald d_X8_log_30 sh_64 (by decide) (R 64 rfl) (by decide) h (fun v2 h => ?_)
      exact c_iret d_X8_log_31 rfl h
    · skip
      show Run Γ rg κ Y_X8_log 21 [(40, 0), (0, p1)] [] D2 Φ
      refine r_iconst d_X8_log_21 ?_
      refine r_goto (tgt := 31) d_X8_log_22 (by decide) ?_
      show Run Γ rg κ Y_X8_log 31 [(40, 0), (0, p1)] [(0, 0)] D2 Φ
      exact c_iret d_X8_log_31 rfl h
  refine c_if_eq (tgt := 14) d_X8_log_7 (by decide) (nz_b (pM_isIn_b p1 0 1)) h (fun h => ?_) (fun h => ?_)
  · skip
    show Run Γ rg κ Y_X8_log 14 [(40, 0), (0, p1)] [(40, 0)] D Φ
    refine r_iconst d_X8_log_14 ?_
    exact (hJ1 1 D h)
  · skip
    show Run Γ rg κ Y_X8_log 10 [(40, 0), (0, p1)] [(40, 0)] D Φ
    refine r_iconst d_X8_log_10 ?_
    refine r_goto (tgt := 15) d_X8_log_11 (by decide) ?_
    exact (hJ1 0 D h)
set_option maxRecDepth 20000 in
theorem run_pM_crash_51 {Γ : GG} {rg : Nat → Bool} {κ : Nat} {Φ : OT → DD → Prop} (R : cov rg rg1) {K : DD → Res} (hK : ∀ (D : DD), WP (some .int) κ Φ (K D) → Run Γ rg κ Y_X8_crash 84 [(40, 0), (5, 0)] [] D Φ) : ∀ (n : Nat) (a1 : Int) (D : DD), WP (some .int) κ Φ (pM_crash_51 n a1 D K) → Run Γ rg κ Y_X8_crash 51 [(40, 0), (0, a1)] [] D Φ := by
  intro n
  induction n with
  | zero => intro a1 D h; exact h.no.elim
  | succ n ih =>
    intro a1 D h
    rw [pM_crash_51] at h
    show Run Γ rg κ Y_X8_crash 51 [(40, 0), (0, a1)] [] D Φ
    refine r_iload_n d_X8_crash_51 rfl ?_
    refine r_bipush d_X8_crash_52 (by decide) ?_
    refine c_icmp_ge (tgt := 84) d_X8_crash_54 (by decide) (nz_w _) (nz_k rfl) h (fun h => ?_) (fun h => ?_)
    · skip
      exact Run.forget (ls' := [(40, 0), (5, 0)]) ⟨Or.inr rfl, Or.inl rfl, trivial⟩ (hK D h)
    · skip
      show Run Γ rg κ Y_X8_crash 57 [(40, 0), (0, a1)] [] D Φ
      refine r_aload_n d_X8_crash_57 rfl (by decide) ?_
      refine r_getR (t := 59) d_X8_crash_58 fk_RX8_89 sh_32 rfl (by decide) (R 32 rfl) ?_
      refine r_iload_n d_X8_crash_61 rfl ?_
      refine r_iconst d_X8_crash_62 ?_
      refine c_iast d_X8_crash_63 sh_59 (by decide) (R 59 rfl) (by decide) h (fun D1 h => ?_)
      refine r_aload_n d_X8_crash_64 rfl (by decide) ?_
      refine r_getR (t := 60) d_X8_crash_65 fk_RX8_92 sh_32 rfl (by decide) (R 32 rfl) ?_
      refine r_iload_n d_X8_crash_68 rfl ?_
      refine r_iconst d_X8_crash_69 ?_
      refine c_zast d_X8_crash_70 sh_60 (by decide) (R 60 rfl) (by decide) h (fun D2 h => ?_)
      refine r_aload_n d_X8_crash_71 rfl (by decide) ?_
      show Run Γ rg κ Y_X8_crash 72 [(40, 0), (0, a1)] [(40, 0)] D2 Φ
      refine r_getR (t := 61) d_X8_crash_72 fk_RX8_95 sh_32 rfl (by decide) (R 32 rfl) ?_
      refine r_iload_n d_X8_crash_75 rfl ?_
      refine r_iconst d_X8_crash_76 ?_
      refine c_zast d_X8_crash_77 sh_61 (by decide) (R 61 rfl) (by decide) h (fun D3 h => ?_)
      refine r_iinc d_X8_crash_78 rfl (by decide) rfl ?_
      show Run Γ rg κ Y_X8_crash 81 [(40, 0), (0, (a1 + 1))] [] D3 Φ
      refine r_goto (tgt := 51) d_X8_crash_81 (by decide) ?_
      exact (ih (a1 + 1) D3 h)
set_option maxRecDepth 20000 in
theorem run_pM_crash {Γ : GG} {rg : Nat → Bool} {κ : Nat} {Φ : OT → DD → Prop} (R : cov rg rg1) {D : DD} (h : WP (some .int) κ Φ (pM_crash D)) : Run Γ rg κ Y_X8_crash 0 [(40, 0), (5, 0)] [] D Φ := by
  unfold pM_crash at h
  show Run Γ rg κ Y_X8_crash 0 [(40, 0), (5, 0)] [] D Φ
  refine r_aload_n d_X8_crash_0 rfl (by decide) ?_
  refine r_iconst d_X8_crash_1 ?_
  refine c_putI (k := 42) d_X8_crash_2 pk_RX8_120 sh_32 rfl (by decide) (R 32 rfl) h (fun D1 h => ?_)
  refine r_aload_n d_X8_crash_5 rfl (by decide) ?_
  refine r_getI d_X8_crash_6 fk_RX8_270 sh_32 rfl (by decide) (by decide) (R 32 rfl) ?_
  refine c_jn (fun J => ∀ (D2 : DD), WP (some .int) κ Φ (J D2) → Run Γ rg κ Y_X8_crash 29 [(40, 0), (5, 0)] [] D2 Φ) h ?_ (fun J1 hJ1 h => ?_)
  · intro D2 h
    show Run Γ rg κ Y_X8_crash 29 [(40, 0), (5, 0)] [] D2 Φ
    refine r_aload_n d_X8_crash_29 rfl (by decide) ?_
    refine r_iconst d_X8_crash_30 ?_
    refine c_putZ (k := 32) d_X8_crash_31 pk_RX8_270 sh_32 rfl (by decide) (R 32 rfl) (Or.inl rfl) h (fun D3 h => ?_)
    refine r_aload_n d_X8_crash_34 rfl (by decide) ?_
    refine r_iconst d_X8_crash_35 ?_
    refine r_iconst d_X8_crash_36 ?_
    refine c_callVv (a := 32) (z := 0) (as := [(0, 2), (0, 0)]) (rest := []) (ls' := [(40, 0), (0, 2), (0, 0), (5, 0)]) d_X8_crash_37 ck_RX8_116 rfl sh_32 rfl (by decide) (R 32 rfl) rfl rfl (Nat.le_of_ble_eq_true rfl) (Nat.le_of_ble_eq_true rfl) (by decide) rfl rfl (fun κ' Ψ hΨ => run_pM_copies R _ _ hΨ) h (fun _ D4 h => ?_)
    show Run Γ rg κ Y_X8_crash 40 [(40, 0), (5, 0)] [] D4 Φ
    refine r_aload_n d_X8_crash_40 rfl (by decide) ?_
    refine c_callVv (a := 32) (z := 0) (as := []) (rest := []) (ls' := [(40, 0), (5, 0)]) d_X8_crash_41 ck_RX8_282 rfl sh_32 rfl (by decide) (R 32 rfl) rfl rfl (Nat.le_of_ble_eq_true rfl) (Nat.le_of_ble_eq_true rfl) (by decide) rfl rfl (fun κ' Ψ hΨ => run_pM_cleans R hΨ) h (fun _ D5 h => ?_)
    show Run Γ rg κ Y_X8_crash 44 [(40, 0), (5, 0)] [] D5 Φ
    refine r_aload_n d_X8_crash_44 rfl (by decide) ?_
    refine r_iconst d_X8_crash_45 ?_
    show Run Γ rg κ Y_X8_crash 46 [(40, 0), (5, 0)] [(0, 0), (40, 0)] D5 Φ
    refine c_putI (k := 29) d_X8_crash_46 pk_RX8_185 sh_32 rfl (by decide) (R 32 rfl) h (fun D6 h => ?_)
    refine r_iconst d_X8_crash_49 ?_
    refine r_istore_n d_X8_crash_50 (by decide) rfl ?_
    show Run Γ rg κ Y_X8_crash 51 [(40, 0), (0, 0)] [] D6 Φ
    refine run_pM_crash_51 R ?_ fu 0 D6 h
    intro D7 h
    show Run Γ rg κ Y_X8_crash 84 [(40, 0), (5, 0)] [] D7 Φ
    refine r_aload_n d_X8_crash_84 rfl (by decide) ?_
    refine r_getI d_X8_crash_85 fk_RX8_285 sh_32 rfl (by decide) (by decide) (R 32 rfl) ?_
    exact c_iret d_X8_crash_88 rfl h
  refine c_if_eq (tgt := 29) d_X8_crash_9 (by decide) (nz_w _) h (fun h => ?_) (fun h => ?_)
  · skip
    exact (hJ1 D1 h)
  · skip
    show Run Γ rg κ Y_X8_crash 12 [(40, 0), (5, 0)] [] D1 Φ
    refine r_aload_n d_X8_crash_12 rfl (by decide) ?_
    refine r_getI d_X8_crash_13 fk_RX8_277 sh_32 rfl (by decide) (by decide) (R 32 rfl) ?_
    refine r_aload_n d_X8_crash_16 rfl (by decide) ?_
    refine r_getI d_X8_crash_17 fk_RX8_279 sh_32 rfl (by decide) (by decide) (R 32 rfl) ?_
    refine r_iconst d_X8_crash_20 ?_
    refine r_iadd d_X8_crash_21 ?_
    refine c_icmp_lt (tgt := 29) d_X8_crash_22 (by decide) (nz_w _) (nz_w _) h (fun h => ?_) (fun h => ?_)
    · skip
      exact (hJ1 D1 h)
    · skip
      show Run Γ rg κ Y_X8_crash 25 [(40, 0), (5, 0)] [] D1 Φ
      refine r_aload_n d_X8_crash_25 rfl (by decide) ?_
      refine c_callVv (a := 32) (z := 0) (as := []) (rest := []) (ls' := [(40, 0)]) d_X8_crash_26 ck_RX8_288 rfl sh_32 rfl (by decide) (R 32 rfl) rfl rfl (Nat.le_of_ble_eq_true rfl) (Nat.le_of_ble_eq_true rfl) (by decide) rfl rfl (fun κ' Ψ hΨ => run_pM_ends R hΨ) h (fun _ D8 h => ?_)
      show Run Γ rg κ Y_X8_crash 29 [(40, 0), (5, 0)] [] D8 Φ
      exact (hJ1 D8 h)
