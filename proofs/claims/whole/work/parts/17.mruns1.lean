/-! the reference: each run keeps to its reading -/
set_option maxRecDepth 20000 in
theorem run_pM_thrown {Γ : GG} {rg : Nat → Bool} {κ : Nat} {Φ : OT → DD → Prop} (R : cov rg rg1) {D : DD} {x : Int} (h : EQx x (pM_thrown D)) (hΦ : Φ (.inl (some (0, x))) D) : Run Γ rg κ Y_X8_thrown 0 [(40, 0)] [] D Φ := by
  unfold pM_thrown at h
  show Run Γ rg κ Y_X8_thrown 0 [(40, 0)] [] D Φ
  refine r_aload_n d_X8_thrown_0 rfl (by decide) ?_
  refine r_getI d_X8_thrown_1 fk_RX8_120 sh_32 rfl (by decide) (by decide) (R 32 rfl) ?_
  exact e_iret d_X8_thrown_4 rfl h hΦ
set_option maxRecDepth 20000 in
theorem run_pM_isIn {Γ : GG} {rg : Nat → Bool} {κ : Nat} {Φ : OT → DD → Prop} (R : cov rg rg1) (p1 : Int) (p2 : Int) (p3 : Int) {D : DD} {x : Int} (h : EQx x (pM_isIn p1 p2 p3)) (hΦ : Φ (.inl (some (0, x))) D) : Run Γ rg κ Y_X8_isIn 0 [(0, p1), (0, p2), (0, p3)] [] D Φ := by
  unfold pM_isIn at h
  show Run Γ rg κ Y_X8_isIn 0 [(0, p1), (0, p2), (0, p3)] [] D Φ
  refine r_iload_n d_X8_isIn_0 rfl ?_
  refine r_iload_n d_X8_isIn_1 rfl ?_
  refine c_icmp_lt (tgt := 14) d_X8_isIn_2 (by decide) (nz_w _) (nz_w _) h (fun h => ?_) (fun h => ?_)
  · skip
    show Run Γ rg κ Y_X8_isIn 14 [(0, p1), (0, p2), (0, p3)] [] D Φ
    refine r_iconst d_X8_isIn_14 ?_
    exact e_zret d_X8_isIn_15 rfl (Or.inl rfl) h hΦ
  · skip
    show Run Γ rg κ Y_X8_isIn 5 [(0, p1), (0, p2), (0, p3)] [] D Φ
    refine r_iload_n d_X8_isIn_5 rfl ?_
    refine r_iload_n d_X8_isIn_6 rfl ?_
    refine c_icmp_gt (tgt := 14) d_X8_isIn_7 (by decide) (nz_w _) (nz_w _) h (fun h => ?_) (fun h => ?_)
    · skip
      show Run Γ rg κ Y_X8_isIn 14 [(0, p1), (0, p2), (0, p3)] [] D Φ
      refine r_iconst d_X8_isIn_14 ?_
      exact e_zret d_X8_isIn_15 rfl (Or.inl rfl) h hΦ
    · skip
      show Run Γ rg κ Y_X8_isIn 10 [(0, p1), (0, p2), (0, p3)] [] D Φ
      refine r_iconst d_X8_isIn_10 ?_
      refine r_goto (tgt := 15) d_X8_isIn_11 (by decide) ?_
      show Run Γ rg κ Y_X8_isIn 15 [(0, p1), (0, p2), (0, p3)] [(0, 1)] D Φ
      exact e_zret d_X8_isIn_15 rfl (Or.inr rfl) h hΦ
set_option maxRecDepth 20000 in
theorem run_pM_isKey {Γ : GG} {rg : Nat → Bool} {κ : Nat} {Φ : OT → DD → Prop} (R : cov rg rg1) (p1 : Int) {D : DD} (h : WP (some .boolean) κ Φ (pM_isKey p1 D)) : Run Γ rg κ Y_X8_isKey 0 [(40, 0), (0, p1)] [] D Φ := by
  unfold pM_isKey at h
  show Run Γ rg κ Y_X8_isKey 0 [(40, 0), (0, p1)] [] D Φ
  refine r_iload_n d_X8_isKey_0 rfl ?_
  refine r_iconst d_X8_isKey_1 ?_
  refine r_bipush d_X8_isKey_2 (by decide) ?_
  refine c_callSPi (as := [(0, p1), (0, 0), (0, 79)]) (rest := []) (ls' := [(0, p1), (0, 0), (0, 79)]) d_X8_isKey_4 ck_RX8_124 rfl rfl rfl (Nat.le_of_ble_eq_true rfl) (Nat.le_of_ble_eq_true rfl) (by decide) rfl rfl (fun Ψ hΨ => run_pM_isIn R _ _ _ rfl hΨ) ?_
  show Run Γ rg κ Y_X8_isKey 7 [(40, 0), (0, p1)] [(0, (pM_isIn p1 0 79))] D Φ
  refine c_if_eq (tgt := 23) d_X8_isKey_7 (by decide) (nz_b (pM_isIn_b p1 0 79)) h (fun h => ?_) (fun h => ?_)
  · skip
    show Run Γ rg κ Y_X8_isKey 23 [(40, 0), (0, p1)] [] D Φ
    refine r_iconst d_X8_isKey_23 ?_
    exact c_zret d_X8_isKey_24 rfl (Or.inl rfl) h
  · skip
    show Run Γ rg κ Y_X8_isKey 10 [(40, 0), (0, p1)] [] D Φ
    refine r_aload_n d_X8_isKey_10 rfl (by decide) ?_
    refine r_getR (t := 36) d_X8_isKey_11 fk_RX8_19 sh_32 rfl (by decide) (R 32 rfl) ?_
    refine r_iload_n d_X8_isKey_14 rfl ?_
    refine c_zald d_X8_isKey_15 sh_36 (by decide) (R 36 rfl) (by decide) h (fun v1 h => ?_)
    refine c_if_eq (tgt := 23) d_X8_isKey_16 (by decide) (nz_w _) h (fun h => ?_) (fun h => ?_)
    · skip
      show Run Γ rg κ Y_X8_isKey 23 [(40, 0), (0, p1)] [] D Φ
      refine r_iconst d_X8_isKey_23 ?_
      exact c_zret d_X8_isKey_24 rfl (Or.inl rfl) h
    · skip
      show Run Γ rg κ Y_X8_isKey 19 [(40, 0), (0, p1)] [] D Φ
      refine r_iconst d_X8_isKey_19 ?_
      refine r_goto (tgt := 24) d_X8_isKey_20 (by decide) ?_
      show Run Γ rg κ Y_X8_isKey 24 [(40, 0), (0, p1)] [(0, 1)] D Φ
      exact c_zret d_X8_isKey_24 rfl (Or.inr rfl) h
set_option maxRecDepth 20000 in
theorem run_pM_fails {Γ : GG} {rg : Nat → Bool} {κ : Nat} {Φ : OT → DD → Prop} (R : cov rg rg1) (p1 : Int) {D : DD} (h : WP (some .boolean) κ Φ (pM_fails p1 D)) : Run Γ rg κ Y_X8_fails 0 [(40, 0), (0, p1)] [] D Φ := by
  unfold pM_fails at h
  show Run Γ rg κ Y_X8_fails 0 [(40, 0), (0, p1)] [] D Φ
  refine r_aload_n d_X8_fails_0 rfl (by decide) ?_
  refine r_iload_n d_X8_fails_1 rfl ?_
  refine c_putI (k := 42) d_X8_fails_2 pk_RX8_120 sh_32 rfl (by decide) (R 32 rfl) h (fun D1 h => ?_)
  refine r_iload_n d_X8_fails_5 rfl ?_
  refine c_if_le (tgt := 13) d_X8_fails_6 (by decide) (nz_w _) h (fun h => ?_) (fun h => ?_)
  · skip
    show Run Γ rg κ Y_X8_fails 13 [(40, 0), (0, p1)] [] D1 Φ
    refine r_iconst d_X8_fails_13 ?_
    exact c_zret d_X8_fails_14 rfl (Or.inl rfl) h
  · skip
    show Run Γ rg κ Y_X8_fails 9 [(40, 0), (0, p1)] [] D1 Φ
    refine r_iconst d_X8_fails_9 ?_
    refine r_goto (tgt := 14) d_X8_fails_10 (by decide) ?_
    show Run Γ rg κ Y_X8_fails 14 [(40, 0), (0, p1)] [(0, 1)] D1 Φ
    exact c_zret d_X8_fails_14 rfl (Or.inr rfl) h
set_option maxRecDepth 20000 in
theorem run_pM_writes_28 {Γ : GG} {rg : Nat → Bool} {κ : Nat} {Φ : OT → DD → Prop} (R : cov rg rg1) (a1 : Int) (a2 : Int) : ∀ (n : Nat) (a3 : Int) (D : DD), WP none κ Φ (pM_writes_28 a1 a2 n a3 D) → Run Γ rg κ Y_X8_writes 28 [(40, 0), (0, a1), (0, a2), (0, a3)] [] D Φ := by
  intro n
  induction n with
  | zero => intro a3 D h; exact h.no.elim
  | succ n ih =>
    intro a3 D h
    rw [pM_writes_28] at h
    show Run Γ rg κ Y_X8_writes 28 [(40, 0), (0, a1), (0, a2), (0, a3)] [] D Φ
    refine r_iload_n d_X8_writes_28 rfl ?_
    refine r_iload_n d_X8_writes_29 rfl ?_
    refine r_iload_n d_X8_writes_30 rfl ?_
    refine r_iadd d_X8_writes_31 ?_
    refine c_icmp_ge (tgt := 51) d_X8_writes_32 (by decide) (nz_w _) (nz_w _) h (fun h => ?_) (fun h => ?_)
    · skip
      show Run Γ rg κ Y_X8_writes 51 [(40, 0), (0, a1), (0, a2), (0, a3)] [] D Φ
      exact c_vret d_X8_writes_51 rfl h
    · skip
      show Run Γ rg κ Y_X8_writes 35 [(40, 0), (0, a1), (0, a2), (0, a3)] [] D Φ
      refine r_aload_n d_X8_writes_35 rfl (by decide) ?_
      refine r_getR (t := 58) d_X8_writes_36 fk_RX8_86 sh_32 rfl (by decide) (R 32 rfl) ?_
      refine r_iload_n d_X8_writes_39 rfl ?_
      refine r_bipush d_X8_writes_40 (by decide) ?_
      refine c_idiv d_X8_writes_42 (nz_w _) ⟨by decide, by decide⟩ (by decide) ?_
      refine r_iconst d_X8_writes_43 ?_
      refine c_zast d_X8_writes_44 sh_58 (by decide) (R 58 rfl) (by decide) h (fun D1 h => ?_)
      refine r_iinc d_X8_writes_45 rfl (by decide) rfl ?_
      show Run Γ rg κ Y_X8_writes 48 [(40, 0), (0, a1), (0, a2), (0, (a3 + 1))] [] D1 Φ
      refine r_goto (tgt := 28) d_X8_writes_48 (by decide) ?_
      exact (ih (a3 + 1) D1 h)
set_option maxRecDepth 20000 in
theorem run_pM_writes {Γ : GG} {rg : Nat → Bool} {κ : Nat} {Φ : OT → DD → Prop} (R : cov rg rg1) (p1 : Int) {D : DD} (h : WP none κ Φ (pM_writes p1 D)) : Run Γ rg κ Y_X8_writes 0 [(40, 0), (0, p1), (5, 0), (5, 0)] [] D Φ := by
  unfold pM_writes at h
  show Run Γ rg κ Y_X8_writes 0 [(40, 0), (0, p1), (5, 0), (5, 0)] [] D Φ
  refine r_aload_n d_X8_writes_0 rfl (by decide) ?_
  refine r_getR (t := 33) d_X8_writes_1 fk_RX8_7 sh_32 rfl (by decide) (R 32 rfl) ?_
  refine r_iload_n d_X8_writes_4 rfl ?_
  refine c_iald d_X8_writes_5 sh_33 (by decide) (R 33 rfl) (by decide) h (fun v1 h => ?_)
  refine c_jn (fun J => ∀ (x1 : Int) (D1 : DD), WP none κ Φ (J x1 D1) → Run Γ rg κ Y_X8_writes 25 [(40, 0), (0, p1), (5, 0), (5, 0)] [(0, x1)] D1 Φ) h ?_ (fun J1 hJ1 h => ?_)
  · intro x1 D1 h
    show Run Γ rg κ Y_X8_writes 25 [(40, 0), (0, p1), (5, 0), (5, 0)] [(0, x1)] D1 Φ
    refine r_istore_n d_X8_writes_25 (by decide) rfl ?_
    show Run Γ rg κ Y_X8_writes 26 [(40, 0), (0, p1), (0, x1), (5, 0)] [] D1 Φ
    refine r_iload_n d_X8_writes_26 rfl ?_
    refine r_istore_n d_X8_writes_27 (by decide) rfl ?_
    show Run Γ rg κ Y_X8_writes 28 [(40, 0), (0, p1), (0, x1), (0, p1)] [] D1 Φ
    exact run_pM_writes_28 R p1 x1 fu p1 D1 h
  refine c_if_ge (tgt := 19) d_X8_writes_6 (by decide) (nz_w _) h (fun h => ?_) (fun h => ?_)
  · skip
    show Run Γ rg κ Y_X8_writes 19 [(40, 0), (0, p1), (5, 0), (5, 0)] [] D Φ
    refine r_aload_n d_X8_writes_19 rfl (by decide) ?_
    refine r_getR (t := 33) d_X8_writes_20 fk_RX8_7 sh_32 rfl (by decide) (R 32 rfl) ?_
    refine r_iload_n d_X8_writes_23 rfl ?_
    refine c_iald d_X8_writes_24 sh_33 (by decide) (R 33 rfl) (by decide) h (fun v2 h => ?_)
    exact (hJ1 v2 D h)
  · skip
    show Run Γ rg κ Y_X8_writes 9 [(40, 0), (0, p1), (5, 0), (5, 0)] [] D Φ
    refine r_aload_n d_X8_writes_9 rfl (by decide) ?_
    refine r_getR (t := 33) d_X8_writes_10 fk_RX8_7 sh_32 rfl (by decide) (R 32 rfl) ?_
    refine r_iload_n d_X8_writes_13 rfl ?_
    refine c_iald d_X8_writes_14 sh_33 (by decide) (R 33 rfl) (by decide) h (fun v3 h => ?_)
    refine r_ineg d_X8_writes_15 ?_
    refine r_goto (tgt := 25) d_X8_writes_16 (by decide) ?_
    exact (hJ1 (-v3) D h)
set_option maxRecDepth 20000 in
theorem run_pM_writesGot_2 {Γ : GG} {rg : Nat → Bool} {κ : Nat} {Φ : OT → DD → Prop} (R : cov rg rg1) : ∀ (n : Nat) (a1 : Int) (D : DD), WP none κ Φ (pM_writesGot_2 n a1 D) → Run Γ rg κ Y_X8_writesGot 2 [(40, 0), (0, a1)] [] D Φ := by
  intro n
  induction n with
  | zero => intro a1 D h; exact h.no.elim
  | succ n ih =>
    intro a1 D h
    rw [pM_writesGot_2] at h
    show Run Γ rg κ Y_X8_writesGot 2 [(40, 0), (0, a1)] [] D Φ
    refine r_iload_n d_X8_writesGot_2 rfl ?_
    refine r_aload_n d_X8_writesGot_3 rfl (by decide) ?_
    refine r_getI d_X8_writesGot_4 fk_RX8_146 sh_32 rfl (by decide) (by decide) (R 32 rfl) ?_
    refine c_icmp_ge (tgt := 26) d_X8_writesGot_7 (by decide) (nz_w _) (nz_w _) h (fun h => ?_) (fun h => ?_)
    · skip
      show Run Γ rg κ Y_X8_writesGot 26 [(40, 0), (0, a1)] [] D Φ
      exact c_vret d_X8_writesGot_26 rfl h
    · skip
      show Run Γ rg κ Y_X8_writesGot 10 [(40, 0), (0, a1)] [] D Φ
      refine r_aload_n d_X8_writesGot_10 rfl (by decide) ?_
      refine r_aload_n d_X8_writesGot_11 rfl (by decide) ?_
      refine r_getR (t := 66) d_X8_writesGot_12 fk_RX8_110 sh_32 rfl (by decide) (R 32 rfl) ?_
      refine r_iload_n d_X8_writesGot_15 rfl ?_
      refine c_iald d_X8_writesGot_16 sh_66 (by decide) (R 66 rfl) (by decide) h (fun v1 h => ?_)
      refine c_callVv (a := 32) (z := 0) (as := [(0, v1)]) (rest := []) (ls' := [(40, 0), (0, v1), (5, 0), (5, 0)]) d_X8_writesGot_17 ck_RX8_152 rfl sh_32 rfl (by decide) (R 32 rfl) rfl rfl (Nat.le_of_ble_eq_true rfl) (Nat.le_of_ble_eq_true rfl) (by decide) rfl rfl (fun κ' Ψ hΨ => run_pM_writes R _ hΨ) h (fun _ D1 h => ?_)
      show Run Γ rg κ Y_X8_writesGot 20 [(40, 0), (0, a1)] [] D1 Φ
      refine r_iinc d_X8_writesGot_20 rfl (by decide) rfl ?_
      show Run Γ rg κ Y_X8_writesGot 23 [(40, 0), (0, (a1 + 1))] [] D1 Φ
      refine r_goto (tgt := 2) d_X8_writesGot_23 (by decide) ?_
      exact (ih (a1 + 1) D1 h)
set_option maxRecDepth 20000 in
theorem run_pM_writesGot {Γ : GG} {rg : Nat → Bool} {κ : Nat} {Φ : OT → DD → Prop} (R : cov rg rg1) {D : DD} (h : WP none κ Φ (pM_writesGot D)) : Run Γ rg κ Y_X8_writesGot 0 [(40, 0), (5, 0)] [] D Φ := by
  unfold pM_writesGot at h
  show Run Γ rg κ Y_X8_writesGot 0 [(40, 0), (5, 0)] [] D Φ
  refine r_iconst d_X8_writesGot_0 ?_
  refine r_istore_n d_X8_writesGot_1 (by decide) rfl ?_
  show Run Γ rg κ Y_X8_writesGot 2 [(40, 0), (0, 0)] [] D Φ
  exact run_pM_writesGot_2 R fu 0 D h
set_option maxRecDepth 20000 in
theorem run_pM_start_5 {Γ : GG} {rg : Nat → Bool} {κ : Nat} {Φ : OT → DD → Prop} (R : cov rg rg1) (a1 : Int) (a2 : Int) : ∀ (n : Nat) (a3 : Int) (a4 : Int) (D : DD), WP (some .int) κ Φ (pM_start_5 a1 a2 n a3 a4 D) → Run Γ rg κ Y_X8_start 5 [(40, 0), (0, a1), (0, a2), (0, a3), (0, a4)] [] D Φ := by
  intro n
  induction n with
  | zero => intro a3 a4 D h; exact h.no.elim
  | succ n ih =>
    intro a3 a4 D h
    rw [pM_start_5] at h
    show Run Γ rg κ Y_X8_start 5 [(40, 0), (0, a1), (0, a2), (0, a3), (0, a4)] [] D Φ
    refine r_iload d_X8_start_5 rfl ?_
    refine r_iload_n d_X8_start_7 rfl ?_
    refine c_icmp_ge (tgt := 32) d_X8_start_8 (by decide) (nz_w _) (nz_w _) h (fun h => ?_) (fun h => ?_)
    · skip
      show Run Γ rg κ Y_X8_start 32 [(40, 0), (0, a1), (0, a2), (0, a3), (0, a4)] [] D Φ
      refine r_iload_n d_X8_start_32 rfl ?_
      exact c_iret d_X8_start_33 rfl h
    · skip
      show Run Γ rg κ Y_X8_start 11 [(40, 0), (0, a1), (0, a2), (0, a3), (0, a4)] [] D Φ
      refine r_iload_n d_X8_start_11 rfl ?_
      refine r_aload_n d_X8_start_12 rfl (by decide) ?_
      refine r_getR (t := 45) d_X8_start_13 fk_RX8_47 sh_32 rfl (by decide) (R 32 rfl) ?_
      refine r_bipush d_X8_start_16 (by decide) ?_
      refine r_iload_n d_X8_start_18 rfl ?_
      refine r_imul d_X8_start_19 ?_
      refine r_iload d_X8_start_20 rfl ?_
      refine r_iadd d_X8_start_22 ?_
      refine c_iald d_X8_start_23 sh_45 (by decide) (R 45 rfl) (by decide) h (fun v1 h => ?_)
      refine r_iadd d_X8_start_24 ?_
      refine c_lt_n d_X8_start_25 (by decide) rfl h (fun x1 h => ?_)
      show Run Γ rg κ Y_X8_start 26 [(40, 0), (0, a1), (0, a2), (0, x1), (0, a4)] [] D Φ
      show Run Γ rg κ Y_X8_start 26 [(40, 0), (0, a1), (0, a2), (0, x1), (0, a4)] [] D Φ
      refine r_iinc d_X8_start_26 rfl (by decide) rfl ?_
      show Run Γ rg κ Y_X8_start 29 [(40, 0), (0, a1), (0, a2), (0, x1), (0, (a4 + 1))] [] D Φ
      refine r_goto (tgt := 5) d_X8_start_29 (by decide) ?_
      exact (ih x1 (a4 + 1) D h)
set_option maxRecDepth 20000 in
theorem run_pM_start {Γ : GG} {rg : Nat → Bool} {κ : Nat} {Φ : OT → DD → Prop} (R : cov rg rg1) (p1 : Int) (p2 : Int) {D : DD} (h : WP (some .int) κ Φ (pM_start p1 p2 D)) : Run Γ rg κ Y_X8_start 0 [(40, 0), (0, p1), (0, p2), (5, 0), (5, 0)] [] D Φ := by
  unfold pM_start at h
  show Run Γ rg κ Y_X8_start 0 [(40, 0), (0, p1), (0, p2), (5, 0), (5, 0)] [] D Φ
  refine r_iconst d_X8_start_0 ?_
  refine r_istore_n d_X8_start_1 (by decide) rfl ?_
  show Run Γ rg κ Y_X8_start 2 [(40, 0), (0, p1), (0, p2), (0, 0), (5, 0)] [] D Φ
  refine r_iconst d_X8_start_2 ?_
  refine r_istore d_X8_start_3 (by decide) rfl ?_
  show Run Γ rg κ Y_X8_start 5 [(40, 0), (0, p1), (0, p2), (0, 0), (0, 0)] [] D Φ
  exact run_pM_start_5 R p1 p2 fu 0 0 D h
set_option maxRecDepth 20000 in
theorem run_pM_rank {Γ : GG} {rg : Nat → Bool} {κ : Nat} {Φ : OT → DD → Prop} (R : cov rg rg1) (p1 : Int) {D : DD} {x : Int} (h : EQx x (pM_rank p1)) (hΦ : Φ (.inl (some (0, x))) D) : Run Γ rg κ Y_X8_rank 0 [(0, p1)] [] D Φ := by
  unfold pM_rank at h
  show Run Γ rg κ Y_X8_rank 0 [(0, p1)] [] D Φ
  refine r_sipush d_X8_rank_0 (by decide) ?_
  refine r_bipush d_X8_rank_3 (by decide) ?_
  refine r_iload_n d_X8_rank_5 rfl ?_
  refine r_imul d_X8_rank_6 ?_
  refine r_bipush d_X8_rank_7 (by decide) ?_
  refine c_irem d_X8_rank_9 (nz_w _) ⟨by decide, by decide⟩ (by decide) ?_
  refine r_imul d_X8_rank_10 ?_
  refine r_iload_n d_X8_rank_11 rfl ?_
  refine r_iadd d_X8_rank_12 ?_
  exact e_iret d_X8_rank_13 rfl h hΦ
set_option maxRecDepth 20000 in
theorem run_pM_leafFor_5 {Γ : GG} {rg : Nat → Bool} {κ : Nat} {Φ : OT → DD → Prop} (R : cov rg rg1) (a1 : Int) (a2 : Int) : ∀ (n : Nat) (a3 : Int) (a4 : Int) (D : DD), WP (some .int) κ Φ (pM_leafFor_5 a1 a2 n a3 a4 D) → Run Γ rg κ Y_X8_leafFor 5 [(40, 0), (0, a1), (0, a2), (0, a3), (0, a4)] [] D Φ := by
  intro n
  induction n with
  | zero => intro a3 a4 D h; exact h.no.elim
  | succ n ih =>
    intro a3 a4 D h
    rw [pM_leafFor_5] at h
    show Run Γ rg κ Y_X8_leafFor 5 [(40, 0), (0, a1), (0, a2), (0, a3), (0, a4)] [] D Φ
    refine r_iload d_X8_leafFor_5 rfl ?_
    refine r_aload_n d_X8_leafFor_7 rfl (by decide) ?_
    refine r_getR (t := 42) d_X8_leafFor_8 fk_RX8_38 sh_32 rfl (by decide) (R 32 rfl) ?_
    refine r_iload_n d_X8_leafFor_11 rfl ?_
    refine c_iald d_X8_leafFor_12 sh_42 (by decide) (R 42 rfl) (by decide) h (fun v1 h => ?_)
    refine c_icmp_ge (tgt := 56) d_X8_leafFor_13 (by decide) (nz_w _) (nz_w _) h (fun h => ?_) (fun h => ?_)
    · skip
      show Run Γ rg κ Y_X8_leafFor 56 [(40, 0), (0, a1), (0, a2), (0, a3), (0, a4)] [] D Φ
      refine r_iload_n d_X8_leafFor_56 rfl ?_
      exact c_iret d_X8_leafFor_57 rfl h
    · skip
      show Run Γ rg κ Y_X8_leafFor 16 [(40, 0), (0, a1), (0, a2), (0, a3), (0, a4)] [] D Φ
      refine r_aload_n d_X8_leafFor_16 rfl (by decide) ?_
      refine r_getR (t := 47) d_X8_leafFor_17 fk_RX8_53 sh_32 rfl (by decide) (R 32 rfl) ?_
      refine r_bipush d_X8_leafFor_20 (by decide) ?_
      refine r_iload_n d_X8_leafFor_22 rfl ?_
      refine r_imul d_X8_leafFor_23 ?_
      refine r_aload_n d_X8_leafFor_24 rfl (by decide) ?_
      refine r_iload_n d_X8_leafFor_25 rfl ?_
      refine r_iload d_X8_leafFor_26 rfl ?_
      refine c_callVi (t' := (some .int)) (a := 32) (z := 0) (as := [(0, a1), (0, a4)]) (rest := [(0, (32 * a1)), (55, 0)]) (ls' := [(40, 0), (0, a1), (0, a4), (5, 0), (5, 0)]) d_X8_leafFor_28 ck_RX8_159 rfl sh_32 rfl (by decide) (R 32 rfl) rfl rfl (Nat.le_of_ble_eq_true rfl) (Nat.le_of_ble_eq_true rfl) (by decide) rfl rfl (fun _ => rfl) (fun κ' Ψ hΨ => run_pM_start R _ _ hΨ) h (fun v2 D1 h => ?_)
      show Run Γ rg κ Y_X8_leafFor 31 [(40, 0), (0, a1), (0, a2), (0, a3), (0, a4)] [(0, v2), (0, (32 * a1)), (55, 0)] D1 Φ
      refine r_iadd d_X8_leafFor_31 ?_
      refine c_iald d_X8_leafFor_32 sh_47 (by decide) (R 47 rfl) (by decide) h (fun v3 h => ?_)
      show Run Γ rg κ Y_X8_leafFor 33 [(40, 0), (0, a1), (0, a2), (0, a3), (0, a4)] [(0, v3)] D1 Φ
      refine c_callSPi (as := [(0, v3)]) (rest := []) (ls' := [(0, v3)]) d_X8_leafFor_33 ck_RX8_166 rfl rfl rfl (Nat.le_of_ble_eq_true rfl) (Nat.le_of_ble_eq_true rfl) (by decide) rfl rfl (fun Ψ hΨ => run_pM_rank R _ rfl hΨ) ?_
      show Run Γ rg κ Y_X8_leafFor 36 [(40, 0), (0, a1), (0, a2), (0, a3), (0, a4)] [(0, (pM_rank v3))] D1 Φ
      refine r_iload_n d_X8_leafFor_36 rfl ?_
      refine c_callSPi (as := [(0, a2)]) (rest := [(0, (pM_rank v3))]) (ls' := [(0, a2)]) d_X8_leafFor_37 ck_RX8_166 rfl rfl rfl (Nat.le_of_ble_eq_true rfl) (Nat.le_of_ble_eq_true rfl) (by decide) rfl rfl (fun Ψ hΨ => run_pM_rank R _ rfl hΨ) ?_
      show Run Γ rg κ Y_X8_leafFor 40 [(40, 0), (0, a1), (0, a2), (0, a3), (0, a4)] [(0, (pM_rank a2)), (0, (pM_rank v3))] D1 Φ
      refine c_jn (fun J => ∀ (x1 : Int) (D2 : DD), WP (some .int) κ Φ (J x1 D2) → Run Γ rg κ Y_X8_leafFor 49 [(40, 0), (0, a1), (0, a2), (5, 0), (0, a4)] [(0, x1)] D2 Φ) h ?_ (fun J1 hJ1 h => ?_)
      · intro x1 D2 h
        show Run Γ rg κ Y_X8_leafFor 49 [(40, 0), (0, a1), (0, a2), (5, 0), (0, a4)] [(0, x1)] D2 Φ
        refine r_istore_n d_X8_leafFor_49 (by decide) rfl ?_
        show Run Γ rg κ Y_X8_leafFor 50 [(40, 0), (0, a1), (0, a2), (0, x1), (0, a4)] [] D2 Φ
        refine r_iinc d_X8_leafFor_50 rfl (by decide) rfl ?_
        show Run Γ rg κ Y_X8_leafFor 53 [(40, 0), (0, a1), (0, a2), (0, x1), (0, (a4 + 1))] [] D2 Φ
        refine r_goto (tgt := 5) d_X8_leafFor_53 (by decide) ?_
        exact (ih x1 (a4 + 1) D2 h)
      refine c_icmp_ge (tgt := 48) d_X8_leafFor_40 (by decide) (nz_w _) (nz_w _) h (fun h => ?_) (fun h => ?_)
      · skip
        show Run Γ rg κ Y_X8_leafFor 48 [(40, 0), (0, a1), (0, a2), (0, a3), (0, a4)] [] D1 Φ
        refine r_iload_n d_X8_leafFor_48 rfl ?_
        exact Run.forget (ls' := [(40, 0), (0, a1), (0, a2), (5, 0), (0, a4)]) ⟨Or.inr rfl, Or.inr rfl, Or.inr rfl, Or.inl rfl, Or.inr rfl, trivial⟩ (hJ1 a3 D1 h)
      · skip
        show Run Γ rg κ Y_X8_leafFor 43 [(40, 0), (0, a1), (0, a2), (0, a3), (0, a4)] [] D1 Φ
        refine r_iload d_X8_leafFor_43 rfl ?_
        refine r_goto (tgt := 49) d_X8_leafFor_45 (by decide) ?_
        exact Run.forget (ls' := [(40, 0), (0, a1), (0, a2), (5, 0), (0, a4)]) ⟨Or.inr rfl, Or.inr rfl, Or.inr rfl, Or.inl rfl, Or.inr rfl, trivial⟩ (hJ1 a4 D1 h)
set_option maxRecDepth 20000 in
theorem run_pM_leafFor {Γ : GG} {rg : Nat → Bool} {κ : Nat} {Φ : OT → DD → Prop} (R : cov rg rg1) (p1 : Int) (p2 : Int) {D : DD} (h : WP (some .int) κ Φ (pM_leafFor p1 p2 D)) : Run Γ rg κ Y_X8_leafFor 0 [(40, 0), (0, p1), (0, p2), (5, 0), (5, 0)] [] D Φ := by
  unfold pM_leafFor at h
  show Run Γ rg κ Y_X8_leafFor 0 [(40, 0), (0, p1), (0, p2), (5, 0), (5, 0)] [] D Φ
  refine r_iconst d_X8_leafFor_0 ?_
  refine r_istore_n d_X8_leafFor_1 (by decide) rfl ?_
  show Run Γ rg κ Y_X8_leafFor 2 [(40, 0), (0, p1), (0, p2), (0, 0), (5, 0)] [] D Φ
  refine r_iconst d_X8_leafFor_2 ?_
  refine r_istore d_X8_leafFor_3 (by decide) rfl ?_
  show Run Γ rg κ Y_X8_leafFor 5 [(40, 0), (0, p1), (0, p2), (0, 0), (0, 0)] [] D Φ
  exact run_pM_leafFor_5 R p1 p2 fu 0 0 D h
set_option maxRecDepth 20000 in
theorem run_pM_isSplit {Γ : GG} {rg : Nat → Bool} {κ : Nat} {Φ : OT → DD → Prop} (R : cov rg rg1) (p1 : Int) (p2 : Int) {D : DD} (h : WP (some .boolean) κ Φ (pM_isSplit p1 p2 D)) : Run Γ rg κ Y_X8_isSplit 0 [(40, 0), (0, p1), (0, p2)] [] D Φ := by
  unfold pM_isSplit at h
  show Run Γ rg κ Y_X8_isSplit 0 [(40, 0), (0, p1), (0, p2)] [] D Φ
  refine r_aload_n d_X8_isSplit_0 rfl (by decide) ?_
  refine r_getR (t := 42) d_X8_isSplit_1 fk_RX8_38 sh_32 rfl (by decide) (R 32 rfl) ?_
  refine r_iload_n d_X8_isSplit_4 rfl ?_
  refine c_iald d_X8_isSplit_5 sh_42 (by decide) (R 42 rfl) (by decide) h (fun v1 h => ?_)
  refine c_if_le (tgt := 33) d_X8_isSplit_6 (by decide) (nz_w _) h (fun h => ?_) (fun h => ?_)
  · skip
    show Run Γ rg κ Y_X8_isSplit 33 [(40, 0), (0, p1), (0, p2)] [] D Φ
    refine r_iconst d_X8_isSplit_33 ?_
    exact c_zret d_X8_isSplit_34 rfl (Or.inl rfl) h
  · skip
    show Run Γ rg κ Y_X8_isSplit 9 [(40, 0), (0, p1), (0, p2)] [] D Φ
    refine r_aload_n d_X8_isSplit_9 rfl (by decide) ?_
    refine r_getR (t := 45) d_X8_isSplit_10 fk_RX8_47 sh_32 rfl (by decide) (R 32 rfl) ?_
    refine r_bipush d_X8_isSplit_13 (by decide) ?_
    refine r_iload_n d_X8_isSplit_15 rfl ?_
    refine r_imul d_X8_isSplit_16 ?_
    refine r_aload_n d_X8_isSplit_17 rfl (by decide) ?_
    refine r_iload_n d_X8_isSplit_18 rfl ?_
    refine r_iload_n d_X8_isSplit_19 rfl ?_
    refine c_callVi (t' := (some .int)) (a := 32) (z := 0) (as := [(0, p1), (0, p2)]) (rest := [(0, (8 * p1)), (53, 0)]) (ls' := [(40, 0), (0, p1), (0, p2), (5, 0), (5, 0)]) d_X8_isSplit_20 ck_RX8_169 rfl sh_32 rfl (by decide) (R 32 rfl) rfl rfl (Nat.le_of_ble_eq_true rfl) (Nat.le_of_ble_eq_true rfl) (by decide) rfl rfl (fun _ => rfl) (fun κ' Ψ hΨ => run_pM_leafFor R _ _ hΨ) h (fun v2 D1 h => ?_)
    show Run Γ rg κ Y_X8_isSplit 23 [(40, 0), (0, p1), (0, p2)] [(0, v2), (0, (8 * p1)), (53, 0)] D1 Φ
    refine r_iadd d_X8_isSplit_23 ?_
    refine c_iald d_X8_isSplit_24 sh_45 (by decide) (R 45 rfl) (by decide) h (fun v3 h => ?_)
    show Run Γ rg κ Y_X8_isSplit 25 [(40, 0), (0, p1), (0, p2)] [(0, v3)] D1 Φ
    refine r_iconst d_X8_isSplit_25 ?_
    refine c_icmp_ne (tgt := 33) d_X8_isSplit_26 (by decide) (nz_w _) (nz_k rfl) h (fun h => ?_) (fun h => ?_)
    · skip
      show Run Γ rg κ Y_X8_isSplit 33 [(40, 0), (0, p1), (0, p2)] [] D1 Φ
      refine r_iconst d_X8_isSplit_33 ?_
      exact c_zret d_X8_isSplit_34 rfl (Or.inl rfl) h
    · skip
      show Run Γ rg κ Y_X8_isSplit 29 [(40, 0), (0, p1), (0, p2)] [] D1 Φ
      refine r_iconst d_X8_isSplit_29 ?_
      refine r_goto (tgt := 34) d_X8_isSplit_30 (by decide) ?_
      show Run Γ rg κ Y_X8_isSplit 34 [(40, 0), (0, p1), (0, p2)] [(0, 1)] D1 Φ
      exact c_zret d_X8_isSplit_34 rfl (Or.inr rfl) h
set_option maxRecDepth 20000 in
theorem run_pM_enters_88 {Γ : GG} {rg : Nat → Bool} {κ : Nat} {Φ : OT → DD → Prop} (R : cov rg rg1) (a1 : Int) (a3 : Int) (a9 : Int) (c2 : Int) (c5 : Int) (c6 : Int) (c7 : Int) {K : Int → DD → Res} (hK : ∀ (z8 : Int) (D : DD), WP none κ Φ (K z8 D) → Run Γ rg κ Y_X8_enters 123 [(40, 0), (0, a1), (0, c2), (0, a3), (5, 0), (0, c5), (0, c6), (0, c7), (0, z8), (5, 0), (5, 0)] [] D Φ) : ∀ (n : Nat) (a8 : Int) (D : DD), WP none κ Φ (pM_enters_88 a1 a3 a9 n a8 D K) → Run Γ rg κ Y_X8_enters 88 [(40, 0), (0, a1), (0, c2), (0, a3), (5, 0), (0, c5), (0, c6), (0, c7), (0, a8), (0, a9), (5, 0)] [] D Φ := by
  intro n
  induction n with
  | zero => intro a8 D h; exact h.no.elim
  | succ n ih =>
    intro a8 D h
    rw [pM_enters_88] at h
    show Run Γ rg κ Y_X8_enters 88 [(40, 0), (0, a1), (0, c2), (0, a3), (5, 0), (0, c5), (0, c6), (0, c7), (0, a8), (0, a9), (5, 0)] [] D Φ
    refine r_iload d_X8_enters_88 rfl ?_
    refine r_iload d_X8_enters_90 rfl ?_
    refine c_icmp_ge (tgt := 123) d_X8_enters_92 (by decide) (nz_w _) (nz_w _) h (fun h => ?_) (fun h => ?_)
    · skip
      exact Run.forget (ls' := [(40, 0), (0, a1), (0, c2), (0, a3), (5, 0), (0, c5), (0, c6), (0, c7), (0, a8), (5, 0), (5, 0)]) ⟨Or.inr rfl, Or.inr rfl, Or.inr rfl, Or.inr rfl, Or.inr rfl, Or.inr rfl, Or.inr rfl, Or.inr rfl, Or.inr rfl, Or.inl rfl, Or.inr rfl, trivial⟩ (hK a8 D h)
    · skip
      show Run Γ rg κ Y_X8_enters 95 [(40, 0), (0, a1), (0, c2), (0, a3), (5, 0), (0, c5), (0, c6), (0, c7), (0, a8), (0, a9), (5, 0)] [] D Φ
      refine r_aload_n d_X8_enters_95 rfl (by decide) ?_
      refine r_getR (t := 47) d_X8_enters_96 fk_RX8_53 sh_32 rfl (by decide) (R 32 rfl) ?_
      refine r_bipush d_X8_enters_99 (by decide) ?_
      refine r_iload_n d_X8_enters_101 rfl ?_
      refine r_imul d_X8_enters_102 ?_
      refine r_iload d_X8_enters_103 rfl ?_
      refine r_iadd d_X8_enters_105 ?_
      refine c_iald d_X8_enters_106 sh_47 (by decide) (R 47 rfl) (by decide) h (fun v1 h => ?_)
      refine c_callSPi (as := [(0, v1)]) (rest := []) (ls' := [(0, v1)]) d_X8_enters_107 ck_RX8_166 rfl rfl rfl (Nat.le_of_ble_eq_true rfl) (Nat.le_of_ble_eq_true rfl) (by decide) rfl rfl (fun Ψ hΨ => run_pM_rank R _ rfl hΨ) ?_
      show Run Γ rg κ Y_X8_enters 110 [(40, 0), (0, a1), (0, c2), (0, a3), (5, 0), (0, c5), (0, c6), (0, c7), (0, a8), (0, a9), (5, 0)] [(0, (pM_rank v1))] D Φ
      refine r_iload_n d_X8_enters_110 rfl ?_
      refine c_callSPi (as := [(0, a3)]) (rest := [(0, (pM_rank v1))]) (ls' := [(0, a3)]) d_X8_enters_111 ck_RX8_166 rfl rfl rfl (Nat.le_of_ble_eq_true rfl) (Nat.le_of_ble_eq_true rfl) (by decide) rfl rfl (fun Ψ hΨ => run_pM_rank R _ rfl hΨ) ?_
      show Run Γ rg κ Y_X8_enters 114 [(40, 0), (0, a1), (0, c2), (0, a3), (5, 0), (0, c5), (0, c6), (0, c7), (0, a8), (0, a9), (5, 0)] [(0, (pM_rank a3)), (0, (pM_rank v1))] D Φ
      show Run Γ rg κ Y_X8_enters 114 [(40, 0), (0, a1), (0, c2), (0, a3), (5, 0), (0, c5), (0, c6), (0, c7), (0, a8), (0, a9), (5, 0)] [(0, (pM_rank a3)), (0, (pM_rank v1))] D Φ
      refine c_icmp_ge (tgt := 123) d_X8_enters_114 (by decide) (nz_w _) (nz_w _) h (fun h => ?_) (fun h => ?_)
      · skip
        exact Run.forget (ls' := [(40, 0), (0, a1), (0, c2), (0, a3), (5, 0), (0, c5), (0, c6), (0, c7), (0, a8), (5, 0), (5, 0)]) ⟨Or.inr rfl, Or.inr rfl, Or.inr rfl, Or.inr rfl, Or.inr rfl, Or.inr rfl, Or.inr rfl, Or.inr rfl, Or.inr rfl, Or.inl rfl, Or.inr rfl, trivial⟩ (hK a8 D h)
      · skip
        show Run Γ rg κ Y_X8_enters 117 [(40, 0), (0, a1), (0, c2), (0, a3), (5, 0), (0, c5), (0, c6), (0, c7), (0, a8), (0, a9), (5, 0)] [] D Φ
        refine r_iinc d_X8_enters_117 rfl (by decide) rfl ?_
        show Run Γ rg κ Y_X8_enters 120 [(40, 0), (0, a1), (0, c2), (0, a3), (5, 0), (0, c5), (0, c6), (0, c7), (0, (a8 + 1)), (0, a9), (5, 0)] [] D Φ
        refine r_goto (tgt := 88) d_X8_enters_120 (by decide) ?_
        exact (ih (a8 + 1) D h)
set_option maxRecDepth 20000 in
theorem run_pM_entries {Γ : GG} {rg : Nat → Bool} {κ : Nat} {Φ : OT → DD → Prop} (R : cov rg rg1) (p1 : Int) {D : DD} (h : WP (some .int) κ Φ (pM_entries p1 D)) : Run Γ rg κ Y_X8_entries 0 [(40, 0), (0, p1)] [] D Φ := by
  unfold pM_entries at h
  show Run Γ rg κ Y_X8_entries 0 [(40, 0), (0, p1)] [] D Φ
  refine r_aload_n d_X8_entries_0 rfl (by decide) ?_
  refine r_iload_n d_X8_entries_1 rfl ?_
  refine r_aload_n d_X8_entries_2 rfl (by decide) ?_
  refine r_getR (t := 42) d_X8_entries_3 fk_RX8_38 sh_32 rfl (by decide) (R 32 rfl) ?_
  refine r_iload_n d_X8_entries_6 rfl ?_
  refine c_iald d_X8_entries_7 sh_42 (by decide) (R 42 rfl) (by decide) h (fun v1 h => ?_)
  refine c_callVi (t' := (some .int)) (a := 32) (z := 0) (as := [(0, p1), (0, v1)]) (rest := []) (ls' := [(40, 0), (0, p1), (0, v1), (5, 0), (5, 0)]) d_X8_entries_8 ck_RX8_159 rfl sh_32 rfl (by decide) (R 32 rfl) rfl rfl (Nat.le_of_ble_eq_true rfl) (Nat.le_of_ble_eq_true rfl) (by decide) rfl rfl (fun _ => rfl) (fun κ' Ψ hΨ => run_pM_start R _ _ hΨ) h (fun v2 D1 h => ?_)
  show Run Γ rg κ Y_X8_entries 11 [(40, 0), (0, p1)] [(0, v2)] D1 Φ
  exact c_iret d_X8_entries_11 rfl h
set_option maxRecDepth 20000 in
theorem run_pM_enters_130 {Γ : GG} {rg : Nat → Bool} {κ : Nat} {Φ : OT → DD → Prop} (R : cov rg rg1) (a1 : Int) (a8 : Int) (c2 : Int) (c3 : Int) (c5 : Int) (c6 : Int) (c7 : Int) {K : DD → Res} (hK : ∀ (D : DD), WP none κ Φ (K D) → Run Γ rg κ Y_X8_enters 195 [(40, 0), (0, a1), (0, c2), (0, c3), (5, 0), (0, c5), (0, c6), (0, c7), (0, a8), (5, 0), (5, 0)] [] D Φ) : ∀ (n : Nat) (a10 : Int) (D : DD), WP none κ Φ (pM_enters_130 a1 a8 n a10 D K) → Run Γ rg κ Y_X8_enters 130 [(40, 0), (0, a1), (0, c2), (0, c3), (5, 0), (0, c5), (0, c6), (0, c7), (0, a8), (5, 0), (0, a10)] [] D Φ := by
  intro n
  induction n with
  | zero => intro a10 D h; exact h.no.elim
  | succ n ih =>
    intro a10 D h
    rw [pM_enters_130] at h
    show Run Γ rg κ Y_X8_enters 130 [(40, 0), (0, a1), (0, c2), (0, c3), (5, 0), (0, c5), (0, c6), (0, c7), (0, a8), (5, 0), (0, a10)] [] D Φ
    refine r_iload d_X8_enters_130 rfl ?_
    refine r_iload d_X8_enters_132 rfl ?_
    refine c_icmp_le (tgt := 195) d_X8_enters_134 (by decide) (nz_w _) (nz_w _) h (fun h => ?_) (fun h => ?_)
    · skip
      exact Run.forget (ls' := [(40, 0), (0, a1), (0, c2), (0, c3), (5, 0), (0, c5), (0, c6), (0, c7), (0, a8), (5, 0), (5, 0)]) ⟨Or.inr rfl, Or.inr rfl, Or.inr rfl, Or.inr rfl, Or.inr rfl, Or.inr rfl, Or.inr rfl, Or.inr rfl, Or.inr rfl, Or.inr rfl, Or.inl rfl, trivial⟩ (hK D h)
    · skip
      show Run Γ rg κ Y_X8_enters 137 [(40, 0), (0, a1), (0, c2), (0, c3), (5, 0), (0, c5), (0, c6), (0, c7), (0, a8), (5, 0), (0, a10)] [] D Φ
      refine r_aload_n d_X8_enters_137 rfl (by decide) ?_
      refine r_getR (t := 46) d_X8_enters_138 fk_RX8_50 sh_32 rfl (by decide) (R 32 rfl) ?_
      refine r_bipush d_X8_enters_141 (by decide) ?_
      refine r_iload_n d_X8_enters_143 rfl ?_
      refine r_imul d_X8_enters_144 ?_
      refine r_iload d_X8_enters_145 rfl ?_
      refine r_iadd d_X8_enters_147 ?_
      refine r_aload_n d_X8_enters_148 rfl (by decide) ?_
      refine r_getR (t := 46) d_X8_enters_149 fk_RX8_50 sh_32 rfl (by decide) (R 32 rfl) ?_
      refine r_bipush d_X8_enters_152 (by decide) ?_
      refine r_iload_n d_X8_enters_154 rfl ?_
      show Run Γ rg κ Y_X8_enters 155 [(40, 0), (0, a1), (0, c2), (0, c3), (5, 0), (0, c5), (0, c6), (0, c7), (0, a8), (5, 0), (0, a10)] [(0, a1), (0, 32), (54, 0), (0, ((32 * a1) + a10)), (54, 0)] D Φ
      refine r_imul d_X8_enters_155 ?_
      refine r_iload d_X8_enters_156 rfl ?_
      refine r_iadd d_X8_enters_158 ?_
      refine r_iconst d_X8_enters_159 ?_
      refine r_isub d_X8_enters_160 ?_
      refine c_iald d_X8_enters_161 sh_46 (by decide) (R 46 rfl) (by decide) h (fun v1 h => ?_)
      refine c_iast d_X8_enters_162 sh_46 (by decide) (R 46 rfl) (by decide) h (fun D1 h => ?_)
      refine r_aload_n d_X8_enters_163 rfl (by decide) ?_
      refine r_getR (t := 47) d_X8_enters_164 fk_RX8_53 sh_32 rfl (by decide) (R 32 rfl) ?_
      refine r_bipush d_X8_enters_167 (by decide) ?_
      refine r_iload_n d_X8_enters_169 rfl ?_
      refine r_imul d_X8_enters_170 ?_
      show Run Γ rg κ Y_X8_enters 171 [(40, 0), (0, a1), (0, c2), (0, c3), (5, 0), (0, c5), (0, c6), (0, c7), (0, a8), (5, 0), (0, a10)] [(0, (32 * a1)), (55, 0)] D1 Φ
      refine r_iload d_X8_enters_171 rfl ?_
      refine r_iadd d_X8_enters_173 ?_
      refine r_aload_n d_X8_enters_174 rfl (by decide) ?_
      refine r_getR (t := 47) d_X8_enters_175 fk_RX8_53 sh_32 rfl (by decide) (R 32 rfl) ?_
      refine r_bipush d_X8_enters_178 (by decide) ?_
      refine r_iload_n d_X8_enters_180 rfl ?_
      refine r_imul d_X8_enters_181 ?_
      refine r_iload d_X8_enters_182 rfl ?_
      refine r_iadd d_X8_enters_184 ?_
      refine r_iconst d_X8_enters_185 ?_
      refine r_isub d_X8_enters_186 ?_
      refine c_iald d_X8_enters_187 sh_47 (by decide) (R 47 rfl) (by decide) h (fun v2 h => ?_)
      show Run Γ rg κ Y_X8_enters 188 [(40, 0), (0, a1), (0, c2), (0, c3), (5, 0), (0, c5), (0, c6), (0, c7), (0, a8), (5, 0), (0, a10)] [(0, v2), (0, ((32 * a1) + a10)), (55, 0)] D1 Φ
      refine c_iast d_X8_enters_188 sh_47 (by decide) (R 47 rfl) (by decide) h (fun D2 h => ?_)
      refine r_iinc d_X8_enters_189 rfl (by decide) rfl ?_
      show Run Γ rg κ Y_X8_enters 192 [(40, 0), (0, a1), (0, c2), (0, c3), (5, 0), (0, c5), (0, c6), (0, c7), (0, a8), (5, 0), (0, (a10 + (-1)))] [] D2 Φ
      refine r_goto (tgt := 130) d_X8_enters_192 (by decide) ?_
      exact (ih (a10 + (-1)) D2 h)
set_option maxRecDepth 20000 in
theorem run_pM_enters_292 {Γ : GG} {rg : Nat → Bool} {κ : Nat} {Φ : OT → DD → Prop} (R : cov rg rg1) (a1 : Int) (a6 : Int) (c5 : Int) {K : DD → Res} (hK : ∀ (D : DD), WP none κ Φ (K D) → Run Γ rg κ Y_X8_enters 359 [(40, 0), (0, a1), (5, 0), (5, 0), (5, 0), (0, c5), (0, a6), (5, 0), (5, 0), (5, 0), (5, 0)] [] D Φ) : ∀ (n : Nat) (a10 : Int) (D : DD), WP none κ Φ (pM_enters_292 a1 a6 n a10 D K) → Run Γ rg κ Y_X8_enters 292 [(40, 0), (0, a1), (5, 0), (5, 0), (5, 0), (0, c5), (0, a6), (5, 0), (5, 0), (5, 0), (0, a10)] [] D Φ := by
  intro n
  induction n with
  | zero => intro a10 D h; exact h.no.elim
  | succ n ih =>
    intro a10 D h
    rw [pM_enters_292] at h
    show Run Γ rg κ Y_X8_enters 292 [(40, 0), (0, a1), (5, 0), (5, 0), (5, 0), (0, c5), (0, a6), (5, 0), (5, 0), (5, 0), (0, a10)] [] D Φ
    refine r_iload d_X8_enters_292 rfl ?_
    refine r_iload d_X8_enters_294 rfl ?_
    refine r_iconst d_X8_enters_296 ?_
    refine r_iadd d_X8_enters_297 ?_
    refine c_icmp_le (tgt := 359) d_X8_enters_298 (by decide) (nz_w _) (nz_w _) h (fun h => ?_) (fun h => ?_)
    · skip
      exact Run.forget (ls' := [(40, 0), (0, a1), (5, 0), (5, 0), (5, 0), (0, c5), (0, a6), (5, 0), (5, 0), (5, 0), (5, 0)]) ⟨Or.inr rfl, Or.inr rfl, Or.inr rfl, Or.inr rfl, Or.inr rfl, Or.inr rfl, Or.inr rfl, Or.inr rfl, Or.inr rfl, Or.inr rfl, Or.inl rfl, trivial⟩ (hK D h)
    · skip
      show Run Γ rg κ Y_X8_enters 301 [(40, 0), (0, a1), (5, 0), (5, 0), (5, 0), (0, c5), (0, a6), (5, 0), (5, 0), (5, 0), (0, a10)] [] D Φ
      refine r_aload_n d_X8_enters_301 rfl (by decide) ?_
      refine r_getR (t := 44) d_X8_enters_302 fk_RX8_44 sh_32 rfl (by decide) (R 32 rfl) ?_
      refine r_bipush d_X8_enters_305 (by decide) ?_
      refine r_iload_n d_X8_enters_307 rfl ?_
      refine r_imul d_X8_enters_308 ?_
      refine r_iload d_X8_enters_309 rfl ?_
      refine r_iadd d_X8_enters_311 ?_
      refine r_aload_n d_X8_enters_312 rfl (by decide) ?_
      refine r_getR (t := 44) d_X8_enters_313 fk_RX8_44 sh_32 rfl (by decide) (R 32 rfl) ?_
      refine r_bipush d_X8_enters_316 (by decide) ?_
      refine r_iload_n d_X8_enters_318 rfl ?_
      show Run Γ rg κ Y_X8_enters 319 [(40, 0), (0, a1), (5, 0), (5, 0), (5, 0), (0, c5), (0, a6), (5, 0), (5, 0), (5, 0), (0, a10)] [(0, a1), (0, 8), (52, 0), (0, ((8 * a1) + a10)), (52, 0)] D Φ
      refine r_imul d_X8_enters_319 ?_
      refine r_iload d_X8_enters_320 rfl ?_
      refine r_iadd d_X8_enters_322 ?_
      refine r_iconst d_X8_enters_323 ?_
      refine r_isub d_X8_enters_324 ?_
      refine c_iald d_X8_enters_325 sh_44 (by decide) (R 44 rfl) (by decide) h (fun v1 h => ?_)
      refine c_iast d_X8_enters_326 sh_44 (by decide) (R 44 rfl) (by decide) h (fun D1 h => ?_)
      refine r_aload_n d_X8_enters_327 rfl (by decide) ?_
      refine r_getR (t := 45) d_X8_enters_328 fk_RX8_47 sh_32 rfl (by decide) (R 32 rfl) ?_
      refine r_bipush d_X8_enters_331 (by decide) ?_
      refine r_iload_n d_X8_enters_333 rfl ?_
      refine r_imul d_X8_enters_334 ?_
      show Run Γ rg κ Y_X8_enters 335 [(40, 0), (0, a1), (5, 0), (5, 0), (5, 0), (0, c5), (0, a6), (5, 0), (5, 0), (5, 0), (0, a10)] [(0, (8 * a1)), (53, 0)] D1 Φ
      refine r_iload d_X8_enters_335 rfl ?_
      refine r_iadd d_X8_enters_337 ?_
      refine r_aload_n d_X8_enters_338 rfl (by decide) ?_
      refine r_getR (t := 45) d_X8_enters_339 fk_RX8_47 sh_32 rfl (by decide) (R 32 rfl) ?_
      refine r_bipush d_X8_enters_342 (by decide) ?_
      refine r_iload_n d_X8_enters_344 rfl ?_
      refine r_imul d_X8_enters_345 ?_
      refine r_iload d_X8_enters_346 rfl ?_
      refine r_iadd d_X8_enters_348 ?_
      refine r_iconst d_X8_enters_349 ?_
      refine r_isub d_X8_enters_350 ?_
      refine c_iald d_X8_enters_351 sh_45 (by decide) (R 45 rfl) (by decide) h (fun v2 h => ?_)
      show Run Γ rg κ Y_X8_enters 352 [(40, 0), (0, a1), (5, 0), (5, 0), (5, 0), (0, c5), (0, a6), (5, 0), (5, 0), (5, 0), (0, a10)] [(0, v2), (0, ((8 * a1) + a10)), (53, 0)] D1 Φ
      refine c_iast d_X8_enters_352 sh_45 (by decide) (R 45 rfl) (by decide) h (fun D2 h => ?_)
      refine r_iinc d_X8_enters_353 rfl (by decide) rfl ?_
      show Run Γ rg κ Y_X8_enters 356 [(40, 0), (0, a1), (5, 0), (5, 0), (5, 0), (0, c5), (0, a6), (5, 0), (5, 0), (5, 0), (0, (a10 + (-1)))] [] D2 Φ
      refine r_goto (tgt := 292) d_X8_enters_356 (by decide) ?_
      exact (ih (a10 + (-1)) D2 h)
set_option maxRecDepth 20000 in
theorem run_pM_enters {Γ : GG} {rg : Nat → Bool} {κ : Nat} {Φ : OT → DD → Prop} (R : cov rg rg1) (p1 : Int) (p2 : Int) (p3 : Int) (p4 : Int) {D : DD} (h : WP none κ Φ (pM_enters p1 p2 p3 p4 D)) : Run Γ rg κ Y_X8_enters 0 [(40, 0), (0, p1), (0, p2), (0, p3), (0, p4), (5, 0), (5, 0), (5, 0), (5, 0), (5, 0), (5, 0)] [] D Φ := by
  unfold pM_enters at h
  show Run Γ rg κ Y_X8_enters 0 [(40, 0), (0, p1), (0, p2), (0, p3), (0, p4), (5, 0), (5, 0), (5, 0), (5, 0), (5, 0), (5, 0)] [] D Φ
  refine r_iload d_X8_enters_0 rfl ?_
  refine r_istore d_X8_enters_2 (by decide) rfl ?_
  show Run Γ rg κ Y_X8_enters 4 [(40, 0), (0, p1), (0, p2), (0, p3), (0, p4), (0, p4), (5, 0), (5, 0), (5, 0), (5, 0), (5, 0)] [] D Φ
  refine r_aload_n d_X8_enters_4 rfl (by decide) ?_
  refine r_iload_n d_X8_enters_5 rfl ?_
  refine r_iload_n d_X8_enters_6 rfl ?_
  refine c_callVi (t' := (some .int)) (a := 32) (z := 0) (as := [(0, p1), (0, p3)]) (rest := []) (ls' := [(40, 0), (0, p1), (0, p3), (5, 0), (5, 0)]) d_X8_enters_7 ck_RX8_169 rfl sh_32 rfl (by decide) (R 32 rfl) rfl rfl (Nat.le_of_ble_eq_true rfl) (Nat.le_of_ble_eq_true rfl) (by decide) rfl rfl (fun _ => rfl) (fun κ' Ψ hΨ => run_pM_leafFor R _ _ hΨ) h (fun v1 D1 h => ?_)
  show Run Γ rg κ Y_X8_enters 10 [(40, 0), (0, p1), (0, p2), (0, p3), (0, p4), (0, p4), (5, 0), (5, 0), (5, 0), (5, 0), (5, 0)] [(0, v1)] D1 Φ
  refine r_istore d_X8_enters_10 (by decide) rfl ?_
  show Run Γ rg κ Y_X8_enters 12 [(40, 0), (0, p1), (0, p2), (0, p3), (0, p4), (0, p4), (0, v1), (5, 0), (5, 0), (5, 0), (5, 0)] [] D1 Φ
  refine r_aload_n d_X8_enters_12 rfl (by decide) ?_
  refine r_iload_n d_X8_enters_13 rfl ?_
  refine r_iload_n d_X8_enters_14 rfl ?_
  refine c_callVi (t' := (some .boolean)) (a := 32) (z := 0) (as := [(0, p1), (0, p3)]) (rest := []) (ls' := [(40, 0), (0, p1), (0, p3)]) d_X8_enters_15 ck_RX8_172 rfl sh_32 rfl (by decide) (R 32 rfl) rfl rfl (Nat.le_of_ble_eq_true rfl) (Nat.le_of_ble_eq_true rfl) (by decide) rfl rfl (fun _ => rfl) (fun κ' Ψ hΨ => run_pM_isSplit R _ _ hΨ) h (fun v2 D2 h => ?_)
  show Run Γ rg κ Y_X8_enters 18 [(40, 0), (0, p1), (0, p2), (0, p3), (0, p4), (0, p4), (0, v1), (5, 0), (5, 0), (5, 0), (5, 0)] [(0, v2)] D2 Φ
  show Run Γ rg κ Y_X8_enters 18 [(40, 0), (0, p1), (0, p2), (0, p3), (0, p4), (0, p4), (0, v1), (5, 0), (5, 0), (5, 0), (5, 0)] [(0, v2)] D2 Φ
  refine r_istore d_X8_enters_18 (by decide) rfl ?_
  show Run Γ rg κ Y_X8_enters 20 [(40, 0), (0, p1), (0, p2), (0, p3), (0, p4), (0, p4), (0, v1), (0, v2), (5, 0), (5, 0), (5, 0)] [] D2 Φ
  refine r_aload_n d_X8_enters_20 rfl (by decide) ?_
  refine r_getR (t := 42) d_X8_enters_21 fk_RX8_38 sh_32 rfl (by decide) (R 32 rfl) ?_
  refine r_iload_n d_X8_enters_24 rfl ?_
  refine c_iald d_X8_enters_25 sh_42 (by decide) (R 42 rfl) (by decide) h (fun v3 h => ?_)
  refine c_jn (fun J => ∀ (D3 : DD), WP none κ Φ (J D3) → Run Γ rg κ Y_X8_enters 62 [(40, 0), (0, p1), (0, p2), (0, p3), (5, 0), (0, p4), (0, v1), (0, v2), (5, 0), (5, 0), (5, 0)] [] D3 Φ) h ?_ (fun J1 hJ1 h => ?_)
  · intro D3 h
    show Run Γ rg κ Y_X8_enters 62 [(40, 0), (0, p1), (0, p2), (0, p3), (5, 0), (0, p4), (0, v1), (0, v2), (5, 0), (5, 0), (5, 0)] [] D3 Φ
    refine r_aload_n d_X8_enters_62 rfl (by decide) ?_
    refine r_iload_n d_X8_enters_63 rfl ?_
    refine r_iload d_X8_enters_64 rfl ?_
    refine c_callVi (t' := (some .int)) (a := 32) (z := 0) (as := [(0, p1), (0, v1)]) (rest := []) (ls' := [(40, 0), (0, p1), (0, v1), (5, 0), (5, 0)]) d_X8_enters_66 ck_RX8_159 rfl sh_32 rfl (by decide) (R 32 rfl) rfl rfl (Nat.le_of_ble_eq_true rfl) (Nat.le_of_ble_eq_true rfl) (by decide) rfl rfl (fun _ => rfl) (fun κ' Ψ hΨ => run_pM_start R _ _ hΨ) h (fun v4 D4 h => ?_)
    show Run Γ rg κ Y_X8_enters 69 [(40, 0), (0, p1), (0, p2), (0, p3), (5, 0), (0, p4), (0, v1), (0, v2), (5, 0), (5, 0), (5, 0)] [(0, v4)] D4 Φ
    refine r_istore d_X8_enters_69 (by decide) rfl ?_
    show Run Γ rg κ Y_X8_enters 71 [(40, 0), (0, p1), (0, p2), (0, p3), (5, 0), (0, p4), (0, v1), (0, v2), (0, v4), (5, 0), (5, 0)] [] D4 Φ
    refine r_iload d_X8_enters_71 rfl ?_
    refine r_aload_n d_X8_enters_73 rfl (by decide) ?_
    refine r_getR (t := 45) d_X8_enters_74 fk_RX8_47 sh_32 rfl (by decide) (R 32 rfl) ?_
    refine r_bipush d_X8_enters_77 (by decide) ?_
    refine r_iload_n d_X8_enters_79 rfl ?_
    refine r_imul d_X8_enters_80 ?_
    show Run Γ rg κ Y_X8_enters 81 [(40, 0), (0, p1), (0, p2), (0, p3), (5, 0), (0, p4), (0, v1), (0, v2), (0, v4), (5, 0), (5, 0)] [(0, (8 * p1)), (53, 0), (0, v4)] D4 Φ
    refine r_iload d_X8_enters_81 rfl ?_
    refine r_iadd d_X8_enters_83 ?_
    refine c_iald d_X8_enters_84 sh_45 (by decide) (R 45 rfl) (by decide) h (fun v5 h => ?_)
    refine r_iadd d_X8_enters_85 ?_
    refine c_lt d_X8_enters_86 (by decide) rfl h (fun x1 h => ?_)
    show Run Γ rg κ Y_X8_enters 88 [(40, 0), (0, p1), (0, p2), (0, p3), (5, 0), (0, p4), (0, v1), (0, v2), (0, v4), (0, x1), (5, 0)] [] D4 Φ
    refine run_pM_enters_88 R p1 p3 x1 p2 p4 v1 v2 ?_ fu v4 D4 h
    intro x2 D5 h
    show Run Γ rg κ Y_X8_enters 123 [(40, 0), (0, p1), (0, p2), (0, p3), (5, 0), (0, p4), (0, v1), (0, v2), (0, x2), (5, 0), (5, 0)] [] D5 Φ
    refine r_aload_n d_X8_enters_123 rfl (by decide) ?_
    refine r_iload_n d_X8_enters_124 rfl ?_
    refine c_callVi (t' := (some .int)) (a := 32) (z := 0) (as := [(0, p1)]) (rest := []) (ls' := [(40, 0), (0, p1)]) d_X8_enters_125 ck_RX8_163 rfl sh_32 rfl (by decide) (R 32 rfl) rfl rfl (Nat.le_of_ble_eq_true rfl) (Nat.le_of_ble_eq_true rfl) (by decide) rfl rfl (fun _ => rfl) (fun κ' Ψ hΨ => run_pM_entries R _ hΨ) h (fun v6 D6 h => ?_)
    show Run Γ rg κ Y_X8_enters 128 [(40, 0), (0, p1), (0, p2), (0, p3), (5, 0), (0, p4), (0, v1), (0, v2), (0, x2), (5, 0), (5, 0)] [(0, v6)] D6 Φ
    refine r_istore d_X8_enters_128 (by decide) rfl ?_
    show Run Γ rg κ Y_X8_enters 130 [(40, 0), (0, p1), (0, p2), (0, p3), (5, 0), (0, p4), (0, v1), (0, v2), (0, x2), (5, 0), (0, v6)] [] D6 Φ
    refine run_pM_enters_130 R p1 x2 p2 p3 p4 v1 v2 ?_ fu v6 D6 h
    intro D7 h
    show Run Γ rg κ Y_X8_enters 195 [(40, 0), (0, p1), (0, p2), (0, p3), (5, 0), (0, p4), (0, v1), (0, v2), (0, x2), (5, 0), (5, 0)] [] D7 Φ
    refine r_aload_n d_X8_enters_195 rfl (by decide) ?_
    refine r_getR (t := 46) d_X8_enters_196 fk_RX8_50 sh_32 rfl (by decide) (R 32 rfl) ?_
    refine r_bipush d_X8_enters_199 (by decide) ?_
    refine r_iload_n d_X8_enters_201 rfl ?_
    refine r_imul d_X8_enters_202 ?_
    refine r_iload d_X8_enters_203 rfl ?_
    refine r_iadd d_X8_enters_205 ?_
    refine r_iload_n d_X8_enters_206 rfl ?_
    refine c_iast d_X8_enters_207 sh_46 (by decide) (R 46 rfl) (by decide) h (fun D8 h => ?_)
    refine r_aload_n d_X8_enters_208 rfl (by decide) ?_
    refine r_getR (t := 47) d_X8_enters_209 fk_RX8_53 sh_32 rfl (by decide) (R 32 rfl) ?_
    show Run Γ rg κ Y_X8_enters 212 [(40, 0), (0, p1), (0, p2), (0, p3), (5, 0), (0, p4), (0, v1), (0, v2), (0, x2), (5, 0), (5, 0)] [(55, 0)] D8 Φ
    refine r_bipush d_X8_enters_212 (by decide) ?_
    refine r_iload_n d_X8_enters_214 rfl ?_
    refine r_imul d_X8_enters_215 ?_
    refine r_iload d_X8_enters_216 rfl ?_
    refine r_iadd d_X8_enters_218 ?_
    refine r_iload_n d_X8_enters_219 rfl ?_
    refine c_iast d_X8_enters_220 sh_47 (by decide) (R 47 rfl) (by decide) h (fun D9 h => ?_)
    refine r_aload_n d_X8_enters_221 rfl (by decide) ?_
    refine r_getR (t := 45) d_X8_enters_222 fk_RX8_47 sh_32 rfl (by decide) (R 32 rfl) ?_
    refine r_bipush d_X8_enters_225 (by decide) ?_
    refine r_iload_n d_X8_enters_227 rfl ?_
    refine r_imul d_X8_enters_228 ?_
    show Run Γ rg κ Y_X8_enters 229 [(40, 0), (0, p1), (0, p2), (0, p3), (5, 0), (0, p4), (0, v1), (0, v2), (0, x2), (5, 0), (5, 0)] [(0, (8 * p1)), (53, 0)] D9 Φ
    refine r_iload d_X8_enters_229 rfl ?_
    refine r_iadd d_X8_enters_231 ?_
    refine r_dup2 d_X8_enters_232 (show (0 : Nat) ≠ 1 by decide) (by decide) ?_
    refine c_iald d_X8_enters_233 sh_45 (by decide) (R 45 rfl) (by decide) h (fun v7 h => ?_)
    refine r_iconst d_X8_enters_234 ?_
    refine r_iadd d_X8_enters_235 ?_
    refine c_iast d_X8_enters_236 sh_45 (by decide) (R 45 rfl) (by decide) h (fun D10 h => ?_)
    refine r_aload_n d_X8_enters_237 rfl (by decide) ?_
    refine r_aload_n d_X8_enters_238 rfl (by decide) ?_
    refine r_getR (t := 44) d_X8_enters_239 fk_RX8_44 sh_32 rfl (by decide) (R 32 rfl) ?_
    refine r_bipush d_X8_enters_242 (by decide) ?_
    refine r_iload_n d_X8_enters_244 rfl ?_
    show Run Γ rg κ Y_X8_enters 245 [(40, 0), (0, p1), (0, p2), (0, p3), (5, 0), (0, p4), (0, v1), (0, v2), (0, x2), (5, 0), (5, 0)] [(0, p1), (0, 8), (52, 0), (40, 0)] D10 Φ
    refine r_imul d_X8_enters_245 ?_
    refine r_iload d_X8_enters_246 rfl ?_
    refine r_iadd d_X8_enters_248 ?_
    refine c_iald d_X8_enters_249 sh_44 (by decide) (R 44 rfl) (by decide) h (fun v8 h => ?_)
    refine c_callVv (a := 32) (z := 0) (as := [(0, v8)]) (rest := []) (ls' := [(40, 0), (0, v8), (5, 0), (5, 0)]) d_X8_enters_250 ck_RX8_152 rfl sh_32 rfl (by decide) (R 32 rfl) rfl rfl (Nat.le_of_ble_eq_true rfl) (Nat.le_of_ble_eq_true rfl) (by decide) rfl rfl (fun κ' Ψ hΨ => run_pM_writes R _ hΨ) h (fun _ D11 h => ?_)
    show Run Γ rg κ Y_X8_enters 253 [(40, 0), (0, p1), (0, p2), (0, p3), (5, 0), (0, p4), (0, v1), (0, v2), (0, x2), (5, 0), (5, 0)] [] D11 Φ
    refine r_iload d_X8_enters_253 rfl ?_
    refine c_jn (fun J => ∀ (D12 : DD), WP none κ Φ (J D12) → Run Γ rg κ Y_X8_enters 428 [(40, 0), (0, p1), (5, 0), (5, 0), (5, 0), (5, 0), (5, 0), (5, 0), (5, 0), (5, 0), (5, 0)] [] D12 Φ) h ?_ (fun J2 hJ2 h => ?_)
    · intro D12 h
      show Run Γ rg κ Y_X8_enters 428 [(40, 0), (0, p1), (5, 0), (5, 0), (5, 0), (5, 0), (5, 0), (5, 0), (5, 0), (5, 0), (5, 0)] [] D12 Φ
      refine r_aload_n d_X8_enters_428 rfl (by decide) ?_
      refine r_aload_n d_X8_enters_429 rfl (by decide) ?_
      refine r_getR (t := 40) d_X8_enters_430 fk_RX8_32 sh_32 rfl (by decide) (R 32 rfl) ?_
      refine r_iload_n d_X8_enters_433 rfl ?_
      refine c_iald d_X8_enters_434 sh_40 (by decide) (R 40 rfl) (by decide) h (fun v9 h => ?_)
      refine c_callVv (a := 32) (z := 0) (as := [(0, v9)]) (rest := []) (ls' := [(40, 0), (0, v9), (5, 0), (5, 0)]) d_X8_enters_435 ck_RX8_152 rfl sh_32 rfl (by decide) (R 32 rfl) rfl rfl (Nat.le_of_ble_eq_true rfl) (Nat.le_of_ble_eq_true rfl) (by decide) rfl rfl (fun κ' Ψ hΨ => run_pM_writes R _ hΨ) h (fun _ D13 h => ?_)
      show Run Γ rg κ Y_X8_enters 438 [(40, 0), (0, p1), (5, 0), (5, 0), (5, 0), (5, 0), (5, 0), (5, 0), (5, 0), (5, 0), (5, 0)] [] D13 Φ
      exact c_vret d_X8_enters_438 rfl h
    refine c_if_eq (tgt := 428) d_X8_enters_255 (by decide) (nz_w _) h (fun h => ?_) (fun h => ?_)
    · skip
      exact Run.forget (ls' := [(40, 0), (0, p1), (5, 0), (5, 0), (5, 0), (5, 0), (5, 0), (5, 0), (5, 0), (5, 0), (5, 0)]) ⟨Or.inr rfl, Or.inr rfl, Or.inl rfl, Or.inl rfl, Or.inr rfl, Or.inl rfl, Or.inl rfl, Or.inl rfl, Or.inl rfl, Or.inr rfl, Or.inr rfl, trivial⟩ (hJ2 D11 h)
    · skip
      show Run Γ rg κ Y_X8_enters 258 [(40, 0), (0, p1), (0, p2), (0, p3), (5, 0), (0, p4), (0, v1), (0, v2), (0, x2), (5, 0), (5, 0)] [] D11 Φ
      refine r_aload_n d_X8_enters_258 rfl (by decide) ?_
      refine r_getR (t := 42) d_X8_enters_259 fk_RX8_38 sh_32 rfl (by decide) (R 32 rfl) ?_
      refine r_iload_n d_X8_enters_262 rfl ?_
      refine c_iald d_X8_enters_263 sh_42 (by decide) (R 42 rfl) (by decide) h (fun v10 h => ?_)
      refine r_iconst d_X8_enters_264 ?_
      refine c_jn (fun J => ∀ (x3 : Int) (D14 : DD), WP none κ Φ (J x3 D14) → Run Γ rg κ Y_X8_enters 284 [(40, 0), (0, p1), (5, 0), (5, 0), (5, 0), (0, x3), (0, v1), (5, 0), (5, 0), (5, 0), (5, 0)] [] D14 Φ) h ?_ (fun J3 hJ3 h => ?_)
      · intro x3 D14 h
        show Run Γ rg κ Y_X8_enters 284 [(40, 0), (0, p1), (5, 0), (5, 0), (5, 0), (0, x3), (0, v1), (5, 0), (5, 0), (5, 0), (5, 0)] [] D14 Φ
        refine r_aload_n d_X8_enters_284 rfl (by decide) ?_
        refine r_getR (t := 42) d_X8_enters_285 fk_RX8_38 sh_32 rfl (by decide) (R 32 rfl) ?_
        refine r_iload_n d_X8_enters_288 rfl ?_
        refine c_iald d_X8_enters_289 sh_42 (by decide) (R 42 rfl) (by decide) h (fun v11 h => ?_)
        refine r_istore d_X8_enters_290 (by decide) rfl ?_
        show Run Γ rg κ Y_X8_enters 292 [(40, 0), (0, p1), (5, 0), (5, 0), (5, 0), (0, x3), (0, v1), (5, 0), (5, 0), (5, 0), (0, v11)] [] D14 Φ
        refine run_pM_enters_292 R p1 v1 x3 ?_ fu v11 D14 h
        intro D15 h
        show Run Γ rg κ Y_X8_enters 359 [(40, 0), (0, p1), (5, 0), (5, 0), (5, 0), (0, x3), (0, v1), (5, 0), (5, 0), (5, 0), (5, 0)] [] D15 Φ
        refine r_aload_n d_X8_enters_359 rfl (by decide) ?_
        refine r_getR (t := 44) d_X8_enters_360 fk_RX8_44 sh_32 rfl (by decide) (R 32 rfl) ?_
        refine r_bipush d_X8_enters_363 (by decide) ?_
        refine r_iload_n d_X8_enters_365 rfl ?_
        refine r_imul d_X8_enters_366 ?_
        refine r_iload d_X8_enters_367 rfl ?_
        refine r_iadd d_X8_enters_369 ?_
        refine r_iconst d_X8_enters_370 ?_
        refine r_iadd d_X8_enters_371 ?_
        refine r_aload_n d_X8_enters_372 rfl (by decide) ?_
        refine r_getR (t := 66) d_X8_enters_373 fk_RX8_110 sh_32 rfl (by decide) (R 32 rfl) ?_
        show Run Γ rg κ Y_X8_enters 376 [(40, 0), (0, p1), (5, 0), (5, 0), (5, 0), (0, x3), (0, v1), (5, 0), (5, 0), (5, 0), (5, 0)] [(74, 0), (0, (((8 * p1) + v1) + 1)), (52, 0)] D15 Φ
        refine r_iload d_X8_enters_376 rfl ?_
        refine c_iald d_X8_enters_378 sh_66 (by decide) (R 66 rfl) (by decide) h (fun v12 h => ?_)
        refine c_iast d_X8_enters_379 sh_44 (by decide) (R 44 rfl) (by decide) h (fun D16 h => ?_)
        refine r_aload_n d_X8_enters_380 rfl (by decide) ?_
        refine r_getR (t := 45) d_X8_enters_381 fk_RX8_47 sh_32 rfl (by decide) (R 32 rfl) ?_
        refine r_bipush d_X8_enters_384 (by decide) ?_
        refine r_iload_n d_X8_enters_386 rfl ?_
        refine r_imul d_X8_enters_387 ?_
        refine r_iload d_X8_enters_388 rfl ?_
        refine r_iadd d_X8_enters_390 ?_
        refine r_iconst d_X8_enters_391 ?_
        refine r_iadd d_X8_enters_392 ?_
        show Run Γ rg κ Y_X8_enters 393 [(40, 0), (0, p1), (5, 0), (5, 0), (5, 0), (0, x3), (0, v1), (5, 0), (5, 0), (5, 0), (5, 0)] [(0, (((8 * p1) + v1) + 1)), (53, 0)] D16 Φ
        refine r_iconst d_X8_enters_393 ?_
        refine c_iast d_X8_enters_394 sh_45 (by decide) (R 45 rfl) (by decide) h (fun D17 h => ?_)
        refine r_aload_n d_X8_enters_395 rfl (by decide) ?_
        refine r_getR (t := 45) d_X8_enters_396 fk_RX8_47 sh_32 rfl (by decide) (R 32 rfl) ?_
        refine r_bipush d_X8_enters_399 (by decide) ?_
        refine r_iload_n d_X8_enters_401 rfl ?_
        refine r_imul d_X8_enters_402 ?_
        refine r_iload d_X8_enters_403 rfl ?_
        refine r_iadd d_X8_enters_405 ?_
        refine r_iconst d_X8_enters_406 ?_
        refine c_iast d_X8_enters_407 sh_45 (by decide) (R 45 rfl) (by decide) h (fun D18 h => ?_)
        refine r_aload_n d_X8_enters_408 rfl (by decide) ?_
        show Run Γ rg κ Y_X8_enters 409 [(40, 0), (0, p1), (5, 0), (5, 0), (5, 0), (0, x3), (0, v1), (5, 0), (5, 0), (5, 0), (5, 0)] [(40, 0)] D18 Φ
        refine r_getR (t := 42) d_X8_enters_409 fk_RX8_38 sh_32 rfl (by decide) (R 32 rfl) ?_
        refine r_iload_n d_X8_enters_412 rfl ?_
        refine r_dup2 d_X8_enters_413 (show (0 : Nat) ≠ 1 by decide) (by decide) ?_
        refine c_iald d_X8_enters_414 sh_42 (by decide) (R 42 rfl) (by decide) h (fun v13 h => ?_)
        refine r_iconst d_X8_enters_415 ?_
        refine r_iadd d_X8_enters_416 ?_
        refine c_iast d_X8_enters_417 sh_42 (by decide) (R 42 rfl) (by decide) h (fun D19 h => ?_)
        refine r_aload_n d_X8_enters_418 rfl (by decide) ?_
        refine r_aload_n d_X8_enters_419 rfl (by decide) ?_
        refine r_getR (t := 43) d_X8_enters_420 fk_RX8_41 sh_32 rfl (by decide) (R 32 rfl) ?_
        refine r_iload_n d_X8_enters_423 rfl ?_
        refine c_iald d_X8_enters_424 sh_43 (by decide) (R 43 rfl) (by decide) h (fun v14 h => ?_)
        show Run Γ rg κ Y_X8_enters 425 [(40, 0), (0, p1), (5, 0), (5, 0), (5, 0), (0, x3), (0, v1), (5, 0), (5, 0), (5, 0), (5, 0)] [(0, v14), (40, 0)] D19 Φ
        refine c_callVv (a := 32) (z := 0) (as := [(0, v14)]) (rest := []) (ls' := [(40, 0), (0, v14), (5, 0), (5, 0)]) d_X8_enters_425 ck_RX8_152 rfl sh_32 rfl (by decide) (R 32 rfl) rfl rfl (Nat.le_of_ble_eq_true rfl) (Nat.le_of_ble_eq_true rfl) (by decide) rfl rfl (fun κ' Ψ hΨ => run_pM_writes R _ hΨ) h (fun _ D20 h => ?_)
        show Run Γ rg κ Y_X8_enters 428 [(40, 0), (0, p1), (5, 0), (5, 0), (5, 0), (0, x3), (0, v1), (5, 0), (5, 0), (5, 0), (5, 0)] [] D20 Φ
        exact Run.forget (ls' := [(40, 0), (0, p1), (5, 0), (5, 0), (5, 0), (5, 0), (5, 0), (5, 0), (5, 0), (5, 0), (5, 0)]) ⟨Or.inr rfl, Or.inr rfl, Or.inr rfl, Or.inr rfl, Or.inr rfl, Or.inl rfl, Or.inl rfl, Or.inr rfl, Or.inr rfl, Or.inr rfl, Or.inr rfl, trivial⟩ (hJ2 D20 h)
      refine c_icmp_ne (tgt := 284) d_X8_enters_265 (by decide) (nz_w _) (nz_k rfl) h (fun h => ?_) (fun h => ?_)
      · skip
        exact Run.forget (ls' := [(40, 0), (0, p1), (5, 0), (5, 0), (5, 0), (0, p4), (0, v1), (5, 0), (5, 0), (5, 0), (5, 0)]) ⟨Or.inr rfl, Or.inr rfl, Or.inl rfl, Or.inl rfl, Or.inr rfl, Or.inr rfl, Or.inr rfl, Or.inl rfl, Or.inl rfl, Or.inr rfl, Or.inr rfl, trivial⟩ (hJ3 p4 D11 h)
      · skip
        show Run Γ rg κ Y_X8_enters 268 [(40, 0), (0, p1), (0, p2), (0, p3), (5, 0), (0, p4), (0, v1), (0, v2), (0, x2), (5, 0), (5, 0)] [] D11 Φ
        refine r_aload_n d_X8_enters_268 rfl (by decide) ?_
        refine r_getR (t := 43) d_X8_enters_269 fk_RX8_41 sh_32 rfl (by decide) (R 32 rfl) ?_
        refine r_iload_n d_X8_enters_272 rfl ?_
        refine r_aload_n d_X8_enters_273 rfl (by decide) ?_
        refine r_getR (t := 66) d_X8_enters_274 fk_RX8_110 sh_32 rfl (by decide) (R 32 rfl) ?_
        refine r_iload d_X8_enters_277 rfl ?_
        refine c_iald d_X8_enters_279 sh_66 (by decide) (R 66 rfl) (by decide) h (fun v15 h => ?_)
        refine c_iast d_X8_enters_280 sh_43 (by decide) (R 43 rfl) (by decide) h (fun D21 h => ?_)
        refine r_iinc d_X8_enters_281 rfl (by decide) rfl ?_
        show Run Γ rg κ Y_X8_enters 284 [(40, 0), (0, p1), (0, p2), (0, p3), (5, 0), (0, (p4 + 1)), (0, v1), (0, v2), (0, x2), (5, 0), (5, 0)] [] D21 Φ
        exact Run.forget (ls' := [(40, 0), (0, p1), (5, 0), (5, 0), (5, 0), (0, (p4 + 1)), (0, v1), (5, 0), (5, 0), (5, 0), (5, 0)]) ⟨Or.inr rfl, Or.inr rfl, Or.inl rfl, Or.inl rfl, Or.inr rfl, Or.inr rfl, Or.inr rfl, Or.inl rfl, Or.inl rfl, Or.inr rfl, Or.inr rfl, trivial⟩ (hJ3 (p4 + 1) D21 h)
  refine c_if_ne (tgt := 62) d_X8_enters_26 (by decide) (nz_w _) h (fun h => ?_) (fun h => ?_)
  · skip
    exact Run.forget (ls' := [(40, 0), (0, p1), (0, p2), (0, p3), (5, 0), (0, p4), (0, v1), (0, v2), (5, 0), (5, 0), (5, 0)]) ⟨Or.inr rfl, Or.inr rfl, Or.inr rfl, Or.inr rfl, Or.inl rfl, Or.inr rfl, Or.inr rfl, Or.inr rfl, Or.inr rfl, Or.inr rfl, Or.inr rfl, trivial⟩ (hJ1 D2 h)
  · skip
    show Run Γ rg κ Y_X8_enters 29 [(40, 0), (0, p1), (0, p2), (0, p3), (0, p4), (0, p4), (0, v1), (0, v2), (5, 0), (5, 0), (5, 0)] [] D2 Φ
    refine r_aload_n d_X8_enters_29 rfl (by decide) ?_
    refine r_getR (t := 42) d_X8_enters_30 fk_RX8_38 sh_32 rfl (by decide) (R 32 rfl) ?_
    refine r_iload_n d_X8_enters_33 rfl ?_
    refine r_iconst d_X8_enters_34 ?_
    refine c_iast d_X8_enters_35 sh_42 (by decide) (R 42 rfl) (by decide) h (fun D22 h => ?_)
    refine r_aload_n d_X8_enters_36 rfl (by decide) ?_
    refine r_getR (t := 44) d_X8_enters_37 fk_RX8_44 sh_32 rfl (by decide) (R 32 rfl) ?_
    refine r_bipush d_X8_enters_40 (by decide) ?_
    refine r_iload_n d_X8_enters_42 rfl ?_
    refine r_imul d_X8_enters_43 ?_
    refine r_aload_n d_X8_enters_44 rfl (by decide) ?_
    show Run Γ rg κ Y_X8_enters 45 [(40, 0), (0, p1), (0, p2), (0, p3), (0, p4), (0, p4), (0, v1), (0, v2), (5, 0), (5, 0), (5, 0)] [(40, 0), (0, (8 * p1)), (52, 0)] D22 Φ
    refine r_getR (t := 66) d_X8_enters_45 fk_RX8_110 sh_32 rfl (by decide) (R 32 rfl) ?_
    refine r_iload d_X8_enters_48 rfl ?_
    refine c_iald d_X8_enters_50 sh_66 (by decide) (R 66 rfl) (by decide) h (fun v16 h => ?_)
    refine c_iast d_X8_enters_51 sh_44 (by decide) (R 44 rfl) (by decide) h (fun D23 h => ?_)
    refine r_aload_n d_X8_enters_52 rfl (by decide) ?_
    refine r_getR (t := 45) d_X8_enters_53 fk_RX8_47 sh_32 rfl (by decide) (R 32 rfl) ?_
    refine r_bipush d_X8_enters_56 (by decide) ?_
    refine r_iload_n d_X8_enters_58 rfl ?_
    refine r_imul d_X8_enters_59 ?_
    refine r_iconst d_X8_enters_60 ?_
    refine c_iast d_X8_enters_61 sh_45 (by decide) (R 45 rfl) (by decide) h (fun D24 h => ?_)
    exact Run.forget (ls' := [(40, 0), (0, p1), (0, p2), (0, p3), (5, 0), (0, p4), (0, v1), (0, v2), (5, 0), (5, 0), (5, 0)]) ⟨Or.inr rfl, Or.inr rfl, Or.inr rfl, Or.inr rfl, Or.inl rfl, Or.inr rfl, Or.inr rfl, Or.inr rfl, Or.inr rfl, Or.inr rfl, Or.inr rfl, trivial⟩ (hJ1 D24 h)
set_option maxRecDepth 20000 in
theorem run_pM_tells {Γ : GG} {rg : Nat → Bool} {κ : Nat} {Φ : OT → DD → Prop} (R : cov rg rg1) (p1 : Int) (p2 : Int) {D : DD} (h : WP none κ Φ (pM_tells p1 p2 D)) : Run Γ rg κ Y_X8_tells 0 [(40, 0), (0, p1), (0, p2)] [] D Φ := by
  unfold pM_tells at h
  show Run Γ rg κ Y_X8_tells 0 [(40, 0), (0, p1), (0, p2)] [] D Φ
  refine r_aload_n d_X8_tells_0 rfl (by decide) ?_
  refine r_getR (t := 59) d_X8_tells_1 fk_RX8_89 sh_32 rfl (by decide) (R 32 rfl) ?_
  refine r_iload_n d_X8_tells_4 rfl ?_
  refine c_iald d_X8_tells_5 sh_59 (by decide) (R 59 rfl) (by decide) h (fun v1 h => ?_)
  refine r_iload_n d_X8_tells_6 rfl ?_
  refine c_iand d_X8_tells_7 ?_
  refine c_if_eq (tgt := 57) d_X8_tells_8 (by decide) (nz_w _) h (fun h => ?_) (fun h => ?_)
  · skip
    show Run Γ rg κ Y_X8_tells 57 [(40, 0), (0, p1), (0, p2)] [] D Φ
    exact c_vret d_X8_tells_57 rfl h
  · skip
    show Run Γ rg κ Y_X8_tells 11 [(40, 0), (0, p1), (0, p2)] [] D Φ
    refine r_aload_n d_X8_tells_11 rfl (by decide) ?_
    refine r_getR (t := 61) d_X8_tells_12 fk_RX8_95 sh_32 rfl (by decide) (R 32 rfl) ?_
    refine r_iload_n d_X8_tells_15 rfl ?_
    refine c_zald d_X8_tells_16 sh_61 (by decide) (R 61 rfl) (by decide) h (fun v2 h => ?_)
    refine c_if_ne (tgt := 57) d_X8_tells_17 (by decide) (nz_w _) h (fun h => ?_) (fun h => ?_)
    · skip
      show Run Γ rg κ Y_X8_tells 57 [(40, 0), (0, p1), (0, p2)] [] D Φ
      exact c_vret d_X8_tells_57 rfl h
    · skip
      show Run Γ rg κ Y_X8_tells 20 [(40, 0), (0, p1), (0, p2)] [] D Φ
      refine r_aload_n d_X8_tells_20 rfl (by decide) ?_
      refine r_getR (t := 61) d_X8_tells_21 fk_RX8_95 sh_32 rfl (by decide) (R 32 rfl) ?_
      refine r_iload_n d_X8_tells_24 rfl ?_
      refine r_iconst d_X8_tells_25 ?_
      refine c_zast d_X8_tells_26 sh_61 (by decide) (R 61 rfl) (by decide) h (fun D1 h => ?_)
      refine r_aload_n d_X8_tells_27 rfl (by decide) ?_
      refine r_getR (t := 62) d_X8_tells_28 fk_RX8_98 sh_32 rfl (by decide) (R 32 rfl) ?_
      refine r_aload_n d_X8_tells_31 rfl (by decide) ?_
      refine r_getI d_X8_tells_32 fk_RX8_185 sh_32 rfl (by decide) (by decide) (R 32 rfl) ?_
      refine r_iload_n d_X8_tells_35 rfl ?_
      refine c_iast d_X8_tells_36 sh_62 (by decide) (R 62 rfl) (by decide) h (fun D2 h => ?_)
      show Run Γ rg κ Y_X8_tells 37 [(40, 0), (0, p1), (0, p2)] [] D2 Φ
      refine r_aload_n d_X8_tells_37 rfl (by decide) ?_
      refine r_getR (t := 63) d_X8_tells_38 fk_RX8_101 sh_32 rfl (by decide) (R 32 rfl) ?_
      refine r_aload_n d_X8_tells_41 rfl (by decide) ?_
      refine r_getI d_X8_tells_42 fk_RX8_185 sh_32 rfl (by decide) (by decide) (R 32 rfl) ?_
      refine r_iload_n d_X8_tells_45 rfl ?_
      refine c_iast d_X8_tells_46 sh_63 (by decide) (R 63 rfl) (by decide) h (fun D3 h => ?_)
      refine r_aload_n d_X8_tells_47 rfl (by decide) ?_
      refine r_dup d_X8_tells_48 (by decide) ?_
      refine r_getI d_X8_tells_49 fk_RX8_185 sh_32 rfl (by decide) (by decide) (R 32 rfl) ?_
      refine r_iconst d_X8_tells_52 ?_
      refine r_iadd d_X8_tells_53 ?_
      refine c_putI (k := 29) d_X8_tells_54 pk_RX8_185 sh_32 rfl (by decide) (R 32 rfl) h (fun D4 h => ?_)
      show Run Γ rg κ Y_X8_tells 57 [(40, 0), (0, p1), (0, p2)] [] D4 Φ
      exact c_vret d_X8_tells_57 rfl h
set_option maxRecDepth 20000 in
theorem run_pM_changes_13 {Γ : GG} {rg : Nat → Bool} {κ : Nat} {Φ : OT → DD → Prop} (R : cov rg rg1) (a2 : Int) : ∀ (n : Nat) (a3 : Int) (D : DD), WP none κ Φ (pM_changes_13 a2 n a3 D) → Run Γ rg κ Y_X8_changes 13 [(40, 0), (5, 0), (0, a2), (0, a3)] [] D Φ := by
  intro n
  induction n with
  | zero => intro a3 D h; exact h.no.elim
  | succ n ih =>
    intro a3 D h
    rw [pM_changes_13] at h
    show Run Γ rg κ Y_X8_changes 13 [(40, 0), (5, 0), (0, a2), (0, a3)] [] D Φ
    refine r_iload_n d_X8_changes_13 rfl ?_
    refine r_iconst d_X8_changes_14 ?_
    refine c_icmp_eq (tgt := 43) d_X8_changes_15 (by decide) (nz_w _) (nz_k rfl) h (fun h => ?_) (fun h => ?_)
    · skip
      show Run Γ rg κ Y_X8_changes 43 [(40, 0), (5, 0), (0, a2), (0, a3)] [] D Φ
      exact c_vret d_X8_changes_43 rfl h
    · skip
      show Run Γ rg κ Y_X8_changes 18 [(40, 0), (5, 0), (0, a2), (0, a3)] [] D Φ
      refine r_aload_n d_X8_changes_18 rfl (by decide) ?_
      refine r_getR (t := 60) d_X8_changes_19 fk_RX8_92 sh_32 rfl (by decide) (R 32 rfl) ?_
      refine r_iload_n d_X8_changes_22 rfl ?_
      refine c_zald d_X8_changes_23 sh_60 (by decide) (R 60 rfl) (by decide) h (fun v1 h => ?_)
      refine c_jn (fun J => ∀ (D1 : DD), WP none κ Φ (J D1) → Run Γ rg κ Y_X8_changes 33 [(40, 0), (5, 0), (0, a2), (0, a3)] [] D1 Φ) h ?_ (fun J1 hJ1 h => ?_)
      · intro D1 h
        show Run Γ rg κ Y_X8_changes 33 [(40, 0), (5, 0), (0, a2), (0, a3)] [] D1 Φ
        refine r_aload_n d_X8_changes_33 rfl (by decide) ?_
        refine r_getR (t := 37) d_X8_changes_34 fk_RX8_23 sh_32 rfl (by decide) (R 32 rfl) ?_
        refine r_iload_n d_X8_changes_37 rfl ?_
        refine c_iald d_X8_changes_38 sh_37 (by decide) (R 37 rfl) (by decide) h (fun v2 h => ?_)
        refine r_istore_n d_X8_changes_39 (by decide) rfl ?_
        show Run Γ rg κ Y_X8_changes 40 [(40, 0), (5, 0), (0, a2), (0, v2)] [] D1 Φ
        refine r_goto (tgt := 13) d_X8_changes_40 (by decide) ?_
        exact (ih v2 D1 h)
      refine c_if_eq (tgt := 33) d_X8_changes_24 (by decide) (nz_w _) h (fun h => ?_) (fun h => ?_)
      · skip
        exact (hJ1 D h)
      · skip
        show Run Γ rg κ Y_X8_changes 27 [(40, 0), (5, 0), (0, a2), (0, a3)] [] D Φ
        refine r_aload_n d_X8_changes_27 rfl (by decide) ?_
        refine r_iload_n d_X8_changes_28 rfl ?_
        refine r_iload_n d_X8_changes_29 rfl ?_
        refine c_callVv (a := 32) (z := 0) (as := [(0, a3), (0, a2)]) (rest := []) (ls' := [(40, 0), (0, a3), (0, a2)]) d_X8_changes_30 ck_RX8_188 rfl sh_32 rfl (by decide) (R 32 rfl) rfl rfl (Nat.le_of_ble_eq_true rfl) (Nat.le_of_ble_eq_true rfl) (by decide) rfl rfl (fun κ' Ψ hΨ => run_pM_tells R _ _ hΨ) h (fun _ D2 h => ?_)
        show Run Γ rg κ Y_X8_changes 33 [(40, 0), (5, 0), (0, a2), (0, a3)] [] D2 Φ
        exact (hJ1 D2 h)
set_option maxRecDepth 20000 in
theorem run_pM_changes {Γ : GG} {rg : Nat → Bool} {κ : Nat} {Φ : OT → DD → Prop} (R : cov rg rg1) (p1 : Int) (p2 : Int) {D : DD} (h : WP none κ Φ (pM_changes p1 p2 D)) : Run Γ rg κ Y_X8_changes 0 [(40, 0), (0, p1), (0, p2), (5, 0)] [] D Φ := by
  unfold pM_changes at h
  show Run Γ rg κ Y_X8_changes 0 [(40, 0), (0, p1), (0, p2), (5, 0)] [] D Φ
  refine r_aload_n d_X8_changes_0 rfl (by decide) ?_
  refine r_iload_n d_X8_changes_1 rfl ?_
  refine r_iload_n d_X8_changes_2 rfl ?_
  refine c_callVv (a := 32) (z := 0) (as := [(0, p1), (0, p2)]) (rest := []) (ls' := [(40, 0), (0, p1), (0, p2)]) d_X8_changes_3 ck_RX8_188 rfl sh_32 rfl (by decide) (R 32 rfl) rfl rfl (Nat.le_of_ble_eq_true rfl) (Nat.le_of_ble_eq_true rfl) (by decide) rfl rfl (fun κ' Ψ hΨ => run_pM_tells R _ _ hΨ) h (fun _ D1 h => ?_)
  show Run Γ rg κ Y_X8_changes 6 [(40, 0), (0, p1), (0, p2), (5, 0)] [] D1 Φ
  refine r_aload_n d_X8_changes_6 rfl (by decide) ?_
  refine r_getR (t := 37) d_X8_changes_7 fk_RX8_23 sh_32 rfl (by decide) (R 32 rfl) ?_
  refine r_iload_n d_X8_changes_10 rfl ?_
  refine c_iald d_X8_changes_11 sh_37 (by decide) (R 37 rfl) (by decide) h (fun v1 h => ?_)
  refine r_istore_n d_X8_changes_12 (by decide) rfl ?_
  show Run Γ rg κ Y_X8_changes 13 [(40, 0), (0, p1), (0, p2), (0, v1)] [] D1 Φ
  refine Run.forget (ls' := [(40, 0), (5, 0), (0, p2), (0, v1)]) ⟨Or.inr rfl, Or.inl rfl, Or.inr rfl, Or.inr rfl, trivial⟩ ?_
  exact run_pM_changes_13 R p2 fu v1 D1 h
set_option maxRecDepth 20000 in
theorem run_pM_makes {Γ : GG} {rg : Nat → Bool} {κ : Nat} {Φ : OT → DD → Prop} (R : cov rg rg1) (p1 : Int) (p2 : Int) (p3 : Int) {D : DD} (h : WP (some .int) κ Φ (pM_makes p1 p2 p3 D)) : Run Γ rg κ Y_X8_makes 0 [(40, 0), (0, p1), (0, p2), (0, p3), (5, 0)] [] D Φ := by
  unfold pM_makes at h
  show Run Γ rg κ Y_X8_makes 0 [(40, 0), (0, p1), (0, p2), (0, p3), (5, 0)] [] D Φ
  refine r_aload_n d_X8_makes_0 rfl (by decide) ?_
  refine r_getR (t := 35) d_X8_makes_1 fk_RX8_16 sh_32 rfl (by decide) (R 32 rfl) ?_
  refine r_iconst d_X8_makes_4 ?_
  refine c_iald0 (k := 0) d_X8_makes_5 sh_35 (by decide) (R 35 rfl) (by decide) rfl (by decide) ?_
  refine c_lt d_X8_makes_6 (by decide) rfl h (fun x1 h => ?_)
  show Run Γ rg κ Y_X8_makes 8 [(40, 0), (0, p1), (0, p2), (0, p3), (0, x1)] [] D Φ
  refine r_aload_n d_X8_makes_8 rfl (by decide) ?_
  refine c_callVv (a := 32) (z := 0) (as := []) (rest := []) (ls' := [(40, 0), (5, 0)]) d_X8_makes_9 ck_RX8_211 rfl sh_32 rfl (by decide) (R 32 rfl) rfl rfl (Nat.le_of_ble_eq_true rfl) (Nat.le_of_ble_eq_true rfl) (by decide) rfl rfl (fun κ' Ψ hΨ => run_pM_writesGot R hΨ) h (fun _ D1 h => ?_)
  show Run Γ rg κ Y_X8_makes 12 [(40, 0), (0, p1), (0, p2), (0, p3), (0, x1)] [] D1 Φ
  refine r_aload_n d_X8_makes_12 rfl (by decide) ?_
  refine r_getR (t := 35) d_X8_makes_13 fk_RX8_16 sh_32 rfl (by decide) (R 32 rfl) ?_
  refine r_iconst d_X8_makes_16 ?_
  refine r_dup2 d_X8_makes_17 (show (0 : Nat) ≠ 1 by decide) (by decide) ?_
  show Run Γ rg κ Y_X8_makes 18 [(40, 0), (0, p1), (0, p2), (0, p3), (0, x1)] [(0, 0), (43, 0), (0, 0), (43, 0)] D1 Φ
  refine c_iald0 (k := 0) d_X8_makes_18 sh_35 (by decide) (R 35 rfl) (by decide) rfl (by decide) ?_
  refine r_iconst d_X8_makes_19 ?_
  refine r_iadd d_X8_makes_20 ?_
  refine c_iast0 (k := 0) d_X8_makes_21 sh_35 (by decide) (R 35 rfl) (by decide) rfl (by decide) h (fun D2 h => ?_)
  refine r_aload_n d_X8_makes_22 rfl (by decide) ?_
  refine r_getR (t := 36) d_X8_makes_23 fk_RX8_19 sh_32 rfl (by decide) (R 32 rfl) ?_
  refine r_iload d_X8_makes_26 rfl ?_
  refine r_iconst d_X8_makes_28 ?_
  refine c_zast d_X8_makes_29 sh_36 (by decide) (R 36 rfl) (by decide) h (fun D3 h => ?_)
  refine r_aload_n d_X8_makes_30 rfl (by decide) ?_
  refine r_getR (t := 37) d_X8_makes_31 fk_RX8_23 sh_32 rfl (by decide) (R 32 rfl) ?_
  refine r_iload d_X8_makes_34 rfl ?_
  show Run Γ rg κ Y_X8_makes 36 [(40, 0), (0, p1), (0, p2), (0, p3), (0, x1)] [(0, x1), (45, 0)] D3 Φ
  refine r_iload_n d_X8_makes_36 rfl ?_
  refine c_iast d_X8_makes_37 sh_37 (by decide) (R 37 rfl) (by decide) h (fun D4 h => ?_)
  refine r_aload_n d_X8_makes_38 rfl (by decide) ?_
  refine r_getR (t := 38) d_X8_makes_39 fk_RX8_26 sh_32 rfl (by decide) (R 32 rfl) ?_
  refine r_iload d_X8_makes_42 rfl ?_
  refine r_iload_n d_X8_makes_44 rfl ?_
  refine c_iast d_X8_makes_45 sh_38 (by decide) (R 38 rfl) (by decide) h (fun D5 h => ?_)
  refine r_aload_n d_X8_makes_46 rfl (by decide) ?_
  refine r_getR (t := 39) d_X8_makes_47 fk_RX8_29 sh_32 rfl (by decide) (R 32 rfl) ?_
  refine r_iload d_X8_makes_50 rfl ?_
  refine r_iload_n d_X8_makes_52 rfl ?_
  refine c_iast d_X8_makes_53 sh_39 (by decide) (R 39 rfl) (by decide) h (fun D6 h => ?_)
  show Run Γ rg κ Y_X8_makes 54 [(40, 0), (0, p1), (0, p2), (0, p3), (0, x1)] [] D6 Φ
  refine r_aload_n d_X8_makes_54 rfl (by decide) ?_
  refine r_getR (t := 40) d_X8_makes_55 fk_RX8_32 sh_32 rfl (by decide) (R 32 rfl) ?_
  refine r_iload d_X8_makes_58 rfl ?_
  refine r_aload_n d_X8_makes_60 rfl (by decide) ?_
  refine r_getR (t := 66) d_X8_makes_61 fk_RX8_110 sh_32 rfl (by decide) (R 32 rfl) ?_
  refine r_iconst d_X8_makes_64 ?_
  refine c_iald0 (k := 0) d_X8_makes_65 sh_66 (by decide) (R 66 rfl) (by decide) rfl (by decide) ?_
  refine c_iast d_X8_makes_66 sh_40 (by decide) (R 40 rfl) (by decide) h (fun D7 h => ?_)
  refine r_aload_n d_X8_makes_67 rfl (by decide) ?_
  refine r_getR (t := 41) d_X8_makes_68 fk_RX8_35 sh_32 rfl (by decide) (R 32 rfl) ?_
  refine r_iload d_X8_makes_71 rfl ?_
  refine r_aload_n d_X8_makes_73 rfl (by decide) ?_
  show Run Γ rg κ Y_X8_makes 74 [(40, 0), (0, p1), (0, p2), (0, p3), (0, x1)] [(40, 0), (0, x1), (49, 0)] D7 Φ
  refine r_getR (t := 41) d_X8_makes_74 fk_RX8_35 sh_32 rfl (by decide) (R 32 rfl) ?_
  refine r_iload_n d_X8_makes_77 rfl ?_
  refine c_iald d_X8_makes_78 sh_41 (by decide) (R 41 rfl) (by decide) h (fun v1 h => ?_)
  refine c_iast d_X8_makes_79 sh_41 (by decide) (R 41 rfl) (by decide) h (fun D8 h => ?_)
  refine r_aload_n d_X8_makes_80 rfl (by decide) ?_
  refine r_getR (t := 42) d_X8_makes_81 fk_RX8_38 sh_32 rfl (by decide) (R 32 rfl) ?_
  refine r_iload d_X8_makes_84 rfl ?_
  refine r_iconst d_X8_makes_86 ?_
  refine c_iast d_X8_makes_87 sh_42 (by decide) (R 42 rfl) (by decide) h (fun D9 h => ?_)
  refine r_aload_n d_X8_makes_88 rfl (by decide) ?_
  refine r_getR (t := 43) d_X8_makes_89 fk_RX8_41 sh_32 rfl (by decide) (R 32 rfl) ?_
  refine r_iload d_X8_makes_92 rfl ?_
  show Run Γ rg κ Y_X8_makes 94 [(40, 0), (0, p1), (0, p2), (0, p3), (0, x1)] [(0, x1), (51, 0)] D9 Φ
  refine r_iconst d_X8_makes_94 ?_
  refine c_iast d_X8_makes_95 sh_43 (by decide) (R 43 rfl) (by decide) h (fun D10 h => ?_)
  refine r_aload_n d_X8_makes_96 rfl (by decide) ?_
  refine r_getR (t := 48) d_X8_makes_97 fk_RX8_56 sh_32 rfl (by decide) (R 32 rfl) ?_
  refine r_iload d_X8_makes_100 rfl ?_
  refine r_iconst d_X8_makes_102 ?_
  refine c_iast d_X8_makes_103 sh_48 (by decide) (R 48 rfl) (by decide) h (fun D11 h => ?_)
  refine r_aload_n d_X8_makes_104 rfl (by decide) ?_
  refine r_getR (t := 49) d_X8_makes_105 fk_RX8_59 sh_32 rfl (by decide) (R 32 rfl) ?_
  refine r_iload d_X8_makes_108 rfl ?_
  refine r_iconst d_X8_makes_110 ?_
  refine c_iast d_X8_makes_111 sh_49 (by decide) (R 49 rfl) (by decide) h (fun D12 h => ?_)
  show Run Γ rg κ Y_X8_makes 112 [(40, 0), (0, p1), (0, p2), (0, p3), (0, x1)] [] D12 Φ
  refine r_aload_n d_X8_makes_112 rfl (by decide) ?_
  refine r_iload_n d_X8_makes_113 rfl ?_
  refine r_iload d_X8_makes_114 rfl ?_
  refine r_iload_n d_X8_makes_116 rfl ?_
  refine r_iconst d_X8_makes_117 ?_
  refine c_callVv (a := 32) (z := 0) (as := [(0, p1), (0, x1), (0, p2), (0, 1)]) (rest := []) (ls' := [(40, 0), (0, p1), (0, x1), (0, p2), (0, 1), (5, 0), (5, 0), (5, 0), (5, 0), (5, 0), (5, 0)]) d_X8_makes_118 ck_RX8_214 rfl sh_32 rfl (by decide) (R 32 rfl) rfl rfl (Nat.le_of_ble_eq_true rfl) (Nat.le_of_ble_eq_true rfl) (by decide) rfl rfl (fun κ' Ψ hΨ => run_pM_enters R _ _ _ _ hΨ) h (fun _ D13 h => ?_)
  show Run Γ rg κ Y_X8_makes 121 [(40, 0), (0, p1), (0, p2), (0, p3), (0, x1)] [] D13 Φ
  refine r_aload_n d_X8_makes_121 rfl (by decide) ?_
  refine r_getR (t := 57) d_X8_makes_122 fk_RX8_83 sh_32 rfl (by decide) (R 32 rfl) ?_
  refine r_aload_n d_X8_makes_125 rfl (by decide) ?_
  refine r_getR (t := 41) d_X8_makes_126 fk_RX8_35 sh_32 rfl (by decide) (R 32 rfl) ?_
  refine r_iload_n d_X8_makes_129 rfl ?_
  refine c_iald d_X8_makes_130 sh_41 (by decide) (R 41 rfl) (by decide) h (fun v2 h => ?_)
  show Run Γ rg κ Y_X8_makes 131 [(40, 0), (0, p1), (0, p2), (0, p3), (0, x1)] [(0, v2), (65, 0)] D13 Φ
  refine r_dup2 d_X8_makes_131 (show (0 : Nat) ≠ 1 by decide) (by decide) ?_
  refine c_iald d_X8_makes_132 sh_57 (by decide) (R 57 rfl) (by decide) h (fun v3 h => ?_)
  refine r_iconst d_X8_makes_133 ?_
  refine r_iadd d_X8_makes_134 ?_
  refine c_iast d_X8_makes_135 sh_57 (by decide) (R 57 rfl) (by decide) h (fun D14 h => ?_)
  refine r_aload_n d_X8_makes_136 rfl (by decide) ?_
  refine r_aload_n d_X8_makes_137 rfl (by decide) ?_
  refine r_getR (t := 56) d_X8_makes_138 fk_RX8_80 sh_32 rfl (by decide) (R 32 rfl) ?_
  refine r_aload_n d_X8_makes_141 rfl (by decide) ?_
  refine r_getR (t := 41) d_X8_makes_142 fk_RX8_35 sh_32 rfl (by decide) (R 32 rfl) ?_
  refine r_iload_n d_X8_makes_145 rfl ?_
  refine c_iald d_X8_makes_146 sh_41 (by decide) (R 41 rfl) (by decide) h (fun v4 h => ?_)
  show Run Γ rg κ Y_X8_makes 147 [(40, 0), (0, p1), (0, p2), (0, p3), (0, x1)] [(0, v4), (64, 0), (40, 0)] D14 Φ
  refine c_iald d_X8_makes_147 sh_56 (by decide) (R 56 rfl) (by decide) h (fun v5 h => ?_)
  refine c_callVv (a := 32) (z := 0) (as := [(0, v5)]) (rest := []) (ls' := [(40, 0), (0, v5), (5, 0), (5, 0)]) d_X8_makes_148 ck_RX8_152 rfl sh_32 rfl (by decide) (R 32 rfl) rfl rfl (Nat.le_of_ble_eq_true rfl) (Nat.le_of_ble_eq_true rfl) (by decide) rfl rfl (fun κ' Ψ hΨ => run_pM_writes R _ hΨ) h (fun _ D15 h => ?_)
  show Run Γ rg κ Y_X8_makes 151 [(40, 0), (0, p1), (0, p2), (0, p3), (0, x1)] [] D15 Φ
  refine r_aload_n d_X8_makes_151 rfl (by decide) ?_
  refine r_iload_n d_X8_makes_152 rfl ?_
  refine r_iconst d_X8_makes_153 ?_
  refine c_callVv (a := 32) (z := 0) (as := [(0, p1), (0, 1)]) (rest := []) (ls' := [(40, 0), (0, p1), (0, 1), (5, 0)]) d_X8_makes_154 ck_RX8_218 rfl sh_32 rfl (by decide) (R 32 rfl) rfl rfl (Nat.le_of_ble_eq_true rfl) (Nat.le_of_ble_eq_true rfl) (by decide) rfl rfl (fun κ' Ψ hΨ => run_pM_changes R _ _ hΨ) h (fun _ D16 h => ?_)
  show Run Γ rg κ Y_X8_makes 157 [(40, 0), (0, p1), (0, p2), (0, p3), (0, x1)] [] D16 Φ
  refine r_iload d_X8_makes_157 rfl ?_
  exact c_iret d_X8_makes_159 rfl h
set_option maxRecDepth 20000 in
theorem run_pM_isName {Γ : GG} {rg : Nat → Bool} {κ : Nat} {Φ : OT → DD → Prop} (R : cov rg rg1) (p1 : Int) {D : DD} {x : Int} (h : EQx x (pM_isName p1)) (hΦ : Φ (.inl (some (0, x))) D) : Run Γ rg κ Y_X8_isName 0 [(0, p1)] [] D Φ := by
  unfold pM_isName at h
  show Run Γ rg κ Y_X8_isName 0 [(0, p1)] [] D Φ
  refine r_iload_n d_X8_isName_0 rfl ?_
  refine r_iconst d_X8_isName_1 ?_
  refine r_sipush d_X8_isName_2 (by decide) ?_
  refine c_callSPi (as := [(0, p1), (0, 0), (0, 9999)]) (rest := []) (ls' := [(0, p1), (0, 0), (0, 9999)]) d_X8_isName_5 ck_RX8_124 rfl rfl rfl (Nat.le_of_ble_eq_true rfl) (Nat.le_of_ble_eq_true rfl) (by decide) rfl rfl (fun Ψ hΨ => run_pM_isIn R _ _ _ rfl hΨ) ?_
  show Run Γ rg κ Y_X8_isName 8 [(0, p1)] [(0, (pM_isIn p1 0 9999))] D Φ
  exact e_zret d_X8_isName_8 rfl (pM_isIn_b p1 0 9999) h hΦ
set_option maxRecDepth 20000 in
theorem run_pM_entryOf_5 {Γ : GG} {rg : Nat → Bool} {κ : Nat} {Φ : OT → DD → Prop} (R : cov rg rg1) (a1 : Int) (a2 : Int) : ∀ (n : Nat) (a3 : Int) (a4 : Int) (D : DD), WP (some .int) κ Φ (pM_entryOf_5 a1 a2 n a3 a4 D) → Run Γ rg κ Y_X8_entryOf 5 [(40, 0), (0, a1), (0, a2), (0, a3), (0, a4)] [] D Φ := by
  intro n
  induction n with
  | zero => intro a3 a4 D h; exact h.no.elim
  | succ n ih =>
    intro a3 a4 D h
    rw [pM_entryOf_5] at h
    show Run Γ rg κ Y_X8_entryOf 5 [(40, 0), (0, a1), (0, a2), (0, a3), (0, a4)] [] D Φ
    refine r_iload d_X8_entryOf_5 rfl ?_
    refine r_aload_n d_X8_entryOf_7 rfl (by decide) ?_
    refine r_iload_n d_X8_entryOf_8 rfl ?_
    refine c_callVi (t' := (some .int)) (a := 32) (z := 0) (as := [(0, a1)]) (rest := [(0, a4)]) (ls' := [(40, 0), (0, a1)]) d_X8_entryOf_9 ck_RX8_163 rfl sh_32 rfl (by decide) (R 32 rfl) rfl rfl (Nat.le_of_ble_eq_true rfl) (Nat.le_of_ble_eq_true rfl) (by decide) rfl rfl (fun _ => rfl) (fun κ' Ψ hΨ => run_pM_entries R _ hΨ) h (fun v1 D1 h => ?_)
    show Run Γ rg κ Y_X8_entryOf 12 [(40, 0), (0, a1), (0, a2), (0, a3), (0, a4)] [(0, v1), (0, a4)] D1 Φ
    refine c_icmp_ge (tgt := 44) d_X8_entryOf_12 (by decide) (nz_w _) (nz_w _) h (fun h => ?_) (fun h => ?_)
    · skip
      show Run Γ rg κ Y_X8_entryOf 44 [(40, 0), (0, a1), (0, a2), (0, a3), (0, a4)] [] D1 Φ
      refine r_iload_n d_X8_entryOf_44 rfl ?_
      exact c_iret d_X8_entryOf_45 rfl h
    · skip
      show Run Γ rg κ Y_X8_entryOf 15 [(40, 0), (0, a1), (0, a2), (0, a3), (0, a4)] [] D1 Φ
      refine r_aload_n d_X8_entryOf_15 rfl (by decide) ?_
      refine r_getR (t := 47) d_X8_entryOf_16 fk_RX8_53 sh_32 rfl (by decide) (R 32 rfl) ?_
      refine r_bipush d_X8_entryOf_19 (by decide) ?_
      refine r_iload_n d_X8_entryOf_21 rfl ?_
      refine r_imul d_X8_entryOf_22 ?_
      refine r_iload d_X8_entryOf_23 rfl ?_
      refine r_iadd d_X8_entryOf_25 ?_
      refine c_iald d_X8_entryOf_26 sh_47 (by decide) (R 47 rfl) (by decide) h (fun v2 h => ?_)
      refine r_iload_n d_X8_entryOf_27 rfl ?_
      refine c_jn (fun J => ∀ (x1 : Int) (D2 : DD), WP (some .int) κ Φ (J x1 D2) → Run Γ rg κ Y_X8_entryOf 37 [(40, 0), (0, a1), (0, a2), (5, 0), (0, a4)] [(0, x1)] D2 Φ) h ?_ (fun J1 hJ1 h => ?_)
      · intro x1 D2 h
        show Run Γ rg κ Y_X8_entryOf 37 [(40, 0), (0, a1), (0, a2), (5, 0), (0, a4)] [(0, x1)] D2 Φ
        refine r_istore_n d_X8_entryOf_37 (by decide) rfl ?_
        show Run Γ rg κ Y_X8_entryOf 38 [(40, 0), (0, a1), (0, a2), (0, x1), (0, a4)] [] D2 Φ
        refine r_iinc d_X8_entryOf_38 rfl (by decide) rfl ?_
        show Run Γ rg κ Y_X8_entryOf 41 [(40, 0), (0, a1), (0, a2), (0, x1), (0, (a4 + 1))] [] D2 Φ
        refine r_goto (tgt := 5) d_X8_entryOf_41 (by decide) ?_
        exact (ih x1 (a4 + 1) D2 h)
      refine c_icmp_ne (tgt := 36) d_X8_entryOf_28 (by decide) (nz_w _) (nz_w _) h (fun h => ?_) (fun h => ?_)
      · skip
        show Run Γ rg κ Y_X8_entryOf 36 [(40, 0), (0, a1), (0, a2), (0, a3), (0, a4)] [] D1 Φ
        refine r_iload_n d_X8_entryOf_36 rfl ?_
        exact Run.forget (ls' := [(40, 0), (0, a1), (0, a2), (5, 0), (0, a4)]) ⟨Or.inr rfl, Or.inr rfl, Or.inr rfl, Or.inl rfl, Or.inr rfl, trivial⟩ (hJ1 a3 D1 h)
      · skip
        show Run Γ rg κ Y_X8_entryOf 31 [(40, 0), (0, a1), (0, a2), (0, a3), (0, a4)] [] D1 Φ
        refine r_iload d_X8_entryOf_31 rfl ?_
        refine r_goto (tgt := 37) d_X8_entryOf_33 (by decide) ?_
        exact Run.forget (ls' := [(40, 0), (0, a1), (0, a2), (5, 0), (0, a4)]) ⟨Or.inr rfl, Or.inr rfl, Or.inr rfl, Or.inl rfl, Or.inr rfl, trivial⟩ (hJ1 a4 D1 h)
set_option maxRecDepth 20000 in
theorem run_pM_entryOf {Γ : GG} {rg : Nat → Bool} {κ : Nat} {Φ : OT → DD → Prop} (R : cov rg rg1) (p1 : Int) (p2 : Int) {D : DD} (h : WP (some .int) κ Φ (pM_entryOf p1 p2 D)) : Run Γ rg κ Y_X8_entryOf 0 [(40, 0), (0, p1), (0, p2), (5, 0), (5, 0)] [] D Φ := by
  unfold pM_entryOf at h
  show Run Γ rg κ Y_X8_entryOf 0 [(40, 0), (0, p1), (0, p2), (5, 0), (5, 0)] [] D Φ
  refine r_iconst d_X8_entryOf_0 ?_
  refine r_istore_n d_X8_entryOf_1 (by decide) rfl ?_
  show Run Γ rg κ Y_X8_entryOf 2 [(40, 0), (0, p1), (0, p2), (0, (-1)), (5, 0)] [] D Φ
  refine r_iconst d_X8_entryOf_2 ?_
  refine r_istore d_X8_entryOf_3 (by decide) rfl ?_
  show Run Γ rg κ Y_X8_entryOf 5 [(40, 0), (0, p1), (0, p2), (0, (-1)), (0, 0)] [] D Φ
  exact run_pM_entryOf_5 R p1 p2 fu (-1) 0 D h
set_option maxRecDepth 20000 in
theorem run_pM_isFull {Γ : GG} {rg : Nat → Bool} {κ : Nat} {Φ : OT → DD → Prop} (R : cov rg rg1) (p1 : Int) (p2 : Int) {D : DD} (h : WP (some .boolean) κ Φ (pM_isFull p1 p2 D)) : Run Γ rg κ Y_X8_isFull 0 [(40, 0), (0, p1), (0, p2)] [] D Φ := by
  unfold pM_isFull at h
  show Run Γ rg κ Y_X8_isFull 0 [(40, 0), (0, p1), (0, p2)] [] D Φ
  refine r_aload_n d_X8_isFull_0 rfl (by decide) ?_
  refine r_iload_n d_X8_isFull_1 rfl ?_
  refine r_iload_n d_X8_isFull_2 rfl ?_
  refine c_callVi (t' := (some .boolean)) (a := 32) (z := 0) (as := [(0, p1), (0, p2)]) (rest := []) (ls' := [(40, 0), (0, p1), (0, p2)]) d_X8_isFull_3 ck_RX8_172 rfl sh_32 rfl (by decide) (R 32 rfl) rfl rfl (Nat.le_of_ble_eq_true rfl) (Nat.le_of_ble_eq_true rfl) (by decide) rfl rfl (fun _ => rfl) (fun κ' Ψ hΨ => run_pM_isSplit R _ _ hΨ) h (fun v1 D1 h => ?_)
  show Run Γ rg κ Y_X8_isFull 6 [(40, 0), (0, p1), (0, p2)] [(0, v1)] D1 Φ
  refine c_if_eq (tgt := 24) d_X8_isFull_6 (by decide) (nz_w _) h (fun h => ?_) (fun h => ?_)
  · skip
    show Run Γ rg κ Y_X8_isFull 24 [(40, 0), (0, p1), (0, p2)] [] D1 Φ
    refine r_iconst d_X8_isFull_24 ?_
    exact c_zret d_X8_isFull_25 rfl (Or.inl rfl) h
  · skip
    show Run Γ rg κ Y_X8_isFull 9 [(40, 0), (0, p1), (0, p2)] [] D1 Φ
    refine r_aload_n d_X8_isFull_9 rfl (by decide) ?_
    refine r_getR (t := 42) d_X8_isFull_10 fk_RX8_38 sh_32 rfl (by decide) (R 32 rfl) ?_
    refine r_iload_n d_X8_isFull_13 rfl ?_
    refine c_iald d_X8_isFull_14 sh_42 (by decide) (R 42 rfl) (by decide) h (fun v2 h => ?_)
    refine r_bipush d_X8_isFull_15 (by decide) ?_
    refine c_icmp_ne (tgt := 24) d_X8_isFull_17 (by decide) (nz_w _) (nz_k rfl) h (fun h => ?_) (fun h => ?_)
    · skip
      show Run Γ rg κ Y_X8_isFull 24 [(40, 0), (0, p1), (0, p2)] [] D1 Φ
      refine r_iconst d_X8_isFull_24 ?_
      exact c_zret d_X8_isFull_25 rfl (Or.inl rfl) h
    · skip
      show Run Γ rg κ Y_X8_isFull 20 [(40, 0), (0, p1), (0, p2)] [] D1 Φ
      refine r_iconst d_X8_isFull_20 ?_
      refine r_goto (tgt := 25) d_X8_isFull_21 (by decide) ?_
      show Run Γ rg κ Y_X8_isFull 25 [(40, 0), (0, p1), (0, p2)] [(0, 1)] D1 Φ
      exact c_zret d_X8_isFull_25 rfl (Or.inr rfl) h
set_option maxRecDepth 20000 in
theorem run_pM_wants {Γ : GG} {rg : Nat → Bool} {κ : Nat} {Φ : OT → DD → Prop} (R : cov rg rg1) (p1 : Int) {D : DD} (h : WP none κ Φ (pM_wants p1 D)) : Run Γ rg κ Y_X8_wants 0 [(40, 0), (0, p1)] [] D Φ := by
  unfold pM_wants at h
  show Run Γ rg κ Y_X8_wants 0 [(40, 0), (0, p1)] [] D Φ
  refine r_aload_n d_X8_wants_0 rfl (by decide) ?_
  refine r_getR (t := 65) d_X8_wants_1 fk_RX8_107 sh_32 rfl (by decide) (R 32 rfl) ?_
  refine r_aload_n d_X8_wants_4 rfl (by decide) ?_
  refine r_getI d_X8_wants_5 fk_RX8_146 sh_32 rfl (by decide) (by decide) (R 32 rfl) ?_
  refine r_iload_n d_X8_wants_8 rfl ?_
  refine c_iast d_X8_wants_9 sh_65 (by decide) (R 65 rfl) (by decide) h (fun D1 h => ?_)
  refine r_aload_n d_X8_wants_10 rfl (by decide) ?_
  refine r_dup d_X8_wants_11 (by decide) ?_
  refine r_getI d_X8_wants_12 fk_RX8_146 sh_32 rfl (by decide) (by decide) (R 32 rfl) ?_
  refine r_iconst d_X8_wants_15 ?_
  refine r_iadd d_X8_wants_16 ?_
  show Run Γ rg κ Y_X8_wants 17 [(40, 0), (0, p1)] [(0, ((D1 32 37) + 1)), (40, 0)] D1 Φ
  refine c_putI (k := 37) d_X8_wants_17 pk_RX8_146 sh_32 rfl (by decide) (R 32 rfl) h (fun D2 h => ?_)
  exact c_vret d_X8_wants_20 rfl h
set_option maxRecDepth 20000 in
theorem run_pM_wantsEntry {Γ : GG} {rg : Nat → Bool} {κ : Nat} {Φ : OT → DD → Prop} (R : cov rg rg1) (p1 : Int) (p2 : Int) {D : DD} (h : WP none κ Φ (pM_wantsEntry p1 p2 D)) : Run Γ rg κ Y_X8_wantsEntry 0 [(40, 0), (0, p1), (0, p2)] [] D Φ := by
  unfold pM_wantsEntry at h
  show Run Γ rg κ Y_X8_wantsEntry 0 [(40, 0), (0, p1), (0, p2)] [] D Φ
  refine r_aload_n d_X8_wantsEntry_0 rfl (by decide) ?_
  refine r_getR (t := 42) d_X8_wantsEntry_1 fk_RX8_38 sh_32 rfl (by decide) (R 32 rfl) ?_
  refine r_iload_n d_X8_wantsEntry_4 rfl ?_
  refine c_iald d_X8_wantsEntry_5 sh_42 (by decide) (R 42 rfl) (by decide) h (fun v1 h => ?_)
  refine c_if_ne (tgt := 17) d_X8_wantsEntry_6 (by decide) (nz_w _) h (fun h => ?_) (fun h => ?_)
  · skip
    show Run Γ rg κ Y_X8_wantsEntry 17 [(40, 0), (0, p1), (0, p2)] [] D Φ
    refine r_aload_n d_X8_wantsEntry_17 rfl (by decide) ?_
    refine r_iload_n d_X8_wantsEntry_18 rfl ?_
    refine r_iload_n d_X8_wantsEntry_19 rfl ?_
    refine c_callVi (t' := (some .boolean)) (a := 32) (z := 0) (as := [(0, p1), (0, p2)]) (rest := []) (ls' := [(40, 0), (0, p1), (0, p2)]) d_X8_wantsEntry_20 ck_RX8_172 rfl sh_32 rfl (by decide) (R 32 rfl) rfl rfl (Nat.le_of_ble_eq_true rfl) (Nat.le_of_ble_eq_true rfl) (by decide) rfl rfl (fun _ => rfl) (fun κ' Ψ hΨ => run_pM_isSplit R _ _ hΨ) h (fun v2 D1 h => ?_)
    show Run Γ rg κ Y_X8_wantsEntry 23 [(40, 0), (0, p1), (0, p2)] [(0, v2)] D1 Φ
    refine c_if_eq (tgt := 47) d_X8_wantsEntry_23 (by decide) (nz_w _) h (fun h => ?_) (fun h => ?_)
    · skip
      show Run Γ rg κ Y_X8_wantsEntry 47 [(40, 0), (0, p1), (0, p2)] [] D1 Φ
      exact c_vret d_X8_wantsEntry_47 rfl h
    · skip
      show Run Γ rg κ Y_X8_wantsEntry 26 [(40, 0), (0, p1), (0, p2)] [] D1 Φ
      refine r_aload_n d_X8_wantsEntry_26 rfl (by decide) ?_
      refine r_getR (t := 42) d_X8_wantsEntry_27 fk_RX8_38 sh_32 rfl (by decide) (R 32 rfl) ?_
      refine r_iload_n d_X8_wantsEntry_30 rfl ?_
      refine c_iald d_X8_wantsEntry_31 sh_42 (by decide) (R 42 rfl) (by decide) h (fun v3 h => ?_)
      refine r_iconst d_X8_wantsEntry_32 ?_
      refine c_jn (fun J => ∀ (D2 : DD), WP none κ Φ (J D2) → Run Γ rg κ Y_X8_wantsEntry 42 [(40, 0), (5, 0), (5, 0)] [] D2 Φ) h ?_ (fun J1 hJ1 h => ?_)
      · intro D2 h
        show Run Γ rg κ Y_X8_wantsEntry 42 [(40, 0), (5, 0), (5, 0)] [] D2 Φ
        refine r_aload_n d_X8_wantsEntry_42 rfl (by decide) ?_
        refine r_iconst d_X8_wantsEntry_43 ?_
        refine c_callVv (a := 32) (z := 0) (as := [(0, 5)]) (rest := []) (ls' := [(40, 0), (0, 5)]) d_X8_wantsEntry_44 ck_RX8_176 rfl sh_32 rfl (by decide) (R 32 rfl) rfl rfl (Nat.le_of_ble_eq_true rfl) (Nat.le_of_ble_eq_true rfl) (by decide) rfl rfl (fun κ' Ψ hΨ => run_pM_wants R _ hΨ) h (fun _ D3 h => ?_)
        show Run Γ rg κ Y_X8_wantsEntry 47 [(40, 0), (5, 0), (5, 0)] [] D3 Φ
        exact c_vret d_X8_wantsEntry_47 rfl h
      refine c_icmp_ne (tgt := 42) d_X8_wantsEntry_33 (by decide) (nz_w _) (nz_k rfl) h (fun h => ?_) (fun h => ?_)
      · skip
        exact Run.forget (ls' := [(40, 0), (5, 0), (5, 0)]) ⟨Or.inr rfl, Or.inl rfl, Or.inl rfl, trivial⟩ (hJ1 D1 h)
      · skip
        show Run Γ rg κ Y_X8_wantsEntry 36 [(40, 0), (0, p1), (0, p2)] [] D1 Φ
        refine r_aload_n d_X8_wantsEntry_36 rfl (by decide) ?_
        refine r_bipush d_X8_wantsEntry_37 (by decide) ?_
        refine c_callVv (a := 32) (z := 0) (as := [(0, 9)]) (rest := []) (ls' := [(40, 0), (0, 9)]) d_X8_wantsEntry_39 ck_RX8_176 rfl sh_32 rfl (by decide) (R 32 rfl) rfl rfl (Nat.le_of_ble_eq_true rfl) (Nat.le_of_ble_eq_true rfl) (by decide) rfl rfl (fun κ' Ψ hΨ => run_pM_wants R _ hΨ) h (fun _ D4 h => ?_)
        show Run Γ rg κ Y_X8_wantsEntry 42 [(40, 0), (0, p1), (0, p2)] [] D4 Φ
        exact Run.forget (ls' := [(40, 0), (5, 0), (5, 0)]) ⟨Or.inr rfl, Or.inl rfl, Or.inl rfl, trivial⟩ (hJ1 D4 h)
  · skip
    show Run Γ rg κ Y_X8_wantsEntry 9 [(40, 0), (0, p1), (0, p2)] [] D Φ
    refine r_aload_n d_X8_wantsEntry_9 rfl (by decide) ?_
    refine r_iconst d_X8_wantsEntry_10 ?_
    refine c_callVv (a := 32) (z := 0) (as := [(0, 5)]) (rest := []) (ls' := [(40, 0), (0, 5)]) d_X8_wantsEntry_11 ck_RX8_176 rfl sh_32 rfl (by decide) (R 32 rfl) rfl rfl (Nat.le_of_ble_eq_true rfl) (Nat.le_of_ble_eq_true rfl) (by decide) rfl rfl (fun κ' Ψ hΨ => run_pM_wants R _ hΨ) h (fun _ D5 h => ?_)
    show Run Γ rg κ Y_X8_wantsEntry 14 [(40, 0), (0, p1), (0, p2)] [] D5 Φ
    refine r_goto (tgt := 47) d_X8_wantsEntry_14 (by decide) ?_
    show Run Γ rg κ Y_X8_wantsEntry 47 [(40, 0), (0, p1), (0, p2)] [] D5 Φ
    exact c_vret d_X8_wantsEntry_47 rfl h
set_option maxRecDepth 20000 in
theorem run_pM_gets_9 {Γ : GG} {rg : Nat → Bool} {κ : Nat} {Φ : OT → DD → Prop} (R : cov rg rg1) (c1 : Int) {K : DD → Res} (hK : ∀ (D : DD), WP (some .boolean) κ Φ (K D) → Run Γ rg κ Y_X8_gets 34 [(40, 0), (0, c1), (5, 0), (5, 0)] [] D Φ) : ∀ (n : Nat) (a2 : Int) (D : DD), WP (some .boolean) κ Φ (pM_gets_9 n a2 D K) → Run Γ rg κ Y_X8_gets 9 [(40, 0), (0, c1), (0, a2), (5, 0)] [] D Φ := by
  intro n
  induction n with
  | zero => intro a2 D h; exact h.no.elim
  | succ n ih =>
    intro a2 D h
    rw [pM_gets_9] at h
    show Run Γ rg κ Y_X8_gets 9 [(40, 0), (0, c1), (0, a2), (5, 0)] [] D Φ
    refine r_iload_n d_X8_gets_9 rfl ?_
    refine r_sipush d_X8_gets_10 (by decide) ?_
    refine c_icmp_ge (tgt := 34) d_X8_gets_13 (by decide) (nz_w _) (nz_k rfl) h (fun h => ?_) (fun h => ?_)
    · skip
      exact Run.forget (ls' := [(40, 0), (0, c1), (5, 0), (5, 0)]) ⟨Or.inr rfl, Or.inr rfl, Or.inl rfl, Or.inr rfl, trivial⟩ (hK D h)
    · skip
      show Run Γ rg κ Y_X8_gets 16 [(40, 0), (0, c1), (0, a2), (5, 0)] [] D Φ
      refine r_aload_n d_X8_gets_16 rfl (by decide) ?_
      refine r_getR (t := 67) d_X8_gets_17 fk_RX8_113 sh_32 rfl (by decide) (R 32 rfl) ?_
      refine r_iload_n d_X8_gets_20 rfl ?_
      refine r_aload_n d_X8_gets_21 rfl (by decide) ?_
      refine r_getR (t := 33) d_X8_gets_22 fk_RX8_7 sh_32 rfl (by decide) (R 32 rfl) ?_
      refine r_iload_n d_X8_gets_25 rfl ?_
      refine c_iald d_X8_gets_26 sh_33 (by decide) (R 33 rfl) (by decide) h (fun v1 h => ?_)
      refine c_iast d_X8_gets_27 sh_67 (by decide) (R 67 rfl) (by decide) h (fun D1 h => ?_)
      refine r_iinc d_X8_gets_28 rfl (by decide) rfl ?_
      show Run Γ rg κ Y_X8_gets 31 [(40, 0), (0, c1), (0, (a2 + 1)), (5, 0)] [] D1 Φ
      refine r_goto (tgt := 9) d_X8_gets_31 (by decide) ?_
      exact (ih (a2 + 1) D1 h)
set_option maxRecDepth 20000 in
theorem run_pM_units {Γ : GG} {rg : Nat → Bool} {κ : Nat} {Φ : OT → DD → Prop} (R : cov rg rg1) {D : DD} {x : Int} (h : EQx x (pM_units D)) (hΦ : Φ (.inl (some (0, x))) D) : Run Γ rg κ Y_X8_units 0 [(40, 0)] [] D Φ := by
  unfold pM_units at h
  show Run Γ rg κ Y_X8_units 0 [(40, 0)] [] D Φ
  refine r_bipush d_X8_units_0 (by decide) ?_
  refine r_aload_n d_X8_units_2 rfl (by decide) ?_
  refine r_getR (t := 34) d_X8_units_3 fk_RX8_13 sh_32 rfl (by decide) (R 32 rfl) ?_
  refine r_iconst d_X8_units_6 ?_
  refine c_iald0 (k := 0) d_X8_units_7 sh_34 (by decide) (R 34 rfl) (by decide) rfl (by decide) ?_
  refine r_imul d_X8_units_8 ?_
  exact e_iret d_X8_units_9 rfl h hΦ
set_option maxRecDepth 20000 in
theorem run_pM_freeFor_2 {Γ : GG} {rg : Nat → Bool} {κ : Nat} {Φ : OT → DD → Prop} (R : cov rg rg1) (a1 : Int) : ∀ (n : Nat) (a2 : Int) (D : DD), WP (some .int) κ Φ (pM_freeFor_2 a1 n a2 D) → Run Γ rg κ Y_X8_freeFor 2 [(40, 0), (0, a1), (0, a2)] [] D Φ := by
  intro n
  induction n with
  | zero => intro a2 D h; exact h.no.elim
  | succ n ih =>
    intro a2 D h
    rw [pM_freeFor_2] at h
    show Run Γ rg κ Y_X8_freeFor 2 [(40, 0), (0, a1), (0, a2)] [] D Φ
    refine r_iload_n d_X8_freeFor_2 rfl ?_
    refine r_aload_n d_X8_freeFor_3 rfl (by decide) ?_
    refine c_callVPi (a := 32) (z := 0) (as := []) (rest := [(0, a2)]) (ls' := [(40, 0)]) d_X8_freeFor_4 ck_RX8_132 rfl sh_32 rfl (by decide) (R 32 rfl) rfl rfl (Nat.le_of_ble_eq_true rfl) (Nat.le_of_ble_eq_true rfl) (by decide) rfl rfl (fun Ψ hΨ => run_pM_units R rfl hΨ) ?_
    show Run Γ rg κ Y_X8_freeFor 7 [(40, 0), (0, a1), (0, a2)] [(0, (pM_units D)), (0, a2)] D Φ
    refine c_icmp_ge (tgt := 29) d_X8_freeFor_7 (by decide) (nz_w _) (nz_w _) h (fun h => ?_) (fun h => ?_)
    · skip
      show Run Γ rg κ Y_X8_freeFor 29 [(40, 0), (0, a1), (0, a2)] [] D Φ
      refine r_iconst d_X8_freeFor_29 ?_
      exact c_iret d_X8_freeFor_30 rfl h
    · skip
      show Run Γ rg κ Y_X8_freeFor 10 [(40, 0), (0, a1), (0, a2)] [] D Φ
      refine r_aload_n d_X8_freeFor_10 rfl (by decide) ?_
      refine r_getR (t := 33) d_X8_freeFor_11 fk_RX8_7 sh_32 rfl (by decide) (R 32 rfl) ?_
      refine r_iload_n d_X8_freeFor_14 rfl ?_
      refine c_iald d_X8_freeFor_15 sh_33 (by decide) (R 33 rfl) (by decide) h (fun v1 h => ?_)
      refine r_iload_n d_X8_freeFor_16 rfl ?_
      refine r_ineg d_X8_freeFor_17 ?_
      refine c_icmp_gt (tgt := 23) d_X8_freeFor_18 (by decide) (nz_w _) (nz_w _) h (fun h => ?_) (fun h => ?_)
      · skip
        show Run Γ rg κ Y_X8_freeFor 23 [(40, 0), (0, a1), (0, a2)] [] D Φ
        refine r_iinc d_X8_freeFor_23 rfl (by decide) rfl ?_
        show Run Γ rg κ Y_X8_freeFor 26 [(40, 0), (0, a1), (0, (a2 + 1))] [] D Φ
        refine r_goto (tgt := 2) d_X8_freeFor_26 (by decide) ?_
        exact (ih (a2 + 1) D h)
      · skip
        show Run Γ rg κ Y_X8_freeFor 21 [(40, 0), (0, a1), (0, a2)] [] D Φ
        refine r_iload_n d_X8_freeFor_21 rfl ?_
        exact c_iret d_X8_freeFor_22 rfl h
set_option maxRecDepth 20000 in
theorem run_pM_freeFor {Γ : GG} {rg : Nat → Bool} {κ : Nat} {Φ : OT → DD → Prop} (R : cov rg rg1) (p1 : Int) {D : DD} (h : WP (some .int) κ Φ (pM_freeFor p1 D)) : Run Γ rg κ Y_X8_freeFor 0 [(40, 0), (0, p1), (5, 0)] [] D Φ := by
  unfold pM_freeFor at h
  show Run Γ rg κ Y_X8_freeFor 0 [(40, 0), (0, p1), (5, 0)] [] D Φ
  refine r_iconst d_X8_freeFor_0 ?_
  refine r_istore_n d_X8_freeFor_1 (by decide) rfl ?_
  show Run Γ rg κ Y_X8_freeFor 2 [(40, 0), (0, p1), (0, 0)] [] D Φ
  exact run_pM_freeFor_2 R p1 fu 0 D h
set_option maxRecDepth 20000 in
theorem run_pM_freeAhead_4 {Γ : GG} {rg : Nat → Bool} {κ : Nat} {Φ : OT → DD → Prop} (R : cov rg rg1) (a1 : Int) : ∀ (n : Nat) (a2 : Int) (a3 : Int) (D : DD), WP (some .int) κ Φ (pM_freeAhead_4 a1 n a2 a3 D) → Run Γ rg κ Y_X8_freeAhead 4 [(40, 0), (0, a1), (0, a2), (0, a3)] [] D Φ := by
  intro n
  induction n with
  | zero => intro a2 a3 D h; exact h.no.elim
  | succ n ih =>
    intro a2 a3 D h
    rw [pM_freeAhead_4] at h
    show Run Γ rg κ Y_X8_freeAhead 4 [(40, 0), (0, a1), (0, a2), (0, a3)] [] D Φ
    refine r_iload_n d_X8_freeAhead_4 rfl ?_
    refine r_iload_n d_X8_freeAhead_5 rfl ?_
    refine c_icmp_ge (tgt := 42) d_X8_freeAhead_6 (by decide) (nz_w _) (nz_w _) h (fun h => ?_) (fun h => ?_)
    · skip
      show Run Γ rg κ Y_X8_freeAhead 42 [(40, 0), (0, a1), (0, a2), (0, a3)] [] D Φ
      refine r_iload_n d_X8_freeAhead_42 rfl ?_
      exact c_iret d_X8_freeAhead_43 rfl h
    · skip
      show Run Γ rg κ Y_X8_freeAhead 9 [(40, 0), (0, a1), (0, a2), (0, a3)] [] D Φ
      refine r_aload_n d_X8_freeAhead_9 rfl (by decide) ?_
      refine r_getR (t := 33) d_X8_freeAhead_10 fk_RX8_7 sh_32 rfl (by decide) (R 32 rfl) ?_
      refine r_iload_n d_X8_freeAhead_13 rfl ?_
      refine c_iald d_X8_freeAhead_14 sh_33 (by decide) (R 33 rfl) (by decide) h (fun v1 h => ?_)
      refine c_jn (fun J => ∀ (x1 : Int) (D1 : DD), WP (some .int) κ Φ (J x1 D1) → Run Γ rg κ Y_X8_freeAhead 35 [(40, 0), (0, a1), (5, 0), (0, a3)] [(0, x1)] D1 Φ) h ?_ (fun J1 hJ1 h => ?_)
      · intro x1 D1 h
        show Run Γ rg κ Y_X8_freeAhead 35 [(40, 0), (0, a1), (5, 0), (0, a3)] [(0, x1)] D1 Φ
        refine r_istore_n d_X8_freeAhead_35 (by decide) rfl ?_
        show Run Γ rg κ Y_X8_freeAhead 36 [(40, 0), (0, a1), (0, x1), (0, a3)] [] D1 Φ
        refine r_iinc d_X8_freeAhead_36 rfl (by decide) rfl ?_
        show Run Γ rg κ Y_X8_freeAhead 39 [(40, 0), (0, a1), (0, x1), (0, (a3 + 1))] [] D1 Φ
        refine r_goto (tgt := 4) d_X8_freeAhead_39 (by decide) ?_
        exact (ih x1 (a3 + 1) D1 h)
      refine c_jn (fun J => ∀ (D2 : DD), WP (some .int) κ Φ (J D2) → Run Γ rg κ Y_X8_freeAhead 34 [(40, 0), (0, a1), (0, a2), (0, a3)] [] D2 Φ) h ?_ (fun J2 hJ2 h => ?_)
      · intro D2 h
        show Run Γ rg κ Y_X8_freeAhead 34 [(40, 0), (0, a1), (0, a2), (0, a3)] [] D2 Φ
        refine r_iload_n d_X8_freeAhead_34 rfl ?_
        exact Run.forget (ls' := [(40, 0), (0, a1), (5, 0), (0, a3)]) ⟨Or.inr rfl, Or.inr rfl, Or.inl rfl, Or.inr rfl, trivial⟩ (hJ1 a2 D2 h)
      refine c_if_ge (tgt := 34) d_X8_freeAhead_15 (by decide) (nz_w _) h (fun h => ?_) (fun h => ?_)
      · skip
        exact (hJ2 D h)
      · skip
        show Run Γ rg κ Y_X8_freeAhead 18 [(40, 0), (0, a1), (0, a2), (0, a3)] [] D Φ
        refine r_iload_n d_X8_freeAhead_18 rfl ?_
        refine r_aload_n d_X8_freeAhead_19 rfl (by decide) ?_
        refine r_getR (t := 33) d_X8_freeAhead_20 fk_RX8_7 sh_32 rfl (by decide) (R 32 rfl) ?_
        refine r_iload_n d_X8_freeAhead_23 rfl ?_
        refine c_iald d_X8_freeAhead_24 sh_33 (by decide) (R 33 rfl) (by decide) h (fun v2 h => ?_)
        refine r_isub d_X8_freeAhead_25 ?_
        refine r_iload_n d_X8_freeAhead_26 rfl ?_
        refine c_icmp_ne (tgt := 34) d_X8_freeAhead_27 (by decide) (nz_w _) (nz_w _) h (fun h => ?_) (fun h => ?_)
        · skip
          exact (hJ2 D h)
        · skip
          show Run Γ rg κ Y_X8_freeAhead 30 [(40, 0), (0, a1), (0, a2), (0, a3)] [] D Φ
          refine r_iload_n d_X8_freeAhead_30 rfl ?_
          refine r_goto (tgt := 35) d_X8_freeAhead_31 (by decide) ?_
          exact Run.forget (ls' := [(40, 0), (0, a1), (5, 0), (0, a3)]) ⟨Or.inr rfl, Or.inr rfl, Or.inl rfl, Or.inr rfl, trivial⟩ (hJ1 a3 D h)
set_option maxRecDepth 20000 in
theorem run_pM_freeAhead {Γ : GG} {rg : Nat → Bool} {κ : Nat} {Φ : OT → DD → Prop} (R : cov rg rg1) (p1 : Int) {D : DD} (h : WP (some .int) κ Φ (pM_freeAhead p1 D)) : Run Γ rg κ Y_X8_freeAhead 0 [(40, 0), (0, p1), (5, 0), (5, 0)] [] D Φ := by
  unfold pM_freeAhead at h
  show Run Γ rg κ Y_X8_freeAhead 0 [(40, 0), (0, p1), (5, 0), (5, 0)] [] D Φ
  refine r_iconst d_X8_freeAhead_0 ?_
  refine r_istore_n d_X8_freeAhead_1 (by decide) rfl ?_
  show Run Γ rg κ Y_X8_freeAhead 2 [(40, 0), (0, p1), (0, (-1)), (5, 0)] [] D Φ
  refine r_iconst d_X8_freeAhead_2 ?_
  refine r_istore_n d_X8_freeAhead_3 (by decide) rfl ?_
  show Run Γ rg κ Y_X8_freeAhead 4 [(40, 0), (0, p1), (0, (-1)), (0, 0)] [] D Φ
  exact run_pM_freeAhead_4 R p1 fu (-1) 0 D h
set_option maxRecDepth 20000 in
theorem run_pM_grows {Γ : GG} {rg : Nat → Bool} {κ : Nat} {Φ : OT → DD → Prop} (R : cov rg rg1) {D : DD} (h : WP none κ Φ (pM_grows D)) : Run Γ rg κ Y_X8_grows 0 [(40, 0), (5, 0), (5, 0)] [] D Φ := by
  unfold pM_grows at h
  show Run Γ rg κ Y_X8_grows 0 [(40, 0), (5, 0), (5, 0)] [] D Φ
  refine r_aload_n d_X8_grows_0 rfl (by decide) ?_
  refine c_callVPi (a := 32) (z := 0) (as := []) (rest := []) (ls' := [(40, 0)]) d_X8_grows_1 ck_RX8_132 rfl sh_32 rfl (by decide) (R 32 rfl) rfl rfl (Nat.le_of_ble_eq_true rfl) (Nat.le_of_ble_eq_true rfl) (by decide) rfl rfl (fun Ψ hΨ => run_pM_units R rfl hΨ) ?_
  show Run Γ rg κ Y_X8_grows 4 [(40, 0), (5, 0), (5, 0)] [(0, (pM_units D))] D Φ
  refine c_lt_n d_X8_grows_4 (by decide) rfl h (fun x1 h => ?_)
  show Run Γ rg κ Y_X8_grows 5 [(40, 0), (0, x1), (5, 0)] [] D Φ
  refine r_aload_n d_X8_grows_5 rfl (by decide) ?_
  refine r_iload_n d_X8_grows_6 rfl ?_
  refine c_callVi (t' := (some .int)) (a := 32) (z := 0) (as := [(0, x1)]) (rest := []) (ls' := [(40, 0), (0, x1), (5, 0), (5, 0)]) d_X8_grows_7 ck_RX8_136 rfl sh_32 rfl (by decide) (R 32 rfl) rfl rfl (Nat.le_of_ble_eq_true rfl) (Nat.le_of_ble_eq_true rfl) (by decide) rfl rfl (fun _ => rfl) (fun κ' Ψ hΨ => run_pM_freeAhead R _ hΨ) h (fun v1 D1 h => ?_)
  show Run Γ rg κ Y_X8_grows 10 [(40, 0), (0, x1), (5, 0)] [(0, v1)] D1 Φ
  refine r_istore_n d_X8_grows_10 (by decide) rfl ?_
  show Run Γ rg κ Y_X8_grows 11 [(40, 0), (0, x1), (0, v1)] [] D1 Φ
  refine r_aload_n d_X8_grows_11 rfl (by decide) ?_
  refine r_getR (t := 34) d_X8_grows_12 fk_RX8_13 sh_32 rfl (by decide) (R 32 rfl) ?_
  refine r_iconst d_X8_grows_15 ?_
  refine r_dup2 d_X8_grows_16 (show (0 : Nat) ≠ 1 by decide) (by decide) ?_
  show Run Γ rg κ Y_X8_grows 17 [(40, 0), (0, x1), (0, v1)] [(0, 0), (42, 0), (0, 0), (42, 0)] D1 Φ
  refine c_iald0 (k := 0) d_X8_grows_17 sh_34 (by decide) (R 34 rfl) (by decide) rfl (by decide) ?_
  refine r_iconst d_X8_grows_18 ?_
  refine r_iadd d_X8_grows_19 ?_
  refine c_iast0 (k := 0) d_X8_grows_20 sh_34 (by decide) (R 34 rfl) (by decide) rfl (by decide) h (fun D2 h => ?_)
  refine r_iload_n d_X8_grows_21 rfl ?_
  refine r_iconst d_X8_grows_22 ?_
  refine c_icmp_ne (tgt := 37) d_X8_grows_23 (by decide) (nz_w _) (nz_k rfl) h (fun h => ?_) (fun h => ?_)
  · skip
    show Run Γ rg κ Y_X8_grows 37 [(40, 0), (0, x1), (0, v1)] [] D2 Φ
    refine r_aload_n d_X8_grows_37 rfl (by decide) ?_
    refine r_getR (t := 33) d_X8_grows_38 fk_RX8_7 sh_32 rfl (by decide) (R 32 rfl) ?_
    refine r_iload_n d_X8_grows_41 rfl ?_
    refine r_dup2 d_X8_grows_42 (show (0 : Nat) ≠ 1 by decide) (by decide) ?_
    refine c_iald d_X8_grows_43 sh_33 (by decide) (R 33 rfl) (by decide) h (fun v2 h => ?_)
    refine r_bipush d_X8_grows_44 (by decide) ?_
    refine r_isub d_X8_grows_46 ?_
    refine c_iast d_X8_grows_47 sh_33 (by decide) (R 33 rfl) (by decide) h (fun D3 h => ?_)
    exact c_vret d_X8_grows_48 rfl h
  · skip
    show Run Γ rg κ Y_X8_grows 26 [(40, 0), (0, x1), (0, v1)] [] D2 Φ
    refine r_aload_n d_X8_grows_26 rfl (by decide) ?_
    refine r_getR (t := 33) d_X8_grows_27 fk_RX8_7 sh_32 rfl (by decide) (R 32 rfl) ?_
    refine r_iload_n d_X8_grows_30 rfl ?_
    refine r_bipush d_X8_grows_31 (by decide) ?_
    refine c_iast d_X8_grows_33 sh_33 (by decide) (R 33 rfl) (by decide) h (fun D4 h => ?_)
    refine r_goto (tgt := 48) d_X8_grows_34 (by decide) ?_
    show Run Γ rg κ Y_X8_grows 48 [(40, 0), (0, x1), (0, v1)] [] D4 Φ
    exact c_vret d_X8_grows_48 rfl h
set_option maxRecDepth 20000 in
theorem run_pM_takes_6 {Γ : GG} {rg : Nat → Bool} {κ : Nat} {Φ : OT → DD → Prop} (R : cov rg rg1) (a1 : Int) {K : Int → DD → Res} (hK : ∀ (z2 : Int) (D : DD), WP (some .int) κ Φ (K z2 D) → Run Γ rg κ Y_X8_takes 35 [(40, 0), (0, a1), (0, z2), (5, 0)] [] D Φ) : ∀ (n : Nat) (a2 : Int) (D : DD), WP (some .int) κ Φ (pM_takes_6 a1 n a2 D K) → Run Γ rg κ Y_X8_takes 6 [(40, 0), (0, a1), (0, a2), (5, 0)] [] D Φ := by
  intro n
  induction n with
  | zero => intro a2 D h; exact h.no.elim
  | succ n ih =>
    intro a2 D h
    rw [pM_takes_6] at h
    show Run Γ rg κ Y_X8_takes 6 [(40, 0), (0, a1), (0, a2), (5, 0)] [] D Φ
    refine r_iload_n d_X8_takes_6 rfl ?_
    refine r_iconst d_X8_takes_7 ?_
    refine c_icmp_ne (tgt := 35) d_X8_takes_8 (by decide) (nz_w _) (nz_k rfl) h (fun h => ?_) (fun h => ?_)
    · skip
      exact (hK a2 D h)
    · skip
      show Run Γ rg κ Y_X8_takes 11 [(40, 0), (0, a1), (0, a2), (5, 0)] [] D Φ
      refine r_aload_n d_X8_takes_11 rfl (by decide) ?_
      refine r_getR (t := 34) d_X8_takes_12 fk_RX8_13 sh_32 rfl (by decide) (R 32 rfl) ?_
      refine r_iconst d_X8_takes_15 ?_
      refine c_iald0 (k := 0) d_X8_takes_16 sh_34 (by decide) (R 34 rfl) (by decide) rfl (by decide) ?_
      refine r_bipush d_X8_takes_17 (by decide) ?_
      refine c_icmp_ge (tgt := 35) d_X8_takes_19 (by decide) (nz_w _) (nz_k rfl) h (fun h => ?_) (fun h => ?_)
      · skip
        exact (hK a2 D h)
      · skip
        show Run Γ rg κ Y_X8_takes 22 [(40, 0), (0, a1), (0, a2), (5, 0)] [] D Φ
        refine r_aload_n d_X8_takes_22 rfl (by decide) ?_
        refine c_callVv (a := 32) (z := 0) (as := []) (rest := []) (ls' := [(40, 0), (5, 0), (5, 0)]) d_X8_takes_23 ck_RX8_143 rfl sh_32 rfl (by decide) (R 32 rfl) rfl rfl (Nat.le_of_ble_eq_true rfl) (Nat.le_of_ble_eq_true rfl) (by decide) rfl rfl (fun κ' Ψ hΨ => run_pM_grows R hΨ) h (fun _ D1 h => ?_)
        show Run Γ rg κ Y_X8_takes 26 [(40, 0), (0, a1), (0, a2), (5, 0)] [] D1 Φ
        refine r_aload_n d_X8_takes_26 rfl (by decide) ?_
        refine r_iload_n d_X8_takes_27 rfl ?_
        refine c_callVi (t' := (some .int)) (a := 32) (z := 0) (as := [(0, a1)]) (rest := []) (ls' := [(40, 0), (0, a1), (5, 0)]) d_X8_takes_28 ck_RX8_140 rfl sh_32 rfl (by decide) (R 32 rfl) rfl rfl (Nat.le_of_ble_eq_true rfl) (Nat.le_of_ble_eq_true rfl) (by decide) rfl rfl (fun _ => rfl) (fun κ' Ψ hΨ => run_pM_freeFor R _ hΨ) h (fun v1 D2 h => ?_)
        show Run Γ rg κ Y_X8_takes 31 [(40, 0), (0, a1), (0, a2), (5, 0)] [(0, v1)] D2 Φ
        refine r_istore_n d_X8_takes_31 (by decide) rfl ?_
        show Run Γ rg κ Y_X8_takes 32 [(40, 0), (0, a1), (0, v1), (5, 0)] [] D2 Φ
        refine r_goto (tgt := 6) d_X8_takes_32 (by decide) ?_
        exact (ih v1 D2 h)
set_option maxRecDepth 20000 in
theorem run_pM_takes {Γ : GG} {rg : Nat → Bool} {κ : Nat} {Φ : OT → DD → Prop} (R : cov rg rg1) (p1 : Int) {D : DD} (h : WP (some .int) κ Φ (pM_takes p1 D)) : Run Γ rg κ Y_X8_takes 0 [(40, 0), (0, p1), (5, 0), (5, 0)] [] D Φ := by
  unfold pM_takes at h
  show Run Γ rg κ Y_X8_takes 0 [(40, 0), (0, p1), (5, 0), (5, 0)] [] D Φ
  refine r_aload_n d_X8_takes_0 rfl (by decide) ?_
  refine r_iload_n d_X8_takes_1 rfl ?_
  refine c_callVi (t' := (some .int)) (a := 32) (z := 0) (as := [(0, p1)]) (rest := []) (ls' := [(40, 0), (0, p1), (5, 0)]) d_X8_takes_2 ck_RX8_140 rfl sh_32 rfl (by decide) (R 32 rfl) rfl rfl (Nat.le_of_ble_eq_true rfl) (Nat.le_of_ble_eq_true rfl) (by decide) rfl rfl (fun _ => rfl) (fun κ' Ψ hΨ => run_pM_freeFor R _ hΨ) h (fun v1 D1 h => ?_)
  show Run Γ rg κ Y_X8_takes 5 [(40, 0), (0, p1), (5, 0), (5, 0)] [(0, v1)] D1 Φ
  refine r_istore_n d_X8_takes_5 (by decide) rfl ?_
  show Run Γ rg κ Y_X8_takes 6 [(40, 0), (0, p1), (0, v1), (5, 0)] [] D1 Φ
  refine run_pM_takes_6 R p1 ?_ fu v1 D1 h
  intro x1 D2 h
  show Run Γ rg κ Y_X8_takes 35 [(40, 0), (0, p1), (0, x1), (5, 0)] [] D2 Φ
  refine r_iload_n d_X8_takes_35 rfl ?_
  refine r_iconst d_X8_takes_36 ?_
  refine c_icmp_eq (tgt := 71) d_X8_takes_37 (by decide) (nz_w _) (nz_k rfl) h (fun h => ?_) (fun h => ?_)
  · skip
    show Run Γ rg κ Y_X8_takes 71 [(40, 0), (0, p1), (0, x1), (5, 0)] [] D2 Φ
    refine r_iload_n d_X8_takes_71 rfl ?_
    exact c_iret d_X8_takes_72 rfl h
  · skip
    show Run Γ rg κ Y_X8_takes 40 [(40, 0), (0, p1), (0, x1), (5, 0)] [] D2 Φ
    refine r_aload_n d_X8_takes_40 rfl (by decide) ?_
    refine r_getR (t := 33) d_X8_takes_41 fk_RX8_7 sh_32 rfl (by decide) (R 32 rfl) ?_
    refine r_iload_n d_X8_takes_44 rfl ?_
    refine c_iald d_X8_takes_45 sh_33 (by decide) (R 33 rfl) (by decide) h (fun v2 h => ?_)
    refine r_ineg d_X8_takes_46 ?_
    refine r_iload_n d_X8_takes_47 rfl ?_
    refine r_isub d_X8_takes_48 ?_
    refine c_lt_n d_X8_takes_49 (by decide) rfl h (fun x2 h => ?_)
    show Run Γ rg κ Y_X8_takes 50 [(40, 0), (0, p1), (0, x1), (0, x2)] [] D2 Φ
    refine r_aload_n d_X8_takes_50 rfl (by decide) ?_
    refine r_getR (t := 33) d_X8_takes_51 fk_RX8_7 sh_32 rfl (by decide) (R 32 rfl) ?_
    refine r_iload_n d_X8_takes_54 rfl ?_
    show Run Γ rg κ Y_X8_takes 55 [(40, 0), (0, p1), (0, x1), (0, x2)] [(0, x1), (41, 0)] D2 Φ
    refine r_iload_n d_X8_takes_55 rfl ?_
    refine c_iast d_X8_takes_56 sh_33 (by decide) (R 33 rfl) (by decide) h (fun D3 h => ?_)
    refine r_iload_n d_X8_takes_57 rfl ?_
    refine c_if_le (tgt := 71) d_X8_takes_58 (by decide) (nz_w _) h (fun h => ?_) (fun h => ?_)
    · skip
      show Run Γ rg κ Y_X8_takes 71 [(40, 0), (0, p1), (0, x1), (0, x2)] [] D3 Φ
      refine r_iload_n d_X8_takes_71 rfl ?_
      exact c_iret d_X8_takes_72 rfl h
    · skip
      show Run Γ rg κ Y_X8_takes 61 [(40, 0), (0, p1), (0, x1), (0, x2)] [] D3 Φ
      refine r_aload_n d_X8_takes_61 rfl (by decide) ?_
      refine r_getR (t := 33) d_X8_takes_62 fk_RX8_7 sh_32 rfl (by decide) (R 32 rfl) ?_
      refine r_iload_n d_X8_takes_65 rfl ?_
      refine r_iload_n d_X8_takes_66 rfl ?_
      refine r_iadd d_X8_takes_67 ?_
      refine r_iload_n d_X8_takes_68 rfl ?_
      refine r_ineg d_X8_takes_69 ?_
      refine c_iast d_X8_takes_70 sh_33 (by decide) (R 33 rfl) (by decide) h (fun D4 h => ?_)
      refine r_iload_n d_X8_takes_71 rfl ?_
      exact c_iret d_X8_takes_72 rfl h
set_option maxRecDepth 20000 in
theorem run_pM_gets_38 {Γ : GG} {rg : Nat → Bool} {κ : Nat} {Φ : OT → DD → Prop} (R : cov rg rg1) (c1 : Int) {K : Int → DD → Res} (hK : ∀ (z2 : Int) (D : DD), WP (some .boolean) κ Φ (K z2 D) → Run Γ rg κ Y_X8_gets 88 [(40, 0), (0, c1), (0, z2), (5, 0)] [] D Φ) : ∀ (n : Nat) (a2 : Int) (a3 : Int) (D : DD), WP (some .boolean) κ Φ (pM_gets_38 n a2 a3 D K) → Run Γ rg κ Y_X8_gets 38 [(40, 0), (0, c1), (0, a2), (0, a3)] [] D Φ := by
  intro n
  induction n with
  | zero => intro a2 a3 D h; exact h.no.elim
  | succ n ih =>
    intro a2 a3 D h
    rw [pM_gets_38] at h
    show Run Γ rg κ Y_X8_gets 38 [(40, 0), (0, c1), (0, a2), (0, a3)] [] D Φ
    refine r_iload_n d_X8_gets_38 rfl ?_
    refine r_aload_n d_X8_gets_39 rfl (by decide) ?_
    refine r_getI d_X8_gets_40 fk_RX8_146 sh_32 rfl (by decide) (by decide) (R 32 rfl) ?_
    refine c_icmp_ge (tgt := 88) d_X8_gets_43 (by decide) (nz_w _) (nz_w _) h (fun h => ?_) (fun h => ?_)
    · skip
      exact Run.forget (ls' := [(40, 0), (0, c1), (0, a2), (5, 0)]) ⟨Or.inr rfl, Or.inr rfl, Or.inr rfl, Or.inl rfl, trivial⟩ (hK a2 D h)
    · skip
      show Run Γ rg κ Y_X8_gets 46 [(40, 0), (0, c1), (0, a2), (0, a3)] [] D Φ
      refine r_iload_n d_X8_gets_46 rfl ?_
      refine c_if_eq (tgt := 88) d_X8_gets_47 (by decide) (nz_w _) h (fun h => ?_) (fun h => ?_)
      · skip
        exact Run.forget (ls' := [(40, 0), (0, c1), (0, a2), (5, 0)]) ⟨Or.inr rfl, Or.inr rfl, Or.inr rfl, Or.inl rfl, trivial⟩ (hK a2 D h)
      · skip
        show Run Γ rg κ Y_X8_gets 50 [(40, 0), (0, c1), (0, a2), (0, a3)] [] D Φ
        refine r_aload_n d_X8_gets_50 rfl (by decide) ?_
        refine r_getR (t := 66) d_X8_gets_51 fk_RX8_110 sh_32 rfl (by decide) (R 32 rfl) ?_
        refine r_iload_n d_X8_gets_54 rfl ?_
        refine r_aload_n d_X8_gets_55 rfl (by decide) ?_
        refine r_aload_n d_X8_gets_56 rfl (by decide) ?_
        refine r_getR (t := 65) d_X8_gets_57 fk_RX8_107 sh_32 rfl (by decide) (R 32 rfl) ?_
        refine r_iload_n d_X8_gets_60 rfl ?_
        refine c_iald d_X8_gets_61 sh_65 (by decide) (R 65 rfl) (by decide) h (fun v1 h => ?_)
        refine c_callVi (t' := (some .int)) (a := 32) (z := 0) (as := [(0, v1)]) (rest := [(0, a3), (74, 0)]) (ls' := [(40, 0), (0, v1), (5, 0), (5, 0)]) d_X8_gets_62 ck_RX8_149 rfl sh_32 rfl (by decide) (R 32 rfl) rfl rfl (Nat.le_of_ble_eq_true rfl) (Nat.le_of_ble_eq_true rfl) (by decide) rfl rfl (fun _ => rfl) (fun κ' Ψ hΨ => run_pM_takes R _ hΨ) h (fun v2 D1 h => ?_)
        show Run Γ rg κ Y_X8_gets 65 [(40, 0), (0, c1), (0, a2), (0, a3)] [(0, v2), (0, a3), (74, 0)] D1 Φ
        refine c_iast d_X8_gets_65 sh_66 (by decide) (R 66 rfl) (by decide) h (fun D2 h => ?_)
        refine r_aload_n d_X8_gets_66 rfl (by decide) ?_
        show Run Γ rg κ Y_X8_gets 67 [(40, 0), (0, c1), (0, a2), (0, a3)] [(40, 0)] D2 Φ
        refine r_getR (t := 66) d_X8_gets_67 fk_RX8_110 sh_32 rfl (by decide) (R 32 rfl) ?_
        refine r_iload_n d_X8_gets_70 rfl ?_
        refine c_iald d_X8_gets_71 sh_66 (by decide) (R 66 rfl) (by decide) h (fun v3 h => ?_)
        refine r_iconst d_X8_gets_72 ?_
        refine c_jn (fun J => ∀ (x1 : Int) (D3 : DD), WP (some .boolean) κ Φ (J x1 D3) → Run Γ rg κ Y_X8_gets 81 [(40, 0), (0, c1), (5, 0), (0, a3)] [(0, x1)] D3 Φ) h ?_ (fun J1 hJ1 h => ?_)
        · intro x1 D3 h
          show Run Γ rg κ Y_X8_gets 81 [(40, 0), (0, c1), (5, 0), (0, a3)] [(0, x1)] D3 Φ
          refine r_istore_n d_X8_gets_81 (by decide) rfl ?_
          show Run Γ rg κ Y_X8_gets 82 [(40, 0), (0, c1), (0, x1), (0, a3)] [] D3 Φ
          refine r_iinc d_X8_gets_82 rfl (by decide) rfl ?_
          show Run Γ rg κ Y_X8_gets 85 [(40, 0), (0, c1), (0, x1), (0, (a3 + 1))] [] D3 Φ
          refine r_goto (tgt := 38) d_X8_gets_85 (by decide) ?_
          exact (ih x1 (a3 + 1) D3 h)
        refine c_icmp_eq (tgt := 80) d_X8_gets_73 (by decide) (nz_w _) (nz_k rfl) h (fun h => ?_) (fun h => ?_)
        · skip
          show Run Γ rg κ Y_X8_gets 80 [(40, 0), (0, c1), (0, a2), (0, a3)] [] D2 Φ
          refine r_iconst d_X8_gets_80 ?_
          exact Run.forget (ls' := [(40, 0), (0, c1), (5, 0), (0, a3)]) ⟨Or.inr rfl, Or.inr rfl, Or.inl rfl, Or.inr rfl, trivial⟩ (hJ1 0 D2 h)
        · skip
          show Run Γ rg κ Y_X8_gets 76 [(40, 0), (0, c1), (0, a2), (0, a3)] [] D2 Φ
          refine r_iconst d_X8_gets_76 ?_
          refine r_goto (tgt := 81) d_X8_gets_77 (by decide) ?_
          exact Run.forget (ls' := [(40, 0), (0, c1), (5, 0), (0, a3)]) ⟨Or.inr rfl, Or.inr rfl, Or.inl rfl, Or.inr rfl, trivial⟩ (hJ1 1 D2 h)
set_option maxRecDepth 20000 in
theorem run_pM_gets_101 {Γ : GG} {rg : Nat → Bool} {κ : Nat} {Φ : OT → DD → Prop} (R : cov rg rg1) (a2 : Int) : ∀ (n : Nat) (a3 : Int) (D : DD), WP (some .boolean) κ Φ (pM_gets_101 a2 n a3 D) → Run Γ rg κ Y_X8_gets 101 [(40, 0), (5, 0), (0, a2), (0, a3)] [] D Φ := by
  intro n
  induction n with
  | zero => intro a3 D h; exact h.no.elim
  | succ n ih =>
    intro a3 D h
    rw [pM_gets_101] at h
    show Run Γ rg κ Y_X8_gets 101 [(40, 0), (5, 0), (0, a2), (0, a3)] [] D Φ
    refine r_iload_n d_X8_gets_101 rfl ?_
    refine r_sipush d_X8_gets_102 (by decide) ?_
    refine c_icmp_ge (tgt := 126) d_X8_gets_105 (by decide) (nz_w _) (nz_k rfl) h (fun h => ?_) (fun h => ?_)
    · skip
      show Run Γ rg κ Y_X8_gets 126 [(40, 0), (5, 0), (0, a2), (0, a3)] [] D Φ
      refine r_iload_n d_X8_gets_126 rfl ?_
      exact c_zretZ d_X8_gets_127 rfl h
    · skip
      show Run Γ rg κ Y_X8_gets 108 [(40, 0), (5, 0), (0, a2), (0, a3)] [] D Φ
      refine r_aload_n d_X8_gets_108 rfl (by decide) ?_
      refine r_getR (t := 33) d_X8_gets_109 fk_RX8_7 sh_32 rfl (by decide) (R 32 rfl) ?_
      refine r_iload_n d_X8_gets_112 rfl ?_
      refine r_aload_n d_X8_gets_113 rfl (by decide) ?_
      refine r_getR (t := 67) d_X8_gets_114 fk_RX8_113 sh_32 rfl (by decide) (R 32 rfl) ?_
      refine r_iload_n d_X8_gets_117 rfl ?_
      refine c_iald d_X8_gets_118 sh_67 (by decide) (R 67 rfl) (by decide) h (fun v1 h => ?_)
      refine c_iast d_X8_gets_119 sh_33 (by decide) (R 33 rfl) (by decide) h (fun D1 h => ?_)
      refine r_iinc d_X8_gets_120 rfl (by decide) rfl ?_
      show Run Γ rg κ Y_X8_gets 123 [(40, 0), (5, 0), (0, a2), (0, (a3 + 1))] [] D1 Φ
      refine r_goto (tgt := 101) d_X8_gets_123 (by decide) ?_
      exact (ih (a3 + 1) D1 h)
set_option maxRecDepth 20000 in
theorem run_pM_gets {Γ : GG} {rg : Nat → Bool} {κ : Nat} {Φ : OT → DD → Prop} (R : cov rg rg1) {D : DD} (h : WP (some .boolean) κ Φ (pM_gets D)) : Run Γ rg κ Y_X8_gets 0 [(40, 0), (5, 0), (5, 0), (5, 0)] [] D Φ := by
  unfold pM_gets at h
  show Run Γ rg κ Y_X8_gets 0 [(40, 0), (5, 0), (5, 0), (5, 0)] [] D Φ
  refine r_aload_n d_X8_gets_0 rfl (by decide) ?_
  refine r_getR (t := 34) d_X8_gets_1 fk_RX8_13 sh_32 rfl (by decide) (R 32 rfl) ?_
  refine r_iconst d_X8_gets_4 ?_
  refine c_iald0 (k := 0) d_X8_gets_5 sh_34 (by decide) (R 34 rfl) (by decide) rfl (by decide) ?_
  refine c_lt_n d_X8_gets_6 (by decide) rfl h (fun x1 h => ?_)
  show Run Γ rg κ Y_X8_gets 7 [(40, 0), (0, x1), (5, 0), (5, 0)] [] D Φ
  refine r_iconst d_X8_gets_7 ?_
  refine r_istore_n d_X8_gets_8 (by decide) rfl ?_
  show Run Γ rg κ Y_X8_gets 9 [(40, 0), (0, x1), (0, 0), (5, 0)] [] D Φ
  refine run_pM_gets_9 R x1 ?_ fu 0 D h
  intro D1 h
  show Run Γ rg κ Y_X8_gets 34 [(40, 0), (0, x1), (5, 0), (5, 0)] [] D1 Φ
  refine r_iconst d_X8_gets_34 ?_
  refine r_istore_n d_X8_gets_35 (by decide) rfl ?_
  show Run Γ rg κ Y_X8_gets 36 [(40, 0), (0, x1), (0, 1), (5, 0)] [] D1 Φ
  refine r_iconst d_X8_gets_36 ?_
  refine r_istore_n d_X8_gets_37 (by decide) rfl ?_
  show Run Γ rg κ Y_X8_gets 38 [(40, 0), (0, x1), (0, 1), (0, 0)] [] D1 Φ
  refine run_pM_gets_38 R x1 ?_ fu 1 0 D1 h
  intro x2 D2 h
  show Run Γ rg κ Y_X8_gets 88 [(40, 0), (0, x1), (0, x2), (5, 0)] [] D2 Φ
  refine r_iload_n d_X8_gets_88 rfl ?_
  refine c_if_ne (tgt := 126) d_X8_gets_89 (by decide) (nz_w _) h (fun h => ?_) (fun h => ?_)
  · skip
    show Run Γ rg κ Y_X8_gets 126 [(40, 0), (0, x1), (0, x2), (5, 0)] [] D2 Φ
    refine r_iload_n d_X8_gets_126 rfl ?_
    exact c_zretZ d_X8_gets_127 rfl h
  · skip
    show Run Γ rg κ Y_X8_gets 92 [(40, 0), (0, x1), (0, x2), (5, 0)] [] D2 Φ
    refine r_aload_n d_X8_gets_92 rfl (by decide) ?_
    refine r_getR (t := 34) d_X8_gets_93 fk_RX8_13 sh_32 rfl (by decide) (R 32 rfl) ?_
    refine r_iconst d_X8_gets_96 ?_
    refine r_iload_n d_X8_gets_97 rfl ?_
    refine c_iast0 (k := 0) d_X8_gets_98 sh_34 (by decide) (R 34 rfl) (by decide) rfl (by decide) h (fun D3 h => ?_)
    refine r_iconst d_X8_gets_99 ?_
    refine r_istore_n d_X8_gets_100 (by decide) rfl ?_
    show Run Γ rg κ Y_X8_gets 101 [(40, 0), (0, x1), (0, x2), (0, 0)] [] D3 Φ
    refine Run.forget (ls' := [(40, 0), (5, 0), (0, x2), (0, 0)]) ⟨Or.inr rfl, Or.inl rfl, Or.inr rfl, Or.inr rfl, trivial⟩ ?_
    exact run_pM_gets_101 R x2 fu 0 D3 h
set_option maxRecDepth 20000 in
theorem run_pM_cannotMake {Γ : GG} {rg : Nat → Bool} {κ : Nat} {Φ : OT → DD → Prop} (R : cov rg rg1) (p1 : Int) (p2 : Int) {D : DD} (h : WP (some .boolean) κ Φ (pM_cannotMake p1 p2 D)) : Run Γ rg κ Y_X8_cannotMake 0 [(40, 0), (0, p1), (0, p2)] [] D Φ := by
  unfold pM_cannotMake at h
  show Run Γ rg κ Y_X8_cannotMake 0 [(40, 0), (0, p1), (0, p2)] [] D Φ
  refine r_aload_n d_X8_cannotMake_0 rfl (by decide) ?_
  refine r_getR (t := 39) d_X8_cannotMake_1 fk_RX8_29 sh_32 rfl (by decide) (R 32 rfl) ?_
  refine r_iload_n d_X8_cannotMake_4 rfl ?_
  refine c_iald d_X8_cannotMake_5 sh_39 (by decide) (R 39 rfl) (by decide) h (fun v1 h => ?_)
  refine r_iconst d_X8_cannotMake_6 ?_
  refine c_icmp_ne (tgt := 40) d_X8_cannotMake_7 (by decide) (nz_w _) (nz_k rfl) h (fun h => ?_) (fun h => ?_)
  · skip
    show Run Γ rg κ Y_X8_cannotMake 40 [(40, 0), (0, p1), (0, p2)] [] D Φ
    refine r_iconst d_X8_cannotMake_40 ?_
    exact c_zret d_X8_cannotMake_41 rfl (Or.inr rfl) h
  · skip
    show Run Γ rg κ Y_X8_cannotMake 10 [(40, 0), (0, p1), (0, p2)] [] D Φ
    refine r_aload_n d_X8_cannotMake_10 rfl (by decide) ?_
    refine r_iload_n d_X8_cannotMake_11 rfl ?_
    refine r_iload_n d_X8_cannotMake_12 rfl ?_
    refine c_callVi (t' := (some .int)) (a := 32) (z := 0) (as := [(0, p1), (0, p2)]) (rest := []) (ls' := [(40, 0), (0, p1), (0, p2), (5, 0), (5, 0)]) d_X8_cannotMake_13 ck_RX8_179 rfl sh_32 rfl (by decide) (R 32 rfl) rfl rfl (Nat.le_of_ble_eq_true rfl) (Nat.le_of_ble_eq_true rfl) (by decide) rfl rfl (fun _ => rfl) (fun κ' Ψ hΨ => run_pM_entryOf R _ _ hΨ) h (fun v2 D1 h => ?_)
    show Run Γ rg κ Y_X8_cannotMake 16 [(40, 0), (0, p1), (0, p2)] [(0, v2)] D1 Φ
    refine r_iconst d_X8_cannotMake_16 ?_
    refine c_icmp_ne (tgt := 40) d_X8_cannotMake_17 (by decide) (nz_w _) (nz_k rfl) h (fun h => ?_) (fun h => ?_)
    · skip
      show Run Γ rg κ Y_X8_cannotMake 40 [(40, 0), (0, p1), (0, p2)] [] D1 Φ
      refine r_iconst d_X8_cannotMake_40 ?_
      exact c_zret d_X8_cannotMake_41 rfl (Or.inr rfl) h
    · skip
      show Run Γ rg κ Y_X8_cannotMake 20 [(40, 0), (0, p1), (0, p2)] [] D1 Φ
      refine r_aload_n d_X8_cannotMake_20 rfl (by decide) ?_
      refine r_iload_n d_X8_cannotMake_21 rfl ?_
      refine r_iload_n d_X8_cannotMake_22 rfl ?_
      refine c_callVi (t' := (some .boolean)) (a := 32) (z := 0) (as := [(0, p1), (0, p2)]) (rest := []) (ls' := [(40, 0), (0, p1), (0, p2)]) d_X8_cannotMake_23 ck_RX8_201 rfl sh_32 rfl (by decide) (R 32 rfl) rfl rfl (Nat.le_of_ble_eq_true rfl) (Nat.le_of_ble_eq_true rfl) (by decide) rfl rfl (fun _ => rfl) (fun κ' Ψ hΨ => run_pM_isFull R _ _ hΨ) h (fun v3 D2 h => ?_)
      show Run Γ rg κ Y_X8_cannotMake 26 [(40, 0), (0, p1), (0, p2)] [(0, v3)] D2 Φ
      refine c_if_ne (tgt := 40) d_X8_cannotMake_26 (by decide) (nz_w _) h (fun h => ?_) (fun h => ?_)
      · skip
        show Run Γ rg κ Y_X8_cannotMake 40 [(40, 0), (0, p1), (0, p2)] [] D2 Φ
        refine r_iconst d_X8_cannotMake_40 ?_
        exact c_zret d_X8_cannotMake_41 rfl (Or.inr rfl) h
      · skip
        show Run Γ rg κ Y_X8_cannotMake 29 [(40, 0), (0, p1), (0, p2)] [] D2 Φ
        refine r_aload_n d_X8_cannotMake_29 rfl (by decide) ?_
        refine r_getR (t := 35) d_X8_cannotMake_30 fk_RX8_16 sh_32 rfl (by decide) (R 32 rfl) ?_
        refine r_iconst d_X8_cannotMake_33 ?_
        refine c_iald0 (k := 0) d_X8_cannotMake_34 sh_35 (by decide) (R 35 rfl) (by decide) rfl (by decide) ?_
        refine r_bipush d_X8_cannotMake_35 (by decide) ?_
        refine c_icmp_ne (tgt := 42) d_X8_cannotMake_37 (by decide) (nz_w _) (nz_k rfl) h (fun h => ?_) (fun h => ?_)
        · skip
          show Run Γ rg κ Y_X8_cannotMake 42 [(40, 0), (0, p1), (0, p2)] [] D2 Φ
          refine r_aload_n d_X8_cannotMake_42 rfl (by decide) ?_
          refine r_iconst d_X8_cannotMake_43 ?_
          refine c_putI (k := 37) d_X8_cannotMake_44 pk_RX8_146 sh_32 rfl (by decide) (R 32 rfl) h (fun D3 h => ?_)
          refine r_aload_n d_X8_cannotMake_47 rfl (by decide) ?_
          refine r_bipush d_X8_cannotMake_48 (by decide) ?_
          refine c_callVv (a := 32) (z := 0) (as := [(0, 6)]) (rest := []) (ls' := [(40, 0), (0, 6)]) d_X8_cannotMake_50 ck_RX8_176 rfl sh_32 rfl (by decide) (R 32 rfl) rfl rfl (Nat.le_of_ble_eq_true rfl) (Nat.le_of_ble_eq_true rfl) (by decide) rfl rfl (fun κ' Ψ hΨ => run_pM_wants R _ hΨ) h (fun _ D4 h => ?_)
          show Run Γ rg κ Y_X8_cannotMake 53 [(40, 0), (0, p1), (0, p2)] [] D4 Φ
          refine r_aload_n d_X8_cannotMake_53 rfl (by decide) ?_
          refine r_iload_n d_X8_cannotMake_54 rfl ?_
          refine r_iload_n d_X8_cannotMake_55 rfl ?_
          refine c_callVv (a := 32) (z := 0) (as := [(0, p1), (0, p2)]) (rest := []) (ls' := [(40, 0), (0, p1), (0, p2)]) d_X8_cannotMake_56 ck_RX8_204 rfl sh_32 rfl (by decide) (R 32 rfl) rfl rfl (Nat.le_of_ble_eq_true rfl) (Nat.le_of_ble_eq_true rfl) (by decide) rfl rfl (fun κ' Ψ hΨ => run_pM_wantsEntry R _ _ hΨ) h (fun _ D5 h => ?_)
          show Run Γ rg κ Y_X8_cannotMake 59 [(40, 0), (0, p1), (0, p2)] [] D5 Φ
          refine r_aload_n d_X8_cannotMake_59 rfl (by decide) ?_
          show Run Γ rg κ Y_X8_cannotMake 60 [(40, 0), (0, p1), (0, p2)] [(40, 0)] D5 Φ
          refine c_callVi (t' := (some .boolean)) (a := 32) (z := 0) (as := []) (rest := []) (ls' := [(40, 0), (5, 0), (5, 0), (5, 0)]) d_X8_cannotMake_60 ck_RX8_207 rfl sh_32 rfl (by decide) (R 32 rfl) rfl rfl (Nat.le_of_ble_eq_true rfl) (Nat.le_of_ble_eq_true rfl) (by decide) rfl rfl (fun _ => rfl) (fun κ' Ψ hΨ => run_pM_gets R hΨ) h (fun v4 D6 h => ?_)
          show Run Γ rg κ Y_X8_cannotMake 63 [(40, 0), (0, p1), (0, p2)] [(0, v4)] D6 Φ
          refine c_if_ne (tgt := 70) d_X8_cannotMake_63 (by decide) (nz_w _) h (fun h => ?_) (fun h => ?_)
          · skip
            show Run Γ rg κ Y_X8_cannotMake 70 [(40, 0), (0, p1), (0, p2)] [] D6 Φ
            refine r_iconst d_X8_cannotMake_70 ?_
            exact c_zret d_X8_cannotMake_71 rfl (Or.inl rfl) h
          · skip
            show Run Γ rg κ Y_X8_cannotMake 66 [(40, 0), (0, p1), (0, p2)] [] D6 Φ
            refine r_iconst d_X8_cannotMake_66 ?_
            refine r_goto (tgt := 71) d_X8_cannotMake_67 (by decide) ?_
            show Run Γ rg κ Y_X8_cannotMake 71 [(40, 0), (0, p1), (0, p2)] [(0, 1)] D6 Φ
            exact c_zret d_X8_cannotMake_71 rfl (Or.inr rfl) h
        · skip
          show Run Γ rg κ Y_X8_cannotMake 40 [(40, 0), (0, p1), (0, p2)] [] D2 Φ
          refine r_iconst d_X8_cannotMake_40 ?_
          exact c_zret d_X8_cannotMake_41 rfl (Or.inr rfl) h
set_option maxRecDepth 20000 in
theorem run_pM_make {Γ : GG} {rg : Nat → Bool} {κ : Nat} {Φ : OT → DD → Prop} (R : cov rg rg1) (p1 : Int) (p2 : Int) {D : DD} (h : WP (some .int) κ Φ (pM_make p1 p2 D)) : Run Γ rg κ Y_X8_make 0 [(40, 0), (0, p1), (0, p2), (5, 0)] [] D Φ := by
  unfold pM_make at h
  show Run Γ rg κ Y_X8_make 0 [(40, 0), (0, p1), (0, p2), (5, 0)] [] D Φ
  refine r_aload_n d_X8_make_0 rfl (by decide) ?_
  refine r_iload_n d_X8_make_1 rfl ?_
  refine c_callVi (t' := (some .boolean)) (a := 32) (z := 0) (as := [(0, p1)]) (rest := []) (ls' := [(40, 0), (0, p1)]) d_X8_make_2 ck_RX8_191 rfl sh_32 rfl (by decide) (R 32 rfl) rfl rfl (Nat.le_of_ble_eq_true rfl) (Nat.le_of_ble_eq_true rfl) (by decide) rfl rfl (fun _ => rfl) (fun κ' Ψ hΨ => run_pM_isKey R _ hΨ) h (fun v1 D1 h => ?_)
  show Run Γ rg κ Y_X8_make 5 [(40, 0), (0, p1), (0, p2), (5, 0)] [(0, v1)] D1 Φ
  refine r_istore_n d_X8_make_5 (by decide) rfl ?_
  show Run Γ rg κ Y_X8_make 6 [(40, 0), (0, p1), (0, p2), (0, v1)] [] D1 Φ
  refine r_aload_n d_X8_make_6 rfl (by decide) ?_
  refine r_iload_n d_X8_make_7 rfl ?_
  refine c_jn (fun J => ∀ (x1 : Int) (D2 : DD), WP (some .int) κ Φ (J x1 D2) → Run Γ rg κ Y_X8_make 40 [(40, 0), (0, p1), (0, p2), (5, 0)] [(0, x1), (40, 0)] D2 Φ) h ?_ (fun J1 hJ1 h => ?_)
  · intro x1 D2 h
    show Run Γ rg κ Y_X8_make 40 [(40, 0), (0, p1), (0, p2), (5, 0)] [(0, x1), (40, 0)] D2 Φ
    refine c_callVi (t' := (some .boolean)) (a := 32) (z := 0) (as := [(0, x1)]) (rest := []) (ls' := [(40, 0), (0, x1)]) d_X8_make_40 ck_RX8_195 rfl sh_32 rfl (by decide) (R 32 rfl) rfl rfl (Nat.le_of_ble_eq_true rfl) (Nat.le_of_ble_eq_true rfl) (by decide) rfl rfl (fun _ => rfl) (fun κ' Ψ hΨ => run_pM_fails R _ hΨ) h (fun v2 D3 h => ?_)
    show Run Γ rg κ Y_X8_make 43 [(40, 0), (0, p1), (0, p2), (5, 0)] [(0, v2)] D3 Φ
    refine c_if_eq (tgt := 48) d_X8_make_43 (by decide) (nz_w _) h (fun h => ?_) (fun h => ?_)
    · skip
      show Run Γ rg κ Y_X8_make 48 [(40, 0), (0, p1), (0, p2), (5, 0)] [] D3 Φ
      refine r_aload_n d_X8_make_48 rfl (by decide) ?_
      refine r_iload_n d_X8_make_49 rfl ?_
      refine r_iload_n d_X8_make_50 rfl ?_
      refine r_iconst d_X8_make_51 ?_
      refine c_callVi (t' := (some .int)) (a := 32) (z := 0) (as := [(0, p1), (0, p2), (0, (-1))]) (rest := []) (ls' := [(40, 0), (0, p1), (0, p2), (0, (-1)), (5, 0)]) d_X8_make_52 ck_RX8_227 rfl sh_32 rfl (by decide) (R 32 rfl) rfl rfl (Nat.le_of_ble_eq_true rfl) (Nat.le_of_ble_eq_true rfl) (by decide) rfl rfl (fun _ => rfl) (fun κ' Ψ hΨ => run_pM_makes R _ _ _ hΨ) h (fun v3 D4 h => ?_)
      show Run Γ rg κ Y_X8_make 55 [(40, 0), (0, p1), (0, p2), (5, 0)] [(0, v3)] D4 Φ
      exact c_iret d_X8_make_55 rfl h
    · skip
      show Run Γ rg κ Y_X8_make 46 [(40, 0), (0, p1), (0, p2), (5, 0)] [] D3 Φ
      refine r_iconst d_X8_make_46 ?_
      exact c_iret d_X8_make_47 rfl h
  refine c_if_ne (tgt := 15) d_X8_make_8 (by decide) (nz_w _) h (fun h => ?_) (fun h => ?_)
  · skip
    show Run Γ rg κ Y_X8_make 15 [(40, 0), (0, p1), (0, p2), (0, v1)] [(40, 0)] D1 Φ
    refine r_iload_n d_X8_make_15 rfl ?_
    refine c_callSPi (as := [(0, p2)]) (rest := [(40, 0)]) (ls' := [(0, p2)]) d_X8_make_16 ck_RX8_221 rfl rfl rfl (Nat.le_of_ble_eq_true rfl) (Nat.le_of_ble_eq_true rfl) (by decide) rfl rfl (fun Ψ hΨ => run_pM_isName R _ rfl hΨ) ?_
    show Run Γ rg κ Y_X8_make 19 [(40, 0), (0, p1), (0, p2), (0, v1)] [(0, (pM_isName p2)), (40, 0)] D1 Φ
    refine c_if_ne (tgt := 26) d_X8_make_19 (by decide) (nz_b (pM_isName_b p2)) h (fun h => ?_) (fun h => ?_)
    · skip
      show Run Γ rg κ Y_X8_make 26 [(40, 0), (0, p1), (0, p2), (0, v1)] [(40, 0)] D1 Φ
      refine r_aload_n d_X8_make_26 rfl (by decide) ?_
      refine r_iload_n d_X8_make_27 rfl ?_
      refine r_iload_n d_X8_make_28 rfl ?_
      refine c_callVi (t' := (some .boolean)) (a := 32) (z := 0) (as := [(0, p1), (0, p2)]) (rest := [(40, 0)]) (ls' := [(40, 0), (0, p1), (0, p2)]) d_X8_make_29 ck_RX8_224 rfl sh_32 rfl (by decide) (R 32 rfl) rfl rfl (Nat.le_of_ble_eq_true rfl) (Nat.le_of_ble_eq_true rfl) (by decide) rfl rfl (fun _ => rfl) (fun κ' Ψ hΨ => run_pM_cannotMake R _ _ hΨ) h (fun v4 D5 h => ?_)
      show Run Γ rg κ Y_X8_make 32 [(40, 0), (0, p1), (0, p2), (0, v1)] [(0, v4), (40, 0)] D5 Φ
      refine c_if_eq (tgt := 39) d_X8_make_32 (by decide) (nz_w _) h (fun h => ?_) (fun h => ?_)
      · skip
        show Run Γ rg κ Y_X8_make 39 [(40, 0), (0, p1), (0, p2), (0, v1)] [(40, 0)] D5 Φ
        refine r_iconst d_X8_make_39 ?_
        exact Run.forget (ls' := [(40, 0), (0, p1), (0, p2), (5, 0)]) ⟨Or.inr rfl, Or.inr rfl, Or.inr rfl, Or.inl rfl, trivial⟩ (hJ1 0 D5 h)
      · skip
        show Run Γ rg κ Y_X8_make 35 [(40, 0), (0, p1), (0, p2), (0, v1)] [(40, 0)] D5 Φ
        refine r_iconst d_X8_make_35 ?_
        refine r_goto (tgt := 40) d_X8_make_36 (by decide) ?_
        exact Run.forget (ls' := [(40, 0), (0, p1), (0, p2), (5, 0)]) ⟨Or.inr rfl, Or.inr rfl, Or.inr rfl, Or.inl rfl, trivial⟩ (hJ1 3 D5 h)
    · skip
      show Run Γ rg κ Y_X8_make 22 [(40, 0), (0, p1), (0, p2), (0, v1)] [(40, 0)] D1 Φ
      refine r_iconst d_X8_make_22 ?_
      refine r_goto (tgt := 40) d_X8_make_23 (by decide) ?_
      exact Run.forget (ls' := [(40, 0), (0, p1), (0, p2), (5, 0)]) ⟨Or.inr rfl, Or.inr rfl, Or.inr rfl, Or.inl rfl, trivial⟩ (hJ1 2 D1 h)
  · skip
    show Run Γ rg κ Y_X8_make 11 [(40, 0), (0, p1), (0, p2), (0, v1)] [(40, 0)] D1 Φ
    refine r_iconst d_X8_make_11 ?_
    refine r_goto (tgt := 40) d_X8_make_12 (by decide) ?_
    exact Run.forget (ls' := [(40, 0), (0, p1), (0, p2), (5, 0)]) ⟨Or.inr rfl, Or.inr rfl, Or.inr rfl, Or.inl rfl, trivial⟩ (hJ1 1 D1 h)
set_option maxRecDepth 20000 in
theorem run_pM_makeLink {Γ : GG} {rg : Nat → Bool} {κ : Nat} {Φ : OT → DD → Prop} (R : cov rg rg1) (p1 : Int) (p2 : Int) (p3 : Int) {D : DD} (h : WP (some .int) κ Φ (pM_makeLink p1 p2 p3 D)) : Run Γ rg κ Y_X8_makeLink 0 [(40, 0), (0, p1), (0, p2), (0, p3), (5, 0)] [] D Φ := by
  unfold pM_makeLink at h
  show Run Γ rg κ Y_X8_makeLink 0 [(40, 0), (0, p1), (0, p2), (0, p3), (5, 0)] [] D Φ
  refine r_aload_n d_X8_makeLink_0 rfl (by decide) ?_
  refine r_iload_n d_X8_makeLink_1 rfl ?_
  refine c_callVi (t' := (some .boolean)) (a := 32) (z := 0) (as := [(0, p1)]) (rest := []) (ls' := [(40, 0), (0, p1)]) d_X8_makeLink_2 ck_RX8_191 rfl sh_32 rfl (by decide) (R 32 rfl) rfl rfl (Nat.le_of_ble_eq_true rfl) (Nat.le_of_ble_eq_true rfl) (by decide) rfl rfl (fun _ => rfl) (fun κ' Ψ hΨ => run_pM_isKey R _ hΨ) h (fun v1 D1 h => ?_)
  show Run Γ rg κ Y_X8_makeLink 5 [(40, 0), (0, p1), (0, p2), (0, p3), (5, 0)] [(0, v1)] D1 Φ
  refine c_jn (fun J => ∀ (x1 : Int) (D2 : DD), WP (some .int) κ Φ (J x1 D2) → Run Γ rg κ Y_X8_makeLink 21 [(40, 0), (0, p1), (0, p2), (0, p3), (5, 0)] [(0, x1)] D2 Φ) h ?_ (fun J1 hJ1 h => ?_)
  · intro x1 D2 h
    show Run Γ rg κ Y_X8_makeLink 21 [(40, 0), (0, p1), (0, p2), (0, p3), (5, 0)] [(0, x1)] D2 Φ
    refine r_istore d_X8_makeLink_21 (by decide) rfl ?_
    show Run Γ rg κ Y_X8_makeLink 23 [(40, 0), (0, p1), (0, p2), (0, p3), (0, x1)] [] D2 Φ
    refine r_aload_n d_X8_makeLink_23 rfl (by decide) ?_
    refine r_iload d_X8_makeLink_24 rfl ?_
    refine c_jn (fun J => ∀ (x2 : Int) (D3 : DD), WP (some .int) κ Φ (J x2 D3) → Run Γ rg κ Y_X8_makeLink 58 [(40, 0), (0, p1), (0, p2), (0, p3), (5, 0)] [(0, x2), (40, 0)] D3 Φ) h ?_ (fun J2 hJ2 h => ?_)
    · intro x2 D3 h
      show Run Γ rg κ Y_X8_makeLink 58 [(40, 0), (0, p1), (0, p2), (0, p3), (5, 0)] [(0, x2), (40, 0)] D3 Φ
      refine c_callVi (t' := (some .boolean)) (a := 32) (z := 0) (as := [(0, x2)]) (rest := []) (ls' := [(40, 0), (0, x2)]) d_X8_makeLink_58 ck_RX8_195 rfl sh_32 rfl (by decide) (R 32 rfl) rfl rfl (Nat.le_of_ble_eq_true rfl) (Nat.le_of_ble_eq_true rfl) (by decide) rfl rfl (fun _ => rfl) (fun κ' Ψ hΨ => run_pM_fails R _ hΨ) h (fun v2 D4 h => ?_)
      show Run Γ rg κ Y_X8_makeLink 61 [(40, 0), (0, p1), (0, p2), (0, p3), (5, 0)] [(0, v2)] D4 Φ
      refine c_if_eq (tgt := 66) d_X8_makeLink_61 (by decide) (nz_w _) h (fun h => ?_) (fun h => ?_)
      · skip
        show Run Γ rg κ Y_X8_makeLink 66 [(40, 0), (0, p1), (0, p2), (0, p3), (5, 0)] [] D4 Φ
        refine r_aload_n d_X8_makeLink_66 rfl (by decide) ?_
        refine r_iload_n d_X8_makeLink_67 rfl ?_
        refine r_iload_n d_X8_makeLink_68 rfl ?_
        refine r_iload_n d_X8_makeLink_69 rfl ?_
        refine c_callVi (t' := (some .int)) (a := 32) (z := 0) (as := [(0, p1), (0, p2), (0, p3)]) (rest := []) (ls' := [(40, 0), (0, p1), (0, p2), (0, p3), (5, 0)]) d_X8_makeLink_70 ck_RX8_227 rfl sh_32 rfl (by decide) (R 32 rfl) rfl rfl (Nat.le_of_ble_eq_true rfl) (Nat.le_of_ble_eq_true rfl) (by decide) rfl rfl (fun _ => rfl) (fun κ' Ψ hΨ => run_pM_makes R _ _ _ hΨ) h (fun v3 D5 h => ?_)
        show Run Γ rg κ Y_X8_makeLink 73 [(40, 0), (0, p1), (0, p2), (0, p3), (5, 0)] [(0, v3)] D5 Φ
        exact c_iret d_X8_makeLink_73 rfl h
      · skip
        show Run Γ rg κ Y_X8_makeLink 64 [(40, 0), (0, p1), (0, p2), (0, p3), (5, 0)] [] D4 Φ
        refine r_iconst d_X8_makeLink_64 ?_
        exact c_iret d_X8_makeLink_65 rfl h
    refine c_if_ne (tgt := 33) d_X8_makeLink_26 (by decide) (nz_w _) h (fun h => ?_) (fun h => ?_)
    · skip
      show Run Γ rg κ Y_X8_makeLink 33 [(40, 0), (0, p1), (0, p2), (0, p3), (0, x1)] [(40, 0)] D2 Φ
      refine r_iload_n d_X8_makeLink_33 rfl ?_
      refine c_callSPi (as := [(0, p2)]) (rest := [(40, 0)]) (ls' := [(0, p2)]) d_X8_makeLink_34 ck_RX8_221 rfl rfl rfl (Nat.le_of_ble_eq_true rfl) (Nat.le_of_ble_eq_true rfl) (by decide) rfl rfl (fun Ψ hΨ => run_pM_isName R _ rfl hΨ) ?_
      show Run Γ rg κ Y_X8_makeLink 37 [(40, 0), (0, p1), (0, p2), (0, p3), (0, x1)] [(0, (pM_isName p2)), (40, 0)] D2 Φ
      refine c_if_ne (tgt := 44) d_X8_makeLink_37 (by decide) (nz_b (pM_isName_b p2)) h (fun h => ?_) (fun h => ?_)
      · skip
        show Run Γ rg κ Y_X8_makeLink 44 [(40, 0), (0, p1), (0, p2), (0, p3), (0, x1)] [(40, 0)] D2 Φ
        refine r_aload_n d_X8_makeLink_44 rfl (by decide) ?_
        refine r_iload_n d_X8_makeLink_45 rfl ?_
        refine r_iload_n d_X8_makeLink_46 rfl ?_
        refine c_callVi (t' := (some .boolean)) (a := 32) (z := 0) (as := [(0, p1), (0, p2)]) (rest := [(40, 0)]) (ls' := [(40, 0), (0, p1), (0, p2)]) d_X8_makeLink_47 ck_RX8_224 rfl sh_32 rfl (by decide) (R 32 rfl) rfl rfl (Nat.le_of_ble_eq_true rfl) (Nat.le_of_ble_eq_true rfl) (by decide) rfl rfl (fun _ => rfl) (fun κ' Ψ hΨ => run_pM_cannotMake R _ _ hΨ) h (fun v4 D6 h => ?_)
        show Run Γ rg κ Y_X8_makeLink 50 [(40, 0), (0, p1), (0, p2), (0, p3), (0, x1)] [(0, v4), (40, 0)] D6 Φ
        refine c_if_eq (tgt := 57) d_X8_makeLink_50 (by decide) (nz_w _) h (fun h => ?_) (fun h => ?_)
        · skip
          show Run Γ rg κ Y_X8_makeLink 57 [(40, 0), (0, p1), (0, p2), (0, p3), (0, x1)] [(40, 0)] D6 Φ
          refine r_iconst d_X8_makeLink_57 ?_
          exact Run.forget (ls' := [(40, 0), (0, p1), (0, p2), (0, p3), (5, 0)]) ⟨Or.inr rfl, Or.inr rfl, Or.inr rfl, Or.inr rfl, Or.inl rfl, trivial⟩ (hJ2 0 D6 h)
        · skip
          show Run Γ rg κ Y_X8_makeLink 53 [(40, 0), (0, p1), (0, p2), (0, p3), (0, x1)] [(40, 0)] D6 Φ
          refine r_iconst d_X8_makeLink_53 ?_
          refine r_goto (tgt := 58) d_X8_makeLink_54 (by decide) ?_
          exact Run.forget (ls' := [(40, 0), (0, p1), (0, p2), (0, p3), (5, 0)]) ⟨Or.inr rfl, Or.inr rfl, Or.inr rfl, Or.inr rfl, Or.inl rfl, trivial⟩ (hJ2 3 D6 h)
      · skip
        show Run Γ rg κ Y_X8_makeLink 40 [(40, 0), (0, p1), (0, p2), (0, p3), (0, x1)] [(40, 0)] D2 Φ
        refine r_iconst d_X8_makeLink_40 ?_
        refine r_goto (tgt := 58) d_X8_makeLink_41 (by decide) ?_
        exact Run.forget (ls' := [(40, 0), (0, p1), (0, p2), (0, p3), (5, 0)]) ⟨Or.inr rfl, Or.inr rfl, Or.inr rfl, Or.inr rfl, Or.inl rfl, trivial⟩ (hJ2 2 D2 h)
    · skip
      show Run Γ rg κ Y_X8_makeLink 29 [(40, 0), (0, p1), (0, p2), (0, p3), (0, x1)] [(40, 0)] D2 Φ
      refine r_iconst d_X8_makeLink_29 ?_
      refine r_goto (tgt := 58) d_X8_makeLink_30 (by decide) ?_
      exact Run.forget (ls' := [(40, 0), (0, p1), (0, p2), (0, p3), (5, 0)]) ⟨Or.inr rfl, Or.inr rfl, Or.inr rfl, Or.inr rfl, Or.inl rfl, trivial⟩ (hJ2 1 D2 h)
  refine c_jn (fun J => ∀ (D7 : DD), WP (some .int) κ Φ (J D7) → Run Γ rg κ Y_X8_makeLink 20 [(40, 0), (0, p1), (0, p2), (0, p3), (5, 0)] [] D7 Φ) h ?_ (fun J3 hJ3 h => ?_)
  · intro D7 h
    show Run Γ rg κ Y_X8_makeLink 20 [(40, 0), (0, p1), (0, p2), (0, p3), (5, 0)] [] D7 Φ
    refine r_iconst d_X8_makeLink_20 ?_
    exact (hJ1 0 D7 h)
  refine c_if_eq (tgt := 20) d_X8_makeLink_5 (by decide) (nz_w _) h (fun h => ?_) (fun h => ?_)
  · skip
    exact (hJ3 D1 h)
  · skip
    show Run Γ rg κ Y_X8_makeLink 8 [(40, 0), (0, p1), (0, p2), (0, p3), (5, 0)] [] D1 Φ
    refine r_aload_n d_X8_makeLink_8 rfl (by decide) ?_
    refine r_iload_n d_X8_makeLink_9 rfl ?_
    refine c_callVi (t' := (some .boolean)) (a := 32) (z := 0) (as := [(0, p3)]) (rest := []) (ls' := [(40, 0), (0, p3)]) d_X8_makeLink_10 ck_RX8_191 rfl sh_32 rfl (by decide) (R 32 rfl) rfl rfl (Nat.le_of_ble_eq_true rfl) (Nat.le_of_ble_eq_true rfl) (by decide) rfl rfl (fun _ => rfl) (fun κ' Ψ hΨ => run_pM_isKey R _ hΨ) h (fun v5 D8 h => ?_)
    show Run Γ rg κ Y_X8_makeLink 13 [(40, 0), (0, p1), (0, p2), (0, p3), (5, 0)] [(0, v5)] D8 Φ
    refine c_if_eq (tgt := 20) d_X8_makeLink_13 (by decide) (nz_w _) h (fun h => ?_) (fun h => ?_)
    · skip
      exact (hJ3 D8 h)
    · skip
      show Run Γ rg κ Y_X8_makeLink 16 [(40, 0), (0, p1), (0, p2), (0, p3), (5, 0)] [] D8 Φ
      refine r_iconst d_X8_makeLink_16 ?_
      refine r_goto (tgt := 21) d_X8_makeLink_17 (by decide) ?_
      exact (hJ1 1 D8 h)
set_option maxRecDepth 20000 in
theorem run_pM_goes_10 {Γ : GG} {rg : Nat → Bool} {κ : Nat} {Φ : OT → DD → Prop} (R : cov rg rg1) (a1 : Int) (a3 : Int) {K : Int → DD → Res} (hK : ∀ (z4 : Int) (D : DD), WP none κ Φ (K z4 D) → Run Γ rg κ Y_X8_goes 29 [(40, 0), (0, a1), (5, 0), (0, a3), (0, z4), (5, 0), (5, 0)] [] D Φ) : ∀ (n : Nat) (a4 : Int) (D : DD), WP none κ Φ (pM_goes_10 a1 a3 n a4 D K) → Run Γ rg κ Y_X8_goes 10 [(40, 0), (0, a1), (5, 0), (0, a3), (0, a4), (5, 0), (5, 0)] [] D Φ := by
  intro n
  induction n with
  | zero => intro a4 D h; exact h.no.elim
  | succ n ih =>
    intro a4 D h
    rw [pM_goes_10] at h
    show Run Γ rg κ Y_X8_goes 10 [(40, 0), (0, a1), (5, 0), (0, a3), (0, a4), (5, 0), (5, 0)] [] D Φ
    refine r_aload_n d_X8_goes_10 rfl (by decide) ?_
    refine r_iload_n d_X8_goes_11 rfl ?_
    refine r_iload d_X8_goes_12 rfl ?_
    refine r_iconst d_X8_goes_14 ?_
    refine r_iadd d_X8_goes_15 ?_
    refine c_callVi (t' := (some .int)) (a := 32) (z := 0) (as := [(0, a1), (0, (a4 + 1))]) (rest := []) (ls' := [(40, 0), (0, a1), (0, (a4 + 1)), (5, 0), (5, 0)]) d_X8_goes_16 ck_RX8_159 rfl sh_32 rfl (by decide) (R 32 rfl) rfl rfl (Nat.le_of_ble_eq_true rfl) (Nat.le_of_ble_eq_true rfl) (by decide) rfl rfl (fun _ => rfl) (fun κ' Ψ hΨ => run_pM_start R _ _ hΨ) h (fun v1 D1 h => ?_)
    show Run Γ rg κ Y_X8_goes 19 [(40, 0), (0, a1), (5, 0), (0, a3), (0, a4), (5, 0), (5, 0)] [(0, v1)] D1 Φ
    refine r_iload_n d_X8_goes_19 rfl ?_
    refine c_icmp_gt (tgt := 29) d_X8_goes_20 (by decide) (nz_w _) (nz_w _) h (fun h => ?_) (fun h => ?_)
    · skip
      exact (hK a4 D1 h)
    · skip
      show Run Γ rg κ Y_X8_goes 23 [(40, 0), (0, a1), (5, 0), (0, a3), (0, a4), (5, 0), (5, 0)] [] D1 Φ
      refine r_iinc d_X8_goes_23 rfl (by decide) rfl ?_
      show Run Γ rg κ Y_X8_goes 26 [(40, 0), (0, a1), (5, 0), (0, a3), (0, (a4 + 1)), (5, 0), (5, 0)] [] D1 Φ
      refine r_goto (tgt := 10) d_X8_goes_26 (by decide) ?_
      exact (ih (a4 + 1) D1 h)
set_option maxRecDepth 20000 in
theorem run_pM_goes_41 {Γ : GG} {rg : Nat → Bool} {κ : Nat} {Φ : OT → DD → Prop} (R : cov rg rg1) (a1 : Int) (a5 : Int) (c4 : Int) {K : DD → Res} (hK : ∀ (D : DD), WP none κ Φ (K D) → Run Γ rg κ Y_X8_goes 106 [(40, 0), (0, a1), (5, 0), (5, 0), (0, c4), (5, 0), (5, 0)] [] D Φ) : ∀ (n : Nat) (a6 : Int) (D : DD), WP none κ Φ (pM_goes_41 a1 a5 n a6 D K) → Run Γ rg κ Y_X8_goes 41 [(40, 0), (0, a1), (5, 0), (5, 0), (0, c4), (0, a5), (0, a6)] [] D Φ := by
  intro n
  induction n with
  | zero => intro a6 D h; exact h.no.elim
  | succ n ih =>
    intro a6 D h
    rw [pM_goes_41] at h
    show Run Γ rg κ Y_X8_goes 41 [(40, 0), (0, a1), (5, 0), (5, 0), (0, c4), (0, a5), (0, a6)] [] D Φ
    refine r_iload d_X8_goes_41 rfl ?_
    refine r_iload d_X8_goes_43 rfl ?_
    refine c_icmp_ge (tgt := 106) d_X8_goes_45 (by decide) (nz_w _) (nz_w _) h (fun h => ?_) (fun h => ?_)
    · skip
      exact Run.forget (ls' := [(40, 0), (0, a1), (5, 0), (5, 0), (0, c4), (5, 0), (5, 0)]) ⟨Or.inr rfl, Or.inr rfl, Or.inr rfl, Or.inr rfl, Or.inr rfl, Or.inl rfl, Or.inl rfl, trivial⟩ (hK D h)
    · skip
      show Run Γ rg κ Y_X8_goes 48 [(40, 0), (0, a1), (5, 0), (5, 0), (0, c4), (0, a5), (0, a6)] [] D Φ
      refine r_aload_n d_X8_goes_48 rfl (by decide) ?_
      refine r_getR (t := 46) d_X8_goes_49 fk_RX8_50 sh_32 rfl (by decide) (R 32 rfl) ?_
      refine r_bipush d_X8_goes_52 (by decide) ?_
      refine r_iload_n d_X8_goes_54 rfl ?_
      refine r_imul d_X8_goes_55 ?_
      refine r_iload d_X8_goes_56 rfl ?_
      refine r_iadd d_X8_goes_58 ?_
      refine r_aload_n d_X8_goes_59 rfl (by decide) ?_
      refine r_getR (t := 46) d_X8_goes_60 fk_RX8_50 sh_32 rfl (by decide) (R 32 rfl) ?_
      refine r_bipush d_X8_goes_63 (by decide) ?_
      refine r_iload_n d_X8_goes_65 rfl ?_
      show Run Γ rg κ Y_X8_goes 66 [(40, 0), (0, a1), (5, 0), (5, 0), (0, c4), (0, a5), (0, a6)] [(0, a1), (0, 32), (54, 0), (0, ((32 * a1) + a6)), (54, 0)] D Φ
      refine r_imul d_X8_goes_66 ?_
      refine r_iload d_X8_goes_67 rfl ?_
      refine r_iadd d_X8_goes_69 ?_
      refine r_iconst d_X8_goes_70 ?_
      refine r_iadd d_X8_goes_71 ?_
      refine c_iald d_X8_goes_72 sh_46 (by decide) (R 46 rfl) (by decide) h (fun v1 h => ?_)
      refine c_iast d_X8_goes_73 sh_46 (by decide) (R 46 rfl) (by decide) h (fun D1 h => ?_)
      refine r_aload_n d_X8_goes_74 rfl (by decide) ?_
      refine r_getR (t := 47) d_X8_goes_75 fk_RX8_53 sh_32 rfl (by decide) (R 32 rfl) ?_
      refine r_bipush d_X8_goes_78 (by decide) ?_
      refine r_iload_n d_X8_goes_80 rfl ?_
      refine r_imul d_X8_goes_81 ?_
      show Run Γ rg κ Y_X8_goes 82 [(40, 0), (0, a1), (5, 0), (5, 0), (0, c4), (0, a5), (0, a6)] [(0, (32 * a1)), (55, 0)] D1 Φ
      refine r_iload d_X8_goes_82 rfl ?_
      refine r_iadd d_X8_goes_84 ?_
      refine r_aload_n d_X8_goes_85 rfl (by decide) ?_
      refine r_getR (t := 47) d_X8_goes_86 fk_RX8_53 sh_32 rfl (by decide) (R 32 rfl) ?_
      refine r_bipush d_X8_goes_89 (by decide) ?_
      refine r_iload_n d_X8_goes_91 rfl ?_
      refine r_imul d_X8_goes_92 ?_
      refine r_iload d_X8_goes_93 rfl ?_
      refine r_iadd d_X8_goes_95 ?_
      refine r_iconst d_X8_goes_96 ?_
      refine r_iadd d_X8_goes_97 ?_
      refine c_iald d_X8_goes_98 sh_47 (by decide) (R 47 rfl) (by decide) h (fun v2 h => ?_)
      show Run Γ rg κ Y_X8_goes 99 [(40, 0), (0, a1), (5, 0), (5, 0), (0, c4), (0, a5), (0, a6)] [(0, v2), (0, ((32 * a1) + a6)), (55, 0)] D1 Φ
      refine c_iast d_X8_goes_99 sh_47 (by decide) (R 47 rfl) (by decide) h (fun D2 h => ?_)
      refine r_iinc d_X8_goes_100 rfl (by decide) rfl ?_
      show Run Γ rg κ Y_X8_goes 103 [(40, 0), (0, a1), (5, 0), (5, 0), (0, c4), (0, a5), (0, (a6 + 1))] [] D2 Φ
      refine r_goto (tgt := 41) d_X8_goes_103 (by decide) ?_
      exact (ih (a6 + 1) D2 h)
set_option maxRecDepth 20000 in
theorem run_pM_gives {Γ : GG} {rg : Nat → Bool} {κ : Nat} {Φ : OT → DD → Prop} (R : cov rg rg1) (p1 : Int) {D : DD} (h : WP none κ Φ (pM_gives p1 D)) : Run Γ rg κ Y_X8_gives 0 [(40, 0), (0, p1), (5, 0), (5, 0), (5, 0)] [] D Φ := by
  unfold pM_gives at h
  show Run Γ rg κ Y_X8_gives 0 [(40, 0), (0, p1), (5, 0), (5, 0), (5, 0)] [] D Φ
  refine r_aload_n d_X8_gives_0 rfl (by decide) ?_
  refine r_iload_n d_X8_gives_1 rfl ?_
  refine c_callVv (a := 32) (z := 0) (as := [(0, p1)]) (rest := []) (ls' := [(40, 0), (0, p1), (5, 0), (5, 0)]) d_X8_gives_2 ck_RX8_152 rfl sh_32 rfl (by decide) (R 32 rfl) rfl rfl (Nat.le_of_ble_eq_true rfl) (Nat.le_of_ble_eq_true rfl) (by decide) rfl rfl (fun κ' Ψ hΨ => run_pM_writes R _ hΨ) h (fun _ D1 h => ?_)
  show Run Γ rg κ Y_X8_gives 5 [(40, 0), (0, p1), (5, 0), (5, 0), (5, 0)] [] D1 Φ
  refine r_aload_n d_X8_gives_5 rfl (by decide) ?_
  refine r_dup d_X8_gives_6 (by decide) ?_
  refine r_getI d_X8_gives_7 fk_RX8_156 sh_32 rfl (by decide) (by decide) (R 32 rfl) ?_
  refine r_aload_n d_X8_gives_10 rfl (by decide) ?_
  refine r_getR (t := 33) d_X8_gives_11 fk_RX8_7 sh_32 rfl (by decide) (R 32 rfl) ?_
  refine r_iload_n d_X8_gives_14 rfl ?_
  refine c_iald d_X8_gives_15 sh_33 (by decide) (R 33 rfl) (by decide) h (fun v1 h => ?_)
  refine r_iadd d_X8_gives_16 ?_
  show Run Γ rg κ Y_X8_gives 17 [(40, 0), (0, p1), (5, 0), (5, 0), (5, 0)] [(0, ((D1 32 41) + v1)), (40, 0)] D1 Φ
  refine c_putI (k := 41) d_X8_gives_17 pk_RX8_156 sh_32 rfl (by decide) (R 32 rfl) h (fun D2 h => ?_)
  refine r_aload_n d_X8_gives_20 rfl (by decide) ?_
  refine r_getR (t := 33) d_X8_gives_21 fk_RX8_7 sh_32 rfl (by decide) (R 32 rfl) ?_
  refine r_iload_n d_X8_gives_24 rfl ?_
  refine c_iald d_X8_gives_25 sh_33 (by decide) (R 33 rfl) (by decide) h (fun v2 h => ?_)
  refine r_istore_n d_X8_gives_26 (by decide) rfl ?_
  show Run Γ rg κ Y_X8_gives 27 [(40, 0), (0, p1), (0, v2), (5, 0), (5, 0)] [] D2 Φ
  refine r_iload_n d_X8_gives_27 rfl ?_
  refine r_iload_n d_X8_gives_28 rfl ?_
  refine r_iadd d_X8_gives_29 ?_
  refine c_lt_n d_X8_gives_30 (by decide) rfl h (fun x1 h => ?_)
  show Run Γ rg κ Y_X8_gives 31 [(40, 0), (0, p1), (0, v2), (0, x1), (5, 0)] [] D2 Φ
  refine r_aload_n d_X8_gives_31 rfl (by decide) ?_
  refine r_getR (t := 33) d_X8_gives_32 fk_RX8_7 sh_32 rfl (by decide) (R 32 rfl) ?_
  show Run Γ rg κ Y_X8_gives 35 [(40, 0), (0, p1), (0, v2), (0, x1), (5, 0)] [(41, 0)] D2 Φ
  refine r_iload_n d_X8_gives_35 rfl ?_
  refine r_iload_n d_X8_gives_36 rfl ?_
  refine r_ineg d_X8_gives_37 ?_
  refine c_iast d_X8_gives_38 sh_33 (by decide) (R 33 rfl) (by decide) h (fun D3 h => ?_)
  refine r_iload_n d_X8_gives_39 rfl ?_
  refine r_aload_n d_X8_gives_40 rfl (by decide) ?_
  refine c_callVPi (a := 32) (z := 0) (as := []) (rest := [(0, x1)]) (ls' := [(40, 0)]) d_X8_gives_41 ck_RX8_132 rfl sh_32 rfl (by decide) (R 32 rfl) rfl rfl (Nat.le_of_ble_eq_true rfl) (Nat.le_of_ble_eq_true rfl) (by decide) rfl rfl (fun Ψ hΨ => run_pM_units R rfl hΨ) ?_
  show Run Γ rg κ Y_X8_gives 44 [(40, 0), (0, p1), (0, v2), (0, x1), (5, 0)] [(0, (pM_units D3)), (0, x1)] D3 Φ
  refine c_jn (fun J => ∀ (D4 : DD), WP none κ Φ (J D4) → Run Γ rg κ Y_X8_gives 78 [(40, 0), (0, p1), (5, 0), (5, 0), (5, 0)] [] D4 Φ) h ?_ (fun J1 hJ1 h => ?_)
  · intro D4 h
    show Run Γ rg κ Y_X8_gives 78 [(40, 0), (0, p1), (5, 0), (5, 0), (5, 0)] [] D4 Φ
    refine r_aload_n d_X8_gives_78 rfl (by decide) ?_
    refine r_iload_n d_X8_gives_79 rfl ?_
    refine c_callVi (t' := (some .int)) (a := 32) (z := 0) (as := [(0, p1)]) (rest := []) (ls' := [(40, 0), (0, p1), (5, 0), (5, 0)]) d_X8_gives_80 ck_RX8_136 rfl sh_32 rfl (by decide) (R 32 rfl) rfl rfl (Nat.le_of_ble_eq_true rfl) (Nat.le_of_ble_eq_true rfl) (by decide) rfl rfl (fun _ => rfl) (fun κ' Ψ hΨ => run_pM_freeAhead R _ hΨ) h (fun v3 D5 h => ?_)
    show Run Γ rg κ Y_X8_gives 83 [(40, 0), (0, p1), (5, 0), (5, 0), (5, 0)] [(0, v3)] D5 Φ
    refine r_istore d_X8_gives_83 (by decide) rfl ?_
    show Run Γ rg κ Y_X8_gives 85 [(40, 0), (0, p1), (5, 0), (5, 0), (0, v3)] [] D5 Φ
    refine r_iload d_X8_gives_85 rfl ?_
    refine r_iconst d_X8_gives_87 ?_
    refine c_icmp_eq (tgt := 114) d_X8_gives_88 (by decide) (nz_w _) (nz_k rfl) h (fun h => ?_) (fun h => ?_)
    · skip
      show Run Γ rg κ Y_X8_gives 114 [(40, 0), (0, p1), (5, 0), (5, 0), (0, v3)] [] D5 Φ
      exact c_vret d_X8_gives_114 rfl h
    · skip
      show Run Γ rg κ Y_X8_gives 91 [(40, 0), (0, p1), (5, 0), (5, 0), (0, v3)] [] D5 Φ
      refine r_aload_n d_X8_gives_91 rfl (by decide) ?_
      refine r_getR (t := 33) d_X8_gives_92 fk_RX8_7 sh_32 rfl (by decide) (R 32 rfl) ?_
      refine r_iload d_X8_gives_95 rfl ?_
      refine r_dup2 d_X8_gives_97 (show (0 : Nat) ≠ 1 by decide) (by decide) ?_
      refine c_iald d_X8_gives_98 sh_33 (by decide) (R 33 rfl) (by decide) h (fun v4 h => ?_)
      refine r_aload_n d_X8_gives_99 rfl (by decide) ?_
      refine r_getR (t := 33) d_X8_gives_100 fk_RX8_7 sh_32 rfl (by decide) (R 32 rfl) ?_
      refine r_iload_n d_X8_gives_103 rfl ?_
      refine c_iald d_X8_gives_104 sh_33 (by decide) (R 33 rfl) (by decide) h (fun v5 h => ?_)
      refine r_iadd d_X8_gives_105 ?_
      refine c_iast d_X8_gives_106 sh_33 (by decide) (R 33 rfl) (by decide) h (fun D6 h => ?_)
      show Run Γ rg κ Y_X8_gives 107 [(40, 0), (0, p1), (5, 0), (5, 0), (0, v3)] [] D6 Φ
      refine r_aload_n d_X8_gives_107 rfl (by decide) ?_
      refine r_getR (t := 33) d_X8_gives_108 fk_RX8_7 sh_32 rfl (by decide) (R 32 rfl) ?_
      refine r_iload_n d_X8_gives_111 rfl ?_
      refine r_iconst d_X8_gives_112 ?_
      refine c_iast d_X8_gives_113 sh_33 (by decide) (R 33 rfl) (by decide) h (fun D7 h => ?_)
      exact c_vret d_X8_gives_114 rfl h
  refine c_icmp_ge (tgt := 78) d_X8_gives_44 (by decide) (nz_w _) (nz_w _) h (fun h => ?_) (fun h => ?_)
  · skip
    exact Run.forget (ls' := [(40, 0), (0, p1), (5, 0), (5, 0), (5, 0)]) ⟨Or.inr rfl, Or.inr rfl, Or.inl rfl, Or.inl rfl, Or.inr rfl, trivial⟩ (hJ1 D3 h)
  · skip
    show Run Γ rg κ Y_X8_gives 47 [(40, 0), (0, p1), (0, v2), (0, x1), (5, 0)] [] D3 Φ
    refine r_aload_n d_X8_gives_47 rfl (by decide) ?_
    refine r_getR (t := 33) d_X8_gives_48 fk_RX8_7 sh_32 rfl (by decide) (R 32 rfl) ?_
    refine r_iload_n d_X8_gives_51 rfl ?_
    refine c_iald d_X8_gives_52 sh_33 (by decide) (R 33 rfl) (by decide) h (fun v6 h => ?_)
    refine c_if_ge (tgt := 78) d_X8_gives_53 (by decide) (nz_w _) h (fun h => ?_) (fun h => ?_)
    · skip
      exact Run.forget (ls' := [(40, 0), (0, p1), (5, 0), (5, 0), (5, 0)]) ⟨Or.inr rfl, Or.inr rfl, Or.inl rfl, Or.inl rfl, Or.inr rfl, trivial⟩ (hJ1 D3 h)
    · skip
      show Run Γ rg κ Y_X8_gives 56 [(40, 0), (0, p1), (0, v2), (0, x1), (5, 0)] [] D3 Φ
      refine r_aload_n d_X8_gives_56 rfl (by decide) ?_
      refine r_getR (t := 33) d_X8_gives_57 fk_RX8_7 sh_32 rfl (by decide) (R 32 rfl) ?_
      refine r_iload_n d_X8_gives_60 rfl ?_
      refine r_dup2 d_X8_gives_61 (show (0 : Nat) ≠ 1 by decide) (by decide) ?_
      refine c_iald d_X8_gives_62 sh_33 (by decide) (R 33 rfl) (by decide) h (fun v7 h => ?_)
      refine r_aload_n d_X8_gives_63 rfl (by decide) ?_
      refine r_getR (t := 33) d_X8_gives_64 fk_RX8_7 sh_32 rfl (by decide) (R 32 rfl) ?_
      refine r_iload_n d_X8_gives_67 rfl ?_
      refine c_iald d_X8_gives_68 sh_33 (by decide) (R 33 rfl) (by decide) h (fun v8 h => ?_)
      refine r_iadd d_X8_gives_69 ?_
      refine c_iast d_X8_gives_70 sh_33 (by decide) (R 33 rfl) (by decide) h (fun D8 h => ?_)
      show Run Γ rg κ Y_X8_gives 71 [(40, 0), (0, p1), (0, v2), (0, x1), (5, 0)] [] D8 Φ
      refine r_aload_n d_X8_gives_71 rfl (by decide) ?_
      refine r_getR (t := 33) d_X8_gives_72 fk_RX8_7 sh_32 rfl (by decide) (R 32 rfl) ?_
      refine r_iload_n d_X8_gives_75 rfl ?_
      refine r_iconst d_X8_gives_76 ?_
      refine c_iast d_X8_gives_77 sh_33 (by decide) (R 33 rfl) (by decide) h (fun D9 h => ?_)
      exact Run.forget (ls' := [(40, 0), (0, p1), (5, 0), (5, 0), (5, 0)]) ⟨Or.inr rfl, Or.inr rfl, Or.inl rfl, Or.inl rfl, Or.inr rfl, trivial⟩ (hJ1 D9 h)
set_option maxRecDepth 20000 in
theorem run_pM_goes_183 {Γ : GG} {rg : Nat → Bool} {κ : Nat} {Φ : OT → DD → Prop} (R : cov rg rg1) (a1 : Int) {K : DD → Res} (hK : ∀ (D : DD), WP none κ Φ (K D) → Run Γ rg κ Y_X8_goes 252 [(40, 0), (0, a1), (5, 0), (5, 0), (5, 0), (5, 0), (5, 0)] [] D Φ) : ∀ (n : Nat) (a6 : Int) (D : DD), WP none κ Φ (pM_goes_183 a1 n a6 D K) → Run Γ rg κ Y_X8_goes 183 [(40, 0), (0, a1), (5, 0), (5, 0), (5, 0), (5, 0), (0, a6)] [] D Φ := by
  intro n
  induction n with
  | zero => intro a6 D h; exact h.no.elim
  | succ n ih =>
    intro a6 D h
    rw [pM_goes_183] at h
    show Run Γ rg κ Y_X8_goes 183 [(40, 0), (0, a1), (5, 0), (5, 0), (5, 0), (5, 0), (0, a6)] [] D Φ
    refine r_iload d_X8_goes_183 rfl ?_
    refine r_aload_n d_X8_goes_185 rfl (by decide) ?_
    refine r_getR (t := 42) d_X8_goes_186 fk_RX8_38 sh_32 rfl (by decide) (R 32 rfl) ?_
    refine r_iload_n d_X8_goes_189 rfl ?_
    refine c_iald d_X8_goes_190 sh_42 (by decide) (R 42 rfl) (by decide) h (fun v1 h => ?_)
    refine c_icmp_ge (tgt := 252) d_X8_goes_191 (by decide) (nz_w _) (nz_w _) h (fun h => ?_) (fun h => ?_)
    · skip
      exact Run.forget (ls' := [(40, 0), (0, a1), (5, 0), (5, 0), (5, 0), (5, 0), (5, 0)]) ⟨Or.inr rfl, Or.inr rfl, Or.inr rfl, Or.inr rfl, Or.inr rfl, Or.inr rfl, Or.inl rfl, trivial⟩ (hK D h)
    · skip
      show Run Γ rg κ Y_X8_goes 194 [(40, 0), (0, a1), (5, 0), (5, 0), (5, 0), (5, 0), (0, a6)] [] D Φ
      refine r_aload_n d_X8_goes_194 rfl (by decide) ?_
      refine r_getR (t := 44) d_X8_goes_195 fk_RX8_44 sh_32 rfl (by decide) (R 32 rfl) ?_
      refine r_bipush d_X8_goes_198 (by decide) ?_
      refine r_iload_n d_X8_goes_200 rfl ?_
      refine r_imul d_X8_goes_201 ?_
      refine r_iload d_X8_goes_202 rfl ?_
      refine r_iadd d_X8_goes_204 ?_
      refine r_aload_n d_X8_goes_205 rfl (by decide) ?_
      refine r_getR (t := 44) d_X8_goes_206 fk_RX8_44 sh_32 rfl (by decide) (R 32 rfl) ?_
      refine r_bipush d_X8_goes_209 (by decide) ?_
      refine r_iload_n d_X8_goes_211 rfl ?_
      show Run Γ rg κ Y_X8_goes 212 [(40, 0), (0, a1), (5, 0), (5, 0), (5, 0), (5, 0), (0, a6)] [(0, a1), (0, 8), (52, 0), (0, ((8 * a1) + a6)), (52, 0)] D Φ
      refine r_imul d_X8_goes_212 ?_
      refine r_iload d_X8_goes_213 rfl ?_
      refine r_iadd d_X8_goes_215 ?_
      refine r_iconst d_X8_goes_216 ?_
      refine r_iadd d_X8_goes_217 ?_
      refine c_iald d_X8_goes_218 sh_44 (by decide) (R 44 rfl) (by decide) h (fun v2 h => ?_)
      refine c_iast d_X8_goes_219 sh_44 (by decide) (R 44 rfl) (by decide) h (fun D1 h => ?_)
      refine r_aload_n d_X8_goes_220 rfl (by decide) ?_
      refine r_getR (t := 45) d_X8_goes_221 fk_RX8_47 sh_32 rfl (by decide) (R 32 rfl) ?_
      refine r_bipush d_X8_goes_224 (by decide) ?_
      refine r_iload_n d_X8_goes_226 rfl ?_
      refine r_imul d_X8_goes_227 ?_
      show Run Γ rg κ Y_X8_goes 228 [(40, 0), (0, a1), (5, 0), (5, 0), (5, 0), (5, 0), (0, a6)] [(0, (8 * a1)), (53, 0)] D1 Φ
      refine r_iload d_X8_goes_228 rfl ?_
      refine r_iadd d_X8_goes_230 ?_
      refine r_aload_n d_X8_goes_231 rfl (by decide) ?_
      refine r_getR (t := 45) d_X8_goes_232 fk_RX8_47 sh_32 rfl (by decide) (R 32 rfl) ?_
      refine r_bipush d_X8_goes_235 (by decide) ?_
      refine r_iload_n d_X8_goes_237 rfl ?_
      refine r_imul d_X8_goes_238 ?_
      refine r_iload d_X8_goes_239 rfl ?_
      refine r_iadd d_X8_goes_241 ?_
      refine r_iconst d_X8_goes_242 ?_
      refine r_iadd d_X8_goes_243 ?_
      refine c_iald d_X8_goes_244 sh_45 (by decide) (R 45 rfl) (by decide) h (fun v3 h => ?_)
      show Run Γ rg κ Y_X8_goes 245 [(40, 0), (0, a1), (5, 0), (5, 0), (5, 0), (5, 0), (0, a6)] [(0, v3), (0, ((8 * a1) + a6)), (53, 0)] D1 Φ
      refine c_iast d_X8_goes_245 sh_45 (by decide) (R 45 rfl) (by decide) h (fun D2 h => ?_)
      refine r_iinc d_X8_goes_246 rfl (by decide) rfl ?_
      show Run Γ rg κ Y_X8_goes 249 [(40, 0), (0, a1), (5, 0), (5, 0), (5, 0), (5, 0), (0, (a6 + 1))] [] D2 Φ
      refine r_goto (tgt := 183) d_X8_goes_249 (by decide) ?_
      exact (ih (a6 + 1) D2 h)
