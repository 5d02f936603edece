/-! the law's own methods: each run keeps to its reading -/
set_option maxRecDepth 20000 in
theorem run_pE_part {Γ : GG} {rg : Nat → Bool} {κ : Nat} {Φ : OT → DD → Prop} (R : cov rg rg2) (hL : gL Γ < 2147483648) (p1 : Int) (p2 : Int) {D : DD} (h : WP (some .int) κ Φ (pE_part (gX Γ) (gL Γ) p1 p2 D)) : Run Γ rg κ Y_L_part 0 [(7, 0), (0, p1), (0, p2), (5, 0)] [] D Φ := by
  unfold pE_part at h
  show Run Γ rg κ Y_L_part 0 [(7, 0), (0, p1), (0, p2), (5, 0)] [] D Φ
  refine r_iload_n d_L_part_0 rfl ?_
  refine r_aload_n d_L_part_1 rfl (by decide) ?_
  refine r_slen d_L_part_2 ?_
  refine c_jn (fun J => ∀ (x1 : Int) (D1 : DD), WP (some .int) κ Φ (J x1 D1) → Run Γ rg κ Y_L_part 25 [(5, 0), (5, 0), (0, p2), (5, 0)] [(0, x1)] D1 Φ) h ?_ (fun J1 hJ1 h => ?_)
  · intro x1 D1 h
    show Run Γ rg κ Y_L_part 25 [(5, 0), (5, 0), (0, p2), (5, 0)] [(0, x1)] D1 Φ
    refine r_istore_n d_L_part_25 (by decide) rfl ?_
    show Run Γ rg κ Y_L_part 26 [(5, 0), (5, 0), (0, p2), (0, x1)] [] D1 Φ
    refine r_iload_n d_L_part_26 rfl ?_
    refine r_ldcI d_L_part_27 kc_RL_7 ?_
    refine c_iand d_L_part_29 ?_
    refine r_iload_n d_L_part_30 rfl ?_
    refine c_iremV d_L_part_31 (nz_w _) (nz_w _) h (fun v1 h => ?_)
    exact c_iret d_L_part_32 rfl h
  refine c_icmp_ge (tgt := 12) d_L_part_3 (by decide) (nz_w _) (nz_w _) h (fun h => ?_) (fun h => ?_)
  · skip
    show Run Γ rg κ Y_L_part 12 [(7, 0), (0, p1), (0, p2), (5, 0)] [] D Φ
    refine r_sipush d_L_part_12 (by decide) ?_
    refine r_iload_n d_L_part_15 rfl ?_
    refine r_imul d_L_part_16 ?_
    refine r_sipush d_L_part_17 (by decide) ?_
    refine r_iload_n d_L_part_20 rfl ?_
    refine r_imul d_L_part_21 ?_
    refine r_iload_n d_L_part_22 rfl ?_
    refine r_imul d_L_part_23 ?_
    refine r_iadd d_L_part_24 ?_
    exact Run.forget (ls' := [(5, 0), (5, 0), (0, p2), (5, 0)]) ⟨Or.inl rfl, Or.inl rfl, Or.inr rfl, Or.inr rfl, trivial⟩ (hJ1 ((557 * p1) + ((409 * p1) * p1)) D h)
  · skip
    show Run Γ rg κ Y_L_part 6 [(7, 0), (0, p1), (0, p2), (5, 0)] [] D Φ
    refine r_aload_n d_L_part_6 rfl (by decide) ?_
    refine r_iload_n d_L_part_7 rfl ?_
    refine c_sld d_L_part_8 hL h (fun v2 h => ?_)
    refine r_goto (tgt := 25) d_L_part_9 (by decide) ?_
    exact Run.forget (ls' := [(5, 0), (5, 0), (0, p2), (5, 0)]) ⟨Or.inl rfl, Or.inl rfl, Or.inr rfl, Or.inr rfl, trivial⟩ (hJ1 v2 D h)
set_option maxRecDepth 20000 in
theorem run_pE_key {Γ : GG} {rg : Nat → Bool} {κ : Nat} {Φ : OT → DD → Prop} (R : cov rg rg2) (p1 : Int) (p2 : Int) (p3 : Int) (p4 : Int) {D : DD} {x : Int} (h : EQx x (pE_key p1 p2 p3 p4)) (hΦ : Φ (.inl (some (1, x))) D) : Run Γ rg κ Y_L_key 0 [(0, p1), (0, p2), (0, p3), (0, p4)] [] D Φ := by
  unfold pE_key at h
  show Run Γ rg κ Y_L_key 0 [(0, p1), (0, p2), (0, p3), (0, p4)] [] D Φ
  refine c_lconst d_L_key_0 rfl ?_
  refine r_ldc2 d_L_key_1 kl_RL_82 ?_
  refine r_iload_n d_L_key_4 rfl ?_
  refine c_i2l d_L_key_5 (nz_w _) ?_
  refine r_ldc2 d_L_key_6 kl_RL_84 ?_
  refine r_iload_n d_L_key_9 rfl ?_
  refine c_i2l d_L_key_10 (nz_w _) ?_
  refine r_ldc2 d_L_key_11 kl_RL_88 ?_
  refine r_iload_n d_L_key_14 rfl ?_
  refine c_i2l d_L_key_15 (nz_w _) ?_
  refine c_lconst d_L_key_16 rfl ?_
  show Run Γ rg κ Y_L_key 17 [(0, p1), (0, p2), (0, p3), (0, p4)] [(1, 1), (1, (w32 p3)), (1, 10000), (1, (w32 p2)), (1, 64), (1, (w32 p1)), (1, 2), (1, 1)] D Φ
  refine r_ladd d_L_key_17 ?_
  refine r_ldc2 d_L_key_18 kl_RL_84 ?_
  refine r_iload_n d_L_key_21 rfl ?_
  refine c_i2l d_L_key_22 (nz_w _) ?_
  refine r_lmul d_L_key_23 ?_
  refine r_ladd d_L_key_24 ?_
  refine r_lmul d_L_key_25 ?_
  refine r_ladd d_L_key_26 ?_
  refine r_lmul d_L_key_27 ?_
  refine r_ladd d_L_key_28 ?_
  refine r_lmul d_L_key_29 ?_
  refine r_ladd d_L_key_30 ?_
  show Run Γ rg κ Y_L_key 31 [(0, p1), (0, p2), (0, p3), (0, p4)] [(1, (1 + (2 * ((w32 p1) + (64 * ((w32 p2) + (10000 * (((w32 p3) + 1) + (64 * (w32 p4))))))))))] D Φ
  exact e_lret d_L_key_31 rfl h hΦ
set_option maxRecDepth 20000 in
theorem run_pE_parent {Γ : GG} {rg : Nat → Bool} {κ : Nat} {Φ : OT → DD → Prop} (R : cov rg rg2) (p1 : Int) {D : DD} (h : WP (some .int) κ Φ (pE_parent p1 D)) : Run Γ rg κ Y_L_parent 0 [(40, 0), (0, p1)] [] D Φ := by
  unfold pE_parent at h
  show Run Γ rg κ Y_L_parent 0 [(40, 0), (0, p1)] [] D Φ
  refine r_aload_n d_L_parent_0 rfl (by decide) ?_
  refine r_iload_n d_L_parent_1 rfl ?_
  refine c_lald d_L_parent_2 sh_32 (by decide) (R 32 rfl) (by decide) h (fun v1 h => ?_)
  refine r_ldc2 d_L_parent_3 kl_RL_82 ?_
  refine c_ldiv d_L_parent_6 (by decide) (by decide) ?_
  refine r_ldc2 d_L_parent_7 kl_RL_84 ?_
  refine c_lrem d_L_parent_10 (by decide) (by decide) ?_
  refine r_l2i d_L_parent_11 ?_
  exact c_iret d_L_parent_12 rfl h
set_option maxRecDepth 20000 in
theorem run_pE_name {Γ : GG} {rg : Nat → Bool} {κ : Nat} {Φ : OT → DD → Prop} (R : cov rg rg2) (p1 : Int) {D : DD} (h : WP (some .int) κ Φ (pE_name p1 D)) : Run Γ rg κ Y_L_name 0 [(40, 0), (0, p1)] [] D Φ := by
  unfold pE_name at h
  show Run Γ rg κ Y_L_name 0 [(40, 0), (0, p1)] [] D Φ
  refine r_aload_n d_L_name_0 rfl (by decide) ?_
  refine r_iload_n d_L_name_1 rfl ?_
  refine c_lald d_L_name_2 sh_32 (by decide) (R 32 rfl) (by decide) h (fun v1 h => ?_)
  refine r_ldc2 d_L_name_3 kl_RL_86 ?_
  refine c_ldiv d_L_name_6 (by decide) (by decide) ?_
  refine r_ldc2 d_L_name_7 kl_RL_88 ?_
  refine c_lrem d_L_name_10 (by decide) (by decide) ?_
  refine r_l2i d_L_name_11 ?_
  exact c_iret d_L_name_12 rfl h
set_option maxRecDepth 20000 in
theorem run_pE_rights {Γ : GG} {rg : Nat → Bool} {κ : Nat} {Φ : OT → DD → Prop} (R : cov rg rg2) (p1 : Int) {D : DD} (h : WP (some .int) κ Φ (pE_rights p1 D)) : Run Γ rg κ Y_L_rights 0 [(40, 0), (0, p1)] [] D Φ := by
  unfold pE_rights at h
  show Run Γ rg κ Y_L_rights 0 [(40, 0), (0, p1)] [] D Φ
  refine r_aload_n d_L_rights_0 rfl (by decide) ?_
  refine r_iload_n d_L_rights_1 rfl ?_
  refine c_lald d_L_rights_2 sh_32 (by decide) (R 32 rfl) (by decide) h (fun v1 h => ?_)
  refine r_ldc2 d_L_rights_3 kl_RL_92 ?_
  refine c_ldiv d_L_rights_6 (by decide) (by decide) ?_
  refine r_l2i d_L_rights_7 ?_
  exact c_iret d_L_rights_8 rfl h
set_option maxRecDepth 20000 in
theorem run_pE_isKey {Γ : GG} {rg : Nat → Bool} {κ : Nat} {Φ : OT → DD → Prop} (R : cov rg rg2) (p1 : Int) {D : DD} (h : WP (some .boolean) κ Φ (pE_isKey p1 D)) : Run Γ rg κ Y_L_isKey 0 [(40, 0), (0, p1)] [] D Φ := by
  unfold pE_isKey at h
  show Run Γ rg κ Y_L_isKey 0 [(40, 0), (0, p1)] [] D Φ
  refine r_iload_n d_L_isKey_0 rfl ?_
  refine c_if_lt (tgt := 22) d_L_isKey_1 (by decide) (nz_w _) h (fun h => ?_) (fun h => ?_)
  · skip
    show Run Γ rg κ Y_L_isKey 22 [(40, 0), (0, p1)] [] D Φ
    refine r_iconst d_L_isKey_22 ?_
    exact c_zret d_L_isKey_23 rfl (Or.inl rfl) h
  · skip
    show Run Γ rg κ Y_L_isKey 4 [(40, 0), (0, p1)] [] D Φ
    refine r_iload_n d_L_isKey_4 rfl ?_
    refine r_bipush d_L_isKey_5 (by decide) ?_
    refine c_icmp_ge (tgt := 22) d_L_isKey_7 (by decide) (nz_w _) (nz_k rfl) h (fun h => ?_) (fun h => ?_)
    · skip
      show Run Γ rg κ Y_L_isKey 22 [(40, 0), (0, p1)] [] D Φ
      refine r_iconst d_L_isKey_22 ?_
      exact c_zret d_L_isKey_23 rfl (Or.inl rfl) h
    · skip
      show Run Γ rg κ Y_L_isKey 10 [(40, 0), (0, p1)] [] D Φ
      refine r_aload_n d_L_isKey_10 rfl (by decide) ?_
      refine r_iload_n d_L_isKey_11 rfl ?_
      refine c_lald d_L_isKey_12 sh_32 (by decide) (R 32 rfl) (by decide) h (fun v1 h => ?_)
      refine c_lconst d_L_isKey_13 rfl ?_
      refine c_lcmp d_L_isKey_14 ?_
      refine c_if_le (tgt := 22) d_L_isKey_15 (by decide) (nz_c _ _) h (fun h => ?_) (fun h => ?_)
      · skip
        show Run Γ rg κ Y_L_isKey 22 [(40, 0), (0, p1)] [] D Φ
        refine r_iconst d_L_isKey_22 ?_
        exact c_zret d_L_isKey_23 rfl (Or.inl rfl) h
      · skip
        show Run Γ rg κ Y_L_isKey 18 [(40, 0), (0, p1)] [] D Φ
        refine r_iconst d_L_isKey_18 ?_
        refine r_goto (tgt := 23) d_L_isKey_19 (by decide) ?_
        show Run Γ rg κ Y_L_isKey 23 [(40, 0), (0, p1)] [(0, 1)] D Φ
        exact c_zret d_L_isKey_23 rfl (Or.inr rfl) h
set_option maxRecDepth 20000 in
theorem run_pE_values_5 {Γ : GG} {rg : Nat → Bool} {κ : Nat} {Φ : OT → DD → Prop} (R : cov rg rg2) (a2 : Int) : ∀ (n : Nat) (a3 : Int) (a4 : Int) (D : DD), WP (some .int) κ Φ (pE_values_5 a2 n a3 a4 D) → Run Γ rg κ Y_L_values 5 [(43, 0), (49, 0), (0, a2), (0, a3), (0, a4)] [] D Φ := by
  intro n
  induction n with
  | zero => intro a3 a4 D h; exact h.no.elim
  | succ n ih =>
    intro a3 a4 D h
    rw [pE_values_5] at h
    show Run Γ rg κ Y_L_values 5 [(43, 0), (49, 0), (0, a2), (0, a3), (0, a4)] [] D Φ
    refine r_iload d_L_values_5 rfl ?_
    refine r_aload_n d_L_values_7 rfl (by decide) ?_
    refine r_iconst d_L_values_8 ?_
    refine c_iald0 (k := 1) d_L_values_9 sh_41 (by decide) (R 41 rfl) (by decide) rfl (by decide) ?_
    refine c_icmp_ge (tgt := 41) d_L_values_10 (by decide) (nz_w _) (nz_w _) h (fun h => ?_) (fun h => ?_)
    · skip
      show Run Γ rg κ Y_L_values 41 [(43, 0), (49, 0), (0, a2), (0, a3), (0, a4)] [] D Φ
      refine r_iload_n d_L_values_41 rfl ?_
      exact c_iret d_L_values_42 rfl h
    · skip
      show Run Γ rg κ Y_L_values 13 [(43, 0), (49, 0), (0, a2), (0, a3), (0, a4)] [] D Φ
      refine r_iload_n d_L_values_13 rfl ?_
      refine r_aload_n d_L_values_14 rfl (by decide) ?_
      refine r_iload d_L_values_15 rfl ?_
      refine c_lald d_L_values_17 sh_35 (by decide) (R 35 rfl) (by decide) h (fun v1 h => ?_)
      refine r_ldc2 d_L_values_18 kl_RL_84 ?_
      refine c_lrem d_L_values_21 (by decide) (by decide) ?_
      refine r_iload_n d_L_values_22 rfl ?_
      refine c_i2l d_L_values_23 (nz_w _) ?_
      refine c_lcmp d_L_values_24 ?_
      refine c_jn (fun J => ∀ (x1 : Int) (D1 : DD), WP (some .int) κ Φ (J x1 D1) → Run Γ rg κ Y_L_values 33 [(43, 0), (49, 0), (0, a2), (5, 0), (0, a4)] [(0, x1), (0, a3)] D1 Φ) h ?_ (fun J1 hJ1 h => ?_)
      · intro x1 D1 h
        show Run Γ rg κ Y_L_values 33 [(43, 0), (49, 0), (0, a2), (5, 0), (0, a4)] [(0, x1), (0, a3)] D1 Φ
        refine r_iadd d_L_values_33 ?_
        refine c_lt_n d_L_values_34 (by decide) rfl h (fun x2 h => ?_)
        show Run Γ rg κ Y_L_values 35 [(43, 0), (49, 0), (0, a2), (0, x2), (0, a4)] [] D1 Φ
        refine r_iinc d_L_values_35 rfl (by decide) rfl ?_
        show Run Γ rg κ Y_L_values 38 [(43, 0), (49, 0), (0, a2), (0, x2), (0, (a4 + 1))] [] D1 Φ
        refine r_goto (tgt := 5) d_L_values_38 (by decide) ?_
        exact (ih x2 (a4 + 1) D1 h)
      refine c_if_ne (tgt := 32) d_L_values_25 (by decide) (nz_c _ _) h (fun h => ?_) (fun h => ?_)
      · skip
        show Run Γ rg κ Y_L_values 32 [(43, 0), (49, 0), (0, a2), (0, a3), (0, a4)] [(0, a3)] D Φ
        refine r_iconst d_L_values_32 ?_
        exact Run.forget (ls' := [(43, 0), (49, 0), (0, a2), (5, 0), (0, a4)]) ⟨Or.inr rfl, Or.inr rfl, Or.inr rfl, Or.inl rfl, Or.inr rfl, trivial⟩ (hJ1 0 D h)
      · skip
        show Run Γ rg κ Y_L_values 28 [(43, 0), (49, 0), (0, a2), (0, a3), (0, a4)] [(0, a3)] D Φ
        refine r_iconst d_L_values_28 ?_
        refine r_goto (tgt := 33) d_L_values_29 (by decide) ?_
        exact Run.forget (ls' := [(43, 0), (49, 0), (0, a2), (5, 0), (0, a4)]) ⟨Or.inr rfl, Or.inr rfl, Or.inr rfl, Or.inl rfl, Or.inr rfl, trivial⟩ (hJ1 1 D h)
set_option maxRecDepth 20000 in
theorem run_pE_values {Γ : GG} {rg : Nat → Bool} {κ : Nat} {Φ : OT → DD → Prop} (R : cov rg rg2) (p1 : Int) {D : DD} (h : WP (some .int) κ Φ (pE_values p1 D)) : Run Γ rg κ Y_L_values 0 [(43, 0), (49, 0), (0, p1), (5, 0), (5, 0)] [] D Φ := by
  unfold pE_values at h
  show Run Γ rg κ Y_L_values 0 [(43, 0), (49, 0), (0, p1), (5, 0), (5, 0)] [] D Φ
  refine r_iconst d_L_values_0 ?_
  refine r_istore_n d_L_values_1 (by decide) rfl ?_
  show Run Γ rg κ Y_L_values 2 [(43, 0), (49, 0), (0, p1), (0, 0), (5, 0)] [] D Φ
  refine r_iconst d_L_values_2 ?_
  refine r_istore d_L_values_3 (by decide) rfl ?_
  show Run Γ rg κ Y_L_values 5 [(43, 0), (49, 0), (0, p1), (0, 0), (0, 0)] [] D Φ
  exact run_pE_values_5 R p1 64 0 0 D h
set_option maxRecDepth 20000 in
theorem run_pE_size {Γ : GG} {rg : Nat → Bool} {κ : Nat} {Φ : OT → DD → Prop} (R : cov rg rg2) (p1 : Int) {D : DD} {x : Int} (h : EQx x (pE_size p1)) (hΦ : Φ (.inl (some (0, x))) D) : Run Γ rg κ Y_L_size 0 [(0, p1)] [] D Φ := by
  unfold pE_size at h
  show Run Γ rg κ Y_L_size 0 [(0, p1)] [] D Φ
  refine r_iload_n d_L_size_0 rfl ?_
  refine r_iconst d_L_size_1 ?_
  refine c_icmp_ge (tgt := 9) d_L_size_2 (by decide) (nz_w _) (nz_k rfl) h (fun h => ?_) (fun h => ?_)
  · skip
    show Run Γ rg κ Y_L_size 9 [(0, p1)] [] D Φ
    refine r_iconst d_L_size_9 ?_
    refine r_iload_n d_L_size_10 rfl ?_
    refine r_iadd d_L_size_11 ?_
    refine r_iconst d_L_size_12 ?_
    refine r_iload_n d_L_size_13 rfl ?_
    refine r_bipush d_L_size_14 (by decide) ?_
    refine r_iadd d_L_size_16 ?_
    refine r_bipush d_L_size_17 (by decide) ?_
    refine c_idiv d_L_size_19 (nz_w _) ⟨by decide, by decide⟩ (by decide) ?_
    refine r_imul d_L_size_20 ?_
    refine r_iadd d_L_size_21 ?_
    show Run Γ rg κ Y_L_size 22 [(0, p1)] [(0, ((3 + p1) + (2 * (Int.tdiv (w32 (p1 + 7)) 8))))] D Φ
    exact e_iret d_L_size_22 rfl h hΦ
  · skip
    show Run Γ rg κ Y_L_size 5 [(0, p1)] [] D Φ
    refine r_iconst d_L_size_5 ?_
    refine r_goto (tgt := 22) d_L_size_6 (by decide) ?_
    show Run Γ rg κ Y_L_size 22 [(0, p1)] [(0, 3)] D Φ
    exact e_iret d_L_size_22 rfl h hΦ
set_option maxRecDepth 20000 in
theorem run_pE_asks {Γ : GG} {rg : Nat → Bool} {κ : Nat} {Φ : OT → DD → Prop} (R : cov rg rg2) (p1 : Int) (p2 : Int) (p3 : Int) (p4 : Int) {D : DD} (h : WP (some .int) 0 Φ (pE_asks p1 p2 p3 p4 D)) : Run Γ rg 1 Y_L_asks 0 [(8, 0), (0, p1), (0, p2), (0, p3), (0, p4), (5, 0)] [] D Φ := by
  unfold pE_asks at h
  show Run Γ rg 1 Y_L_asks 0 [(8, 0), (0, p1), (0, p2), (0, p3), (0, p4), (5, 0)] [] D Φ
  refine r_iload_n d_L_asks_0 rfl ?_
  refine c_if_ne (tgt := 13) d_L_asks_1 (by decide) (nz_w _) h (fun h => ?_) (fun h => ?_)
  · skip
    show Run Γ rg 1 Y_L_asks 13 [(8, 0), (0, p1), (0, p2), (0, p3), (0, p4), (5, 0)] [] D Φ
    refine r_iload_n d_L_asks_13 rfl ?_
    refine r_iconst d_L_asks_14 ?_
    refine c_icmp_ne (tgt := 27) d_L_asks_15 (by decide) (nz_w _) (nz_k rfl) h (fun h => ?_) (fun h => ?_)
    · skip
      show Run Γ rg 1 Y_L_asks 27 [(8, 0), (0, p1), (0, p2), (0, p3), (0, p4), (5, 0)] [] D Φ
      refine r_iload_n d_L_asks_27 rfl ?_
      refine r_iconst d_L_asks_28 ?_
      refine c_icmp_ne (tgt := 40) d_L_asks_29 (by decide) (nz_w _) (nz_k rfl) h (fun h => ?_) (fun h => ?_)
      · skip
        show Run Γ rg 1 Y_L_asks 40 [(8, 0), (0, p1), (0, p2), (0, p3), (0, p4), (5, 0)] [] D Φ
        refine r_iload_n d_L_asks_40 rfl ?_
        refine r_iconst d_L_asks_41 ?_
        refine c_icmp_ne (tgt := 53) d_L_asks_42 (by decide) (nz_w _) (nz_k rfl) h (fun h => ?_) (fun h => ?_)
        · skip
          show Run Γ rg 1 Y_L_asks 53 [(8, 0), (0, p1), (0, p2), (0, p3), (0, p4), (5, 0)] [] D Φ
          refine r_iload_n d_L_asks_53 rfl ?_
          refine r_iconst d_L_asks_54 ?_
          refine c_icmp_ne (tgt := 69) d_L_asks_55 (by decide) (nz_w _) (nz_k rfl) h (fun h => ?_) (fun h => ?_)
          · skip
            show Run Γ rg 1 Y_L_asks 69 [(8, 0), (0, p1), (0, p2), (0, p3), (0, p4), (5, 0)] [] D Φ
            refine r_iload_n d_L_asks_69 rfl ?_
            refine r_iconst d_L_asks_70 ?_
            refine c_icmp_ne (tgt := 82) d_L_asks_71 (by decide) (nz_w _) (nz_k rfl) h (fun h => ?_) (fun h => ?_)
            · skip
              show Run Γ rg 1 Y_L_asks 82 [(8, 0), (0, p1), (0, p2), (0, p3), (0, p4), (5, 0)] [] D Φ
              refine r_iload_n d_L_asks_82 rfl ?_
              refine r_bipush d_L_asks_83 (by decide) ?_
              refine c_icmp_ne (tgt := 96) d_L_asks_85 (by decide) (nz_w _) (nz_k rfl) h (fun h => ?_) (fun h => ?_)
              · skip
                show Run Γ rg 1 Y_L_asks 96 [(8, 0), (0, p1), (0, p2), (0, p3), (0, p4), (5, 0)] [] D Φ
                refine r_iload_n d_L_asks_96 rfl ?_
                refine r_bipush d_L_asks_97 (by decide) ?_
                refine c_icmp_ne (tgt := 110) d_L_asks_99 (by decide) (nz_w _) (nz_k rfl) h (fun h => ?_) (fun h => ?_)
                · skip
                  show Run Γ rg 1 Y_L_asks 110 [(8, 0), (0, p1), (0, p2), (0, p3), (0, p4), (5, 0)] [] D Φ
                  refine r_aload_n d_L_asks_110 rfl (by decide) ?_
                  refine r_iload_n d_L_asks_111 rfl ?_
                  refine c_callCi (t' := (some .int)) (a := 0) (z := 0) (as := [(0, p2)]) (rest := []) (ls' := [(8, 0), (0, p2)]) d_L_asks_112 ck_RL_79 rfl sh_0 rfl (by decide) (R 0 rfl) rfl rfl (Nat.le_of_ble_eq_true rfl) (Nat.le_of_ble_eq_true rfl) (by decide) rfl rfl (fun _ => rfl) (fun κ' Ψ hΨ => run_pH_log (cov20 R) _ hΨ) h (fun v1 D1 h => ?_) (fun n D2 h => ?_)
                  · skip
                    show Run Γ rg 0 Y_L_asks 115 [(8, 0), (0, p1), (0, p2), (0, p3), (0, p4), (5, 0)] [(0, v1)] D1 Φ
                    exact c_iret d_L_asks_115 rfl h
                  · skip
                    by_cases g0 : n = 0
                    · rw [if_pos g0] at h
                      subst g0
                      refine ⟨116, hk_L_asks_112_0, ?_⟩
                      show Run Γ rg 0 Y_L_asks 116 [(8, 0), (0, p1), (0, p2), (0, p3), (0, p4), (5, 0)] [(4, 0)] D2 Φ
                      refine r_astore d_L_asks_116 (by decide) rfl (by decide) ?_
                      show Run Γ rg 0 Y_L_asks 118 [(8, 0), (0, p1), (0, p2), (0, p3), (0, p4), (4, 0)] [] D2 Φ
                      refine r_sipush d_L_asks_118 (by decide) ?_
                      exact c_iret d_L_asks_121 rfl h
                    · rw [if_neg g0] at h
                      by_cases g1 : n = 1
                      · rw [if_pos g1] at h
                        subst g1
                        refine ⟨122, hk_L_asks_112_1, ?_⟩
                        show Run Γ rg 0 Y_L_asks 122 [(8, 0), (0, p1), (0, p2), (0, p3), (0, p4), (5, 0)] [(4, 0)] D2 Φ
                        refine r_astore d_L_asks_122 (by decide) rfl (by decide) ?_
                        show Run Γ rg 0 Y_L_asks 124 [(8, 0), (0, p1), (0, p2), (0, p3), (0, p4), (4, 0)] [] D2 Φ
                        refine r_sipush d_L_asks_124 (by decide) ?_
                        exact c_iret d_L_asks_127 rfl h
                      · rw [if_neg g1] at h
                        exact h.no.elim
                · skip
                  show Run Γ rg 1 Y_L_asks 102 [(8, 0), (0, p1), (0, p2), (0, p3), (0, p4), (5, 0)] [] D Φ
                  refine r_aload_n d_L_asks_102 rfl (by decide) ?_
                  refine r_iload_n d_L_asks_103 rfl ?_
                  refine c_callCi (t' := (some .int)) (a := 0) (z := 0) (as := [(0, p2)]) (rest := []) (ls' := [(8, 0), (0, p2)]) d_L_asks_104 ck_RL_76 rfl sh_0 rfl (by decide) (R 0 rfl) rfl rfl (Nat.le_of_ble_eq_true rfl) (Nat.le_of_ble_eq_true rfl) (by decide) rfl rfl (fun _ => rfl) (fun κ' Ψ hΨ => run_pH_place (cov20 R) _ hΨ) h (fun v2 D3 h => ?_) (fun n D4 h => ?_)
                  · skip
                    show Run Γ rg 0 Y_L_asks 107 [(8, 0), (0, p1), (0, p2), (0, p3), (0, p4), (5, 0)] [(0, v2)] D3 Φ
                    refine r_goto (tgt := 115) d_L_asks_107 (by decide) ?_
                    show Run Γ rg 0 Y_L_asks 115 [(8, 0), (0, p1), (0, p2), (0, p3), (0, p4), (5, 0)] [(0, v2)] D3 Φ
                    exact c_iret d_L_asks_115 rfl h
                  · skip
                    by_cases g0 : n = 0
                    · rw [if_pos g0] at h
                      subst g0
                      refine ⟨116, hk_L_asks_104_0, ?_⟩
                      show Run Γ rg 0 Y_L_asks 116 [(8, 0), (0, p1), (0, p2), (0, p3), (0, p4), (5, 0)] [(4, 0)] D4 Φ
                      refine r_astore d_L_asks_116 (by decide) rfl (by decide) ?_
                      show Run Γ rg 0 Y_L_asks 118 [(8, 0), (0, p1), (0, p2), (0, p3), (0, p4), (4, 0)] [] D4 Φ
                      refine r_sipush d_L_asks_118 (by decide) ?_
                      exact c_iret d_L_asks_121 rfl h
                    · rw [if_neg g0] at h
                      by_cases g1 : n = 1
                      · rw [if_pos g1] at h
                        subst g1
                        refine ⟨122, hk_L_asks_104_1, ?_⟩
                        show Run Γ rg 0 Y_L_asks 122 [(8, 0), (0, p1), (0, p2), (0, p3), (0, p4), (5, 0)] [(4, 0)] D4 Φ
                        refine r_astore d_L_asks_122 (by decide) rfl (by decide) ?_
                        show Run Γ rg 0 Y_L_asks 124 [(8, 0), (0, p1), (0, p2), (0, p3), (0, p4), (4, 0)] [] D4 Φ
                        refine r_sipush d_L_asks_124 (by decide) ?_
                        exact c_iret d_L_asks_127 rfl h
                      · rw [if_neg g1] at h
                        exact h.no.elim
              · skip
                show Run Γ rg 1 Y_L_asks 88 [(8, 0), (0, p1), (0, p2), (0, p3), (0, p4), (5, 0)] [] D Φ
                refine r_aload_n d_L_asks_88 rfl (by decide) ?_
                refine r_iload_n d_L_asks_89 rfl ?_
                refine c_callCi (t' := (some .int)) (a := 0) (z := 0) (as := [(0, p2)]) (rest := []) (ls' := [(8, 0), (0, p2)]) d_L_asks_90 ck_RL_73 rfl sh_0 rfl (by decide) (R 0 rfl) rfl rfl (Nat.le_of_ble_eq_true rfl) (Nat.le_of_ble_eq_true rfl) (by decide) rfl rfl (fun _ => rfl) (fun κ' Ψ hΨ => run_pH_cell (cov20 R) _ hΨ) h (fun v3 D5 h => ?_) (fun n D6 h => ?_)
                · skip
                  show Run Γ rg 0 Y_L_asks 93 [(8, 0), (0, p1), (0, p2), (0, p3), (0, p4), (5, 0)] [(0, v3)] D5 Φ
                  refine r_goto (tgt := 115) d_L_asks_93 (by decide) ?_
                  show Run Γ rg 0 Y_L_asks 115 [(8, 0), (0, p1), (0, p2), (0, p3), (0, p4), (5, 0)] [(0, v3)] D5 Φ
                  exact c_iret d_L_asks_115 rfl h
                · skip
                  by_cases g0 : n = 0
                  · rw [if_pos g0] at h
                    subst g0
                    refine ⟨116, hk_L_asks_90_0, ?_⟩
                    show Run Γ rg 0 Y_L_asks 116 [(8, 0), (0, p1), (0, p2), (0, p3), (0, p4), (5, 0)] [(4, 0)] D6 Φ
                    refine r_astore d_L_asks_116 (by decide) rfl (by decide) ?_
                    show Run Γ rg 0 Y_L_asks 118 [(8, 0), (0, p1), (0, p2), (0, p3), (0, p4), (4, 0)] [] D6 Φ
                    refine r_sipush d_L_asks_118 (by decide) ?_
                    exact c_iret d_L_asks_121 rfl h
                  · rw [if_neg g0] at h
                    by_cases g1 : n = 1
                    · rw [if_pos g1] at h
                      subst g1
                      refine ⟨122, hk_L_asks_90_1, ?_⟩
                      show Run Γ rg 0 Y_L_asks 122 [(8, 0), (0, p1), (0, p2), (0, p3), (0, p4), (5, 0)] [(4, 0)] D6 Φ
                      refine r_astore d_L_asks_122 (by decide) rfl (by decide) ?_
                      show Run Γ rg 0 Y_L_asks 124 [(8, 0), (0, p1), (0, p2), (0, p3), (0, p4), (4, 0)] [] D6 Φ
                      refine r_sipush d_L_asks_124 (by decide) ?_
                      exact c_iret d_L_asks_127 rfl h
                    · rw [if_neg g1] at h
                      exact h.no.elim
            · skip
              show Run Γ rg 1 Y_L_asks 74 [(8, 0), (0, p1), (0, p2), (0, p3), (0, p4), (5, 0)] [] D Φ
              refine r_aload_n d_L_asks_74 rfl (by decide) ?_
              refine r_iload_n d_L_asks_75 rfl ?_
              refine c_callCi (t' := (some .int)) (a := 0) (z := 0) (as := [(0, p2)]) (rest := []) (ls' := [(8, 0), (0, p2)]) d_L_asks_76 ck_RL_70 rfl sh_0 rfl (by decide) (R 0 rfl) rfl rfl (Nat.le_of_ble_eq_true rfl) (Nat.le_of_ble_eq_true rfl) (by decide) rfl rfl (fun _ => rfl) (fun κ' Ψ hΨ => run_pH_sharers (cov20 R) _ hΨ) h (fun v4 D7 h => ?_) (fun n D8 h => ?_)
              · skip
                show Run Γ rg 0 Y_L_asks 79 [(8, 0), (0, p1), (0, p2), (0, p3), (0, p4), (5, 0)] [(0, v4)] D7 Φ
                refine r_goto (tgt := 115) d_L_asks_79 (by decide) ?_
                show Run Γ rg 0 Y_L_asks 115 [(8, 0), (0, p1), (0, p2), (0, p3), (0, p4), (5, 0)] [(0, v4)] D7 Φ
                exact c_iret d_L_asks_115 rfl h
              · skip
                by_cases g0 : n = 0
                · rw [if_pos g0] at h
                  subst g0
                  refine ⟨116, hk_L_asks_76_0, ?_⟩
                  show Run Γ rg 0 Y_L_asks 116 [(8, 0), (0, p1), (0, p2), (0, p3), (0, p4), (5, 0)] [(4, 0)] D8 Φ
                  refine r_astore d_L_asks_116 (by decide) rfl (by decide) ?_
                  show Run Γ rg 0 Y_L_asks 118 [(8, 0), (0, p1), (0, p2), (0, p3), (0, p4), (4, 0)] [] D8 Φ
                  refine r_sipush d_L_asks_118 (by decide) ?_
                  exact c_iret d_L_asks_121 rfl h
                · rw [if_neg g0] at h
                  by_cases g1 : n = 1
                  · rw [if_pos g1] at h
                    subst g1
                    refine ⟨122, hk_L_asks_76_1, ?_⟩
                    show Run Γ rg 0 Y_L_asks 122 [(8, 0), (0, p1), (0, p2), (0, p3), (0, p4), (5, 0)] [(4, 0)] D8 Φ
                    refine r_astore d_L_asks_122 (by decide) rfl (by decide) ?_
                    show Run Γ rg 0 Y_L_asks 124 [(8, 0), (0, p1), (0, p2), (0, p3), (0, p4), (4, 0)] [] D8 Φ
                    refine r_sipush d_L_asks_124 (by decide) ?_
                    exact c_iret d_L_asks_127 rfl h
                  · rw [if_neg g1] at h
                    exact h.no.elim
          · skip
            show Run Γ rg 1 Y_L_asks 58 [(8, 0), (0, p1), (0, p2), (0, p3), (0, p4), (5, 0)] [] D Φ
            refine r_aload_n d_L_asks_58 rfl (by decide) ?_
            refine r_iload_n d_L_asks_59 rfl ?_
            refine r_iload_n d_L_asks_60 rfl ?_
            refine r_iload d_L_asks_61 rfl ?_
            refine c_callCi (t' := (some .int)) (a := 0) (z := 0) (as := [(0, p2), (0, p3), (0, p4)]) (rest := []) (ls' := [(8, 0), (0, p2), (0, p3), (0, p4), (5, 0)]) d_L_asks_63 ck_RL_67 rfl sh_0 rfl (by decide) (R 0 rfl) rfl rfl (Nat.le_of_ble_eq_true rfl) (Nat.le_of_ble_eq_true rfl) (by decide) rfl rfl (fun _ => rfl) (fun κ' Ψ hΨ => run_pH_unit (cov20 R) _ _ _ hΨ) h (fun v5 D9 h => ?_) (fun n D10 h => ?_)
            · skip
              show Run Γ rg 0 Y_L_asks 66 [(8, 0), (0, p1), (0, p2), (0, p3), (0, p4), (5, 0)] [(0, v5)] D9 Φ
              refine r_goto (tgt := 115) d_L_asks_66 (by decide) ?_
              show Run Γ rg 0 Y_L_asks 115 [(8, 0), (0, p1), (0, p2), (0, p3), (0, p4), (5, 0)] [(0, v5)] D9 Φ
              exact c_iret d_L_asks_115 rfl h
            · skip
              by_cases g0 : n = 0
              · rw [if_pos g0] at h
                subst g0
                refine ⟨116, hk_L_asks_63_0, ?_⟩
                show Run Γ rg 0 Y_L_asks 116 [(8, 0), (0, p1), (0, p2), (0, p3), (0, p4), (5, 0)] [(4, 0)] D10 Φ
                refine r_astore d_L_asks_116 (by decide) rfl (by decide) ?_
                show Run Γ rg 0 Y_L_asks 118 [(8, 0), (0, p1), (0, p2), (0, p3), (0, p4), (4, 0)] [] D10 Φ
                refine r_sipush d_L_asks_118 (by decide) ?_
                exact c_iret d_L_asks_121 rfl h
              · rw [if_neg g0] at h
                by_cases g1 : n = 1
                · rw [if_pos g1] at h
                  subst g1
                  refine ⟨122, hk_L_asks_63_1, ?_⟩
                  show Run Γ rg 0 Y_L_asks 122 [(8, 0), (0, p1), (0, p2), (0, p3), (0, p4), (5, 0)] [(4, 0)] D10 Φ
                  refine r_astore d_L_asks_122 (by decide) rfl (by decide) ?_
                  show Run Γ rg 0 Y_L_asks 124 [(8, 0), (0, p1), (0, p2), (0, p3), (0, p4), (4, 0)] [] D10 Φ
                  refine r_sipush d_L_asks_124 (by decide) ?_
                  exact c_iret d_L_asks_127 rfl h
                · rw [if_neg g1] at h
                  exact h.no.elim
        · skip
          show Run Γ rg 1 Y_L_asks 45 [(8, 0), (0, p1), (0, p2), (0, p3), (0, p4), (5, 0)] [] D Φ
          refine r_aload_n d_L_asks_45 rfl (by decide) ?_
          refine r_iload_n d_L_asks_46 rfl ?_
          refine c_callCi (t' := (some .int)) (a := 0) (z := 0) (as := [(0, p2)]) (rest := []) (ls' := [(8, 0), (0, p2), (5, 0), (5, 0)]) d_L_asks_47 ck_RL_64 rfl sh_0 rfl (by decide) (R 0 rfl) rfl rfl (Nat.le_of_ble_eq_true rfl) (Nat.le_of_ble_eq_true rfl) (by decide) rfl rfl (fun _ => rfl) (fun κ' Ψ hΨ => run_pH_follow (cov20 R) _ hΨ) h (fun v6 D11 h => ?_) (fun n D12 h => ?_)
          · skip
            show Run Γ rg 0 Y_L_asks 50 [(8, 0), (0, p1), (0, p2), (0, p3), (0, p4), (5, 0)] [(0, v6)] D11 Φ
            refine r_goto (tgt := 115) d_L_asks_50 (by decide) ?_
            show Run Γ rg 0 Y_L_asks 115 [(8, 0), (0, p1), (0, p2), (0, p3), (0, p4), (5, 0)] [(0, v6)] D11 Φ
            exact c_iret d_L_asks_115 rfl h
          · skip
            by_cases g0 : n = 0
            · rw [if_pos g0] at h
              subst g0
              refine ⟨116, hk_L_asks_47_0, ?_⟩
              show Run Γ rg 0 Y_L_asks 116 [(8, 0), (0, p1), (0, p2), (0, p3), (0, p4), (5, 0)] [(4, 0)] D12 Φ
              refine r_astore d_L_asks_116 (by decide) rfl (by decide) ?_
              show Run Γ rg 0 Y_L_asks 118 [(8, 0), (0, p1), (0, p2), (0, p3), (0, p4), (4, 0)] [] D12 Φ
              refine r_sipush d_L_asks_118 (by decide) ?_
              exact c_iret d_L_asks_121 rfl h
            · rw [if_neg g0] at h
              by_cases g1 : n = 1
              · rw [if_pos g1] at h
                subst g1
                refine ⟨122, hk_L_asks_47_1, ?_⟩
                show Run Γ rg 0 Y_L_asks 122 [(8, 0), (0, p1), (0, p2), (0, p3), (0, p4), (5, 0)] [(4, 0)] D12 Φ
                refine r_astore d_L_asks_122 (by decide) rfl (by decide) ?_
                show Run Γ rg 0 Y_L_asks 124 [(8, 0), (0, p1), (0, p2), (0, p3), (0, p4), (4, 0)] [] D12 Φ
                refine r_sipush d_L_asks_124 (by decide) ?_
                exact c_iret d_L_asks_127 rfl h
              · rw [if_neg g1] at h
                exact h.no.elim
      · skip
        show Run Γ rg 1 Y_L_asks 32 [(8, 0), (0, p1), (0, p2), (0, p3), (0, p4), (5, 0)] [] D Φ
        refine r_aload_n d_L_asks_32 rfl (by decide) ?_
        refine r_iload_n d_L_asks_33 rfl ?_
        refine c_callCi (t' := (some .int)) (a := 0) (z := 0) (as := [(0, p2)]) (rest := []) (ls' := [(8, 0), (0, p2), (5, 0)]) d_L_asks_34 ck_RL_61 rfl sh_0 rfl (by decide) (R 0 rfl) rfl rfl (Nat.le_of_ble_eq_true rfl) (Nat.le_of_ble_eq_true rfl) (by decide) rfl rfl (fun _ => rfl) (fun κ' Ψ hΨ => run_pH_list (cov20 R) _ hΨ) h (fun v7 D13 h => ?_) (fun n D14 h => ?_)
        · skip
          show Run Γ rg 0 Y_L_asks 37 [(8, 0), (0, p1), (0, p2), (0, p3), (0, p4), (5, 0)] [(0, v7)] D13 Φ
          refine r_goto (tgt := 115) d_L_asks_37 (by decide) ?_
          show Run Γ rg 0 Y_L_asks 115 [(8, 0), (0, p1), (0, p2), (0, p3), (0, p4), (5, 0)] [(0, v7)] D13 Φ
          exact c_iret d_L_asks_115 rfl h
        · skip
          by_cases g0 : n = 0
          · rw [if_pos g0] at h
            subst g0
            refine ⟨116, hk_L_asks_34_0, ?_⟩
            show Run Γ rg 0 Y_L_asks 116 [(8, 0), (0, p1), (0, p2), (0, p3), (0, p4), (5, 0)] [(4, 0)] D14 Φ
            refine r_astore d_L_asks_116 (by decide) rfl (by decide) ?_
            show Run Γ rg 0 Y_L_asks 118 [(8, 0), (0, p1), (0, p2), (0, p3), (0, p4), (4, 0)] [] D14 Φ
            refine r_sipush d_L_asks_118 (by decide) ?_
            exact c_iret d_L_asks_121 rfl h
          · rw [if_neg g0] at h
            by_cases g1 : n = 1
            · rw [if_pos g1] at h
              subst g1
              refine ⟨122, hk_L_asks_34_1, ?_⟩
              show Run Γ rg 0 Y_L_asks 122 [(8, 0), (0, p1), (0, p2), (0, p3), (0, p4), (5, 0)] [(4, 0)] D14 Φ
              refine r_astore d_L_asks_122 (by decide) rfl (by decide) ?_
              show Run Γ rg 0 Y_L_asks 124 [(8, 0), (0, p1), (0, p2), (0, p3), (0, p4), (4, 0)] [] D14 Φ
              refine r_sipush d_L_asks_124 (by decide) ?_
              exact c_iret d_L_asks_127 rfl h
            · rw [if_neg g1] at h
              exact h.no.elim
    · skip
      show Run Γ rg 1 Y_L_asks 18 [(8, 0), (0, p1), (0, p2), (0, p3), (0, p4), (5, 0)] [] D Φ
      refine r_aload_n d_L_asks_18 rfl (by decide) ?_
      refine r_iload_n d_L_asks_19 rfl ?_
      refine r_iload_n d_L_asks_20 rfl ?_
      refine c_callCi (t' := (some .int)) (a := 0) (z := 0) (as := [(0, p2), (0, p3)]) (rest := []) (ls' := [(8, 0), (0, p2), (0, p3), (5, 0)]) d_L_asks_21 ck_RL_58 rfl sh_0 rfl (by decide) (R 0 rfl) rfl rfl (Nat.le_of_ble_eq_true rfl) (Nat.le_of_ble_eq_true rfl) (by decide) rfl rfl (fun _ => rfl) (fun κ' Ψ hΨ => run_pH_subkeyAt (cov20 R) _ _ hΨ) h (fun v8 D15 h => ?_) (fun n D16 h => ?_)
      · skip
        show Run Γ rg 0 Y_L_asks 24 [(8, 0), (0, p1), (0, p2), (0, p3), (0, p4), (5, 0)] [(0, v8)] D15 Φ
        refine r_goto (tgt := 115) d_L_asks_24 (by decide) ?_
        show Run Γ rg 0 Y_L_asks 115 [(8, 0), (0, p1), (0, p2), (0, p3), (0, p4), (5, 0)] [(0, v8)] D15 Φ
        exact c_iret d_L_asks_115 rfl h
      · skip
        by_cases g0 : n = 0
        · rw [if_pos g0] at h
          subst g0
          refine ⟨116, hk_L_asks_21_0, ?_⟩
          show Run Γ rg 0 Y_L_asks 116 [(8, 0), (0, p1), (0, p2), (0, p3), (0, p4), (5, 0)] [(4, 0)] D16 Φ
          refine r_astore d_L_asks_116 (by decide) rfl (by decide) ?_
          show Run Γ rg 0 Y_L_asks 118 [(8, 0), (0, p1), (0, p2), (0, p3), (0, p4), (4, 0)] [] D16 Φ
          refine r_sipush d_L_asks_118 (by decide) ?_
          exact c_iret d_L_asks_121 rfl h
        · rw [if_neg g0] at h
          by_cases g1 : n = 1
          · rw [if_pos g1] at h
            subst g1
            refine ⟨122, hk_L_asks_21_1, ?_⟩
            show Run Γ rg 0 Y_L_asks 122 [(8, 0), (0, p1), (0, p2), (0, p3), (0, p4), (5, 0)] [(4, 0)] D16 Φ
            refine r_astore d_L_asks_122 (by decide) rfl (by decide) ?_
            show Run Γ rg 0 Y_L_asks 124 [(8, 0), (0, p1), (0, p2), (0, p3), (0, p4), (4, 0)] [] D16 Φ
            refine r_sipush d_L_asks_124 (by decide) ?_
            exact c_iret d_L_asks_127 rfl h
          · rw [if_neg g1] at h
            exact h.no.elim
  · skip
    show Run Γ rg 1 Y_L_asks 4 [(8, 0), (0, p1), (0, p2), (0, p3), (0, p4), (5, 0)] [] D Φ
    refine r_aload_n d_L_asks_4 rfl (by decide) ?_
    refine r_iload_n d_L_asks_5 rfl ?_
    refine r_iload_n d_L_asks_6 rfl ?_
    refine c_callCi (t' := (some .int)) (a := 0) (z := 0) (as := [(0, p2), (0, p3)]) (rest := []) (ls' := [(8, 0), (0, p2), (0, p3)]) d_L_asks_7 ck_RL_55 rfl sh_0 rfl (by decide) (R 0 rfl) rfl rfl (Nat.le_of_ble_eq_true rfl) (Nat.le_of_ble_eq_true rfl) (by decide) rfl rfl (fun _ => rfl) (fun κ' Ψ hΨ => run_pH_find (cov20 R) _ _ hΨ) h (fun v9 D17 h => ?_) (fun n D18 h => ?_)
    · skip
      show Run Γ rg 0 Y_L_asks 10 [(8, 0), (0, p1), (0, p2), (0, p3), (0, p4), (5, 0)] [(0, v9)] D17 Φ
      refine r_goto (tgt := 115) d_L_asks_10 (by decide) ?_
      show Run Γ rg 0 Y_L_asks 115 [(8, 0), (0, p1), (0, p2), (0, p3), (0, p4), (5, 0)] [(0, v9)] D17 Φ
      exact c_iret d_L_asks_115 rfl h
    · skip
      by_cases g0 : n = 0
      · rw [if_pos g0] at h
        subst g0
        refine ⟨116, hk_L_asks_7_0, ?_⟩
        show Run Γ rg 0 Y_L_asks 116 [(8, 0), (0, p1), (0, p2), (0, p3), (0, p4), (5, 0)] [(4, 0)] D18 Φ
        refine r_astore d_L_asks_116 (by decide) rfl (by decide) ?_
        show Run Γ rg 0 Y_L_asks 118 [(8, 0), (0, p1), (0, p2), (0, p3), (0, p4), (4, 0)] [] D18 Φ
        refine r_sipush d_L_asks_118 (by decide) ?_
        exact c_iret d_L_asks_121 rfl h
      · rw [if_neg g0] at h
        by_cases g1 : n = 1
        · rw [if_pos g1] at h
          subst g1
          refine ⟨122, hk_L_asks_7_1, ?_⟩
          show Run Γ rg 0 Y_L_asks 122 [(8, 0), (0, p1), (0, p2), (0, p3), (0, p4), (5, 0)] [(4, 0)] D18 Φ
          refine r_astore d_L_asks_122 (by decide) rfl (by decide) ?_
          show Run Γ rg 0 Y_L_asks 124 [(8, 0), (0, p1), (0, p2), (0, p3), (0, p4), (4, 0)] [] D18 Φ
          refine r_sipush d_L_asks_124 (by decide) ?_
          exact c_iret d_L_asks_127 rfl h
        · rw [if_neg g1] at h
          exact h.no.elim
set_option maxRecDepth 20000 in
theorem run_pE_file_72 {Γ : GG} {rg : Nat → Bool} {κ : Nat} {Φ : OT → DD → Prop} (R : cov rg rg2) (a2 : Int) {K : Int → Int → Int → Int → DD → Res} (hK : ∀ (z3 : Int) (z4 : Int) (z5 : Int) (z8 : Int) (D : DD), WP (some .long) 0 Φ (K z3 z4 z5 z8 D) → Run Γ rg κ Y_L_file 236 [(8, 0), (49, 0), (0, a2), (0, z3), (0, z4), (1, z5), (5, 0), (5, 0), (0, z8), (5, 0), (5, 0), (5, 0)] [] D Φ) : ∀ (n : Nat) (a3 : Int) (a4 : Int) (a5 : Int) (a7 : Int) (a8 : Int) (D : DD), WP (some .long) 0 Φ (pE_file_72 a2 n a3 a4 a5 a7 a8 D K) → Run Γ rg κ Y_L_file 72 [(8, 0), (49, 0), (0, a2), (0, a3), (0, a4), (1, a5), (5, 0), (0, a7), (0, a8), (5, 0), (5, 0), (5, 0)] [] D Φ := by
  intro n
  induction n with
  | zero => intro a3 a4 a5 a7 a8 D h; exact h.no.elim
  | succ n ih =>
    intro a3 a4 a5 a7 a8 D h
    rw [pE_file_72] at h
    show Run Γ rg κ Y_L_file 72 [(8, 0), (49, 0), (0, a2), (0, a3), (0, a4), (1, a5), (5, 0), (0, a7), (0, a8), (5, 0), (5, 0), (5, 0)] [] D Φ
    refine r_iload_n d_L_file_72 rfl ?_
    refine r_iload_n d_L_file_73 rfl ?_
    refine c_icmp_ge (tgt := 236) d_L_file_74 (by decide) (nz_w _) (nz_w _) h (fun h => ?_) (fun h => ?_)
    · skip
      exact Run.forget (ls' := [(8, 0), (49, 0), (0, a2), (0, a3), (0, a4), (1, a5), (5, 0), (5, 0), (0, a8), (5, 0), (5, 0), (5, 0)]) ⟨Or.inr rfl, Or.inr rfl, Or.inr rfl, Or.inr rfl, Or.inr rfl, Or.inr rfl, Or.inr rfl, Or.inl rfl, Or.inr rfl, Or.inr rfl, Or.inr rfl, Or.inr rfl, trivial⟩ (hK a3 a4 a5 a8 D h)
    · skip
      show Run Γ rg κ Y_L_file 77 [(8, 0), (49, 0), (0, a2), (0, a3), (0, a4), (1, a5), (5, 0), (0, a7), (0, a8), (5, 0), (5, 0), (5, 0)] [] D Φ
      refine r_iload d_L_file_77 rfl ?_
      refine c_if_eq (tgt := 236) d_L_file_79 (by decide) (nz_w _) h (fun h => ?_) (fun h => ?_)
      · skip
        exact Run.forget (ls' := [(8, 0), (49, 0), (0, a2), (0, a3), (0, a4), (1, a5), (5, 0), (5, 0), (0, a8), (5, 0), (5, 0), (5, 0)]) ⟨Or.inr rfl, Or.inr rfl, Or.inr rfl, Or.inr rfl, Or.inr rfl, Or.inr rfl, Or.inr rfl, Or.inl rfl, Or.inr rfl, Or.inr rfl, Or.inr rfl, Or.inr rfl, trivial⟩ (hK a3 a4 a5 a8 D h)
      · skip
        show Run Γ rg κ Y_L_file 82 [(8, 0), (49, 0), (0, a2), (0, a3), (0, a4), (1, a5), (5, 0), (0, a7), (0, a8), (5, 0), (5, 0), (5, 0)] [] D Φ
        refine r_aload_n d_L_file_82 rfl (by decide) ?_
        refine r_iload_n d_L_file_83 rfl ?_
        refine c_callVi0 (t' := (some .int)) (a := 0) (z := 0) (as := [(0, a3)]) (rest := []) (ls' := [(8, 0), (0, a3)]) d_L_file_84 ck_RL_73 rfl sh_0 rfl (by decide) (R 0 rfl) rfl rfl (Nat.le_of_ble_eq_true rfl) (Nat.le_of_ble_eq_true rfl) (by decide) rfl rfl (fun _ => rfl) (fun κ' Ψ hΨ => run_pH_cell (cov20 R) _ hΨ) h (fun v1 D1 h => ?_)
        show Run Γ rg κ Y_L_file 87 [(8, 0), (49, 0), (0, a2), (0, a3), (0, a4), (1, a5), (5, 0), (0, a7), (0, a8), (5, 0), (5, 0), (5, 0)] [(0, v1)] D1 Φ
        refine r_istore d_L_file_87 (by decide) rfl ?_
        show Run Γ rg κ Y_L_file 89 [(8, 0), (49, 0), (0, a2), (0, a3), (0, a4), (1, a5), (5, 0), (0, a7), (0, a8), (0, v1), (5, 0), (5, 0)] [] D1 Φ
        refine r_iload d_L_file_89 rfl ?_
        refine c_jn (fun J => ∀ (x1 : Int) (D2 : DD), WP (some .long) 0 Φ (J x1 D2) → Run Γ rg κ Y_L_file 99 [(8, 0), (49, 0), (0, a2), (0, a3), (0, a4), (1, a5), (5, 0), (0, a7), (5, 0), (0, v1), (5, 0), (5, 0)] [(0, x1)] D2 Φ) h ?_ (fun J1 hJ1 h => ?_)
        · intro x1 D2 h
          show Run Γ rg κ Y_L_file 99 [(8, 0), (49, 0), (0, a2), (0, a3), (0, a4), (1, a5), (5, 0), (0, a7), (5, 0), (0, v1), (5, 0), (5, 0)] [(0, x1)] D2 Φ
          refine r_istore d_L_file_99 (by decide) rfl ?_
          show Run Γ rg κ Y_L_file 101 [(8, 0), (49, 0), (0, a2), (0, a3), (0, a4), (1, a5), (5, 0), (0, a7), (5, 0), (0, v1), (0, x1), (5, 0)] [] D2 Φ
          refine r_iload d_L_file_101 rfl ?_
          refine c_jn (fun J => ∀ (x2 : Int) (D3 : DD), WP (some .long) 0 Φ (J x2 D3) → Run Γ rg κ Y_L_file 121 [(8, 0), (49, 0), (0, a2), (0, a3), (0, a4), (1, a5), (5, 0), (5, 0), (5, 0), (0, v1), (0, x1), (5, 0)] [(0, x2)] D3 Φ) h ?_ (fun J2 hJ2 h => ?_)
          · intro x2 D3 h
            show Run Γ rg κ Y_L_file 121 [(8, 0), (49, 0), (0, a2), (0, a3), (0, a4), (1, a5), (5, 0), (5, 0), (5, 0), (0, v1), (0, x1), (5, 0)] [(0, x2)] D3 Φ
            refine r_istore d_L_file_121 (by decide) rfl ?_
            show Run Γ rg κ Y_L_file 123 [(8, 0), (49, 0), (0, a2), (0, a3), (0, a4), (1, a5), (5, 0), (5, 0), (0, x2), (0, v1), (0, x1), (5, 0)] [] D3 Φ
            refine r_iload d_L_file_123 rfl ?_
            refine r_istore d_L_file_125 (by decide) rfl ?_
            show Run Γ rg κ Y_L_file 127 [(8, 0), (49, 0), (0, a2), (0, a3), (0, a4), (1, a5), (5, 0), (0, x1), (0, x2), (0, v1), (0, x1), (5, 0)] [] D3 Φ
            refine r_iload d_L_file_127 rfl ?_
            refine c_jn (fun J => ∀ (x3 : Int) (D4 : DD), WP (some .long) 0 Φ (J x3 D4) → Run Γ rg κ Y_L_file 140 [(8, 0), (49, 0), (0, a2), (0, a3), (0, a4), (1, a5), (5, 0), (0, x1), (0, x2), (0, v1), (0, x1), (5, 0)] [(0, x3)] D4 Φ) h ?_ (fun J3 hJ3 h => ?_)
            · intro x3 D4 h
              show Run Γ rg κ Y_L_file 140 [(8, 0), (49, 0), (0, a2), (0, a3), (0, a4), (1, a5), (5, 0), (0, x1), (0, x2), (0, v1), (0, x1), (5, 0)] [(0, x3)] D4 Φ
              refine r_istore d_L_file_140 (by decide) rfl ?_
              show Run Γ rg κ Y_L_file 142 [(8, 0), (49, 0), (0, a2), (0, a3), (0, a4), (1, a5), (5, 0), (0, x1), (0, x2), (0, v1), (0, x1), (0, x3)] [] D4 Φ
              refine r_iload d_L_file_142 rfl ?_
              refine r_iload d_L_file_144 rfl ?_
              refine c_jn (fun J => ∀ (x4 : Int) (D5 : DD), WP (some .long) 0 Φ (J x4 D5) → Run Γ rg κ Y_L_file 155 [(8, 0), (49, 0), (0, a2), (0, a3), (5, 0), (1, a5), (5, 0), (0, x1), (0, x2), (0, v1), (0, x1), (0, x3)] [(0, x4), (0, a4)] D5 Φ) h ?_ (fun J4 hJ4 h => ?_)
              · intro x4 D5 h
                show Run Γ rg κ Y_L_file 155 [(8, 0), (49, 0), (0, a2), (0, a3), (5, 0), (1, a5), (5, 0), (0, x1), (0, x2), (0, v1), (0, x1), (0, x3)] [(0, x4), (0, a4)] D5 Φ
                refine r_iadd d_L_file_155 ?_
                refine c_lt d_L_file_156 (by decide) rfl h (fun x5 h => ?_)
                show Run Γ rg κ Y_L_file 158 [(8, 0), (49, 0), (0, a2), (0, a3), (0, x5), (1, a5), (5, 0), (0, x1), (0, x2), (0, v1), (0, x1), (0, x3)] [] D5 Φ
                refine r_ldc2 d_L_file_158 kl_RL_117 ?_
                refine r_lload d_L_file_161 rfl ?_
                refine r_lmul d_L_file_163 ?_
                refine r_iload d_L_file_164 rfl ?_
                refine c_i2l d_L_file_166 (nz_w _) ?_
                refine r_ladd d_L_file_167 ?_
                refine c_ltj d_L_file_168 (by decide) rfl h (fun x6 h => ?_)
                show Run Γ rg κ Y_L_file 170 [(8, 0), (49, 0), (0, a2), (0, a3), (0, x5), (1, x6), (5, 0), (0, x1), (0, x2), (0, v1), (0, x1), (0, x3)] [] D5 Φ
                refine r_iload d_L_file_170 rfl ?_
                refine c_jn (fun J => ∀ (x7 : Int) (D6 : DD), WP (some .long) 0 Φ (J x7 D6) → Run Γ rg κ Y_L_file 226 [(8, 0), (49, 0), (0, a2), (0, a3), (0, x5), (1, x6), (5, 0), (0, x1), (5, 0), (5, 0), (5, 0), (0, x3)] [(0, x7)] D6 Φ) h ?_ (fun J5 hJ5 h => ?_)
                · intro x7 D6 h
                  show Run Γ rg κ Y_L_file 226 [(8, 0), (49, 0), (0, a2), (0, a3), (0, x5), (1, x6), (5, 0), (0, x1), (5, 0), (5, 0), (5, 0), (0, x3)] [(0, x7)] D6 Φ
                  refine r_istore d_L_file_226 (by decide) rfl ?_
                  show Run Γ rg κ Y_L_file 228 [(8, 0), (49, 0), (0, a2), (0, a3), (0, x5), (1, x6), (5, 0), (0, x1), (0, x7), (5, 0), (5, 0), (0, x3)] [] D6 Φ
                  refine r_iload_n d_L_file_228 rfl ?_
                  refine r_iload d_L_file_229 rfl ?_
                  refine r_iadd d_L_file_231 ?_
                  refine c_lt_n d_L_file_232 (by decide) rfl h (fun x8 h => ?_)
                  show Run Γ rg κ Y_L_file 233 [(8, 0), (49, 0), (0, a2), (0, x8), (0, x5), (1, x6), (5, 0), (0, x1), (0, x7), (5, 0), (5, 0), (0, x3)] [] D6 Φ
                  refine r_goto (tgt := 72) d_L_file_233 (by decide) ?_
                  exact Run.forget (ls' := [(8, 0), (49, 0), (0, a2), (0, x8), (0, x5), (1, x6), (5, 0), (0, x1), (0, x7), (5, 0), (5, 0), (5, 0)]) ⟨Or.inr rfl, Or.inr rfl, Or.inr rfl, Or.inr rfl, Or.inr rfl, Or.inr rfl, Or.inr rfl, Or.inr rfl, Or.inr rfl, Or.inr rfl, Or.inr rfl, Or.inl rfl, trivial⟩ (ih x8 x5 x6 x1 x7 D6 h)
                refine c_jn (fun J => ∀ (D7 : DD), WP (some .long) 0 Φ (J D7) → Run Γ rg κ Y_L_file 225 [(8, 0), (49, 0), (0, a2), (0, a3), (0, x5), (1, x6), (5, 0), (0, x1), (5, 0), (5, 0), (5, 0), (0, x3)] [] D7 Φ) h ?_ (fun J6 hJ6 h => ?_)
                · intro D7 h
                  show Run Γ rg κ Y_L_file 225 [(8, 0), (49, 0), (0, a2), (0, a3), (0, x5), (1, x6), (5, 0), (0, x1), (5, 0), (5, 0), (5, 0), (0, x3)] [] D7 Φ
                  refine r_iconst d_L_file_225 ?_
                  exact (hJ5 0 D7 h)
                refine c_if_eq (tgt := 225) d_L_file_172 (by decide) (nz_w _) h (fun h => ?_) (fun h => ?_)
                · skip
                  exact Run.forget (ls' := [(8, 0), (49, 0), (0, a2), (0, a3), (0, x5), (1, x6), (5, 0), (0, x1), (5, 0), (5, 0), (5, 0), (0, x3)]) ⟨Or.inr rfl, Or.inr rfl, Or.inr rfl, Or.inr rfl, Or.inr rfl, Or.inr rfl, Or.inr rfl, Or.inr rfl, Or.inl rfl, Or.inl rfl, Or.inl rfl, Or.inr rfl, trivial⟩ (hJ6 D5 h)
                · skip
                  show Run Γ rg κ Y_L_file 175 [(8, 0), (49, 0), (0, a2), (0, a3), (0, x5), (1, x6), (5, 0), (0, x1), (0, x2), (0, v1), (0, x1), (0, x3)] [] D5 Φ
                  refine r_iload d_L_file_175 rfl ?_
                  refine r_iconst d_L_file_177 ?_
                  refine c_jn (fun J => ∀ (D8 : DD), WP (some .long) 0 Φ (J D8) → Run Γ rg κ Y_L_file 191 [(8, 0), (49, 0), (0, a2), (0, a3), (0, x5), (1, x6), (5, 0), (0, x1), (5, 0), (5, 0), (0, x1), (0, x3)] [] D8 Φ) h ?_ (fun J7 hJ7 h => ?_)
                  · intro D8 h
                    show Run Γ rg κ Y_L_file 191 [(8, 0), (49, 0), (0, a2), (0, a3), (0, x5), (1, x6), (5, 0), (0, x1), (5, 0), (5, 0), (0, x1), (0, x3)] [] D8 Φ
                    refine r_iload d_L_file_191 rfl ?_
                    refine c_jn (fun J => ∀ (D9 : DD), WP (some .long) 0 Φ (J D9) → Run Γ rg κ Y_L_file 221 [(8, 0), (49, 0), (0, a2), (0, a3), (0, x5), (1, x6), (5, 0), (0, x1), (5, 0), (5, 0), (5, 0), (0, x3)] [] D9 Φ) h ?_ (fun J8 hJ8 h => ?_)
                    · intro D9 h
                      show Run Γ rg κ Y_L_file 221 [(8, 0), (49, 0), (0, a2), (0, a3), (0, x5), (1, x6), (5, 0), (0, x1), (5, 0), (5, 0), (5, 0), (0, x3)] [] D9 Φ
                      refine r_iconst d_L_file_221 ?_
                      refine r_goto (tgt := 226) d_L_file_222 (by decide) ?_
                      exact (hJ5 1 D9 h)
                    refine c_if_ne (tgt := 221) d_L_file_193 (by decide) (nz_w _) h (fun h => ?_) (fun h => ?_)
                    · skip
                      exact Run.forget (ls' := [(8, 0), (49, 0), (0, a2), (0, a3), (0, x5), (1, x6), (5, 0), (0, x1), (5, 0), (5, 0), (5, 0), (0, x3)]) ⟨Or.inr rfl, Or.inr rfl, Or.inr rfl, Or.inr rfl, Or.inr rfl, Or.inr rfl, Or.inr rfl, Or.inr rfl, Or.inr rfl, Or.inr rfl, Or.inl rfl, Or.inr rfl, trivial⟩ (hJ8 D8 h)
                    · skip
                      show Run Γ rg κ Y_L_file 196 [(8, 0), (49, 0), (0, a2), (0, a3), (0, x5), (1, x6), (5, 0), (0, x1), (5, 0), (5, 0), (0, x1), (0, x3)] [] D8 Φ
                      refine r_iload d_L_file_196 rfl ?_
                      refine r_iconst d_L_file_198 ?_
                      refine c_icmp_eq (tgt := 221) d_L_file_199 (by decide) (nz_w _) (nz_k rfl) h (fun h => ?_) (fun h => ?_)
                      · skip
                        exact Run.forget (ls' := [(8, 0), (49, 0), (0, a2), (0, a3), (0, x5), (1, x6), (5, 0), (0, x1), (5, 0), (5, 0), (5, 0), (0, x3)]) ⟨Or.inr rfl, Or.inr rfl, Or.inr rfl, Or.inr rfl, Or.inr rfl, Or.inr rfl, Or.inr rfl, Or.inr rfl, Or.inr rfl, Or.inr rfl, Or.inl rfl, Or.inr rfl, trivial⟩ (hJ8 D8 h)
                      · skip
                        show Run Γ rg κ Y_L_file 202 [(8, 0), (49, 0), (0, a2), (0, a3), (0, x5), (1, x6), (5, 0), (0, x1), (5, 0), (5, 0), (0, x1), (0, x3)] [] D8 Φ
                        refine r_iload d_L_file_202 rfl ?_
                        refine r_iconst d_L_file_204 ?_
                        refine c_icmp_eq (tgt := 221) d_L_file_205 (by decide) (nz_w _) (nz_k rfl) h (fun h => ?_) (fun h => ?_)
                        · skip
                          exact Run.forget (ls' := [(8, 0), (49, 0), (0, a2), (0, a3), (0, x5), (1, x6), (5, 0), (0, x1), (5, 0), (5, 0), (5, 0), (0, x3)]) ⟨Or.inr rfl, Or.inr rfl, Or.inr rfl, Or.inr rfl, Or.inr rfl, Or.inr rfl, Or.inr rfl, Or.inr rfl, Or.inr rfl, Or.inr rfl, Or.inl rfl, Or.inr rfl, trivial⟩ (hJ8 D8 h)
                        · skip
                          show Run Γ rg κ Y_L_file 208 [(8, 0), (49, 0), (0, a2), (0, a3), (0, x5), (1, x6), (5, 0), (0, x1), (5, 0), (5, 0), (0, x1), (0, x3)] [] D8 Φ
                          refine r_iload d_L_file_208 rfl ?_
                          refine r_iconst d_L_file_210 ?_
                          refine c_icmp_le (tgt := 225) d_L_file_211 (by decide) (nz_w _) (nz_k rfl) h (fun h => ?_) (fun h => ?_)
                          · skip
                            exact Run.forget (ls' := [(8, 0), (49, 0), (0, a2), (0, a3), (0, x5), (1, x6), (5, 0), (0, x1), (5, 0), (5, 0), (5, 0), (0, x3)]) ⟨Or.inr rfl, Or.inr rfl, Or.inr rfl, Or.inr rfl, Or.inr rfl, Or.inr rfl, Or.inr rfl, Or.inr rfl, Or.inr rfl, Or.inr rfl, Or.inl rfl, Or.inr rfl, trivial⟩ (hJ6 D8 h)
                          · skip
                            show Run Γ rg κ Y_L_file 214 [(8, 0), (49, 0), (0, a2), (0, a3), (0, x5), (1, x6), (5, 0), (0, x1), (5, 0), (5, 0), (0, x1), (0, x3)] [] D8 Φ
                            refine r_iload d_L_file_214 rfl ?_
                            refine r_bipush d_L_file_216 (by decide) ?_
                            refine c_icmp_ge (tgt := 225) d_L_file_218 (by decide) (nz_w _) (nz_k rfl) h (fun h => ?_) (fun h => ?_)
                            · skip
                              exact Run.forget (ls' := [(8, 0), (49, 0), (0, a2), (0, a3), (0, x5), (1, x6), (5, 0), (0, x1), (5, 0), (5, 0), (5, 0), (0, x3)]) ⟨Or.inr rfl, Or.inr rfl, Or.inr rfl, Or.inr rfl, Or.inr rfl, Or.inr rfl, Or.inr rfl, Or.inr rfl, Or.inr rfl, Or.inr rfl, Or.inl rfl, Or.inr rfl, trivial⟩ (hJ6 D8 h)
                            · skip
                              exact Run.forget (ls' := [(8, 0), (49, 0), (0, a2), (0, a3), (0, x5), (1, x6), (5, 0), (0, x1), (5, 0), (5, 0), (5, 0), (0, x3)]) ⟨Or.inr rfl, Or.inr rfl, Or.inr rfl, Or.inr rfl, Or.inr rfl, Or.inr rfl, Or.inr rfl, Or.inr rfl, Or.inr rfl, Or.inr rfl, Or.inl rfl, Or.inr rfl, trivial⟩ (hJ8 D8 h)
                  refine c_icmp_eq (tgt := 191) d_L_file_178 (by decide) (nz_w _) (nz_k rfl) h (fun h => ?_) (fun h => ?_)
                  · skip
                    exact Run.forget (ls' := [(8, 0), (49, 0), (0, a2), (0, a3), (0, x5), (1, x6), (5, 0), (0, x1), (5, 0), (5, 0), (0, x1), (0, x3)]) ⟨Or.inr rfl, Or.inr rfl, Or.inr rfl, Or.inr rfl, Or.inr rfl, Or.inr rfl, Or.inr rfl, Or.inr rfl, Or.inl rfl, Or.inl rfl, Or.inr rfl, Or.inr rfl, trivial⟩ (hJ7 D5 h)
                  · skip
                    show Run Γ rg κ Y_L_file 181 [(8, 0), (49, 0), (0, a2), (0, a3), (0, x5), (1, x6), (5, 0), (0, x1), (0, x2), (0, v1), (0, x1), (0, x3)] [] D5 Φ
                    refine r_aload_n d_L_file_181 rfl (by decide) ?_
                    refine r_iload_n d_L_file_182 rfl ?_
                    refine r_iconst d_L_file_183 ?_
                    refine r_iadd d_L_file_184 ?_
                    refine c_callVi0 (t' := (some .int)) (a := 0) (z := 0) (as := [(0, (a3 + 1))]) (rest := []) (ls' := [(8, 0), (0, (a3 + 1))]) d_L_file_185 ck_RL_73 rfl sh_0 rfl (by decide) (R 0 rfl) rfl rfl (Nat.le_of_ble_eq_true rfl) (Nat.le_of_ble_eq_true rfl) (by decide) rfl rfl (fun _ => rfl) (fun κ' Ψ hΨ => run_pH_cell (cov20 R) _ hΨ) h (fun v2 D10 h => ?_)
                    show Run Γ rg κ Y_L_file 188 [(8, 0), (49, 0), (0, a2), (0, a3), (0, x5), (1, x6), (5, 0), (0, x1), (0, x2), (0, v1), (0, x1), (0, x3)] [(0, v2)] D10 Φ
                    refine c_if_ne (tgt := 225) d_L_file_188 (by decide) (nz_w _) h (fun h => ?_) (fun h => ?_)
                    · skip
                      exact Run.forget (ls' := [(8, 0), (49, 0), (0, a2), (0, a3), (0, x5), (1, x6), (5, 0), (0, x1), (5, 0), (5, 0), (5, 0), (0, x3)]) ⟨Or.inr rfl, Or.inr rfl, Or.inr rfl, Or.inr rfl, Or.inr rfl, Or.inr rfl, Or.inr rfl, Or.inr rfl, Or.inl rfl, Or.inl rfl, Or.inl rfl, Or.inr rfl, trivial⟩ (hJ6 D10 h)
                    · skip
                      exact Run.forget (ls' := [(8, 0), (49, 0), (0, a2), (0, a3), (0, x5), (1, x6), (5, 0), (0, x1), (5, 0), (5, 0), (0, x1), (0, x3)]) ⟨Or.inr rfl, Or.inr rfl, Or.inr rfl, Or.inr rfl, Or.inr rfl, Or.inr rfl, Or.inr rfl, Or.inr rfl, Or.inl rfl, Or.inl rfl, Or.inr rfl, Or.inr rfl, trivial⟩ (hJ7 D10 h)
              refine c_if_eq (tgt := 153) d_L_file_146 (by decide) (nz_w _) h (fun h => ?_) (fun h => ?_)
              · skip
                show Run Γ rg κ Y_L_file 153 [(8, 0), (49, 0), (0, a2), (0, a3), (0, a4), (1, a5), (5, 0), (0, x1), (0, x2), (0, v1), (0, x1), (0, x3)] [(0, a4)] D4 Φ
                refine r_iload d_L_file_153 rfl ?_
                exact Run.forget (ls' := [(8, 0), (49, 0), (0, a2), (0, a3), (5, 0), (1, a5), (5, 0), (0, x1), (0, x2), (0, v1), (0, x1), (0, x3)]) ⟨Or.inr rfl, Or.inr rfl, Or.inr rfl, Or.inr rfl, Or.inl rfl, Or.inr rfl, Or.inr rfl, Or.inr rfl, Or.inr rfl, Or.inr rfl, Or.inr rfl, Or.inr rfl, trivial⟩ (hJ4 x3 D4 h)
              · skip
                show Run Γ rg κ Y_L_file 149 [(8, 0), (49, 0), (0, a2), (0, a3), (0, a4), (1, a5), (5, 0), (0, x1), (0, x2), (0, v1), (0, x1), (0, x3)] [(0, a4)] D4 Φ
                refine r_iconst d_L_file_149 ?_
                refine r_goto (tgt := 155) d_L_file_150 (by decide) ?_
                exact Run.forget (ls' := [(8, 0), (49, 0), (0, a2), (0, a3), (5, 0), (1, a5), (5, 0), (0, x1), (0, x2), (0, v1), (0, x1), (0, x3)]) ⟨Or.inr rfl, Or.inr rfl, Or.inr rfl, Or.inr rfl, Or.inl rfl, Or.inr rfl, Or.inr rfl, Or.inr rfl, Or.inr rfl, Or.inr rfl, Or.inr rfl, Or.inr rfl, trivial⟩ (hJ4 0 D4 h)
            refine c_if_eq (tgt := 138) d_L_file_129 (by decide) (nz_w _) h (fun h => ?_) (fun h => ?_)
            · skip
              show Run Γ rg κ Y_L_file 138 [(8, 0), (49, 0), (0, a2), (0, a3), (0, a4), (1, a5), (5, 0), (0, x1), (0, x2), (0, v1), (0, x1), (5, 0)] [] D3 Φ
              refine r_iload d_L_file_138 rfl ?_
              exact (hJ3 v1 D3 h)
            · skip
              show Run Γ rg κ Y_L_file 132 [(8, 0), (49, 0), (0, a2), (0, a3), (0, a4), (1, a5), (5, 0), (0, x1), (0, x2), (0, v1), (0, x1), (5, 0)] [] D3 Φ
              refine r_iload d_L_file_132 rfl ?_
              refine r_ineg d_L_file_134 ?_
              refine r_goto (tgt := 140) d_L_file_135 (by decide) ?_
              exact (hJ3 (-v1) D3 h)
          refine c_jn (fun J => ∀ (D11 : DD), WP (some .long) 0 Φ (J D11) → Run Γ rg κ Y_L_file 120 [(8, 0), (49, 0), (0, a2), (0, a3), (0, a4), (1, a5), (5, 0), (5, 0), (5, 0), (0, v1), (0, x1), (5, 0)] [] D11 Φ) h ?_ (fun J9 hJ9 h => ?_)
          · intro D11 h
            show Run Γ rg κ Y_L_file 120 [(8, 0), (49, 0), (0, a2), (0, a3), (0, a4), (1, a5), (5, 0), (5, 0), (5, 0), (0, v1), (0, x1), (5, 0)] [] D11 Φ
            refine r_iconst d_L_file_120 ?_
            exact (hJ2 0 D11 h)
          refine c_if_eq (tgt := 120) d_L_file_103 (by decide) (nz_w _) h (fun h => ?_) (fun h => ?_)
          · skip
            exact Run.forget (ls' := [(8, 0), (49, 0), (0, a2), (0, a3), (0, a4), (1, a5), (5, 0), (5, 0), (5, 0), (0, v1), (0, x1), (5, 0)]) ⟨Or.inr rfl, Or.inr rfl, Or.inr rfl, Or.inr rfl, Or.inr rfl, Or.inr rfl, Or.inr rfl, Or.inl rfl, Or.inr rfl, Or.inr rfl, Or.inr rfl, Or.inr rfl, trivial⟩ (hJ9 D2 h)
          · skip
            show Run Γ rg κ Y_L_file 106 [(8, 0), (49, 0), (0, a2), (0, a3), (0, a4), (1, a5), (5, 0), (0, a7), (5, 0), (0, v1), (0, x1), (5, 0)] [] D2 Φ
            refine r_iload d_L_file_106 rfl ?_
            refine c_jn (fun J => ∀ (D12 : DD), WP (some .long) 0 Φ (J D12) → Run Γ rg κ Y_L_file 116 [(8, 0), (49, 0), (0, a2), (0, a3), (0, a4), (1, a5), (5, 0), (5, 0), (5, 0), (0, v1), (0, x1), (5, 0)] [] D12 Φ) h ?_ (fun J10 hJ10 h => ?_)
            · intro D12 h
              show Run Γ rg κ Y_L_file 116 [(8, 0), (49, 0), (0, a2), (0, a3), (0, a4), (1, a5), (5, 0), (5, 0), (5, 0), (0, v1), (0, x1), (5, 0)] [] D12 Φ
              refine r_iconst d_L_file_116 ?_
              refine r_goto (tgt := 121) d_L_file_117 (by decide) ?_
              exact (hJ2 1 D12 h)
            refine c_if_eq (tgt := 116) d_L_file_108 (by decide) (nz_w _) h (fun h => ?_) (fun h => ?_)
            · skip
              exact Run.forget (ls' := [(8, 0), (49, 0), (0, a2), (0, a3), (0, a4), (1, a5), (5, 0), (5, 0), (5, 0), (0, v1), (0, x1), (5, 0)]) ⟨Or.inr rfl, Or.inr rfl, Or.inr rfl, Or.inr rfl, Or.inr rfl, Or.inr rfl, Or.inr rfl, Or.inl rfl, Or.inr rfl, Or.inr rfl, Or.inr rfl, Or.inr rfl, trivial⟩ (hJ10 D2 h)
            · skip
              show Run Γ rg κ Y_L_file 111 [(8, 0), (49, 0), (0, a2), (0, a3), (0, a4), (1, a5), (5, 0), (0, a7), (5, 0), (0, v1), (0, x1), (5, 0)] [] D2 Φ
              refine r_iload d_L_file_111 rfl ?_
              refine c_if_ne (tgt := 120) d_L_file_113 (by decide) (nz_w _) h (fun h => ?_) (fun h => ?_)
              · skip
                exact Run.forget (ls' := [(8, 0), (49, 0), (0, a2), (0, a3), (0, a4), (1, a5), (5, 0), (5, 0), (5, 0), (0, v1), (0, x1), (5, 0)]) ⟨Or.inr rfl, Or.inr rfl, Or.inr rfl, Or.inr rfl, Or.inr rfl, Or.inr rfl, Or.inr rfl, Or.inl rfl, Or.inr rfl, Or.inr rfl, Or.inr rfl, Or.inr rfl, trivial⟩ (hJ9 D2 h)
              · skip
                exact Run.forget (ls' := [(8, 0), (49, 0), (0, a2), (0, a3), (0, a4), (1, a5), (5, 0), (5, 0), (5, 0), (0, v1), (0, x1), (5, 0)]) ⟨Or.inr rfl, Or.inr rfl, Or.inr rfl, Or.inr rfl, Or.inr rfl, Or.inr rfl, Or.inr rfl, Or.inl rfl, Or.inr rfl, Or.inr rfl, Or.inr rfl, Or.inr rfl, trivial⟩ (hJ10 D2 h)
        refine c_if_ge (tgt := 98) d_L_file_91 (by decide) (nz_w _) h (fun h => ?_) (fun h => ?_)
        · skip
          show Run Γ rg κ Y_L_file 98 [(8, 0), (49, 0), (0, a2), (0, a3), (0, a4), (1, a5), (5, 0), (0, a7), (0, a8), (0, v1), (5, 0), (5, 0)] [] D1 Φ
          refine r_iconst d_L_file_98 ?_
          exact Run.forget (ls' := [(8, 0), (49, 0), (0, a2), (0, a3), (0, a4), (1, a5), (5, 0), (0, a7), (5, 0), (0, v1), (5, 0), (5, 0)]) ⟨Or.inr rfl, Or.inr rfl, Or.inr rfl, Or.inr rfl, Or.inr rfl, Or.inr rfl, Or.inr rfl, Or.inr rfl, Or.inl rfl, Or.inr rfl, Or.inr rfl, Or.inr rfl, trivial⟩ (hJ1 0 D1 h)
        · skip
          show Run Γ rg κ Y_L_file 94 [(8, 0), (49, 0), (0, a2), (0, a3), (0, a4), (1, a5), (5, 0), (0, a7), (0, a8), (0, v1), (5, 0), (5, 0)] [] D1 Φ
          refine r_iconst d_L_file_94 ?_
          refine r_goto (tgt := 99) d_L_file_95 (by decide) ?_
          exact Run.forget (ls' := [(8, 0), (49, 0), (0, a2), (0, a3), (0, a4), (1, a5), (5, 0), (0, a7), (5, 0), (0, v1), (5, 0), (5, 0)]) ⟨Or.inr rfl, Or.inr rfl, Or.inr rfl, Or.inr rfl, Or.inr rfl, Or.inr rfl, Or.inr rfl, Or.inr rfl, Or.inl rfl, Or.inr rfl, Or.inr rfl, Or.inr rfl, trivial⟩ (hJ1 1 D1 h)
set_option maxRecDepth 20000 in
theorem run_pE_file {Γ : GG} {rg : Nat → Bool} {κ : Nat} {Φ : OT → DD → Prop} (R : cov rg rg2) {D : DD} (h : WP (some .long) 0 Φ (pE_file D)) : Run Γ rg (0 + 2) Y_L_file 0 [(8, 0), (49, 0), (5, 0), (5, 0), (5, 0), (5, 0), (5, 0), (5, 0), (5, 0), (5, 0), (5, 0), (5, 0)] [] D Φ := by
  unfold pE_file at h
  show Run Γ rg (0 + 2) Y_L_file 0 [(8, 0), (49, 0), (5, 0), (5, 0), (5, 0), (5, 0), (5, 0), (5, 0), (5, 0), (5, 0), (5, 0), (5, 0)] [] D Φ
  refine r_bipush d_L_file_0 (by decide) ?_
  refine r_aload_n d_L_file_2 rfl (by decide) ?_
  refine c_callVPi (a := 0) (z := 0) (as := []) (rest := [(0, 16)]) (ls' := [(8, 0)]) d_L_file_3 ck_RL_108 rfl sh_0 rfl (by decide) (R 0 rfl) rfl rfl (Nat.le_of_ble_eq_true rfl) (Nat.le_of_ble_eq_true rfl) (by decide) rfl rfl (fun Ψ hΨ => run_pH_sectors (cov20 R) rfl hΨ) ?_
  show Run Γ rg (0 + 2) Y_L_file 6 [(8, 0), (49, 0), (5, 0), (5, 0), (5, 0), (5, 0), (5, 0), (5, 0), (5, 0), (5, 0), (5, 0), (5, 0)] [(0, (pH_sectors D)), (0, 16)] D Φ
  refine r_imul d_L_file_6 ?_
  refine c_lt_n d_L_file_7 (by decide) rfl h (fun x1 h => ?_)
  show Run Γ rg (0 + 2) Y_L_file 8 [(8, 0), (49, 0), (0, x1), (5, 0), (5, 0), (5, 0), (5, 0), (5, 0), (5, 0), (5, 0), (5, 0), (5, 0)] [] D Φ
  refine r_iconst d_L_file_8 ?_
  refine r_istore_n d_L_file_9 (by decide) rfl ?_
  show Run Γ rg (0 + 2) Y_L_file 10 [(8, 0), (49, 0), (0, x1), (0, 4), (5, 0), (5, 0), (5, 0), (5, 0), (5, 0), (5, 0), (5, 0), (5, 0)] [] D Φ
  refine r_iconst d_L_file_10 ?_
  refine r_istore d_L_file_11 (by decide) rfl ?_
  show Run Γ rg (0 + 2) Y_L_file 13 [(8, 0), (49, 0), (0, x1), (0, 4), (0, 0), (5, 0), (5, 0), (5, 0), (5, 0), (5, 0), (5, 0), (5, 0)] [] D Φ
  refine r_ldc2 d_L_file_13 kl_RL_111 ?_
  refine r_aload_n d_L_file_16 rfl (by decide) ?_
  show Run Γ rg (0 + 2) Y_L_file 17 [(8, 0), (49, 0), (0, x1), (0, 4), (0, 0), (5, 0), (5, 0), (5, 0), (5, 0), (5, 0), (5, 0), (5, 0)] [(8, 0), (1, 7)] D Φ
  refine c_callVPi (a := 0) (z := 0) (as := []) (rest := [(1, 7)]) (ls' := [(8, 0)]) d_L_file_17 ck_RL_108 rfl sh_0 rfl (by decide) (R 0 rfl) rfl rfl (Nat.le_of_ble_eq_true rfl) (Nat.le_of_ble_eq_true rfl) (by decide) rfl rfl (fun Ψ hΨ => run_pH_sectors (cov20 R) rfl hΨ) ?_
  show Run Γ rg (0 + 2) Y_L_file 20 [(8, 0), (49, 0), (0, x1), (0, 4), (0, 0), (5, 0), (5, 0), (5, 0), (5, 0), (5, 0), (5, 0), (5, 0)] [(0, (pH_sectors D)), (1, 7)] D Φ
  refine c_i2l d_L_file_20 (nz_w _) ?_
  refine r_ladd d_L_file_21 ?_
  refine c_ltj d_L_file_22 (by decide) rfl h (fun x2 h => ?_)
  show Run Γ rg (0 + 2) Y_L_file 24 [(8, 0), (49, 0), (0, x1), (0, 4), (0, 0), (1, x2), (5, 0), (5, 0), (5, 0), (5, 0), (5, 0), (5, 0)] [] D Φ
  refine r_iconst d_L_file_24 ?_
  refine r_istore d_L_file_25 (by decide) rfl ?_
  show Run Γ rg (0 + 2) Y_L_file 27 [(8, 0), (49, 0), (0, x1), (0, 4), (0, 0), (1, x2), (5, 0), (0, 0), (5, 0), (5, 0), (5, 0), (5, 0)] [] D Φ
  refine r_aload_n d_L_file_27 rfl (by decide) ?_
  refine r_bipush d_L_file_28 (by decide) ?_
  refine r_iload_n d_L_file_30 rfl ?_
  refine r_iconst d_L_file_31 ?_
  refine r_iconst d_L_file_32 ?_
  refine c_callHi (as := [(8, 0), (0, 6), (0, x1), (0, 0), (0, 0)]) (rest := []) (ls' := [(8, 0), (0, 6), (0, x1), (0, 0), (0, 0), (5, 0)]) d_L_file_33 ck_RL_113 rfl rfl rfl (Nat.le_of_ble_eq_true rfl) (Nat.le_of_ble_eq_true rfl) (by decide) rfl rfl (fun Ψ hΨ => run_pE_asks (κ := 0) R _ _ _ _ hΨ) h (fun v1 D1 h => ?_)
  show Run Γ rg (0 + 1) Y_L_file 36 [(8, 0), (49, 0), (0, x1), (0, 4), (0, 0), (1, x2), (5, 0), (0, 0), (5, 0), (5, 0), (5, 0), (5, 0)] [(0, v1)] D1 Φ
  show Run Γ rg (0 + 1) Y_L_file 36 [(8, 0), (49, 0), (0, x1), (0, 4), (0, 0), (1, x2), (5, 0), (0, 0), (5, 0), (5, 0), (5, 0), (5, 0)] [(0, v1)] D1 Φ
  refine r_sipush d_L_file_36 (by decide) ?_
  refine c_jn (fun J => ∀ (x3 : Int) (D2 : DD), WP (some .long) 0 Φ (J x3 D2) → Run Γ rg 0 Y_L_file 70 [(8, 0), (49, 0), (0, x1), (0, 4), (0, 0), (1, x2), (5, 0), (0, 0), (5, 0), (5, 0), (5, 0), (5, 0)] [(0, x3)] D2 Φ) h ?_ (fun J1 hJ1 h => ?_)
  · intro x3 D2 h
    show Run Γ rg 0 Y_L_file 70 [(8, 0), (49, 0), (0, x1), (0, 4), (0, 0), (1, x2), (5, 0), (0, 0), (5, 0), (5, 0), (5, 0), (5, 0)] [(0, x3)] D2 Φ
    refine r_istore d_L_file_70 (by decide) rfl ?_
    show Run Γ rg 0 Y_L_file 72 [(8, 0), (49, 0), (0, x1), (0, 4), (0, 0), (1, x2), (5, 0), (0, 0), (0, x3), (5, 0), (5, 0), (5, 0)] [] D2 Φ
    refine run_pE_file_72 R x1 ?_ 64 4 0 x2 0 x3 D2 h
    intro x4 x5 x6 x7 D3 h
    show Run Γ rg 0 Y_L_file 236 [(8, 0), (49, 0), (0, x1), (0, x4), (0, x5), (1, x6), (5, 0), (5, 0), (0, x7), (5, 0), (5, 0), (5, 0)] [] D3 Φ
    refine r_aload_n d_L_file_236 rfl (by decide) ?_
    refine r_bipush d_L_file_237 (by decide) ?_
    refine r_iload d_L_file_239 rfl ?_
    refine c_jn (fun J => ∀ (x8 : Int) (D4 : DD), WP (some .long) 0 Φ (J x8 D4) → Run Γ rg 0 Y_L_file 272 [(5, 0), (5, 0), (5, 0), (5, 0), (5, 0), (1, x6), (5, 0), (5, 0), (5, 0), (5, 0), (5, 0), (5, 0)] [(0, x8), (0, 12), (49, 0)] D4 Φ) h ?_ (fun J2 hJ2 h => ?_)
    · intro x8 D4 h
      show Run Γ rg 0 Y_L_file 272 [(5, 0), (5, 0), (5, 0), (5, 0), (5, 0), (1, x6), (5, 0), (5, 0), (5, 0), (5, 0), (5, 0), (5, 0)] [(0, x8), (0, 12), (49, 0)] D4 Φ
      refine c_iast0 (k := 12) d_L_file_272 sh_41 (by decide) (R 41 rfl) (by decide) rfl (by decide) h (fun D5 h => ?_)
      refine r_lload d_L_file_273 rfl ?_
      exact c_lret d_L_file_275 rfl h
    refine c_jn (fun J => ∀ (D6 : DD), WP (some .long) 0 Φ (J D6) → Run Γ rg 0 Y_L_file 271 [(5, 0), (5, 0), (5, 0), (5, 0), (5, 0), (1, x6), (5, 0), (5, 0), (5, 0), (5, 0), (5, 0), (5, 0)] [(0, 12), (49, 0)] D6 Φ) h ?_ (fun J3 hJ3 h => ?_)
    · intro D6 h
      show Run Γ rg 0 Y_L_file 271 [(5, 0), (5, 0), (5, 0), (5, 0), (5, 0), (1, x6), (5, 0), (5, 0), (5, 0), (5, 0), (5, 0), (5, 0)] [(0, 12), (49, 0)] D6 Φ
      refine r_iconst d_L_file_271 ?_
      exact (hJ2 0 D6 h)
    refine c_if_eq (tgt := 271) d_L_file_241 (by decide) (nz_w _) h (fun h => ?_) (fun h => ?_)
    · skip
      exact Run.forget (ls' := [(5, 0), (5, 0), (5, 0), (5, 0), (5, 0), (1, x6), (5, 0), (5, 0), (5, 0), (5, 0), (5, 0), (5, 0)]) ⟨Or.inl rfl, Or.inl rfl, Or.inl rfl, Or.inl rfl, Or.inl rfl, Or.inr rfl, Or.inr rfl, Or.inr rfl, Or.inl rfl, Or.inr rfl, Or.inr rfl, Or.inr rfl, trivial⟩ (hJ3 D3 h)
    · skip
      show Run Γ rg 0 Y_L_file 244 [(8, 0), (49, 0), (0, x1), (0, x4), (0, x5), (1, x6), (5, 0), (5, 0), (0, x7), (5, 0), (5, 0), (5, 0)] [(0, 12), (49, 0)] D3 Φ
      refine r_iload_n d_L_file_244 rfl ?_
      refine r_iload_n d_L_file_245 rfl ?_
      refine c_icmp_ne (tgt := 271) d_L_file_246 (by decide) (nz_w _) (nz_w _) h (fun h => ?_) (fun h => ?_)
      · skip
        exact Run.forget (ls' := [(5, 0), (5, 0), (5, 0), (5, 0), (5, 0), (1, x6), (5, 0), (5, 0), (5, 0), (5, 0), (5, 0), (5, 0)]) ⟨Or.inl rfl, Or.inl rfl, Or.inl rfl, Or.inl rfl, Or.inl rfl, Or.inr rfl, Or.inr rfl, Or.inr rfl, Or.inl rfl, Or.inr rfl, Or.inr rfl, Or.inr rfl, trivial⟩ (hJ3 D3 h)
      · skip
        show Run Γ rg 0 Y_L_file 249 [(8, 0), (49, 0), (0, x1), (0, x4), (0, x5), (1, x6), (5, 0), (5, 0), (0, x7), (5, 0), (5, 0), (5, 0)] [(0, 12), (49, 0)] D3 Φ
        refine r_iload d_L_file_249 rfl ?_
        refine r_aload_n d_L_file_251 rfl (by decide) ?_
        refine c_callVi0 (t' := (some .int)) (a := 0) (z := 0) (as := []) (rest := [(0, x5), (0, 12), (49, 0)]) (ls' := [(8, 0)]) d_L_file_252 ck_RL_119 rfl sh_0 rfl (by decide) (R 0 rfl) rfl rfl (Nat.le_of_ble_eq_true rfl) (Nat.le_of_ble_eq_true rfl) (by decide) rfl rfl (fun _ => rfl) (fun κ' Ψ hΨ => run_pH_used (cov20 R) hΨ) h (fun v2 D7 h => ?_)
        show Run Γ rg 0 Y_L_file 255 [(8, 0), (49, 0), (0, x1), (0, x4), (0, x5), (1, x6), (5, 0), (5, 0), (0, x7), (5, 0), (5, 0), (5, 0)] [(0, v2), (0, x5), (0, 12), (49, 0)] D7 Φ
        refine c_icmp_ne (tgt := 271) d_L_file_255 (by decide) (nz_w _) (nz_w _) h (fun h => ?_) (fun h => ?_)
        · skip
          exact Run.forget (ls' := [(5, 0), (5, 0), (5, 0), (5, 0), (5, 0), (1, x6), (5, 0), (5, 0), (5, 0), (5, 0), (5, 0), (5, 0)]) ⟨Or.inl rfl, Or.inl rfl, Or.inl rfl, Or.inl rfl, Or.inl rfl, Or.inr rfl, Or.inr rfl, Or.inr rfl, Or.inl rfl, Or.inr rfl, Or.inr rfl, Or.inr rfl, trivial⟩ (hJ3 D7 h)
        · skip
          show Run Γ rg 0 Y_L_file 258 [(8, 0), (49, 0), (0, x1), (0, x4), (0, x5), (1, x6), (5, 0), (5, 0), (0, x7), (5, 0), (5, 0), (5, 0)] [(0, 12), (49, 0)] D7 Φ
          refine r_iload d_L_file_258 rfl ?_
          refine r_aload_n d_L_file_260 rfl (by decide) ?_
          refine c_callVi0 (t' := (some .int)) (a := 0) (z := 0) (as := []) (rest := [(0, x5), (0, 12), (49, 0)]) (ls' := [(8, 0), (5, 0), (5, 0), (5, 0), (5, 0)]) d_L_file_261 ck_RL_122 rfl sh_0 rfl (by decide) (R 0 rfl) rfl rfl (Nat.le_of_ble_eq_true rfl) (Nat.le_of_ble_eq_true rfl) (by decide) rfl rfl (fun _ => rfl) (fun κ' Ψ hΨ => run_pH_usedByTree (cov20 R) hΨ) h (fun v3 D8 h => ?_)
          show Run Γ rg 0 Y_L_file 264 [(8, 0), (49, 0), (0, x1), (0, x4), (0, x5), (1, x6), (5, 0), (5, 0), (0, x7), (5, 0), (5, 0), (5, 0)] [(0, v3), (0, x5), (0, 12), (49, 0)] D8 Φ
          refine c_icmp_ne (tgt := 271) d_L_file_264 (by decide) (nz_w _) (nz_w _) h (fun h => ?_) (fun h => ?_)
          · skip
            exact Run.forget (ls' := [(5, 0), (5, 0), (5, 0), (5, 0), (5, 0), (1, x6), (5, 0), (5, 0), (5, 0), (5, 0), (5, 0), (5, 0)]) ⟨Or.inl rfl, Or.inl rfl, Or.inl rfl, Or.inl rfl, Or.inl rfl, Or.inr rfl, Or.inr rfl, Or.inr rfl, Or.inl rfl, Or.inr rfl, Or.inr rfl, Or.inr rfl, trivial⟩ (hJ3 D8 h)
          · skip
            show Run Γ rg 0 Y_L_file 267 [(8, 0), (49, 0), (0, x1), (0, x4), (0, x5), (1, x6), (5, 0), (5, 0), (0, x7), (5, 0), (5, 0), (5, 0)] [(0, 12), (49, 0)] D8 Φ
            refine r_iconst d_L_file_267 ?_
            refine r_goto (tgt := 272) d_L_file_268 (by decide) ?_
            exact Run.forget (ls' := [(5, 0), (5, 0), (5, 0), (5, 0), (5, 0), (1, x6), (5, 0), (5, 0), (5, 0), (5, 0), (5, 0), (5, 0)]) ⟨Or.inl rfl, Or.inl rfl, Or.inl rfl, Or.inl rfl, Or.inl rfl, Or.inr rfl, Or.inr rfl, Or.inr rfl, Or.inl rfl, Or.inr rfl, Or.inr rfl, Or.inr rfl, trivial⟩ (hJ2 1 D8 h)
  refine c_jn (fun J => ∀ (D9 : DD), WP (some .long) 0 Φ (J D9) → Run Γ rg 0 Y_L_file 69 [(8, 0), (49, 0), (0, x1), (0, 4), (0, 0), (1, x2), (5, 0), (0, 0), (5, 0), (5, 0), (5, 0), (5, 0)] [] D9 Φ) h ?_ (fun J4 hJ4 h => ?_)
  · intro D9 h
    show Run Γ rg 0 Y_L_file 69 [(8, 0), (49, 0), (0, x1), (0, 4), (0, 0), (1, x2), (5, 0), (0, 0), (5, 0), (5, 0), (5, 0), (5, 0)] [] D9 Φ
    refine r_iconst d_L_file_69 ?_
    exact (hJ1 0 D9 h)
  refine c_icmp_ne (tgt := 69) d_L_file_39 (by decide) (nz_w _) (nz_k rfl) h (fun h => ?_) (fun h => ?_)
  · skip
    refine Run.mono (κ' := 0) (by omega) (fun _ _ h => h) ?_
    exact (hJ4 D1 h)
  · skip
    show Run Γ rg (0 + 1) Y_L_file 42 [(8, 0), (49, 0), (0, x1), (0, 4), (0, 0), (1, x2), (5, 0), (0, 0), (5, 0), (5, 0), (5, 0), (5, 0)] [] D1 Φ
    refine r_aload_n d_L_file_42 rfl (by decide) ?_
    refine r_bipush d_L_file_43 (by decide) ?_
    refine r_iconst d_L_file_45 ?_
    refine r_iconst d_L_file_46 ?_
    refine r_iconst d_L_file_47 ?_
    refine c_callHi (as := [(8, 0), (0, 6), (0, (-1)), (0, 0), (0, 0)]) (rest := []) (ls' := [(8, 0), (0, 6), (0, (-1)), (0, 0), (0, 0), (5, 0)]) d_L_file_48 ck_RL_113 rfl rfl rfl (Nat.le_of_ble_eq_true rfl) (Nat.le_of_ble_eq_true rfl) (by decide) rfl rfl (fun Ψ hΨ => run_pE_asks (κ := 0) R _ _ _ _ hΨ) h (fun v4 D10 h => ?_)
    show Run Γ rg 0 Y_L_file 51 [(8, 0), (49, 0), (0, x1), (0, 4), (0, 0), (1, x2), (5, 0), (0, 0), (5, 0), (5, 0), (5, 0), (5, 0)] [(0, v4)] D10 Φ
    refine r_sipush d_L_file_51 (by decide) ?_
    refine c_icmp_ne (tgt := 69) d_L_file_54 (by decide) (nz_w _) (nz_k rfl) h (fun h => ?_) (fun h => ?_)
    · skip
      exact (hJ4 D10 h)
    · skip
      show Run Γ rg 0 Y_L_file 57 [(8, 0), (49, 0), (0, x1), (0, 4), (0, 0), (1, x2), (5, 0), (0, 0), (5, 0), (5, 0), (5, 0), (5, 0)] [] D10 Φ
      refine r_aload_n d_L_file_57 rfl (by decide) ?_
      refine r_iconst d_L_file_58 ?_
      refine c_callVi0 (t' := (some .int)) (a := 0) (z := 0) (as := [(0, 0)]) (rest := []) (ls' := [(8, 0), (0, 0)]) d_L_file_59 ck_RL_73 rfl sh_0 rfl (by decide) (R 0 rfl) rfl rfl (Nat.le_of_ble_eq_true rfl) (Nat.le_of_ble_eq_true rfl) (by decide) rfl rfl (fun _ => rfl) (fun κ' Ψ hΨ => run_pH_cell (cov20 R) _ hΨ) h (fun v5 D11 h => ?_)
      show Run Γ rg 0 Y_L_file 62 [(8, 0), (49, 0), (0, x1), (0, 4), (0, 0), (1, x2), (5, 0), (0, 0), (5, 0), (5, 0), (5, 0), (5, 0)] [(0, v5)] D11 Φ
      refine c_if_ne (tgt := 69) d_L_file_62 (by decide) (nz_w _) h (fun h => ?_) (fun h => ?_)
      · skip
        exact (hJ4 D11 h)
      · skip
        show Run Γ rg 0 Y_L_file 65 [(8, 0), (49, 0), (0, x1), (0, 4), (0, 0), (1, x2), (5, 0), (0, 0), (5, 0), (5, 0), (5, 0), (5, 0)] [] D11 Φ
        refine r_iconst d_L_file_65 ?_
        refine r_goto (tgt := 70) d_L_file_66 (by decide) ?_
        exact (hJ1 1 D11 h)
set_option maxRecDepth 20000 in
theorem run_pE_isFile {Γ : GG} {rg : Nat → Bool} {κ : Nat} {Φ : OT → DD → Prop} (R : cov rg rg2) {D : DD} (h : WP (some .boolean) 0 Φ (pE_isFile D)) : Run Γ rg (0 + 2) Y_L_isFile 0 [(8, 0), (49, 0)] [] D Φ := by
  unfold pE_isFile at h
  show Run Γ rg (0 + 2) Y_L_isFile 0 [(8, 0), (49, 0)] [] D Φ
  refine r_aload_n d_L_isFile_0 rfl (by decide) ?_
  refine r_aload_n d_L_isFile_1 rfl (by decide) ?_
  refine c_callSLj (κ1 := (0 + 2)) (κ2 := 0) (as := [(8, 0), (49, 0)]) (rest := []) (ls' := [(8, 0), (49, 0), (5, 0), (5, 0), (5, 0), (5, 0), (5, 0), (5, 0), (5, 0), (5, 0), (5, 0), (5, 0)]) d_L_isFile_2 ck_RL_125 rfl rfl rfl (Nat.le_of_ble_eq_true rfl) (Nat.le_of_ble_eq_true rfl) (by decide) rfl rfl (by omega) (fun Ψ hΨ => run_pE_file (κ := 0) R hΨ) h (fun v1 D1 h => ?_)
  show Run Γ rg 0 Y_L_isFile 5 [(8, 0), (49, 0)] [(1, v1)] D1 Φ
  refine r_pop2 d_L_isFile_5 ?_
  refine r_aload_n d_L_isFile_6 rfl (by decide) ?_
  refine r_bipush d_L_isFile_7 (by decide) ?_
  refine c_iald0 (k := 12) d_L_isFile_9 sh_41 (by decide) (R 41 rfl) (by decide) rfl (by decide) ?_
  refine r_iconst d_L_isFile_10 ?_
  refine c_icmp_ne (tgt := 18) d_L_isFile_11 (by decide) (nz_w _) (nz_k rfl) h (fun h => ?_) (fun h => ?_)
  · skip
    show Run Γ rg 0 Y_L_isFile 18 [(8, 0), (49, 0)] [] D1 Φ
    refine r_iconst d_L_isFile_18 ?_
    exact c_zret d_L_isFile_19 rfl (Or.inl rfl) h
  · skip
    show Run Γ rg 0 Y_L_isFile 14 [(8, 0), (49, 0)] [] D1 Φ
    refine r_iconst d_L_isFile_14 ?_
    refine r_goto (tgt := 19) d_L_isFile_15 (by decide) ?_
    show Run Γ rg 0 Y_L_isFile 19 [(8, 0), (49, 0)] [(0, 1)] D1 Φ
    exact c_zret d_L_isFile_19 rfl (Or.inr rfl) h
set_option maxRecDepth 20000 in
theorem run_pE_isTree_132 {Γ : GG} {rg : Nat → Bool} {κ : Nat} {Φ : OT → DD → Prop} (R : cov rg rg2) (a8 : Int) (c6 : Int) (c9 : Int) {K : Int → DD → Res} (hK : ∀ (z10 : Int) (D : DD), WP (some .boolean) 0 Φ (K z10 D) → Run Γ rg κ Y_L_isTree 175 [(8, 0), (40, 0), (43, 0), (46, 0), (49, 0), (51, 0), (0, c6), (5, 0), (0, a8), (0, c9), (0, z10), (5, 0), (5, 0), (5, 0), (5, 0), (5, 0), (5, 0)] [] D Φ) : ∀ (n : Nat) (a10 : Int) (a11 : Int) (D : DD), WP (some .boolean) 0 Φ (pE_isTree_132 a8 n a10 a11 D K) → Run Γ rg κ Y_L_isTree 132 [(8, 0), (40, 0), (43, 0), (46, 0), (49, 0), (51, 0), (0, c6), (5, 0), (0, a8), (0, c9), (0, a10), (0, a11), (5, 0), (5, 0), (5, 0), (5, 0), (5, 0)] [] D Φ := by
  intro n
  induction n with
  | zero => intro a10 a11 D h; exact h.no.elim
  | succ n ih =>
    intro a10 a11 D h
    rw [pE_isTree_132] at h
    show Run Γ rg κ Y_L_isTree 132 [(8, 0), (40, 0), (43, 0), (46, 0), (49, 0), (51, 0), (0, c6), (5, 0), (0, a8), (0, c9), (0, a10), (0, a11), (5, 0), (5, 0), (5, 0), (5, 0), (5, 0)] [] D Φ
    refine r_iload d_L_isTree_132 rfl ?_
    refine r_bipush d_L_isTree_134 (by decide) ?_
    refine c_icmp_ge (tgt := 175) d_L_isTree_136 (by decide) (nz_w _) (nz_k rfl) h (fun h => ?_) (fun h => ?_)
    · skip
      exact Run.forget (ls' := [(8, 0), (40, 0), (43, 0), (46, 0), (49, 0), (51, 0), (0, c6), (5, 0), (0, a8), (0, c9), (0, a10), (5, 0), (5, 0), (5, 0), (5, 0), (5, 0), (5, 0)]) ⟨Or.inr rfl, Or.inr rfl, Or.inr rfl, Or.inr rfl, Or.inr rfl, Or.inr rfl, Or.inr rfl, Or.inr rfl, Or.inr rfl, Or.inr rfl, Or.inr rfl, Or.inl rfl, Or.inr rfl, Or.inr rfl, Or.inr rfl, Or.inr rfl, Or.inr rfl, trivial⟩ (hK a10 D h)
    · skip
      show Run Γ rg κ Y_L_isTree 139 [(8, 0), (40, 0), (43, 0), (46, 0), (49, 0), (51, 0), (0, c6), (5, 0), (0, a8), (0, c9), (0, a10), (0, a11), (5, 0), (5, 0), (5, 0), (5, 0), (5, 0)] [] D Φ
      refine r_iload d_L_isTree_139 rfl ?_
      refine r_aload_n d_L_isTree_141 rfl (by decide) ?_
      refine r_iload d_L_isTree_142 rfl ?_
      refine c_lald d_L_isTree_144 sh_32 (by decide) (R 32 rfl) (by decide) h (fun v1 h => ?_)
      refine c_lconst d_L_isTree_145 rfl ?_
      refine c_lcmp d_L_isTree_146 ?_
      refine c_jn (fun J => ∀ (x1 : Int) (D1 : DD), WP (some .boolean) 0 Φ (J x1 D1) → Run Γ rg κ Y_L_isTree 166 [(8, 0), (40, 0), (43, 0), (46, 0), (49, 0), (51, 0), (0, c6), (5, 0), (0, a8), (0, c9), (5, 0), (0, a11), (5, 0), (5, 0), (5, 0), (5, 0), (5, 0)] [(0, x1), (0, a10)] D1 Φ) h ?_ (fun J1 hJ1 h => ?_)
      · intro x1 D1 h
        show Run Γ rg κ Y_L_isTree 166 [(8, 0), (40, 0), (43, 0), (46, 0), (49, 0), (51, 0), (0, c6), (5, 0), (0, a8), (0, c9), (5, 0), (0, a11), (5, 0), (5, 0), (5, 0), (5, 0), (5, 0)] [(0, x1), (0, a10)] D1 Φ
        refine r_iadd d_L_isTree_166 ?_
        refine c_lt d_L_isTree_167 (by decide) rfl h (fun x2 h => ?_)
        show Run Γ rg κ Y_L_isTree 169 [(8, 0), (40, 0), (43, 0), (46, 0), (49, 0), (51, 0), (0, c6), (5, 0), (0, a8), (0, c9), (0, x2), (0, a11), (5, 0), (5, 0), (5, 0), (5, 0), (5, 0)] [] D1 Φ
        refine r_iinc d_L_isTree_169 rfl (by decide) rfl ?_
        show Run Γ rg κ Y_L_isTree 172 [(8, 0), (40, 0), (43, 0), (46, 0), (49, 0), (51, 0), (0, c6), (5, 0), (0, a8), (0, c9), (0, x2), (0, (a11 + 1)), (5, 0), (5, 0), (5, 0), (5, 0), (5, 0)] [] D1 Φ
        refine r_goto (tgt := 132) d_L_isTree_172 (by decide) ?_
        exact (ih x2 (a11 + 1) D1 h)
      refine c_jn (fun J => ∀ (D2 : DD), WP (some .boolean) 0 Φ (J D2) → Run Γ rg κ Y_L_isTree 165 [(8, 0), (40, 0), (43, 0), (46, 0), (49, 0), (51, 0), (0, c6), (5, 0), (0, a8), (0, c9), (5, 0), (0, a11), (5, 0), (5, 0), (5, 0), (5, 0), (5, 0)] [(0, a10)] D2 Φ) h ?_ (fun J2 hJ2 h => ?_)
      · intro D2 h
        show Run Γ rg κ Y_L_isTree 165 [(8, 0), (40, 0), (43, 0), (46, 0), (49, 0), (51, 0), (0, c6), (5, 0), (0, a8), (0, c9), (5, 0), (0, a11), (5, 0), (5, 0), (5, 0), (5, 0), (5, 0)] [(0, a10)] D2 Φ
        refine r_iconst d_L_isTree_165 ?_
        exact (hJ1 0 D2 h)
      refine c_if_le (tgt := 165) d_L_isTree_147 (by decide) (nz_c _ _) h (fun h => ?_) (fun h => ?_)
      · skip
        exact Run.forget (ls' := [(8, 0), (40, 0), (43, 0), (46, 0), (49, 0), (51, 0), (0, c6), (5, 0), (0, a8), (0, c9), (5, 0), (0, a11), (5, 0), (5, 0), (5, 0), (5, 0), (5, 0)]) ⟨Or.inr rfl, Or.inr rfl, Or.inr rfl, Or.inr rfl, Or.inr rfl, Or.inr rfl, Or.inr rfl, Or.inr rfl, Or.inr rfl, Or.inr rfl, Or.inl rfl, Or.inr rfl, Or.inr rfl, Or.inr rfl, Or.inr rfl, Or.inr rfl, Or.inr rfl, trivial⟩ (hJ2 D h)
      · skip
        show Run Γ rg κ Y_L_isTree 150 [(8, 0), (40, 0), (43, 0), (46, 0), (49, 0), (51, 0), (0, c6), (5, 0), (0, a8), (0, c9), (0, a10), (0, a11), (5, 0), (5, 0), (5, 0), (5, 0), (5, 0)] [(0, a10)] D Φ
        refine r_aload_n d_L_isTree_150 rfl (by decide) ?_
        refine r_iload d_L_isTree_151 rfl ?_
        refine c_callSi0 (t' := (some .int)) (as := [(40, 0), (0, a11)]) (rest := [(0, a10)]) (ls' := [(40, 0), (0, a11)]) d_L_isTree_153 ck_RL_96 rfl rfl rfl (Nat.le_of_ble_eq_true rfl) (Nat.le_of_ble_eq_true rfl) (by decide) rfl rfl (fun _ => rfl) (fun κ' Ψ hΨ => run_pE_parent R _ hΨ) h (fun v2 D3 h => ?_)
        show Run Γ rg κ Y_L_isTree 156 [(8, 0), (40, 0), (43, 0), (46, 0), (49, 0), (51, 0), (0, c6), (5, 0), (0, a8), (0, c9), (0, a10), (0, a11), (5, 0), (5, 0), (5, 0), (5, 0), (5, 0)] [(0, v2), (0, a10)] D3 Φ
        refine r_iload d_L_isTree_156 rfl ?_
        refine c_icmp_ne (tgt := 165) d_L_isTree_158 (by decide) (nz_w _) (nz_w _) h (fun h => ?_) (fun h => ?_)
        · skip
          exact Run.forget (ls' := [(8, 0), (40, 0), (43, 0), (46, 0), (49, 0), (51, 0), (0, c6), (5, 0), (0, a8), (0, c9), (5, 0), (0, a11), (5, 0), (5, 0), (5, 0), (5, 0), (5, 0)]) ⟨Or.inr rfl, Or.inr rfl, Or.inr rfl, Or.inr rfl, Or.inr rfl, Or.inr rfl, Or.inr rfl, Or.inr rfl, Or.inr rfl, Or.inr rfl, Or.inl rfl, Or.inr rfl, Or.inr rfl, Or.inr rfl, Or.inr rfl, Or.inr rfl, Or.inr rfl, trivial⟩ (hJ2 D3 h)
        · skip
          show Run Γ rg κ Y_L_isTree 161 [(8, 0), (40, 0), (43, 0), (46, 0), (49, 0), (51, 0), (0, c6), (5, 0), (0, a8), (0, c9), (0, a10), (0, a11), (5, 0), (5, 0), (5, 0), (5, 0), (5, 0)] [(0, a10)] D3 Φ
          refine r_iconst d_L_isTree_161 ?_
          refine r_goto (tgt := 166) d_L_isTree_162 (by decide) ?_
          exact Run.forget (ls' := [(8, 0), (40, 0), (43, 0), (46, 0), (49, 0), (51, 0), (0, c6), (5, 0), (0, a8), (0, c9), (5, 0), (0, a11), (5, 0), (5, 0), (5, 0), (5, 0), (5, 0)]) ⟨Or.inr rfl, Or.inr rfl, Or.inr rfl, Or.inr rfl, Or.inr rfl, Or.inr rfl, Or.inr rfl, Or.inr rfl, Or.inr rfl, Or.inr rfl, Or.inl rfl, Or.inr rfl, Or.inr rfl, Or.inr rfl, Or.inr rfl, Or.inr rfl, Or.inr rfl, trivial⟩ (hJ1 1 D3 h)
set_option maxRecDepth 20000 in
theorem run_pE_isTree_317 {Γ : GG} {rg : Nat → Bool} {κ : Nat} {Φ : OT → DD → Prop} (R : cov rg rg2) (a8 : Int) (a10 : Int) (c6 : Int) {K : Int → DD → Res} (hK : ∀ (z7 : Int) (D : DD), WP (some .boolean) 0 Φ (K z7 D) → Run Γ rg κ Y_L_isTree 446 [(8, 0), (40, 0), (43, 0), (46, 0), (49, 0), (51, 0), (0, c6), (0, z7), (0, a8), (5, 0), (5, 0), (5, 0), (5, 0), (5, 0), (5, 0), (5, 0), (5, 0)] [] D Φ) : ∀ (n : Nat) (a7 : Int) (a13 : Int) (a14 : Int) (D : DD), WP (some .boolean) 0 Φ (pE_isTree_317 a8 a10 n a7 a13 a14 D K) → Run Γ rg κ Y_L_isTree 317 [(8, 0), (40, 0), (43, 0), (46, 0), (49, 0), (51, 0), (0, c6), (0, a7), (0, a8), (5, 0), (0, a10), (5, 0), (5, 0), (0, a13), (0, a14), (5, 0), (5, 0)] [] D Φ := by
  intro n
  induction n with
  | zero => intro a7 a13 a14 D h; exact h.no.elim
  | succ n ih =>
    intro a7 a13 a14 D h
    rw [pE_isTree_317] at h
    show Run Γ rg κ Y_L_isTree 317 [(8, 0), (40, 0), (43, 0), (46, 0), (49, 0), (51, 0), (0, c6), (0, a7), (0, a8), (5, 0), (0, a10), (5, 0), (5, 0), (0, a13), (0, a14), (5, 0), (5, 0)] [] D Φ
    refine r_iload d_L_isTree_317 rfl ?_
    refine r_iload d_L_isTree_319 rfl ?_
    refine c_icmp_ge (tgt := 446) d_L_isTree_321 (by decide) (nz_w _) (nz_w _) h (fun h => ?_) (fun h => ?_)
    · skip
      exact Run.forget (ls' := [(8, 0), (40, 0), (43, 0), (46, 0), (49, 0), (51, 0), (0, c6), (0, a7), (0, a8), (5, 0), (5, 0), (5, 0), (5, 0), (5, 0), (5, 0), (5, 0), (5, 0)]) ⟨Or.inr rfl, Or.inr rfl, Or.inr rfl, Or.inr rfl, Or.inr rfl, Or.inr rfl, Or.inr rfl, Or.inr rfl, Or.inr rfl, Or.inr rfl, Or.inl rfl, Or.inr rfl, Or.inr rfl, Or.inl rfl, Or.inl rfl, Or.inr rfl, Or.inr rfl, trivial⟩ (hK a7 D h)
    · skip
      show Run Γ rg κ Y_L_isTree 324 [(8, 0), (40, 0), (43, 0), (46, 0), (49, 0), (51, 0), (0, c6), (0, a7), (0, a8), (5, 0), (0, a10), (5, 0), (5, 0), (0, a13), (0, a14), (5, 0), (5, 0)] [] D Φ
      refine r_iload d_L_isTree_324 rfl ?_
      refine c_if_eq (tgt := 446) d_L_isTree_326 (by decide) (nz_w _) h (fun h => ?_) (fun h => ?_)
      · skip
        exact Run.forget (ls' := [(8, 0), (40, 0), (43, 0), (46, 0), (49, 0), (51, 0), (0, c6), (0, a7), (0, a8), (5, 0), (5, 0), (5, 0), (5, 0), (5, 0), (5, 0), (5, 0), (5, 0)]) ⟨Or.inr rfl, Or.inr rfl, Or.inr rfl, Or.inr rfl, Or.inr rfl, Or.inr rfl, Or.inr rfl, Or.inr rfl, Or.inr rfl, Or.inr rfl, Or.inl rfl, Or.inr rfl, Or.inr rfl, Or.inl rfl, Or.inl rfl, Or.inr rfl, Or.inr rfl, trivial⟩ (hK a7 D h)
      · skip
        show Run Γ rg κ Y_L_isTree 329 [(8, 0), (40, 0), (43, 0), (46, 0), (49, 0), (51, 0), (0, c6), (0, a7), (0, a8), (5, 0), (0, a10), (5, 0), (5, 0), (0, a13), (0, a14), (5, 0), (5, 0)] [] D Φ
        refine r_aload_n d_L_isTree_329 rfl (by decide) ?_
        refine r_iload d_L_isTree_330 rfl ?_
        refine r_iload d_L_isTree_332 rfl ?_
        refine c_callVi0 (t' := (some .int)) (a := 0) (z := 0) (as := [(0, a8), (0, a14)]) (rest := []) (ls' := [(8, 0), (0, a8), (0, a14), (5, 0)]) d_L_isTree_334 ck_RL_58 rfl sh_0 rfl (by decide) (R 0 rfl) rfl rfl (Nat.le_of_ble_eq_true rfl) (Nat.le_of_ble_eq_true rfl) (by decide) rfl rfl (fun _ => rfl) (fun κ' Ψ hΨ => run_pH_subkeyAt (cov20 R) _ _ hΨ) h (fun v1 D1 h => ?_)
        show Run Γ rg κ Y_L_isTree 337 [(8, 0), (40, 0), (43, 0), (46, 0), (49, 0), (51, 0), (0, c6), (0, a7), (0, a8), (5, 0), (0, a10), (5, 0), (5, 0), (0, a13), (0, a14), (5, 0), (5, 0)] [(0, v1)] D1 Φ
        refine r_istore d_L_isTree_337 (by decide) rfl ?_
        show Run Γ rg κ Y_L_isTree 339 [(8, 0), (40, 0), (43, 0), (46, 0), (49, 0), (51, 0), (0, c6), (0, a7), (0, a8), (5, 0), (0, a10), (5, 0), (5, 0), (0, a13), (0, a14), (0, v1), (5, 0)] [] D1 Φ
        refine r_aload_n d_L_isTree_339 rfl (by decide) ?_
        refine r_iload d_L_isTree_340 rfl ?_
        refine c_callSi0 (t' := (some .boolean)) (as := [(40, 0), (0, v1)]) (rest := []) (ls' := [(40, 0), (0, v1)]) d_L_isTree_342 ck_RL_133 rfl rfl rfl (Nat.le_of_ble_eq_true rfl) (Nat.le_of_ble_eq_true rfl) (by decide) rfl rfl (fun _ => rfl) (fun κ' Ψ hΨ => run_pE_isKey R _ hΨ) h (fun v2 D2 h => ?_)
        show Run Γ rg κ Y_L_isTree 345 [(8, 0), (40, 0), (43, 0), (46, 0), (49, 0), (51, 0), (0, c6), (0, a7), (0, a8), (5, 0), (0, a10), (5, 0), (5, 0), (0, a13), (0, a14), (0, v1), (5, 0)] [(0, v2)] D2 Φ
        refine c_jn (fun J => ∀ (x1 : Int) (D3 : DD), WP (some .boolean) 0 Φ (J x1 D3) → Run Γ rg κ Y_L_isTree 381 [(8, 0), (40, 0), (43, 0), (46, 0), (49, 0), (51, 0), (0, c6), (5, 0), (0, a8), (5, 0), (0, a10), (5, 0), (5, 0), (0, a13), (0, a14), (0, v1), (5, 0)] [(0, x1)] D3 Φ) h ?_ (fun J1 hJ1 h => ?_)
        · intro x1 D3 h
          show Run Γ rg κ Y_L_isTree 381 [(8, 0), (40, 0), (43, 0), (46, 0), (49, 0), (51, 0), (0, c6), (5, 0), (0, a8), (5, 0), (0, a10), (5, 0), (5, 0), (0, a13), (0, a14), (0, v1), (5, 0)] [(0, x1)] D3 Φ
          refine r_istore d_L_isTree_381 (by decide) rfl ?_
          show Run Γ rg κ Y_L_isTree 383 [(8, 0), (40, 0), (43, 0), (46, 0), (49, 0), (51, 0), (0, c6), (0, x1), (0, a8), (5, 0), (0, a10), (5, 0), (5, 0), (0, a13), (0, a14), (0, v1), (5, 0)] [] D3 Φ
          refine r_iload d_L_isTree_383 rfl ?_
          refine c_jn (fun J => ∀ (x2 : Int) (D4 : DD), WP (some .boolean) 0 Φ (J x2 D4) → Run Γ rg κ Y_L_isTree 415 [(8, 0), (40, 0), (43, 0), (46, 0), (49, 0), (51, 0), (0, c6), (0, x1), (0, a8), (5, 0), (0, a10), (5, 0), (5, 0), (0, a13), (0, a14), (5, 0), (5, 0)] [(0, x2)] D4 Φ) h ?_ (fun J2 hJ2 h => ?_)
          · intro x2 D4 h
            show Run Γ rg κ Y_L_isTree 415 [(8, 0), (40, 0), (43, 0), (46, 0), (49, 0), (51, 0), (0, c6), (0, x1), (0, a8), (5, 0), (0, a10), (5, 0), (5, 0), (0, a13), (0, a14), (5, 0), (5, 0)] [(0, x2)] D4 Φ
            refine r_istore d_L_isTree_415 (by decide) rfl ?_
            show Run Γ rg κ Y_L_isTree 417 [(8, 0), (40, 0), (43, 0), (46, 0), (49, 0), (51, 0), (0, c6), (0, x1), (0, a8), (5, 0), (0, a10), (5, 0), (5, 0), (0, a13), (0, a14), (5, 0), (0, x2)] [] D4 Φ
            refine r_iload d_L_isTree_417 rfl ?_
            refine c_jn (fun J => ∀ (x3 : Int) (D5 : DD), WP (some .boolean) 0 Φ (J x3 D5) → Run Γ rg κ Y_L_isTree 434 [(8, 0), (40, 0), (43, 0), (46, 0), (49, 0), (51, 0), (0, c6), (5, 0), (0, a8), (5, 0), (0, a10), (5, 0), (5, 0), (5, 0), (0, a14), (5, 0), (0, x2)] [(0, x3)] D5 Φ) h ?_ (fun J3 hJ3 h => ?_)
            · intro x3 D5 h
              show Run Γ rg κ Y_L_isTree 434 [(8, 0), (40, 0), (43, 0), (46, 0), (49, 0), (51, 0), (0, c6), (5, 0), (0, a8), (5, 0), (0, a10), (5, 0), (5, 0), (5, 0), (0, a14), (5, 0), (0, x2)] [(0, x3)] D5 Φ
              refine r_istore d_L_isTree_434 (by decide) rfl ?_
              show Run Γ rg κ Y_L_isTree 436 [(8, 0), (40, 0), (43, 0), (46, 0), (49, 0), (51, 0), (0, c6), (0, x3), (0, a8), (5, 0), (0, a10), (5, 0), (5, 0), (5, 0), (0, a14), (5, 0), (0, x2)] [] D5 Φ
              refine r_iload d_L_isTree_436 rfl ?_
              refine r_istore d_L_isTree_438 (by decide) rfl ?_
              show Run Γ rg κ Y_L_isTree 440 [(8, 0), (40, 0), (43, 0), (46, 0), (49, 0), (51, 0), (0, c6), (0, x3), (0, a8), (5, 0), (0, a10), (5, 0), (5, 0), (0, x2), (0, a14), (5, 0), (0, x2)] [] D5 Φ
              refine r_iinc d_L_isTree_440 rfl (by decide) rfl ?_
              show Run Γ rg κ Y_L_isTree 443 [(8, 0), (40, 0), (43, 0), (46, 0), (49, 0), (51, 0), (0, c6), (0, x3), (0, a8), (5, 0), (0, a10), (5, 0), (5, 0), (0, x2), (0, (a14 + 1)), (5, 0), (0, x2)] [] D5 Φ
              refine r_goto (tgt := 317) d_L_isTree_443 (by decide) ?_
              exact Run.forget (ls' := [(8, 0), (40, 0), (43, 0), (46, 0), (49, 0), (51, 0), (0, c6), (0, x3), (0, a8), (5, 0), (0, a10), (5, 0), (5, 0), (0, x2), (0, (a14 + 1)), (5, 0), (5, 0)]) ⟨Or.inr rfl, Or.inr rfl, Or.inr rfl, Or.inr rfl, Or.inr rfl, Or.inr rfl, Or.inr rfl, Or.inr rfl, Or.inr rfl, Or.inr rfl, Or.inr rfl, Or.inr rfl, Or.inr rfl, Or.inr rfl, Or.inr rfl, Or.inr rfl, Or.inl rfl, trivial⟩ (ih x3 x2 (a14 + 1) D5 h)
            refine c_jn (fun J => ∀ (D6 : DD), WP (some .boolean) 0 Φ (J D6) → Run Γ rg κ Y_L_isTree 433 [(8, 0), (40, 0), (43, 0), (46, 0), (49, 0), (51, 0), (0, c6), (5, 0), (0, a8), (5, 0), (0, a10), (5, 0), (5, 0), (5, 0), (0, a14), (5, 0), (0, x2)] [] D6 Φ) h ?_ (fun J4 hJ4 h => ?_)
            · intro D6 h
              show Run Γ rg κ Y_L_isTree 433 [(8, 0), (40, 0), (43, 0), (46, 0), (49, 0), (51, 0), (0, c6), (5, 0), (0, a8), (5, 0), (0, a10), (5, 0), (5, 0), (5, 0), (0, a14), (5, 0), (0, x2)] [] D6 Φ
              refine r_iconst d_L_isTree_433 ?_
              exact (hJ3 0 D6 h)
            refine c_if_eq (tgt := 433) d_L_isTree_419 (by decide) (nz_w _) h (fun h => ?_) (fun h => ?_)
            · skip
              exact Run.forget (ls' := [(8, 0), (40, 0), (43, 0), (46, 0), (49, 0), (51, 0), (0, c6), (5, 0), (0, a8), (5, 0), (0, a10), (5, 0), (5, 0), (5, 0), (0, a14), (5, 0), (0, x2)]) ⟨Or.inr rfl, Or.inr rfl, Or.inr rfl, Or.inr rfl, Or.inr rfl, Or.inr rfl, Or.inr rfl, Or.inl rfl, Or.inr rfl, Or.inr rfl, Or.inr rfl, Or.inr rfl, Or.inr rfl, Or.inl rfl, Or.inr rfl, Or.inr rfl, Or.inr rfl, trivial⟩ (hJ4 D4 h)
            · skip
              show Run Γ rg κ Y_L_isTree 422 [(8, 0), (40, 0), (43, 0), (46, 0), (49, 0), (51, 0), (0, c6), (0, x1), (0, a8), (5, 0), (0, a10), (5, 0), (5, 0), (0, a13), (0, a14), (5, 0), (0, x2)] [] D4 Φ
              refine r_iload d_L_isTree_422 rfl ?_
              refine r_iload d_L_isTree_424 rfl ?_
              refine c_icmp_le (tgt := 433) d_L_isTree_426 (by decide) (nz_w _) (nz_w _) h (fun h => ?_) (fun h => ?_)
              · skip
                exact Run.forget (ls' := [(8, 0), (40, 0), (43, 0), (46, 0), (49, 0), (51, 0), (0, c6), (5, 0), (0, a8), (5, 0), (0, a10), (5, 0), (5, 0), (5, 0), (0, a14), (5, 0), (0, x2)]) ⟨Or.inr rfl, Or.inr rfl, Or.inr rfl, Or.inr rfl, Or.inr rfl, Or.inr rfl, Or.inr rfl, Or.inl rfl, Or.inr rfl, Or.inr rfl, Or.inr rfl, Or.inr rfl, Or.inr rfl, Or.inl rfl, Or.inr rfl, Or.inr rfl, Or.inr rfl, trivial⟩ (hJ4 D4 h)
              · skip
                show Run Γ rg κ Y_L_isTree 429 [(8, 0), (40, 0), (43, 0), (46, 0), (49, 0), (51, 0), (0, c6), (0, x1), (0, a8), (5, 0), (0, a10), (5, 0), (5, 0), (0, a13), (0, a14), (5, 0), (0, x2)] [] D4 Φ
                refine r_iconst d_L_isTree_429 ?_
                refine r_goto (tgt := 434) d_L_isTree_430 (by decide) ?_
                exact Run.forget (ls' := [(8, 0), (40, 0), (43, 0), (46, 0), (49, 0), (51, 0), (0, c6), (5, 0), (0, a8), (5, 0), (0, a10), (5, 0), (5, 0), (5, 0), (0, a14), (5, 0), (0, x2)]) ⟨Or.inr rfl, Or.inr rfl, Or.inr rfl, Or.inr rfl, Or.inr rfl, Or.inr rfl, Or.inr rfl, Or.inl rfl, Or.inr rfl, Or.inr rfl, Or.inr rfl, Or.inr rfl, Or.inr rfl, Or.inl rfl, Or.inr rfl, Or.inr rfl, Or.inr rfl, trivial⟩ (hJ3 1 D4 h)
          refine c_if_eq (tgt := 414) d_L_isTree_385 (by decide) (nz_w _) h (fun h => ?_) (fun h => ?_)
          · skip
            show Run Γ rg κ Y_L_isTree 414 [(8, 0), (40, 0), (43, 0), (46, 0), (49, 0), (51, 0), (0, c6), (0, x1), (0, a8), (5, 0), (0, a10), (5, 0), (5, 0), (0, a13), (0, a14), (0, v1), (5, 0)] [] D3 Φ
            refine r_iconst d_L_isTree_414 ?_
            exact Run.forget (ls' := [(8, 0), (40, 0), (43, 0), (46, 0), (49, 0), (51, 0), (0, c6), (0, x1), (0, a8), (5, 0), (0, a10), (5, 0), (5, 0), (0, a13), (0, a14), (5, 0), (5, 0)]) ⟨Or.inr rfl, Or.inr rfl, Or.inr rfl, Or.inr rfl, Or.inr rfl, Or.inr rfl, Or.inr rfl, Or.inr rfl, Or.inr rfl, Or.inr rfl, Or.inr rfl, Or.inr rfl, Or.inr rfl, Or.inr rfl, Or.inr rfl, Or.inl rfl, Or.inr rfl, trivial⟩ (hJ2 0 D3 h)
          · skip
            show Run Γ rg κ Y_L_isTree 388 [(8, 0), (40, 0), (43, 0), (46, 0), (49, 0), (51, 0), (0, c6), (0, x1), (0, a8), (5, 0), (0, a10), (5, 0), (5, 0), (0, a13), (0, a14), (0, v1), (5, 0)] [] D3 Φ
            refine r_sipush d_L_isTree_388 (by decide) ?_
            refine r_bipush d_L_isTree_391 (by decide) ?_
            refine r_aload_n d_L_isTree_393 rfl (by decide) ?_
            refine r_iload d_L_isTree_394 rfl ?_
            refine c_callSi0 (t' := (some .int)) (as := [(40, 0), (0, v1)]) (rest := [(0, 7), (0, 10000)]) (ls' := [(40, 0), (0, v1)]) d_L_isTree_396 ck_RL_102 rfl rfl rfl (Nat.le_of_ble_eq_true rfl) (Nat.le_of_ble_eq_true rfl) (by decide) rfl rfl (fun _ => rfl) (fun κ' Ψ hΨ => run_pE_name R _ hΨ) h (fun v3 D7 h => ?_)
            show Run Γ rg κ Y_L_isTree 399 [(8, 0), (40, 0), (43, 0), (46, 0), (49, 0), (51, 0), (0, c6), (0, x1), (0, a8), (5, 0), (0, a10), (5, 0), (5, 0), (0, a13), (0, a14), (0, v1), (5, 0)] [(0, v3), (0, 7), (0, 10000)] D7 Φ
            refine r_imul d_L_isTree_399 ?_
            refine r_bipush d_L_isTree_400 (by decide) ?_
            refine c_irem d_L_isTree_402 (nz_w _) ⟨by decide, by decide⟩ (by decide) ?_
            refine r_imul d_L_isTree_403 ?_
            refine r_aload_n d_L_isTree_404 rfl (by decide) ?_
            refine r_iload d_L_isTree_405 rfl ?_
            show Run Γ rg κ Y_L_isTree 407 [(8, 0), (40, 0), (43, 0), (46, 0), (49, 0), (51, 0), (0, c6), (0, x1), (0, a8), (5, 0), (0, a10), (5, 0), (5, 0), (0, a13), (0, a14), (0, v1), (5, 0)] [(0, v1), (40, 0), (0, (10000 * (Int.tmod (w32 (7 * v3)) 64)))] D7 Φ
            refine c_callSi0 (t' := (some .int)) (as := [(40, 0), (0, v1)]) (rest := [(0, (10000 * (Int.tmod (w32 (7 * v3)) 64)))]) (ls' := [(40, 0), (0, v1)]) d_L_isTree_407 ck_RL_102 rfl rfl rfl (Nat.le_of_ble_eq_true rfl) (Nat.le_of_ble_eq_true rfl) (by decide) rfl rfl (fun _ => rfl) (fun κ' Ψ hΨ => run_pE_name R _ hΨ) h (fun v4 D8 h => ?_)
            show Run Γ rg κ Y_L_isTree 410 [(8, 0), (40, 0), (43, 0), (46, 0), (49, 0), (51, 0), (0, c6), (0, x1), (0, a8), (5, 0), (0, a10), (5, 0), (5, 0), (0, a13), (0, a14), (0, v1), (5, 0)] [(0, v4), (0, (10000 * (Int.tmod (w32 (7 * v3)) 64)))] D8 Φ
            refine r_iadd d_L_isTree_410 ?_
            refine r_goto (tgt := 415) d_L_isTree_411 (by decide) ?_
            exact Run.forget (ls' := [(8, 0), (40, 0), (43, 0), (46, 0), (49, 0), (51, 0), (0, c6), (0, x1), (0, a8), (5, 0), (0, a10), (5, 0), (5, 0), (0, a13), (0, a14), (5, 0), (5, 0)]) ⟨Or.inr rfl, Or.inr rfl, Or.inr rfl, Or.inr rfl, Or.inr rfl, Or.inr rfl, Or.inr rfl, Or.inr rfl, Or.inr rfl, Or.inr rfl, Or.inr rfl, Or.inr rfl, Or.inr rfl, Or.inr rfl, Or.inr rfl, Or.inl rfl, Or.inr rfl, trivial⟩ (hJ2 ((10000 * (Int.tmod (w32 (7 * v3)) 64)) + v4) D8 h)
        refine c_jn (fun J => ∀ (D9 : DD), WP (some .boolean) 0 Φ (J D9) → Run Γ rg κ Y_L_isTree 380 [(8, 0), (40, 0), (43, 0), (46, 0), (49, 0), (51, 0), (0, c6), (5, 0), (0, a8), (5, 0), (0, a10), (5, 0), (5, 0), (0, a13), (0, a14), (0, v1), (5, 0)] [] D9 Φ) h ?_ (fun J5 hJ5 h => ?_)
        · intro D9 h
          show Run Γ rg κ Y_L_isTree 380 [(8, 0), (40, 0), (43, 0), (46, 0), (49, 0), (51, 0), (0, c6), (5, 0), (0, a8), (5, 0), (0, a10), (5, 0), (5, 0), (0, a13), (0, a14), (0, v1), (5, 0)] [] D9 Φ
          refine r_iconst d_L_isTree_380 ?_
          exact (hJ1 0 D9 h)
        refine c_if_eq (tgt := 380) d_L_isTree_345 (by decide) (nz_w _) h (fun h => ?_) (fun h => ?_)
        · skip
          exact Run.forget (ls' := [(8, 0), (40, 0), (43, 0), (46, 0), (49, 0), (51, 0), (0, c6), (5, 0), (0, a8), (5, 0), (0, a10), (5, 0), (5, 0), (0, a13), (0, a14), (0, v1), (5, 0)]) ⟨Or.inr rfl, Or.inr rfl, Or.inr rfl, Or.inr rfl, Or.inr rfl, Or.inr rfl, Or.inr rfl, Or.inl rfl, Or.inr rfl, Or.inr rfl, Or.inr rfl, Or.inr rfl, Or.inr rfl, Or.inr rfl, Or.inr rfl, Or.inr rfl, Or.inr rfl, trivial⟩ (hJ5 D2 h)
        · skip
          show Run Γ rg κ Y_L_isTree 348 [(8, 0), (40, 0), (43, 0), (46, 0), (49, 0), (51, 0), (0, c6), (0, a7), (0, a8), (5, 0), (0, a10), (5, 0), (5, 0), (0, a13), (0, a14), (0, v1), (5, 0)] [] D2 Φ
          refine r_aload_n d_L_isTree_348 rfl (by decide) ?_
          refine r_iload d_L_isTree_349 rfl ?_
          refine c_callSi0 (t' := (some .int)) (as := [(40, 0), (0, v1)]) (rest := []) (ls' := [(40, 0), (0, v1)]) d_L_isTree_351 ck_RL_96 rfl rfl rfl (Nat.le_of_ble_eq_true rfl) (Nat.le_of_ble_eq_true rfl) (by decide) rfl rfl (fun _ => rfl) (fun κ' Ψ hΨ => run_pE_parent R _ hΨ) h (fun v5 D10 h => ?_)
          show Run Γ rg κ Y_L_isTree 354 [(8, 0), (40, 0), (43, 0), (46, 0), (49, 0), (51, 0), (0, c6), (0, a7), (0, a8), (5, 0), (0, a10), (5, 0), (5, 0), (0, a13), (0, a14), (0, v1), (5, 0)] [(0, v5)] D10 Φ
          refine r_iload d_L_isTree_354 rfl ?_
          refine c_icmp_ne (tgt := 380) d_L_isTree_356 (by decide) (nz_w _) (nz_w _) h (fun h => ?_) (fun h => ?_)
          · skip
            exact Run.forget (ls' := [(8, 0), (40, 0), (43, 0), (46, 0), (49, 0), (51, 0), (0, c6), (5, 0), (0, a8), (5, 0), (0, a10), (5, 0), (5, 0), (0, a13), (0, a14), (0, v1), (5, 0)]) ⟨Or.inr rfl, Or.inr rfl, Or.inr rfl, Or.inr rfl, Or.inr rfl, Or.inr rfl, Or.inr rfl, Or.inl rfl, Or.inr rfl, Or.inr rfl, Or.inr rfl, Or.inr rfl, Or.inr rfl, Or.inr rfl, Or.inr rfl, Or.inr rfl, Or.inr rfl, trivial⟩ (hJ5 D10 h)
          · skip
            show Run Γ rg κ Y_L_isTree 359 [(8, 0), (40, 0), (43, 0), (46, 0), (49, 0), (51, 0), (0, c6), (0, a7), (0, a8), (5, 0), (0, a10), (5, 0), (5, 0), (0, a13), (0, a14), (0, v1), (5, 0)] [] D10 Φ
            refine r_aload_n d_L_isTree_359 rfl (by decide) ?_
            refine r_iload d_L_isTree_360 rfl ?_
            refine r_aload_n d_L_isTree_362 rfl (by decide) ?_
            refine r_iload d_L_isTree_363 rfl ?_
            refine c_callSi0 (t' := (some .int)) (as := [(40, 0), (0, v1)]) (rest := [(0, a8), (8, 0)]) (ls' := [(40, 0), (0, v1)]) d_L_isTree_365 ck_RL_102 rfl rfl rfl (Nat.le_of_ble_eq_true rfl) (Nat.le_of_ble_eq_true rfl) (by decide) rfl rfl (fun _ => rfl) (fun κ' Ψ hΨ => run_pE_name R _ hΨ) h (fun v6 D11 h => ?_)
            show Run Γ rg κ Y_L_isTree 368 [(8, 0), (40, 0), (43, 0), (46, 0), (49, 0), (51, 0), (0, c6), (0, a7), (0, a8), (5, 0), (0, a10), (5, 0), (5, 0), (0, a13), (0, a14), (0, v1), (5, 0)] [(0, v6), (0, a8), (8, 0)] D11 Φ
            refine c_callVi0 (t' := (some .int)) (a := 0) (z := 0) (as := [(0, a8), (0, v6)]) (rest := []) (ls' := [(8, 0), (0, a8), (0, v6)]) d_L_isTree_368 ck_RL_55 rfl sh_0 rfl (by decide) (R 0 rfl) rfl rfl (Nat.le_of_ble_eq_true rfl) (Nat.le_of_ble_eq_true rfl) (by decide) rfl rfl (fun _ => rfl) (fun κ' Ψ hΨ => run_pH_find (cov20 R) _ _ hΨ) h (fun v7 D12 h => ?_)
            show Run Γ rg κ Y_L_isTree 371 [(8, 0), (40, 0), (43, 0), (46, 0), (49, 0), (51, 0), (0, c6), (0, a7), (0, a8), (5, 0), (0, a10), (5, 0), (5, 0), (0, a13), (0, a14), (0, v1), (5, 0)] [(0, v7)] D12 Φ
            refine r_iload d_L_isTree_371 rfl ?_
            refine c_icmp_ne (tgt := 380) d_L_isTree_373 (by decide) (nz_w _) (nz_w _) h (fun h => ?_) (fun h => ?_)
            · skip
              exact Run.forget (ls' := [(8, 0), (40, 0), (43, 0), (46, 0), (49, 0), (51, 0), (0, c6), (5, 0), (0, a8), (5, 0), (0, a10), (5, 0), (5, 0), (0, a13), (0, a14), (0, v1), (5, 0)]) ⟨Or.inr rfl, Or.inr rfl, Or.inr rfl, Or.inr rfl, Or.inr rfl, Or.inr rfl, Or.inr rfl, Or.inl rfl, Or.inr rfl, Or.inr rfl, Or.inr rfl, Or.inr rfl, Or.inr rfl, Or.inr rfl, Or.inr rfl, Or.inr rfl, Or.inr rfl, trivial⟩ (hJ5 D12 h)
            · skip
              show Run Γ rg κ Y_L_isTree 376 [(8, 0), (40, 0), (43, 0), (46, 0), (49, 0), (51, 0), (0, c6), (0, a7), (0, a8), (5, 0), (0, a10), (5, 0), (5, 0), (0, a13), (0, a14), (0, v1), (5, 0)] [] D12 Φ
              refine r_iconst d_L_isTree_376 ?_
              refine r_goto (tgt := 381) d_L_isTree_377 (by decide) ?_
              exact Run.forget (ls' := [(8, 0), (40, 0), (43, 0), (46, 0), (49, 0), (51, 0), (0, c6), (5, 0), (0, a8), (5, 0), (0, a10), (5, 0), (5, 0), (0, a13), (0, a14), (0, v1), (5, 0)]) ⟨Or.inr rfl, Or.inr rfl, Or.inr rfl, Or.inr rfl, Or.inr rfl, Or.inr rfl, Or.inr rfl, Or.inl rfl, Or.inr rfl, Or.inr rfl, Or.inr rfl, Or.inr rfl, Or.inr rfl, Or.inr rfl, Or.inr rfl, Or.inr rfl, Or.inr rfl, trivial⟩ (hJ1 1 D12 h)
