/-! the constructors run -/
theorem store_n {Γ : GG} {n : Nat} {M : MP} {D : DD} {a : Nat} {cs : List Nat} (hs : SH.getD a (9, 0, []) = (1, 1024, cs)) (ha : a < n) : RunN Γ n (n - n) (sl n - sl n) (Qn Γ n M (fun D' => D' = up2 D a 4 (-12))) XF Y_X7_store 0 [(a + 8, 0), (0, 4), (0, -12)] [] n M D := by
  refine n_iload_n d_X7_store_0 rfl ?_
  refine n_if_lt d_X7_store_1 ⟨by decide, by decide⟩ (by decide) ?_ (tgt := 14) (by decide)
  refine n_iload_n d_X7_store_4 rfl ?_
  refine n_aload_n d_X7_store_5 rfl (Nat.le_trans (by decide) (Nat.le_add_left 8 a)) ?_
  refine n_alen d_X7_store_6 hs ha ?_
  refine n_icmp_ge d_X7_store_7 ⟨by decide, by decide⟩ ⟨by decide, by decide⟩ (by decide) ?_ (tgt := 14) (by decide)
  refine n_aload_n d_X7_store_10 rfl (Nat.le_trans (by decide) (Nat.le_add_left 8 a)) ?_
  refine n_iload_n d_X7_store_11 rfl ?_
  refine n_iload_n d_X7_store_12 rfl ?_
  refine n_iast d_X7_store_13 hs ha (by decide) (by decide) (by decide) ?_
  exact n_vret d_X7_store_14 rfl rfl rfl rfl
set_option maxRecDepth 20000 in
theorem ini_X2_2 {Γ : GG} {D : DD} (zD : ∀ a, 3 ≤ a → ∀ k, D a k = 0) : RunN Γ 3 (7 - 3) (sl 7 - sl 3) (Qn Γ 7 [(2, 3), (2, 2), (2, 1), (2, 0), (0, 7)] (fun D' => D' = (img D 2))) XF Y_X2_init 0 [(10, 0)] [] 3 [(0, 7)] D := by
  refine n_aload_n d_X2_init_0 rfl (by decide) ?_
  refine n_objI d_X2_init_1 oj_RX2_3 (by decide) (by decide) (by decide) ?_
  refine n_aload_n d_X2_init_4 rfl (by decide) ?_
  refine n_sipush d_X2_init_5 (by decide) ?_
  refine n_newI (n := 3) (len := 1024) d_X2_init_8 sh_3 (by decide) (by decide) (by decide) (Nat.sub_le_sub_right (sl_le (by decide)) _) (zD 3 (by decide)) ?_
  refine n_putR (a := 2) (t := 3) (z := 0) (z' := 0) d_X2_init_10 pkr_RX2_11 rfl sh_2 rfl (by decide) ?_
  refine n_aload_n d_X2_init_13 rfl (by decide) ?_
  refine n_sipush d_X2_init_14 (by decide) ?_
  refine n_newI (n := 4) (len := 1024) d_X2_init_17 sh_4 (by decide) (by decide) (by decide) (Nat.sub_le_sub_right (sl_le (by decide)) _) (zD 4 (by decide)) ?_
  refine n_putR (a := 2) (t := 4) (z := 0) (z' := 0) d_X2_init_19 pkr_RX2_15 rfl sh_2 rfl (by decide) ?_
  refine n_aload_n d_X2_init_22 rfl (by decide) ?_
  refine n_bipush d_X2_init_23 (by decide) ?_
  refine n_newI (n := 5) (len := 80) d_X2_init_25 sh_5 (by decide) (by decide) (by decide) (Nat.sub_le_sub_right (sl_le (by decide)) _) (zD 5 (by decide)) ?_
  refine n_putR (a := 2) (t := 5) (z := 0) (z' := 0) d_X2_init_27 pkr_RX2_18 rfl sh_2 rfl (by decide) ?_
  refine n_aload_n d_X2_init_30 rfl (by decide) ?_
  refine n_sipush d_X2_init_31 (by decide) ?_
  refine n_newI (n := 6) (len := 256) d_X2_init_34 sh_6 (by decide) (by decide) (by decide) (Nat.sub_le_sub_right (sl_le (by decide)) _) (zD 6 (by decide)) ?_
  refine n_putR (a := 2) (t := 6) (z := 0) (z' := 0) d_X2_init_36 pkr_RX2_21 rfl sh_2 rfl (by decide) ?_
  refine n_aload_n d_X2_init_39 rfl (by decide) ?_
  refine n_iconst d_X2_init_40 ?_
  refine n_putI (a := 2) (z := 0) d_X2_init_41 pk_RX2_24 sh_2 rfl (by decide) ?_
  refine n_aload_n d_X2_init_44 rfl (by decide) ?_
  refine n_iconst d_X2_init_45 ?_
  refine n_putI (a := 2) (z := 0) d_X2_init_46 pk_RX2_28 sh_2 rfl (by decide) ?_
  refine n_aload_n d_X2_init_49 rfl (by decide) ?_
  refine n_getR (a := 2) (t := 3) (z := 0) d_X2_init_50 fk_RX2_11 sh_2 rfl (by decide) (by decide) ?_
  refine n_iconst d_X2_init_53 ?_
  refine n_bipush d_X2_init_54 (by decide) ?_
  refine n_callN (as := [(11, 0), (0, 4), (0, (-12))]) (rest := []) (ls' := [(11, 0), (0, 4), (0, (-12))]) (n := 7) (Ψ := fun D' => D' = img D 2) d_X2_init_56 ck_RX2_31 rfl rfl rfl (by decide) (by decide) (Nat.le_of_ble_eq_true rfl) (by decide) rfl (by decide) (by decide) (Nat.sub_le_sub_right (sl_le (by decide)) _) (store_n (a := 3) sh_3 (by decide)) (fun D' e => ?_)
  have e2 : D' = img D 2 := e
  subst e2
  exact n_vret d_X2_init_59 rfl rfl rfl rfl
set_option maxRecDepth 20000 in
theorem ini_X0_7 {Γ : GG} {D : DD} (zD : ∀ a, 8 ≤ a → ∀ k, D a k = 0) : RunN Γ 8 (11 - 8) (sl 11 - sl 8) (Qn Γ 11 [(7, 0), (7, 3), (7, 2), (7, 1), (2, 3), (2, 2), (2, 1), (2, 0), (0, 7)] (fun D' => D' = D)) XF Y_X0_init 0 [(15, 0), (10, 0)] [] 8 [(2, 3), (2, 2), (2, 1), (2, 0), (0, 7)] D := by
  refine n_aload_n d_X0_init_0 rfl (by decide) ?_
  refine n_objI d_X0_init_1 oj_RX0_3 (by decide) (by decide) (by decide) ?_
  refine n_aload_n d_X0_init_4 rfl (by decide) ?_
  refine n_bipush d_X0_init_5 (by decide) ?_
  refine n_newI (n := 8) (len := 6) d_X0_init_7 sh_8 (by decide) (by decide) (by decide) (Nat.sub_le_sub_right (sl_le (by decide)) _) (zD 8 (by decide)) ?_
  refine n_putR (a := 7) (t := 8) (z := 0) (z' := 0) d_X0_init_9 pkr_RX0_11 rfl sh_7 rfl (by decide) ?_
  refine n_aload_n d_X0_init_12 rfl (by decide) ?_
  refine n_bipush d_X0_init_13 (by decide) ?_
  refine n_newI (n := 9) (len := 6) d_X0_init_15 sh_9 (by decide) (by decide) (by decide) (Nat.sub_le_sub_right (sl_le (by decide)) _) (zD 9 (by decide)) ?_
  refine n_putR (a := 7) (t := 9) (z := 0) (z' := 0) d_X0_init_17 pkr_RX0_15 rfl sh_7 rfl (by decide) ?_
  refine n_aload_n d_X0_init_20 rfl (by decide) ?_
  refine n_sipush d_X0_init_21 (by decide) ?_
  refine n_newI (n := 10) (len := 1024) d_X0_init_24 sh_10 (by decide) (by decide) (by decide) (Nat.sub_le_sub_right (sl_le (by decide)) _) (zD 10 (by decide)) ?_
  refine n_putR (a := 7) (t := 10) (z := 0) (z' := 0) d_X0_init_26 pkr_RX0_20 rfl sh_7 rfl (by decide) ?_
  refine n_aload_n d_X0_init_29 rfl (by decide) ?_
  refine n_aload_n d_X0_init_30 rfl (by decide) ?_
  refine n_putR (a := 7) (t := 2) (z := 0) (z' := 0) d_X0_init_31 pkr_RX0_23 rfl sh_7 rfl (by decide) ?_
  exact n_vret d_X0_init_34 rfl rfl rfl rfl
set_option maxRecDepth 20000 in
theorem ini_X3_11 {Γ : GG} {D : DD} (zD : ∀ a, 12 ≤ a → ∀ k, D a k = 0) : RunN Γ 12 (12 - 12) (sl 12 - sl 12) (Qn Γ 12 [(11, 1), (11, 0), (0, 1), (0, 0), (7, 0), (7, 3), (7, 2), (7, 1), (2, 3), (2, 2), (2, 1), (2, 0), (0, 7)] (fun D' => D' = D)) XF Y_X3_init 0 [(19, 0), (10, 0), (15, 0)] [] 12 [(0, 1), (0, 0), (7, 0), (7, 3), (7, 2), (7, 1), (2, 3), (2, 2), (2, 1), (2, 0), (0, 7)] D := by
  refine n_aload_n d_X3_init_0 rfl (by decide) ?_
  refine n_objI d_X3_init_1 oj_RX3_3 (by decide) (by decide) (by decide) ?_
  refine n_aload_n d_X3_init_4 rfl (by decide) ?_
  refine n_aload_n d_X3_init_5 rfl (by decide) ?_
  refine n_putR (a := 11) (t := 2) (z := 0) (z' := 0) d_X3_init_6 pkr_RX3_9 rfl sh_11 rfl (by decide) ?_
  refine n_aload_n d_X3_init_9 rfl (by decide) ?_
  refine n_aload_n d_X3_init_10 rfl (by decide) ?_
  refine n_putR (a := 11) (t := 7) (z := 0) (z' := 0) d_X3_init_11 pkr_RX3_15 rfl sh_11 rfl (by decide) ?_
  exact n_vret d_X3_init_14 rfl rfl rfl rfl
set_option maxRecDepth 20000 in
theorem ini_X5_12 {Γ : GG} {D : DD} (zD : ∀ a, 13 ≤ a → ∀ k, D a k = 0) : RunN Γ 13 (13 - 13) (sl 13 - sl 13) (Qn Γ 13 [(12, 1), (12, 0), (0, 2), (11, 1), (11, 0), (0, 1), (0, 0), (7, 0), (7, 3), (7, 2), (7, 1), (2, 3), (2, 2), (2, 1), (2, 0), (0, 7)] (fun D' => D' = D)) XF Y_X5_init 0 [(20, 0), (10, 0), (15, 0)] [] 13 [(0, 2), (11, 1), (11, 0), (0, 1), (0, 0), (7, 0), (7, 3), (7, 2), (7, 1), (2, 3), (2, 2), (2, 1), (2, 0), (0, 7)] D := by
  refine n_aload_n d_X5_init_0 rfl (by decide) ?_
  refine n_objI d_X5_init_1 oj_RX5_3 (by decide) (by decide) (by decide) ?_
  refine n_aload_n d_X5_init_4 rfl (by decide) ?_
  refine n_aload_n d_X5_init_5 rfl (by decide) ?_
  refine n_putR (a := 12) (t := 2) (z := 0) (z' := 0) d_X5_init_6 pkr_RX5_9 rfl sh_12 rfl (by decide) ?_
  refine n_aload_n d_X5_init_9 rfl (by decide) ?_
  refine n_aload_n d_X5_init_10 rfl (by decide) ?_
  refine n_putR (a := 12) (t := 7) (z := 0) (z' := 0) d_X5_init_11 pkr_RX5_15 rfl sh_12 rfl (by decide) ?_
  exact n_vret d_X5_init_14 rfl rfl rfl rfl
set_option maxRecDepth 20000 in
theorem ini_X4_13 {Γ : GG} {D : DD} (zD : ∀ a, 14 ≤ a → ∀ k, D a k = 0) : RunN Γ 14 (15 - 14) (sl 15 - sl 14) (Qn Γ 15 [(13, 1), (13, 0), (13, 2), (0, 3), (12, 1), (12, 0), (0, 2), (11, 1), (11, 0), (0, 1), (0, 0), (7, 0), (7, 3), (7, 2), (7, 1), (2, 3), (2, 2), (2, 1), (2, 0), (0, 7)] (fun D' => D' = D)) XF Y_X4_init 0 [(21, 0), (10, 0), (15, 0)] [] 14 [(0, 3), (12, 1), (12, 0), (0, 2), (11, 1), (11, 0), (0, 1), (0, 0), (7, 0), (7, 3), (7, 2), (7, 1), (2, 3), (2, 2), (2, 1), (2, 0), (0, 7)] D := by
  refine n_aload_n d_X4_init_0 rfl (by decide) ?_
  refine n_objI d_X4_init_1 oj_RX4_3 (by decide) (by decide) (by decide) ?_
  refine n_aload_n d_X4_init_4 rfl (by decide) ?_
  refine n_sipush d_X4_init_5 (by decide) ?_
  refine n_newI (n := 14) (len := 256) d_X4_init_8 sh_14 (by decide) (by decide) (by decide) (Nat.sub_le_sub_right (sl_le (by decide)) _) (zD 14 (by decide)) ?_
  refine n_putR (a := 13) (t := 14) (z := 0) (z' := 0) d_X4_init_10 pkr_RX4_9 rfl sh_13 rfl (by decide) ?_
  refine n_aload_n d_X4_init_13 rfl (by decide) ?_
  refine n_aload_n d_X4_init_14 rfl (by decide) ?_
  refine n_putR (a := 13) (t := 2) (z := 0) (z' := 0) d_X4_init_15 pkr_RX4_15 rfl sh_13 rfl (by decide) ?_
  refine n_aload_n d_X4_init_18 rfl (by decide) ?_
  refine n_aload_n d_X4_init_19 rfl (by decide) ?_
  refine n_putR (a := 13) (t := 7) (z := 0) (z' := 0) d_X4_init_20 pkr_RX4_19 rfl sh_13 rfl (by decide) ?_
  exact n_vret d_X4_init_23 rfl rfl rfl rfl
set_option maxRecDepth 20000 in
theorem ini_X6_15 {Γ : GG} {D : DD} (zD : ∀ a, 16 ≤ a → ∀ k, D a k = 0) : RunN Γ 16 (20 - 16) (sl 20 - sl 16) (Qn Γ 20 [(15, 3), (15, 2), (15, 1), (15, 0), (0, 4), (13, 1), (13, 0), (13, 2), (0, 3), (12, 1), (12, 0), (0, 2), (11, 1), (11, 0), (0, 1), (0, 0), (7, 0), (7, 3), (7, 2), (7, 1), (2, 3), (2, 2), (2, 1), (2, 0), (0, 7)] (fun D' => D' = D)) XF Y_X6_init 0 [(23, 0)] [] 16 [(0, 4), (13, 1), (13, 0), (13, 2), (0, 3), (12, 1), (12, 0), (0, 2), (11, 1), (11, 0), (0, 1), (0, 0), (7, 0), (7, 3), (7, 2), (7, 1), (2, 3), (2, 2), (2, 1), (2, 0), (0, 7)] D := by
  refine n_aload_n d_X6_init_0 rfl (by decide) ?_
  refine n_objI d_X6_init_1 oj_RX6_3 (by decide) (by decide) (by decide) ?_
  refine n_aload_n d_X6_init_4 rfl (by decide) ?_
  refine n_bipush d_X6_init_5 (by decide) ?_
  refine n_newI (n := 16) (len := 80) d_X6_init_7 sh_16 (by decide) (by decide) (by decide) (Nat.sub_le_sub_right (sl_le (by decide)) _) (zD 16 (by decide)) ?_
  refine n_putR (a := 15) (t := 16) (z := 0) (z' := 0) d_X6_init_9 pkr_RX6_9 rfl sh_15 rfl (by decide) ?_
  refine n_aload_n d_X6_init_12 rfl (by decide) ?_
  refine n_bipush d_X6_init_13 (by decide) ?_
  refine n_newI (n := 17) (len := 80) d_X6_init_15 sh_17 (by decide) (by decide) (by decide) (Nat.sub_le_sub_right (sl_le (by decide)) _) (zD 17 (by decide)) ?_
  refine n_putR (a := 15) (t := 17) (z := 0) (z' := 0) d_X6_init_17 pkr_RX6_15 rfl sh_15 rfl (by decide) ?_
  refine n_aload_n d_X6_init_20 rfl (by decide) ?_
  refine n_bipush d_X6_init_21 (by decide) ?_
  refine n_newI (n := 18) (len := 80) d_X6_init_23 sh_18 (by decide) (by decide) (by decide) (Nat.sub_le_sub_right (sl_le (by decide)) _) (zD 18 (by decide)) ?_
  refine n_putR (a := 15) (t := 18) (z := 0) (z' := 0) d_X6_init_25 pkr_RX6_18 rfl sh_15 rfl (by decide) ?_
  refine n_aload_n d_X6_init_28 rfl (by decide) ?_
  refine n_bipush d_X6_init_29 (by decide) ?_
  refine n_newI (n := 19) (len := 80) d_X6_init_31 sh_19 (by decide) (by decide) (by decide) (Nat.sub_le_sub_right (sl_le (by decide)) _) (zD 19 (by decide)) ?_
  refine n_putR (a := 15) (t := 19) (z := 0) (z' := 0) d_X6_init_33 pkr_RX6_21 rfl sh_15 rfl (by decide) ?_
  exact n_vret d_X6_init_36 rfl rfl rfl rfl
set_option maxRecDepth 20000 in
theorem ini_X2_21 {Γ : GG} {D : DD} (zD : ∀ a, 22 ≤ a → ∀ k, D a k = 0) : RunN Γ 22 (26 - 22) (sl 26 - sl 22) (Qn Γ 26 [(21, 3), (21, 2), (21, 1), (21, 0), (0, 5), (15, 3), (15, 2), (15, 1), (15, 0), (0, 4), (13, 1), (13, 0), (13, 2), (0, 3), (12, 1), (12, 0), (0, 2), (11, 1), (11, 0), (0, 1), (0, 0), (7, 0), (7, 3), (7, 2), (7, 1), (2, 3), (2, 2), (2, 1), (2, 0), (0, 7)] (fun D' => D' = (img D 21))) XF Y_X2_init 0 [(29, 0)] [] 22 [(0, 5), (15, 3), (15, 2), (15, 1), (15, 0), (0, 4), (13, 1), (13, 0), (13, 2), (0, 3), (12, 1), (12, 0), (0, 2), (11, 1), (11, 0), (0, 1), (0, 0), (7, 0), (7, 3), (7, 2), (7, 1), (2, 3), (2, 2), (2, 1), (2, 0), (0, 7)] D := by
  refine n_aload_n d_X2_init_0 rfl (by decide) ?_
  refine n_objI d_X2_init_1 oj_RX2_3 (by decide) (by decide) (by decide) ?_
  refine n_aload_n d_X2_init_4 rfl (by decide) ?_
  refine n_sipush d_X2_init_5 (by decide) ?_
  refine n_newI (n := 22) (len := 1024) d_X2_init_8 sh_22 (by decide) (by decide) (by decide) (Nat.sub_le_sub_right (sl_le (by decide)) _) (zD 22 (by decide)) ?_
  refine n_putR (a := 21) (t := 22) (z := 0) (z' := 0) d_X2_init_10 pkr_RX2_11 rfl sh_21 rfl (by decide) ?_
  refine n_aload_n d_X2_init_13 rfl (by decide) ?_
  refine n_sipush d_X2_init_14 (by decide) ?_
  refine n_newI (n := 23) (len := 1024) d_X2_init_17 sh_23 (by decide) (by decide) (by decide) (Nat.sub_le_sub_right (sl_le (by decide)) _) (zD 23 (by decide)) ?_
  refine n_putR (a := 21) (t := 23) (z := 0) (z' := 0) d_X2_init_19 pkr_RX2_15 rfl sh_21 rfl (by decide) ?_
  refine n_aload_n d_X2_init_22 rfl (by decide) ?_
  refine n_bipush d_X2_init_23 (by decide) ?_
  refine n_newI (n := 24) (len := 80) d_X2_init_25 sh_24 (by decide) (by decide) (by decide) (Nat.sub_le_sub_right (sl_le (by decide)) _) (zD 24 (by decide)) ?_
  refine n_putR (a := 21) (t := 24) (z := 0) (z' := 0) d_X2_init_27 pkr_RX2_18 rfl sh_21 rfl (by decide) ?_
  refine n_aload_n d_X2_init_30 rfl (by decide) ?_
  refine n_sipush d_X2_init_31 (by decide) ?_
  refine n_newI (n := 25) (len := 256) d_X2_init_34 sh_25 (by decide) (by decide) (by decide) (Nat.sub_le_sub_right (sl_le (by decide)) _) (zD 25 (by decide)) ?_
  refine n_putR (a := 21) (t := 25) (z := 0) (z' := 0) d_X2_init_36 pkr_RX2_21 rfl sh_21 rfl (by decide) ?_
  refine n_aload_n d_X2_init_39 rfl (by decide) ?_
  refine n_iconst d_X2_init_40 ?_
  refine n_putI (a := 21) (z := 0) d_X2_init_41 pk_RX2_24 sh_21 rfl (by decide) ?_
  refine n_aload_n d_X2_init_44 rfl (by decide) ?_
  refine n_iconst d_X2_init_45 ?_
  refine n_putI (a := 21) (z := 0) d_X2_init_46 pk_RX2_28 sh_21 rfl (by decide) ?_
  refine n_aload_n d_X2_init_49 rfl (by decide) ?_
  refine n_getR (a := 21) (t := 22) (z := 0) d_X2_init_50 fk_RX2_11 sh_21 rfl (by decide) (by decide) ?_
  refine n_iconst d_X2_init_53 ?_
  refine n_bipush d_X2_init_54 (by decide) ?_
  refine n_callN (as := [(30, 0), (0, 4), (0, (-12))]) (rest := []) (ls' := [(30, 0), (0, 4), (0, (-12))]) (n := 26) (Ψ := fun D' => D' = img D 21) d_X2_init_56 ck_RX2_31 rfl rfl rfl (by decide) (by decide) (Nat.le_of_ble_eq_true rfl) (by decide) rfl (by decide) (by decide) (Nat.sub_le_sub_right (sl_le (by decide)) _) (store_n (a := 22) sh_22 (by decide)) (fun D' e => ?_)
  have e2 : D' = img D 21 := e
  subst e2
  exact n_vret d_X2_init_59 rfl rfl rfl rfl
set_option maxRecDepth 20000 in
theorem ini_X2_26 {Γ : GG} {D : DD} (zD : ∀ a, 27 ≤ a → ∀ k, D a k = 0) : RunN Γ 27 (31 - 27) (sl 31 - sl 27) (Qn Γ 31 [(26, 3), (26, 2), (26, 1), (26, 0), (20, 0), (21, 3), (21, 2), (21, 1), (21, 0), (0, 5), (15, 3), (15, 2), (15, 1), (15, 0), (0, 4), (13, 1), (13, 0), (13, 2), (0, 3), (12, 1), (12, 0), (0, 2), (11, 1), (11, 0), (0, 1), (0, 0), (7, 0), (7, 3), (7, 2), (7, 1), (2, 3), (2, 2), (2, 1), (2, 0), (0, 7)] (fun D' => D' = (img D 26))) XF Y_X2_init 0 [(34, 0)] [] 27 [(20, 0), (21, 3), (21, 2), (21, 1), (21, 0), (0, 5), (15, 3), (15, 2), (15, 1), (15, 0), (0, 4), (13, 1), (13, 0), (13, 2), (0, 3), (12, 1), (12, 0), (0, 2), (11, 1), (11, 0), (0, 1), (0, 0), (7, 0), (7, 3), (7, 2), (7, 1), (2, 3), (2, 2), (2, 1), (2, 0), (0, 7)] D := by
  refine n_aload_n d_X2_init_0 rfl (by decide) ?_
  refine n_objI d_X2_init_1 oj_RX2_3 (by decide) (by decide) (by decide) ?_
  refine n_aload_n d_X2_init_4 rfl (by decide) ?_
  refine n_sipush d_X2_init_5 (by decide) ?_
  refine n_newI (n := 27) (len := 1024) d_X2_init_8 sh_27 (by decide) (by decide) (by decide) (Nat.sub_le_sub_right (sl_le (by decide)) _) (zD 27 (by decide)) ?_
  refine n_putR (a := 26) (t := 27) (z := 0) (z' := 0) d_X2_init_10 pkr_RX2_11 rfl sh_26 rfl (by decide) ?_
  refine n_aload_n d_X2_init_13 rfl (by decide) ?_
  refine n_sipush d_X2_init_14 (by decide) ?_
  refine n_newI (n := 28) (len := 1024) d_X2_init_17 sh_28 (by decide) (by decide) (by decide) (Nat.sub_le_sub_right (sl_le (by decide)) _) (zD 28 (by decide)) ?_
  refine n_putR (a := 26) (t := 28) (z := 0) (z' := 0) d_X2_init_19 pkr_RX2_15 rfl sh_26 rfl (by decide) ?_
  refine n_aload_n d_X2_init_22 rfl (by decide) ?_
  refine n_bipush d_X2_init_23 (by decide) ?_
  refine n_newI (n := 29) (len := 80) d_X2_init_25 sh_29 (by decide) (by decide) (by decide) (Nat.sub_le_sub_right (sl_le (by decide)) _) (zD 29 (by decide)) ?_
  refine n_putR (a := 26) (t := 29) (z := 0) (z' := 0) d_X2_init_27 pkr_RX2_18 rfl sh_26 rfl (by decide) ?_
  refine n_aload_n d_X2_init_30 rfl (by decide) ?_
  refine n_sipush d_X2_init_31 (by decide) ?_
  refine n_newI (n := 30) (len := 256) d_X2_init_34 sh_30 (by decide) (by decide) (by decide) (Nat.sub_le_sub_right (sl_le (by decide)) _) (zD 30 (by decide)) ?_
  refine n_putR (a := 26) (t := 30) (z := 0) (z' := 0) d_X2_init_36 pkr_RX2_21 rfl sh_26 rfl (by decide) ?_
  refine n_aload_n d_X2_init_39 rfl (by decide) ?_
  refine n_iconst d_X2_init_40 ?_
  refine n_putI (a := 26) (z := 0) d_X2_init_41 pk_RX2_24 sh_26 rfl (by decide) ?_
  refine n_aload_n d_X2_init_44 rfl (by decide) ?_
  refine n_iconst d_X2_init_45 ?_
  refine n_putI (a := 26) (z := 0) d_X2_init_46 pk_RX2_28 sh_26 rfl (by decide) ?_
  refine n_aload_n d_X2_init_49 rfl (by decide) ?_
  refine n_getR (a := 26) (t := 27) (z := 0) d_X2_init_50 fk_RX2_11 sh_26 rfl (by decide) (by decide) ?_
  refine n_iconst d_X2_init_53 ?_
  refine n_bipush d_X2_init_54 (by decide) ?_
  refine n_callN (as := [(35, 0), (0, 4), (0, (-12))]) (rest := []) (ls' := [(35, 0), (0, 4), (0, (-12))]) (n := 31) (Ψ := fun D' => D' = img D 26) d_X2_init_56 ck_RX2_31 rfl rfl rfl (by decide) (by decide) (Nat.le_of_ble_eq_true rfl) (by decide) rfl (by decide) (by decide) (Nat.sub_le_sub_right (sl_le (by decide)) _) (store_n (a := 27) sh_27 (by decide)) (fun D' e => ?_)
  have e2 : D' = img D 26 := e
  subst e2
  exact n_vret d_X2_init_59 rfl rfl rfl rfl
set_option maxRecDepth 20000 in
theorem ini_X1_20 {Γ : GG} {D : DD} (zD : ∀ a, 21 ≤ a → ∀ k, D a k = 0) : RunN Γ 21 (32 - 21) (sl 32 - sl 21) (Qn Γ 32 [(20, 2), (20, 1), (26, 3), (26, 2), (26, 1), (26, 0), (20, 0), (21, 3), (21, 2), (21, 1), (21, 0), (0, 5), (15, 3), (15, 2), (15, 1), (15, 0), (0, 4), (13, 1), (13, 0), (13, 2), (0, 3), (12, 1), (12, 0), (0, 2), (11, 1), (11, 0), (0, 1), (0, 0), (7, 0), (7, 3), (7, 2), (7, 1), (2, 3), (2, 2), (2, 1), (2, 0), (0, 7)] (fun D' => D' = (img (img D 21) 26))) XF Y_X1_init 0 [(28, 0)] [] 21 [(0, 5), (15, 3), (15, 2), (15, 1), (15, 0), (0, 4), (13, 1), (13, 0), (13, 2), (0, 3), (12, 1), (12, 0), (0, 2), (11, 1), (11, 0), (0, 1), (0, 0), (7, 0), (7, 3), (7, 2), (7, 1), (2, 3), (2, 2), (2, 1), (2, 0), (0, 7)] D := by
  refine n_aload_n d_X1_init_0 rfl (by decide) ?_
  refine n_objI d_X1_init_1 oj_RX1_1 (by decide) (by decide) (by decide) ?_
  refine n_aload_n d_X1_init_4 rfl (by decide) ?_
  refine n_new (n := 21) d_X1_init_5 nk_RX1_7_21 sh_21 (by decide) (by decide) (Nat.sub_le_sub_right (sl_le (by decide)) _) (zD 21 (by decide)) (by decide) ?_
  refine n_dup d_X1_init_8 (by decide) ?_
  refine n_callI (a := 21) (z := 0) (as := []) (rest := [(29, 0), (28, 0)]) (ls' := [(29, 0)]) (n := 22) (n1 := 26) (M1 := [(21, 3), (21, 2), (21, 1), (21, 0), (0, 5), (15, 3), (15, 2), (15, 1), (15, 0), (0, 4), (13, 1), (13, 0), (13, 2), (0, 3), (12, 1), (12, 0), (0, 2), (11, 1), (11, 0), (0, 1), (0, 0), (7, 0), (7, 3), (7, 2), (7, 1), (2, 3), (2, 2), (2, 1), (2, 0), (0, 7)]) (Ψ := fun D' => D' = (img D 21)) d_X1_init_9 cki_RX1_9 rfl rfl rfl (by decide) (Nat.le_of_ble_eq_true rfl) (by decide) rfl (by decide) (by decide) (by decide) (Nat.sub_le_sub_right (sl_le (by decide)) _) (ini_X2_21 (fun a h => zD a (Nat.le_trans (by decide) h))) (fun D' e => ?_)
  have e2 : D' = (img D 21) := e
  subst e2
  have zD1 : ∀ a, 26 ≤ a → ∀ k, (img D 21) a k = 0 := fun a h k => by rw [img_ne (by omega)]; exact zD a (by omega) k
  refine n_putR (a := 20) (t := 21) (z := 0) (z' := 0) d_X1_init_12 pkr_RX1_10 rfl sh_20 rfl (by decide) ?_
  refine n_aload_n d_X1_init_15 rfl (by decide) ?_
  refine n_new (n := 26) d_X1_init_16 nk_RX1_7_26 sh_26 (by decide) (by decide) (Nat.sub_le_sub_right (sl_le (by decide)) _) (zD1 26 (by decide)) (by decide) ?_
  refine n_dup d_X1_init_19 (by decide) ?_
  refine n_callI (a := 26) (z := 0) (as := []) (rest := [(34, 0), (28, 0)]) (ls' := [(34, 0)]) (n := 27) (n1 := 31) (M1 := [(26, 3), (26, 2), (26, 1), (26, 0), (20, 0), (21, 3), (21, 2), (21, 1), (21, 0), (0, 5), (15, 3), (15, 2), (15, 1), (15, 0), (0, 4), (13, 1), (13, 0), (13, 2), (0, 3), (12, 1), (12, 0), (0, 2), (11, 1), (11, 0), (0, 1), (0, 0), (7, 0), (7, 3), (7, 2), (7, 1), (2, 3), (2, 2), (2, 1), (2, 0), (0, 7)]) (Ψ := fun D' => D' = (img (img D 21) 26)) d_X1_init_20 cki_RX1_9 rfl rfl rfl (by decide) (Nat.le_of_ble_eq_true rfl) (by decide) rfl (by decide) (by decide) (by decide) (Nat.sub_le_sub_right (sl_le (by decide)) _) (ini_X2_26 (fun a h => zD1 a (Nat.le_trans (by decide) h))) (fun D' e => ?_)
  have e2 : D' = (img (img D 21) 26) := e
  subst e2
  have zD2 : ∀ a, 31 ≤ a → ∀ k, (img (img D 21) 26) a k = 0 := fun a h k => by rw [img_ne (by omega)]; exact zD1 a (by omega) k
  refine n_putR (a := 20) (t := 26) (z := 0) (z' := 0) d_X1_init_23 pkr_RX1_16 rfl sh_20 rfl (by decide) ?_
  refine n_aload_n d_X1_init_26 rfl (by decide) ?_
  refine n_iconst d_X1_init_27 ?_
  refine n_newI (n := 31) (len := 2) d_X1_init_28 sh_31 (by decide) (by decide) (by decide) (Nat.sub_le_sub_right (sl_le (by decide)) _) (zD2 31 (by decide)) ?_
  refine n_putR (a := 20) (t := 31) (z := 0) (z' := 0) d_X1_init_30 pkr_RX1_19 rfl sh_20 rfl (by decide) ?_
  exact n_vret d_X1_init_33 rfl rfl rfl rfl
set_option maxRecDepth 20000 in
theorem ini_X7_0 {Γ : GG} {D : DD} (zD : ∀ a, 1 ≤ a → ∀ k, D a k = 0) {Ψ : DD → Prop} (h : WP none 0 (fun o D' => o = .inl none ∧ Ψ D') (pH_ini (img (img (img D 2) 21) 26))) : RunN Γ 1 (32 - 1) (sl 32 - sl 1) (Qn Γ 32 [(0, 6), (20, 2), (20, 1), (26, 3), (26, 2), (26, 1), (26, 0), (20, 0), (21, 3), (21, 2), (21, 1), (21, 0), (0, 5), (15, 3), (15, 2), (15, 1), (15, 0), (0, 4), (13, 1), (13, 0), (13, 2), (0, 3), (12, 1), (12, 0), (0, 2), (11, 1), (11, 0), (0, 1), (0, 0), (7, 0), (7, 3), (7, 2), (7, 1), (2, 3), (2, 2), (2, 1), (2, 0), (0, 7)] (Ψ)) XF Y_X7_init 0 [(8, 0), (5, 0), (5, 0)] [] 1 [] D := by
  refine n_aload_n d_X7_init_0 rfl (by decide) ?_
  refine n_objI d_X7_init_1 oj_RX7_3 (by decide) (by decide) (by decide) ?_
  refine n_aload_n d_X7_init_4 rfl (by decide) ?_
  refine n_bipush d_X7_init_5 (by decide) ?_
  refine n_newI (n := 1) (len := 80) d_X7_init_7 sh_1 (by decide) (by decide) (by decide) (Nat.sub_le_sub_right (sl_le (by decide)) _) (zD 1 (by decide)) ?_
  refine n_putR (a := 0) (t := 1) (z := 0) (z' := 0) d_X7_init_9 pkr_RX7_9 rfl sh_0 rfl (by decide) ?_
  refine n_new (n := 2) d_X7_init_12 nk_RX7_13_2 sh_2 (by decide) (by decide) (Nat.sub_le_sub_right (sl_le (by decide)) _) (zD 2 (by decide)) (by decide) ?_
  refine n_dup d_X7_init_15 (by decide) ?_
  refine n_callI (a := 2) (z := 0) (as := []) (rest := [(10, 0)]) (ls' := [(10, 0)]) (n := 3) (n1 := 7) (M1 := [(2, 3), (2, 2), (2, 1), (2, 0), (0, 7)]) (Ψ := fun D' => D' = (img D 2)) d_X7_init_16 cki_RX7_15 rfl rfl rfl (by decide) (Nat.le_of_ble_eq_true rfl) (by decide) rfl (by decide) (by decide) (by decide) (Nat.sub_le_sub_right (sl_le (by decide)) _) (ini_X2_2 (fun a h => zD a (Nat.le_trans (by decide) h))) (fun D' e => ?_)
  have e2 : D' = (img D 2) := e
  subst e2
  have zD1 : ∀ a, 7 ≤ a → ∀ k, (img D 2) a k = 0 := fun a h k => by rw [img_ne (by omega)]; exact zD a (by omega) k
  refine n_astore_n d_X7_init_19 (by decide) rfl (by decide) ?_
  refine n_new (n := 7) d_X7_init_20 nk_RX7_16_7 sh_7 (by decide) (by decide) (Nat.sub_le_sub_right (sl_le (by decide)) _) (zD1 7 (by decide)) (by decide) ?_
  refine n_dup d_X7_init_23 (by decide) ?_
  refine n_aload_n d_X7_init_24 rfl (by decide) ?_
  refine n_callI (a := 7) (z := 0) (as := [(10, 0)]) (rest := [(15, 0)]) (ls' := [(15, 0), (10, 0)]) (n := 8) (n1 := 11) (M1 := [(7, 0), (7, 3), (7, 2), (7, 1), (2, 3), (2, 2), (2, 1), (2, 0), (0, 7)]) (Ψ := fun D' => D' = (img D 2)) d_X7_init_25 cki_RX7_18 rfl rfl rfl (by decide) (Nat.le_of_ble_eq_true rfl) (by decide) rfl (by decide) (by decide) (by decide) (Nat.sub_le_sub_right (sl_le (by decide)) _) (ini_X0_7 (fun a h => zD1 a (Nat.le_trans (by decide) h))) (fun D' e => ?_)
  have e2 : D' = (img D 2) := e
  subst e2
  refine n_astore_n d_X7_init_28 (by decide) rfl (by decide) ?_
  refine n_aload_n d_X7_init_29 rfl (by decide) ?_
  refine n_aload_n d_X7_init_30 rfl (by decide) ?_
  refine n_putR (a := 0) (t := 2) (z := 0) (z' := 0) d_X7_init_31 pkr_RX7_21 rfl sh_0 rfl (by decide) ?_
  refine n_aload_n d_X7_init_34 rfl (by decide) ?_
  refine n_aload_n d_X7_init_35 rfl (by decide) ?_
  refine n_putR (a := 0) (t := 7) (z := 0) (z' := 0) d_X7_init_36 pkr_RX7_25 rfl sh_0 rfl (by decide) ?_
  refine n_aload_n d_X7_init_39 rfl (by decide) ?_
  refine n_new (n := 11) d_X7_init_40 nk_RX7_29_11 sh_11 (by decide) (by decide) (Nat.sub_le_sub_right (sl_le (by decide)) _) (zD1 11 (by decide)) (by decide) ?_
  refine n_dup d_X7_init_43 (by decide) ?_
  refine n_aload_n d_X7_init_44 rfl (by decide) ?_
  refine n_aload_n d_X7_init_45 rfl (by decide) ?_
  refine n_callI (a := 11) (z := 0) (as := [(10, 0), (15, 0)]) (rest := [(19, 0), (8, 0)]) (ls' := [(19, 0), (10, 0), (15, 0)]) (n := 12) (n1 := 12) (M1 := [(11, 1), (11, 0), (0, 1), (0, 0), (7, 0), (7, 3), (7, 2), (7, 1), (2, 3), (2, 2), (2, 1), (2, 0), (0, 7)]) (Ψ := fun D' => D' = (img D 2)) d_X7_init_46 cki_RX7_31 rfl rfl rfl (by decide) (Nat.le_of_ble_eq_true rfl) (by decide) rfl (by decide) (by decide) (by decide) (Nat.sub_le_sub_right (sl_le (by decide)) _) (ini_X3_11 (fun a h => zD1 a (Nat.le_trans (by decide) h))) (fun D' e => ?_)
  have e2 : D' = (img D 2) := e
  subst e2
  refine n_putR (a := 0) (t := 11) (z := 0) (z' := 0) d_X7_init_49 pkr_RX7_34 rfl sh_0 rfl (by decide) ?_
  refine n_aload_n d_X7_init_52 rfl (by decide) ?_
  refine n_new (n := 12) d_X7_init_53 nk_RX7_38_12 sh_12 (by decide) (by decide) (Nat.sub_le_sub_right (sl_le (by decide)) _) (zD1 12 (by decide)) (by decide) ?_
  refine n_dup d_X7_init_56 (by decide) ?_
  refine n_aload_n d_X7_init_57 rfl (by decide) ?_
  refine n_aload_n d_X7_init_58 rfl (by decide) ?_
  refine n_callI (a := 12) (z := 0) (as := [(10, 0), (15, 0)]) (rest := [(20, 0), (8, 0)]) (ls' := [(20, 0), (10, 0), (15, 0)]) (n := 13) (n1 := 13) (M1 := [(12, 1), (12, 0), (0, 2), (11, 1), (11, 0), (0, 1), (0, 0), (7, 0), (7, 3), (7, 2), (7, 1), (2, 3), (2, 2), (2, 1), (2, 0), (0, 7)]) (Ψ := fun D' => D' = (img D 2)) d_X7_init_59 cki_RX7_40 rfl rfl rfl (by decide) (Nat.le_of_ble_eq_true rfl) (by decide) rfl (by decide) (by decide) (by decide) (Nat.sub_le_sub_right (sl_le (by decide)) _) (ini_X5_12 (fun a h => zD1 a (Nat.le_trans (by decide) h))) (fun D' e => ?_)
  have e2 : D' = (img D 2) := e
  subst e2
  refine n_putR (a := 0) (t := 12) (z := 0) (z' := 0) d_X7_init_62 pkr_RX7_41 rfl sh_0 rfl (by decide) ?_
  refine n_aload_n d_X7_init_65 rfl (by decide) ?_
  refine n_new (n := 13) d_X7_init_66 nk_RX7_45_13 sh_13 (by decide) (by decide) (Nat.sub_le_sub_right (sl_le (by decide)) _) (zD1 13 (by decide)) (by decide) ?_
  refine n_dup d_X7_init_69 (by decide) ?_
  refine n_aload_n d_X7_init_70 rfl (by decide) ?_
  refine n_aload_n d_X7_init_71 rfl (by decide) ?_
  refine n_callI (a := 13) (z := 0) (as := [(10, 0), (15, 0)]) (rest := [(21, 0), (8, 0)]) (ls' := [(21, 0), (10, 0), (15, 0)]) (n := 14) (n1 := 15) (M1 := [(13, 1), (13, 0), (13, 2), (0, 3), (12, 1), (12, 0), (0, 2), (11, 1), (11, 0), (0, 1), (0, 0), (7, 0), (7, 3), (7, 2), (7, 1), (2, 3), (2, 2), (2, 1), (2, 0), (0, 7)]) (Ψ := fun D' => D' = (img D 2)) d_X7_init_72 cki_RX7_47 rfl rfl rfl (by decide) (Nat.le_of_ble_eq_true rfl) (by decide) rfl (by decide) (by decide) (by decide) (Nat.sub_le_sub_right (sl_le (by decide)) _) (ini_X4_13 (fun a h => zD1 a (Nat.le_trans (by decide) h))) (fun D' e => ?_)
  have e2 : D' = (img D 2) := e
  subst e2
  refine n_putR (a := 0) (t := 13) (z := 0) (z' := 0) d_X7_init_75 pkr_RX7_48 rfl sh_0 rfl (by decide) ?_
  refine n_aload_n d_X7_init_78 rfl (by decide) ?_
  refine n_new (n := 15) d_X7_init_79 nk_RX7_52_15 sh_15 (by decide) (by decide) (Nat.sub_le_sub_right (sl_le (by decide)) _) (zD1 15 (by decide)) (by decide) ?_
  refine n_dup d_X7_init_82 (by decide) ?_
  refine n_callJ (a := 15) (z := 0) (as := []) (rest := [(23, 0), (8, 0)]) (ls' := [(23, 0)]) (n := 16) (n1 := 20) (M1 := [(15, 3), (15, 2), (15, 1), (15, 0), (0, 4), (13, 1), (13, 0), (13, 2), (0, 3), (12, 1), (12, 0), (0, 2), (11, 1), (11, 0), (0, 1), (0, 0), (7, 0), (7, 3), (7, 2), (7, 1), (2, 3), (2, 2), (2, 1), (2, 0), (0, 7)]) (Ψ := fun D' => D' = (img D 2)) d_X7_init_83 cki_RX7_54 rfl rfl rfl (by decide) (Nat.le_of_ble_eq_true rfl) (by decide) rfl (by decide) (by decide) (by decide) (Nat.sub_le_sub_right (sl_le (by decide)) _) (ini_X6_15 (fun a h => zD1 a (Nat.le_trans (by decide) h))) (fun D' e => ?_)
  have e2 : D' = (img D 2) := e
  subst e2
  refine n_putR (a := 0) (t := 15) (z := 0) (z' := 0) d_X7_init_86 pkr_RX7_55 rfl sh_0 rfl (by decide) ?_
  refine n_aload_n d_X7_init_89 rfl (by decide) ?_
  refine n_new (n := 20) d_X7_init_90 nk_RX7_59_20 sh_20 (by decide) (by decide) (Nat.sub_le_sub_right (sl_le (by decide)) _) (zD1 20 (by decide)) (by decide) ?_
  refine n_dup d_X7_init_93 (by decide) ?_
  refine n_callJ (a := 20) (z := 0) (as := []) (rest := [(28, 0), (8, 0)]) (ls' := [(28, 0)]) (n := 21) (n1 := 32) (M1 := [(20, 2), (20, 1), (26, 3), (26, 2), (26, 1), (26, 0), (20, 0), (21, 3), (21, 2), (21, 1), (21, 0), (0, 5), (15, 3), (15, 2), (15, 1), (15, 0), (0, 4), (13, 1), (13, 0), (13, 2), (0, 3), (12, 1), (12, 0), (0, 2), (11, 1), (11, 0), (0, 1), (0, 0), (7, 0), (7, 3), (7, 2), (7, 1), (2, 3), (2, 2), (2, 1), (2, 0), (0, 7)]) (Ψ := fun D' => D' = (img (img (img D 2) 21) 26)) d_X7_init_94 cki_RX7_61 rfl rfl rfl (by decide) (Nat.le_of_ble_eq_true rfl) (by decide) rfl (by decide) (by decide) (by decide) (Nat.sub_le_sub_right (sl_le (by decide)) _) (ini_X1_20 (fun a h => zD1 a (Nat.le_trans (by decide) h))) (fun D' e => ?_)
  have e2 : D' = (img (img (img D 2) 21) 26) := e
  subst e2
  have zD2 : ∀ a, 32 ≤ a → ∀ k, (img (img D 2) 21) a k = 0 := fun a h k => by rw [img_ne (by omega)]; exact zD1 a (by omega) k
  have zD3 : ∀ a, 32 ≤ a → ∀ k, (img (img (img D 2) 21) 26) a k = 0 := fun a h k => by rw [img_ne (by omega)]; exact zD2 a (by omega) k
  refine n_putR (a := 0) (t := 20) (z := 0) (z' := 0) d_X7_init_97 pkr_RX7_62 rfl sh_0 rfl (by decide) ?_
  refine n_tail (by decide +kernel) (by decide) (by rw [zD3 99 (by decide) 0]; decide) ?_
  exact run_pH_ini (fun a h => h) h
