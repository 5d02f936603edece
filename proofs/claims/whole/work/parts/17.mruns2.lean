/-! the reference: each run keeps to its reading -/
set_option maxRecDepth 20000 in
theorem run_pM_goes {Γ : GG} {rg : Nat → Bool} {κ : Nat} {Φ : OT → DD → Prop} (R : cov rg rg1) (p1 : Int) (p2 : Int) {D : DD} (h : WP none κ Φ (pM_goes p1 p2 D)) : Run Γ rg κ Y_X8_goes 0 [(40, 0), (0, p1), (0, p2), (5, 0), (5, 0), (5, 0), (5, 0)] [] D Φ := by
  unfold pM_goes at h
  show Run Γ rg κ Y_X8_goes 0 [(40, 0), (0, p1), (0, p2), (5, 0), (5, 0), (5, 0), (5, 0)] [] D Φ
  refine r_aload_n d_X8_goes_0 rfl (by decide) ?_
  refine r_iload_n d_X8_goes_1 rfl ?_
  refine r_iload_n d_X8_goes_2 rfl ?_
  refine c_callVi (t' := (some .int)) (a := 32) (z := 0) (as := [(0, p1), (0, p2)]) (rest := []) (ls' := [(40, 0), (0, p1), (0, p2), (5, 0), (5, 0)]) d_X8_goes_3 ck_RX8_179 rfl sh_32 rfl (by decide) (R 32 rfl) rfl rfl (Nat.le_of_ble_eq_true rfl) (Nat.le_of_ble_eq_true rfl) (by decide) rfl rfl (fun _ => rfl) (fun κ' Ψ hΨ => run_pM_entryOf R _ _ hΨ) h (fun v1 D1 h => ?_)
  show Run Γ rg κ Y_X8_goes 6 [(40, 0), (0, p1), (0, p2), (5, 0), (5, 0), (5, 0), (5, 0)] [(0, v1)] D1 Φ
  refine r_istore_n d_X8_goes_6 (by decide) rfl ?_
  show Run Γ rg κ Y_X8_goes 7 [(40, 0), (0, p1), (0, p2), (0, v1), (5, 0), (5, 0), (5, 0)] [] D1 Φ
  refine r_iconst d_X8_goes_7 ?_
  refine r_istore d_X8_goes_8 (by decide) rfl ?_
  show Run Γ rg κ Y_X8_goes 10 [(40, 0), (0, p1), (0, p2), (0, v1), (0, 0), (5, 0), (5, 0)] [] D1 Φ
  refine Run.forget (ls' := [(40, 0), (0, p1), (5, 0), (0, v1), (0, 0), (5, 0), (5, 0)]) ⟨Or.inr rfl, Or.inr rfl, Or.inl rfl, Or.inr rfl, Or.inr rfl, Or.inr rfl, Or.inr rfl, trivial⟩ ?_
  refine run_pM_goes_10 R p1 v1 ?_ fu 0 D1 h
  intro x1 D2 h
  show Run Γ rg κ Y_X8_goes 29 [(40, 0), (0, p1), (5, 0), (0, v1), (0, x1), (5, 0), (5, 0)] [] D2 Φ
  refine r_aload_n d_X8_goes_29 rfl (by decide) ?_
  refine r_iload_n d_X8_goes_30 rfl ?_
  refine c_callVi (t' := (some .int)) (a := 32) (z := 0) (as := [(0, p1)]) (rest := []) (ls' := [(40, 0), (0, p1)]) d_X8_goes_31 ck_RX8_163 rfl sh_32 rfl (by decide) (R 32 rfl) rfl rfl (Nat.le_of_ble_eq_true rfl) (Nat.le_of_ble_eq_true rfl) (by decide) rfl rfl (fun _ => rfl) (fun κ' Ψ hΨ => run_pM_entries R _ hΨ) h (fun v2 D3 h => ?_)
  show Run Γ rg κ Y_X8_goes 34 [(40, 0), (0, p1), (5, 0), (0, v1), (0, x1), (5, 0), (5, 0)] [(0, v2)] D3 Φ
  refine r_iconst d_X8_goes_34 ?_
  refine r_isub d_X8_goes_35 ?_
  refine c_lt d_X8_goes_36 (by decide) rfl h (fun x2 h => ?_)
  show Run Γ rg κ Y_X8_goes 38 [(40, 0), (0, p1), (5, 0), (0, v1), (0, x1), (0, x2), (5, 0)] [] D3 Φ
  refine r_iload_n d_X8_goes_38 rfl ?_
  refine r_istore d_X8_goes_39 (by decide) rfl ?_
  show Run Γ rg κ Y_X8_goes 41 [(40, 0), (0, p1), (5, 0), (0, v1), (0, x1), (0, x2), (0, v1)] [] D3 Φ
  refine Run.forget (ls' := [(40, 0), (0, p1), (5, 0), (5, 0), (0, x1), (0, x2), (0, v1)]) ⟨Or.inr rfl, Or.inr rfl, Or.inr rfl, Or.inl rfl, Or.inr rfl, Or.inr rfl, Or.inr rfl, trivial⟩ ?_
  refine run_pM_goes_41 R p1 x2 x1 ?_ fu v1 D3 h
  intro D4 h
  show Run Γ rg κ Y_X8_goes 106 [(40, 0), (0, p1), (5, 0), (5, 0), (0, x1), (5, 0), (5, 0)] [] D4 Φ
  refine r_aload_n d_X8_goes_106 rfl (by decide) ?_
  refine r_getR (t := 45) d_X8_goes_107 fk_RX8_47 sh_32 rfl (by decide) (R 32 rfl) ?_
  refine r_bipush d_X8_goes_110 (by decide) ?_
  refine r_iload_n d_X8_goes_112 rfl ?_
  refine r_imul d_X8_goes_113 ?_
  refine r_iload d_X8_goes_114 rfl ?_
  refine r_iadd d_X8_goes_116 ?_
  refine r_dup2 d_X8_goes_117 (show (0 : Nat) ≠ 1 by decide) (by decide) ?_
  refine c_iald d_X8_goes_118 sh_45 (by decide) (R 45 rfl) (by decide) h (fun v3 h => ?_)
  refine r_iconst d_X8_goes_119 ?_
  refine r_isub d_X8_goes_120 ?_
  show Run Γ rg κ Y_X8_goes 121 [(40, 0), (0, p1), (5, 0), (5, 0), (0, x1), (5, 0), (5, 0)] [(0, (v3 - 1)), (0, ((8 * p1) + x1)), (53, 0)] D4 Φ
  refine c_iast d_X8_goes_121 sh_45 (by decide) (R 45 rfl) (by decide) h (fun D5 h => ?_)
  refine r_aload_n d_X8_goes_122 rfl (by decide) ?_
  refine r_aload_n d_X8_goes_123 rfl (by decide) ?_
  refine r_getR (t := 44) d_X8_goes_124 fk_RX8_44 sh_32 rfl (by decide) (R 32 rfl) ?_
  refine r_bipush d_X8_goes_127 (by decide) ?_
  refine r_iload_n d_X8_goes_129 rfl ?_
  refine r_imul d_X8_goes_130 ?_
  refine r_iload d_X8_goes_131 rfl ?_
  refine r_iadd d_X8_goes_133 ?_
  refine c_iald d_X8_goes_134 sh_44 (by decide) (R 44 rfl) (by decide) h (fun v4 h => ?_)
  refine c_callVv (a := 32) (z := 0) (as := [(0, v4)]) (rest := []) (ls' := [(40, 0), (0, v4), (5, 0), (5, 0)]) d_X8_goes_135 ck_RX8_152 rfl sh_32 rfl (by decide) (R 32 rfl) rfl rfl (Nat.le_of_ble_eq_true rfl) (Nat.le_of_ble_eq_true rfl) (by decide) rfl rfl (fun κ' Ψ hΨ => run_pM_writes R _ hΨ) h (fun _ D6 h => ?_)
  show Run Γ rg κ Y_X8_goes 138 [(40, 0), (0, p1), (5, 0), (5, 0), (0, x1), (5, 0), (5, 0)] [] D6 Φ
  refine r_aload_n d_X8_goes_138 rfl (by decide) ?_
  show Run Γ rg κ Y_X8_goes 139 [(40, 0), (0, p1), (5, 0), (5, 0), (0, x1), (5, 0), (5, 0)] [(40, 0)] D6 Φ
  refine r_getR (t := 45) d_X8_goes_139 fk_RX8_47 sh_32 rfl (by decide) (R 32 rfl) ?_
  refine r_bipush d_X8_goes_142 (by decide) ?_
  refine r_iload_n d_X8_goes_144 rfl ?_
  refine r_imul d_X8_goes_145 ?_
  refine r_iload d_X8_goes_146 rfl ?_
  refine r_iadd d_X8_goes_148 ?_
  refine c_iald d_X8_goes_149 sh_45 (by decide) (R 45 rfl) (by decide) h (fun v5 h => ?_)
  refine c_jn (fun J => ∀ (D7 : DD), WP none κ Φ (J D7) → Run Γ rg κ Y_X8_goes 298 [(40, 0), (0, p1), (5, 0), (5, 0), (5, 0), (5, 0), (5, 0)] [] D7 Φ) h ?_ (fun J1 hJ1 h => ?_)
  · intro D7 h
    show Run Γ rg κ Y_X8_goes 298 [(40, 0), (0, p1), (5, 0), (5, 0), (5, 0), (5, 0), (5, 0)] [] D7 Φ
    refine r_aload_n d_X8_goes_298 rfl (by decide) ?_
    refine r_aload_n d_X8_goes_299 rfl (by decide) ?_
    refine r_getR (t := 40) d_X8_goes_300 fk_RX8_32 sh_32 rfl (by decide) (R 32 rfl) ?_
    refine r_iload_n d_X8_goes_303 rfl ?_
    refine c_iald d_X8_goes_304 sh_40 (by decide) (R 40 rfl) (by decide) h (fun v6 h => ?_)
    refine c_callVv (a := 32) (z := 0) (as := [(0, v6)]) (rest := []) (ls' := [(40, 0), (0, v6), (5, 0), (5, 0)]) d_X8_goes_305 ck_RX8_152 rfl sh_32 rfl (by decide) (R 32 rfl) rfl rfl (Nat.le_of_ble_eq_true rfl) (Nat.le_of_ble_eq_true rfl) (by decide) rfl rfl (fun κ' Ψ hΨ => run_pM_writes R _ hΨ) h (fun _ D8 h => ?_)
    show Run Γ rg κ Y_X8_goes 308 [(40, 0), (0, p1), (5, 0), (5, 0), (5, 0), (5, 0), (5, 0)] [] D8 Φ
    exact c_vret d_X8_goes_308 rfl h
  refine c_if_ne (tgt := 298) d_X8_goes_150 (by decide) (nz_w _) h (fun h => ?_) (fun h => ?_)
  · skip
    exact Run.forget (ls' := [(40, 0), (0, p1), (5, 0), (5, 0), (5, 0), (5, 0), (5, 0)]) ⟨Or.inr rfl, Or.inr rfl, Or.inr rfl, Or.inr rfl, Or.inl rfl, Or.inr rfl, Or.inr rfl, trivial⟩ (hJ1 D6 h)
  · skip
    show Run Γ rg κ Y_X8_goes 153 [(40, 0), (0, p1), (5, 0), (5, 0), (0, x1), (5, 0), (5, 0)] [] D6 Φ
    refine r_aload_n d_X8_goes_153 rfl (by decide) ?_
    refine r_aload_n d_X8_goes_154 rfl (by decide) ?_
    refine r_getR (t := 44) d_X8_goes_155 fk_RX8_44 sh_32 rfl (by decide) (R 32 rfl) ?_
    refine r_bipush d_X8_goes_158 (by decide) ?_
    refine r_iload_n d_X8_goes_160 rfl ?_
    refine r_imul d_X8_goes_161 ?_
    refine r_iload d_X8_goes_162 rfl ?_
    refine r_iadd d_X8_goes_164 ?_
    refine c_iald d_X8_goes_165 sh_44 (by decide) (R 44 rfl) (by decide) h (fun v7 h => ?_)
    refine c_callVv (a := 32) (z := 0) (as := [(0, v7)]) (rest := []) (ls' := [(40, 0), (0, v7), (5, 0), (5, 0), (5, 0)]) d_X8_goes_166 ck_RX8_182 rfl sh_32 rfl (by decide) (R 32 rfl) rfl rfl (Nat.le_of_ble_eq_true rfl) (Nat.le_of_ble_eq_true rfl) (by decide) rfl rfl (fun κ' Ψ hΨ => run_pM_gives R _ hΨ) h (fun _ D9 h => ?_)
    show Run Γ rg κ Y_X8_goes 169 [(40, 0), (0, p1), (5, 0), (5, 0), (0, x1), (5, 0), (5, 0)] [] D9 Φ
    refine r_aload_n d_X8_goes_169 rfl (by decide) ?_
    show Run Γ rg κ Y_X8_goes 170 [(40, 0), (0, p1), (5, 0), (5, 0), (0, x1), (5, 0), (5, 0)] [(40, 0)] D9 Φ
    refine r_getR (t := 42) d_X8_goes_170 fk_RX8_38 sh_32 rfl (by decide) (R 32 rfl) ?_
    refine r_iload_n d_X8_goes_173 rfl ?_
    refine r_dup2 d_X8_goes_174 (show (0 : Nat) ≠ 1 by decide) (by decide) ?_
    refine c_iald d_X8_goes_175 sh_42 (by decide) (R 42 rfl) (by decide) h (fun v8 h => ?_)
    refine r_iconst d_X8_goes_176 ?_
    refine r_isub d_X8_goes_177 ?_
    refine c_iast d_X8_goes_178 sh_42 (by decide) (R 42 rfl) (by decide) h (fun D10 h => ?_)
    refine r_iload d_X8_goes_179 rfl ?_
    refine r_istore d_X8_goes_181 (by decide) rfl ?_
    show Run Γ rg κ Y_X8_goes 183 [(40, 0), (0, p1), (5, 0), (5, 0), (0, x1), (5, 0), (0, x1)] [] D10 Φ
    refine Run.forget (ls' := [(40, 0), (0, p1), (5, 0), (5, 0), (5, 0), (5, 0), (0, x1)]) ⟨Or.inr rfl, Or.inr rfl, Or.inr rfl, Or.inr rfl, Or.inl rfl, Or.inr rfl, Or.inr rfl, trivial⟩ ?_
    refine run_pM_goes_183 R p1 ?_ fu x1 D10 h
    intro D11 h
    show Run Γ rg κ Y_X8_goes 252 [(40, 0), (0, p1), (5, 0), (5, 0), (5, 0), (5, 0), (5, 0)] [] D11 Φ
    refine r_aload_n d_X8_goes_252 rfl (by decide) ?_
    refine r_getR (t := 42) d_X8_goes_253 fk_RX8_38 sh_32 rfl (by decide) (R 32 rfl) ?_
    refine r_iload_n d_X8_goes_256 rfl ?_
    refine c_iald d_X8_goes_257 sh_42 (by decide) (R 42 rfl) (by decide) h (fun v9 h => ?_)
    refine c_jn (fun J => ∀ (D12 : DD), WP none κ Φ (J D12) → Run Γ rg κ Y_X8_goes 271 [(40, 0), (0, p1), (5, 0), (5, 0), (5, 0), (5, 0), (5, 0)] [] D12 Φ) h ?_ (fun J2 hJ2 h => ?_)
    · intro D12 h
      show Run Γ rg κ Y_X8_goes 271 [(40, 0), (0, p1), (5, 0), (5, 0), (5, 0), (5, 0), (5, 0)] [] D12 Φ
      refine r_aload_n d_X8_goes_271 rfl (by decide) ?_
      refine r_getR (t := 42) d_X8_goes_272 fk_RX8_38 sh_32 rfl (by decide) (R 32 rfl) ?_
      refine r_iload_n d_X8_goes_275 rfl ?_
      refine c_iald d_X8_goes_276 sh_42 (by decide) (R 42 rfl) (by decide) h (fun v10 h => ?_)
      refine r_iconst d_X8_goes_277 ?_
      refine c_icmp_ne (tgt := 298) d_X8_goes_278 (by decide) (nz_w _) (nz_k rfl) h (fun h => ?_) (fun h => ?_)
      · skip
        exact (hJ1 D12 h)
      · skip
        show Run Γ rg κ Y_X8_goes 281 [(40, 0), (0, p1), (5, 0), (5, 0), (5, 0), (5, 0), (5, 0)] [] D12 Φ
        refine r_aload_n d_X8_goes_281 rfl (by decide) ?_
        refine r_aload_n d_X8_goes_282 rfl (by decide) ?_
        refine r_getR (t := 43) d_X8_goes_283 fk_RX8_41 sh_32 rfl (by decide) (R 32 rfl) ?_
        refine r_iload_n d_X8_goes_286 rfl ?_
        refine c_iald d_X8_goes_287 sh_43 (by decide) (R 43 rfl) (by decide) h (fun v11 h => ?_)
        refine c_callVv (a := 32) (z := 0) (as := [(0, v11)]) (rest := []) (ls' := [(40, 0), (0, v11), (5, 0), (5, 0), (5, 0)]) d_X8_goes_288 ck_RX8_182 rfl sh_32 rfl (by decide) (R 32 rfl) rfl rfl (Nat.le_of_ble_eq_true rfl) (Nat.le_of_ble_eq_true rfl) (by decide) rfl rfl (fun κ' Ψ hΨ => run_pM_gives R _ hΨ) h (fun _ D13 h => ?_)
        show Run Γ rg κ Y_X8_goes 291 [(40, 0), (0, p1), (5, 0), (5, 0), (5, 0), (5, 0), (5, 0)] [] D13 Φ
        refine r_aload_n d_X8_goes_291 rfl (by decide) ?_
        refine r_getR (t := 43) d_X8_goes_292 fk_RX8_41 sh_32 rfl (by decide) (R 32 rfl) ?_
        refine r_iload_n d_X8_goes_295 rfl ?_
        refine r_iconst d_X8_goes_296 ?_
        refine c_iast d_X8_goes_297 sh_43 (by decide) (R 43 rfl) (by decide) h (fun D14 h => ?_)
        exact (hJ1 D14 h)
    refine c_if_le (tgt := 271) d_X8_goes_258 (by decide) (nz_w _) h (fun h => ?_) (fun h => ?_)
    · skip
      exact (hJ2 D11 h)
    · skip
      show Run Γ rg κ Y_X8_goes 261 [(40, 0), (0, p1), (5, 0), (5, 0), (5, 0), (5, 0), (5, 0)] [] D11 Φ
      refine r_aload_n d_X8_goes_261 rfl (by decide) ?_
      refine r_aload_n d_X8_goes_262 rfl (by decide) ?_
      refine r_getR (t := 43) d_X8_goes_263 fk_RX8_41 sh_32 rfl (by decide) (R 32 rfl) ?_
      refine r_iload_n d_X8_goes_266 rfl ?_
      refine c_iald d_X8_goes_267 sh_43 (by decide) (R 43 rfl) (by decide) h (fun v12 h => ?_)
      refine c_callVv (a := 32) (z := 0) (as := [(0, v12)]) (rest := []) (ls' := [(40, 0), (0, v12), (5, 0), (5, 0)]) d_X8_goes_268 ck_RX8_152 rfl sh_32 rfl (by decide) (R 32 rfl) rfl rfl (Nat.le_of_ble_eq_true rfl) (Nat.le_of_ble_eq_true rfl) (by decide) rfl rfl (fun κ' Ψ hΨ => run_pM_writes R _ hΨ) h (fun _ D15 h => ?_)
      show Run Γ rg κ Y_X8_goes 271 [(40, 0), (0, p1), (5, 0), (5, 0), (5, 0), (5, 0), (5, 0)] [] D15 Φ
      exact (hJ2 D15 h)
set_option maxRecDepth 20000 in
theorem run_pM_cannotRename {Γ : GG} {rg : Nat → Bool} {κ : Nat} {Φ : OT → DD → Prop} (R : cov rg rg1) (p1 : Int) (p2 : Int) {D : DD} (h : WP (some .boolean) κ Φ (pM_cannotRename p1 p2 D)) : Run Γ rg κ Y_X8_cannotRename 0 [(40, 0), (0, p1), (0, p2)] [] D Φ := by
  unfold pM_cannotRename at h
  show Run Γ rg κ Y_X8_cannotRename 0 [(40, 0), (0, p1), (0, p2)] [] D Φ
  refine r_iload_n d_X8_cannotRename_0 rfl ?_
  refine c_if_eq (tgt := 33) d_X8_cannotRename_1 (by decide) (nz_w _) h (fun h => ?_) (fun h => ?_)
  · skip
    show Run Γ rg κ Y_X8_cannotRename 33 [(40, 0), (0, p1), (0, p2)] [] D Φ
    refine r_iconst d_X8_cannotRename_33 ?_
    exact c_zret d_X8_cannotRename_34 rfl (Or.inr rfl) h
  · skip
    show Run Γ rg κ Y_X8_cannotRename 4 [(40, 0), (0, p1), (0, p2)] [] D Φ
    refine r_aload_n d_X8_cannotRename_4 rfl (by decide) ?_
    refine r_aload_n d_X8_cannotRename_5 rfl (by decide) ?_
    refine r_getR (t := 37) d_X8_cannotRename_6 fk_RX8_23 sh_32 rfl (by decide) (R 32 rfl) ?_
    refine r_iload_n d_X8_cannotRename_9 rfl ?_
    refine c_iald d_X8_cannotRename_10 sh_37 (by decide) (R 37 rfl) (by decide) h (fun v1 h => ?_)
    refine r_iload_n d_X8_cannotRename_11 rfl ?_
    refine c_callVi (t' := (some .int)) (a := 32) (z := 0) (as := [(0, v1), (0, p2)]) (rest := []) (ls' := [(40, 0), (0, v1), (0, p2), (5, 0), (5, 0)]) d_X8_cannotRename_12 ck_RX8_179 rfl sh_32 rfl (by decide) (R 32 rfl) rfl rfl (Nat.le_of_ble_eq_true rfl) (Nat.le_of_ble_eq_true rfl) (by decide) rfl rfl (fun _ => rfl) (fun κ' Ψ hΨ => run_pM_entryOf R _ _ hΨ) h (fun v2 D1 h => ?_)
    show Run Γ rg κ Y_X8_cannotRename 15 [(40, 0), (0, p1), (0, p2)] [(0, v2)] D1 Φ
    refine r_iconst d_X8_cannotRename_15 ?_
    refine c_icmp_ne (tgt := 33) d_X8_cannotRename_16 (by decide) (nz_w _) (nz_k rfl) h (fun h => ?_) (fun h => ?_)
    · skip
      show Run Γ rg κ Y_X8_cannotRename 33 [(40, 0), (0, p1), (0, p2)] [] D1 Φ
      refine r_iconst d_X8_cannotRename_33 ?_
      exact c_zret d_X8_cannotRename_34 rfl (Or.inr rfl) h
    · skip
      show Run Γ rg κ Y_X8_cannotRename 19 [(40, 0), (0, p1), (0, p2)] [] D1 Φ
      refine r_aload_n d_X8_cannotRename_19 rfl (by decide) ?_
      refine r_aload_n d_X8_cannotRename_20 rfl (by decide) ?_
      refine r_getR (t := 37) d_X8_cannotRename_21 fk_RX8_23 sh_32 rfl (by decide) (R 32 rfl) ?_
      refine r_iload_n d_X8_cannotRename_24 rfl ?_
      refine c_iald d_X8_cannotRename_25 sh_37 (by decide) (R 37 rfl) (by decide) h (fun v3 h => ?_)
      refine r_iload_n d_X8_cannotRename_26 rfl ?_
      refine c_callVi (t' := (some .boolean)) (a := 32) (z := 0) (as := [(0, v3), (0, p2)]) (rest := []) (ls' := [(40, 0), (0, v3), (0, p2)]) d_X8_cannotRename_27 ck_RX8_201 rfl sh_32 rfl (by decide) (R 32 rfl) rfl rfl (Nat.le_of_ble_eq_true rfl) (Nat.le_of_ble_eq_true rfl) (by decide) rfl rfl (fun _ => rfl) (fun κ' Ψ hΨ => run_pM_isFull R _ _ hΨ) h (fun v4 D2 h => ?_)
      show Run Γ rg κ Y_X8_cannotRename 30 [(40, 0), (0, p1), (0, p2)] [(0, v4)] D2 Φ
      refine c_if_eq (tgt := 35) d_X8_cannotRename_30 (by decide) (nz_w _) h (fun h => ?_) (fun h => ?_)
      · skip
        show Run Γ rg κ Y_X8_cannotRename 35 [(40, 0), (0, p1), (0, p2)] [] D2 Φ
        refine r_aload_n d_X8_cannotRename_35 rfl (by decide) ?_
        refine r_iconst d_X8_cannotRename_36 ?_
        refine c_putI (k := 37) d_X8_cannotRename_37 pk_RX8_146 sh_32 rfl (by decide) (R 32 rfl) h (fun D3 h => ?_)
        refine r_aload_n d_X8_cannotRename_40 rfl (by decide) ?_
        refine r_aload_n d_X8_cannotRename_41 rfl (by decide) ?_
        refine r_getR (t := 37) d_X8_cannotRename_42 fk_RX8_23 sh_32 rfl (by decide) (R 32 rfl) ?_
        refine r_iload_n d_X8_cannotRename_45 rfl ?_
        refine c_iald d_X8_cannotRename_46 sh_37 (by decide) (R 37 rfl) (by decide) h (fun v5 h => ?_)
        refine r_iload_n d_X8_cannotRename_47 rfl ?_
        refine c_callVv (a := 32) (z := 0) (as := [(0, v5), (0, p2)]) (rest := []) (ls' := [(40, 0), (0, v5), (0, p2)]) d_X8_cannotRename_48 ck_RX8_204 rfl sh_32 rfl (by decide) (R 32 rfl) rfl rfl (Nat.le_of_ble_eq_true rfl) (Nat.le_of_ble_eq_true rfl) (by decide) rfl rfl (fun κ' Ψ hΨ => run_pM_wantsEntry R _ _ hΨ) h (fun _ D4 h => ?_)
        show Run Γ rg κ Y_X8_cannotRename 51 [(40, 0), (0, p1), (0, p2)] [] D4 Φ
        refine r_aload_n d_X8_cannotRename_51 rfl (by decide) ?_
        show Run Γ rg κ Y_X8_cannotRename 52 [(40, 0), (0, p1), (0, p2)] [(40, 0)] D4 Φ
        refine c_callVi (t' := (some .boolean)) (a := 32) (z := 0) (as := []) (rest := []) (ls' := [(40, 0), (5, 0), (5, 0), (5, 0)]) d_X8_cannotRename_52 ck_RX8_207 rfl sh_32 rfl (by decide) (R 32 rfl) rfl rfl (Nat.le_of_ble_eq_true rfl) (Nat.le_of_ble_eq_true rfl) (by decide) rfl rfl (fun _ => rfl) (fun κ' Ψ hΨ => run_pM_gets R hΨ) h (fun v6 D5 h => ?_)
        show Run Γ rg κ Y_X8_cannotRename 55 [(40, 0), (0, p1), (0, p2)] [(0, v6)] D5 Φ
        refine c_if_ne (tgt := 62) d_X8_cannotRename_55 (by decide) (nz_w _) h (fun h => ?_) (fun h => ?_)
        · skip
          show Run Γ rg κ Y_X8_cannotRename 62 [(40, 0), (0, p1), (0, p2)] [] D5 Φ
          refine r_iconst d_X8_cannotRename_62 ?_
          exact c_zret d_X8_cannotRename_63 rfl (Or.inl rfl) h
        · skip
          show Run Γ rg κ Y_X8_cannotRename 58 [(40, 0), (0, p1), (0, p2)] [] D5 Φ
          refine r_iconst d_X8_cannotRename_58 ?_
          refine r_goto (tgt := 63) d_X8_cannotRename_59 (by decide) ?_
          show Run Γ rg κ Y_X8_cannotRename 63 [(40, 0), (0, p1), (0, p2)] [(0, 1)] D5 Φ
          exact c_zret d_X8_cannotRename_63 rfl (Or.inr rfl) h
      · skip
        show Run Γ rg κ Y_X8_cannotRename 33 [(40, 0), (0, p1), (0, p2)] [] D2 Φ
        refine r_iconst d_X8_cannotRename_33 ?_
        exact c_zret d_X8_cannotRename_34 rfl (Or.inr rfl) h
set_option maxRecDepth 20000 in
theorem run_pM_rename {Γ : GG} {rg : Nat → Bool} {κ : Nat} {Φ : OT → DD → Prop} (R : cov rg rg1) (p1 : Int) (p2 : Int) {D : DD} (h : WP (some .int) κ Φ (pM_rename p1 p2 D)) : Run Γ rg κ Y_X8_rename 0 [(40, 0), (0, p1), (0, p2), (5, 0), (5, 0)] [] D Φ := by
  unfold pM_rename at h
  show Run Γ rg κ Y_X8_rename 0 [(40, 0), (0, p1), (0, p2), (5, 0), (5, 0)] [] D Φ
  refine r_aload_n d_X8_rename_0 rfl (by decide) ?_
  refine r_iload_n d_X8_rename_1 rfl ?_
  refine c_callVi (t' := (some .boolean)) (a := 32) (z := 0) (as := [(0, p1)]) (rest := []) (ls' := [(40, 0), (0, p1)]) d_X8_rename_2 ck_RX8_191 rfl sh_32 rfl (by decide) (R 32 rfl) rfl rfl (Nat.le_of_ble_eq_true rfl) (Nat.le_of_ble_eq_true rfl) (by decide) rfl rfl (fun _ => rfl) (fun κ' Ψ hΨ => run_pM_isKey R _ hΨ) h (fun v1 D1 h => ?_)
  show Run Γ rg κ Y_X8_rename 5 [(40, 0), (0, p1), (0, p2), (5, 0), (5, 0)] [(0, v1)] D1 Φ
  refine r_istore_n d_X8_rename_5 (by decide) rfl ?_
  show Run Γ rg κ Y_X8_rename 6 [(40, 0), (0, p1), (0, p2), (0, v1), (5, 0)] [] D1 Φ
  refine r_aload_n d_X8_rename_6 rfl (by decide) ?_
  refine r_iload_n d_X8_rename_7 rfl ?_
  refine c_jn (fun J => ∀ (x1 : Int) (D2 : DD), WP (some .int) κ Φ (J x1 D2) → Run Γ rg κ Y_X8_rename 40 [(40, 0), (0, p1), (0, p2), (5, 0), (5, 0)] [(0, x1), (40, 0)] D2 Φ) h ?_ (fun J1 hJ1 h => ?_)
  · intro x1 D2 h
    show Run Γ rg κ Y_X8_rename 40 [(40, 0), (0, p1), (0, p2), (5, 0), (5, 0)] [(0, x1), (40, 0)] D2 Φ
    refine c_callVi (t' := (some .boolean)) (a := 32) (z := 0) (as := [(0, x1)]) (rest := []) (ls' := [(40, 0), (0, x1)]) d_X8_rename_40 ck_RX8_195 rfl sh_32 rfl (by decide) (R 32 rfl) rfl rfl (Nat.le_of_ble_eq_true rfl) (Nat.le_of_ble_eq_true rfl) (by decide) rfl rfl (fun _ => rfl) (fun κ' Ψ hΨ => run_pM_fails R _ hΨ) h (fun v2 D3 h => ?_)
    show Run Γ rg κ Y_X8_rename 43 [(40, 0), (0, p1), (0, p2), (5, 0), (5, 0)] [(0, v2)] D3 Φ
    refine c_if_eq (tgt := 48) d_X8_rename_43 (by decide) (nz_w _) h (fun h => ?_) (fun h => ?_)
    · skip
      show Run Γ rg κ Y_X8_rename 48 [(40, 0), (0, p1), (0, p2), (5, 0), (5, 0)] [] D3 Φ
      refine r_aload_n d_X8_rename_48 rfl (by decide) ?_
      refine r_getR (t := 38) d_X8_rename_49 fk_RX8_26 sh_32 rfl (by decide) (R 32 rfl) ?_
      refine r_iload_n d_X8_rename_52 rfl ?_
      refine c_iald d_X8_rename_53 sh_38 (by decide) (R 38 rfl) (by decide) h (fun v3 h => ?_)
      refine r_istore d_X8_rename_54 (by decide) rfl ?_
      show Run Γ rg κ Y_X8_rename 56 [(40, 0), (0, p1), (0, p2), (5, 0), (0, v3)] [] D3 Φ
      refine r_aload_n d_X8_rename_56 rfl (by decide) ?_
      refine c_callVv (a := 32) (z := 0) (as := []) (rest := []) (ls' := [(40, 0), (5, 0)]) d_X8_rename_57 ck_RX8_211 rfl sh_32 rfl (by decide) (R 32 rfl) rfl rfl (Nat.le_of_ble_eq_true rfl) (Nat.le_of_ble_eq_true rfl) (by decide) rfl rfl (fun κ' Ψ hΨ => run_pM_writesGot R hΨ) h (fun _ D4 h => ?_)
      show Run Γ rg κ Y_X8_rename 60 [(40, 0), (0, p1), (0, p2), (5, 0), (0, v3)] [] D4 Φ
      refine r_aload_n d_X8_rename_60 rfl (by decide) ?_
      refine r_aload_n d_X8_rename_61 rfl (by decide) ?_
      refine r_getR (t := 37) d_X8_rename_62 fk_RX8_23 sh_32 rfl (by decide) (R 32 rfl) ?_
      refine r_iload_n d_X8_rename_65 rfl ?_
      show Run Γ rg κ Y_X8_rename 66 [(40, 0), (0, p1), (0, p2), (5, 0), (0, v3)] [(0, p1), (45, 0), (40, 0)] D4 Φ
      refine c_iald d_X8_rename_66 sh_37 (by decide) (R 37 rfl) (by decide) h (fun v4 h => ?_)
      refine r_iload_n d_X8_rename_67 rfl ?_
      refine r_iload_n d_X8_rename_68 rfl ?_
      refine r_iconst d_X8_rename_69 ?_
      refine c_callVv (a := 32) (z := 0) (as := [(0, v4), (0, p1), (0, p2), (0, 0)]) (rest := []) (ls' := [(40, 0), (0, v4), (0, p1), (0, p2), (0, 0), (5, 0), (5, 0), (5, 0), (5, 0), (5, 0), (5, 0)]) d_X8_rename_70 ck_RX8_214 rfl sh_32 rfl (by decide) (R 32 rfl) rfl rfl (Nat.le_of_ble_eq_true rfl) (Nat.le_of_ble_eq_true rfl) (by decide) rfl rfl (fun κ' Ψ hΨ => run_pM_enters R _ _ _ _ hΨ) h (fun _ D5 h => ?_)
      show Run Γ rg κ Y_X8_rename 73 [(40, 0), (0, p1), (0, p2), (5, 0), (0, v3)] [] D5 Φ
      refine r_aload_n d_X8_rename_73 rfl (by decide) ?_
      refine r_aload_n d_X8_rename_74 rfl (by decide) ?_
      refine r_getR (t := 37) d_X8_rename_75 fk_RX8_23 sh_32 rfl (by decide) (R 32 rfl) ?_
      refine r_iload_n d_X8_rename_78 rfl ?_
      refine c_iald d_X8_rename_79 sh_37 (by decide) (R 37 rfl) (by decide) h (fun v5 h => ?_)
      refine r_iload d_X8_rename_80 rfl ?_
      refine c_callVv (a := 32) (z := 0) (as := [(0, v5), (0, v3)]) (rest := []) (ls' := [(40, 0), (0, v5), (0, v3), (5, 0), (5, 0), (5, 0), (5, 0)]) d_X8_rename_82 ck_RX8_234 rfl sh_32 rfl (by decide) (R 32 rfl) rfl rfl (Nat.le_of_ble_eq_true rfl) (Nat.le_of_ble_eq_true rfl) (by decide) rfl rfl (fun κ' Ψ hΨ => run_pM_goes R _ _ hΨ) h (fun _ D6 h => ?_)
      show Run Γ rg κ Y_X8_rename 85 [(40, 0), (0, p1), (0, p2), (5, 0), (0, v3)] [] D6 Φ
      show Run Γ rg κ Y_X8_rename 85 [(40, 0), (0, p1), (0, p2), (5, 0), (0, v3)] [] D6 Φ
      refine r_aload_n d_X8_rename_85 rfl (by decide) ?_
      refine r_getR (t := 38) d_X8_rename_86 fk_RX8_26 sh_32 rfl (by decide) (R 32 rfl) ?_
      refine r_iload_n d_X8_rename_89 rfl ?_
      refine r_iload_n d_X8_rename_90 rfl ?_
      refine c_iast d_X8_rename_91 sh_38 (by decide) (R 38 rfl) (by decide) h (fun D7 h => ?_)
      refine r_aload_n d_X8_rename_92 rfl (by decide) ?_
      refine r_aload_n d_X8_rename_93 rfl (by decide) ?_
      refine r_getR (t := 40) d_X8_rename_94 fk_RX8_32 sh_32 rfl (by decide) (R 32 rfl) ?_
      refine r_iload_n d_X8_rename_97 rfl ?_
      refine c_iald d_X8_rename_98 sh_40 (by decide) (R 40 rfl) (by decide) h (fun v6 h => ?_)
      refine c_callVv (a := 32) (z := 0) (as := [(0, v6)]) (rest := []) (ls' := [(40, 0), (0, v6), (5, 0), (5, 0)]) d_X8_rename_99 ck_RX8_152 rfl sh_32 rfl (by decide) (R 32 rfl) rfl rfl (Nat.le_of_ble_eq_true rfl) (Nat.le_of_ble_eq_true rfl) (by decide) rfl rfl (fun κ' Ψ hΨ => run_pM_writes R _ hΨ) h (fun _ D8 h => ?_)
      show Run Γ rg κ Y_X8_rename 102 [(40, 0), (0, p1), (0, p2), (5, 0), (0, v3)] [] D8 Φ
      refine r_aload_n d_X8_rename_102 rfl (by decide) ?_
      show Run Γ rg κ Y_X8_rename 103 [(40, 0), (0, p1), (0, p2), (5, 0), (0, v3)] [(40, 0)] D8 Φ
      refine r_aload_n d_X8_rename_103 rfl (by decide) ?_
      refine r_getR (t := 37) d_X8_rename_104 fk_RX8_23 sh_32 rfl (by decide) (R 32 rfl) ?_
      refine r_iload_n d_X8_rename_107 rfl ?_
      refine c_iald d_X8_rename_108 sh_37 (by decide) (R 37 rfl) (by decide) h (fun v7 h => ?_)
      refine r_iconst d_X8_rename_109 ?_
      refine c_callVv (a := 32) (z := 0) (as := [(0, v7), (0, 1)]) (rest := []) (ls' := [(40, 0), (0, v7), (0, 1), (5, 0)]) d_X8_rename_110 ck_RX8_218 rfl sh_32 rfl (by decide) (R 32 rfl) rfl rfl (Nat.le_of_ble_eq_true rfl) (Nat.le_of_ble_eq_true rfl) (by decide) rfl rfl (fun κ' Ψ hΨ => run_pM_changes R _ _ hΨ) h (fun _ D9 h => ?_)
      show Run Γ rg κ Y_X8_rename 113 [(40, 0), (0, p1), (0, p2), (5, 0), (0, v3)] [] D9 Φ
      refine r_iload d_X8_rename_113 rfl ?_
      exact c_iret d_X8_rename_115 rfl h
    · skip
      show Run Γ rg κ Y_X8_rename 46 [(40, 0), (0, p1), (0, p2), (5, 0), (5, 0)] [] D3 Φ
      refine r_iconst d_X8_rename_46 ?_
      exact c_iret d_X8_rename_47 rfl h
  refine c_if_ne (tgt := 15) d_X8_rename_8 (by decide) (nz_w _) h (fun h => ?_) (fun h => ?_)
  · skip
    show Run Γ rg κ Y_X8_rename 15 [(40, 0), (0, p1), (0, p2), (0, v1), (5, 0)] [(40, 0)] D1 Φ
    refine r_iload_n d_X8_rename_15 rfl ?_
    refine c_callSPi (as := [(0, p2)]) (rest := [(40, 0)]) (ls' := [(0, p2)]) d_X8_rename_16 ck_RX8_221 rfl rfl rfl (Nat.le_of_ble_eq_true rfl) (Nat.le_of_ble_eq_true rfl) (by decide) rfl rfl (fun Ψ hΨ => run_pM_isName R _ rfl hΨ) ?_
    show Run Γ rg κ Y_X8_rename 19 [(40, 0), (0, p1), (0, p2), (0, v1), (5, 0)] [(0, (pM_isName p2)), (40, 0)] D1 Φ
    refine c_if_ne (tgt := 26) d_X8_rename_19 (by decide) (nz_b (pM_isName_b p2)) h (fun h => ?_) (fun h => ?_)
    · skip
      show Run Γ rg κ Y_X8_rename 26 [(40, 0), (0, p1), (0, p2), (0, v1), (5, 0)] [(40, 0)] D1 Φ
      refine r_aload_n d_X8_rename_26 rfl (by decide) ?_
      refine r_iload_n d_X8_rename_27 rfl ?_
      refine r_iload_n d_X8_rename_28 rfl ?_
      refine c_callVi (t' := (some .boolean)) (a := 32) (z := 0) (as := [(0, p1), (0, p2)]) (rest := [(40, 0)]) (ls' := [(40, 0), (0, p1), (0, p2)]) d_X8_rename_29 ck_RX8_231 rfl sh_32 rfl (by decide) (R 32 rfl) rfl rfl (Nat.le_of_ble_eq_true rfl) (Nat.le_of_ble_eq_true rfl) (by decide) rfl rfl (fun _ => rfl) (fun κ' Ψ hΨ => run_pM_cannotRename R _ _ hΨ) h (fun v8 D10 h => ?_)
      show Run Γ rg κ Y_X8_rename 32 [(40, 0), (0, p1), (0, p2), (0, v1), (5, 0)] [(0, v8), (40, 0)] D10 Φ
      refine c_if_eq (tgt := 39) d_X8_rename_32 (by decide) (nz_w _) h (fun h => ?_) (fun h => ?_)
      · skip
        show Run Γ rg κ Y_X8_rename 39 [(40, 0), (0, p1), (0, p2), (0, v1), (5, 0)] [(40, 0)] D10 Φ
        refine r_iconst d_X8_rename_39 ?_
        exact Run.forget (ls' := [(40, 0), (0, p1), (0, p2), (5, 0), (5, 0)]) ⟨Or.inr rfl, Or.inr rfl, Or.inr rfl, Or.inl rfl, Or.inr rfl, trivial⟩ (hJ1 0 D10 h)
      · skip
        show Run Γ rg κ Y_X8_rename 35 [(40, 0), (0, p1), (0, p2), (0, v1), (5, 0)] [(40, 0)] D10 Φ
        refine r_iconst d_X8_rename_35 ?_
        refine r_goto (tgt := 40) d_X8_rename_36 (by decide) ?_
        exact Run.forget (ls' := [(40, 0), (0, p1), (0, p2), (5, 0), (5, 0)]) ⟨Or.inr rfl, Or.inr rfl, Or.inr rfl, Or.inl rfl, Or.inr rfl, trivial⟩ (hJ1 3 D10 h)
    · skip
      show Run Γ rg κ Y_X8_rename 22 [(40, 0), (0, p1), (0, p2), (0, v1), (5, 0)] [(40, 0)] D1 Φ
      refine r_iconst d_X8_rename_22 ?_
      refine r_goto (tgt := 40) d_X8_rename_23 (by decide) ?_
      exact Run.forget (ls' := [(40, 0), (0, p1), (0, p2), (5, 0), (5, 0)]) ⟨Or.inr rfl, Or.inr rfl, Or.inr rfl, Or.inl rfl, Or.inr rfl, trivial⟩ (hJ1 2 D1 h)
  · skip
    show Run Γ rg κ Y_X8_rename 11 [(40, 0), (0, p1), (0, p2), (0, v1), (5, 0)] [(40, 0)] D1 Φ
    refine r_iconst d_X8_rename_11 ?_
    refine r_goto (tgt := 40) d_X8_rename_12 (by decide) ?_
    exact Run.forget (ls' := [(40, 0), (0, p1), (0, p2), (5, 0), (5, 0)]) ⟨Or.inr rfl, Or.inr rfl, Or.inr rfl, Or.inl rfl, Or.inr rfl, trivial⟩ (hJ1 1 D1 h)
set_option maxRecDepth 20000 in
theorem run_pM_piecesFor {Γ : GG} {rg : Nat → Bool} {κ : Nat} {Φ : OT → DD → Prop} (R : cov rg rg1) (p1 : Int) {D : DD} {x : Int} (h : EQx x (pM_piecesFor p1)) (hΦ : Φ (.inl (some (0, x))) D) : Run Γ rg κ Y_X8_piecesFor 0 [(0, p1)] [] D Φ := by
  unfold pM_piecesFor at h
  show Run Γ rg κ Y_X8_piecesFor 0 [(0, p1)] [] D Φ
  refine r_iload_n d_X8_piecesFor_0 rfl ?_
  refine r_iconst d_X8_piecesFor_1 ?_
  refine c_icmp_ge (tgt := 9) d_X8_piecesFor_2 (by decide) (nz_w _) (nz_k rfl) h (fun h => ?_) (fun h => ?_)
  · skip
    show Run Γ rg κ Y_X8_piecesFor 9 [(0, p1)] [] D Φ
    refine r_iload_n d_X8_piecesFor_9 rfl ?_
    refine r_bipush d_X8_piecesFor_10 (by decide) ?_
    refine r_iadd d_X8_piecesFor_12 ?_
    refine r_iconst d_X8_piecesFor_13 ?_
    refine r_isub d_X8_piecesFor_14 ?_
    refine r_bipush d_X8_piecesFor_15 (by decide) ?_
    refine c_idiv d_X8_piecesFor_17 (nz_w _) ⟨by decide, by decide⟩ (by decide) ?_
    exact e_iret d_X8_piecesFor_18 rfl h hΦ
  · skip
    show Run Γ rg κ Y_X8_piecesFor 5 [(0, p1)] [] D Φ
    refine r_iconst d_X8_piecesFor_5 ?_
    refine r_goto (tgt := 18) d_X8_piecesFor_6 (by decide) ?_
    show Run Γ rg κ Y_X8_piecesFor 18 [(0, p1)] [(0, 0)] D Φ
    exact e_iret d_X8_piecesFor_18 rfl h hΦ
set_option maxRecDepth 20000 in
theorem run_pM_givesPieces_2 {Γ : GG} {rg : Nat → Bool} {κ : Nat} {Φ : OT → DD → Prop} (R : cov rg rg1) (a1 : Int) : ∀ (n : Nat) (a3 : Int) (D : DD), WP none κ Φ (pM_givesPieces_2 a1 n a3 D) → Run Γ rg κ Y_X8_givesPieces 2 [(40, 0), (0, a1), (5, 0), (0, a3)] [] D Φ := by
  intro n
  induction n with
  | zero => intro a3 D h; exact h.no.elim
  | succ n ih =>
    intro a3 D h
    rw [pM_givesPieces_2] at h
    show Run Γ rg κ Y_X8_givesPieces 2 [(40, 0), (0, a1), (5, 0), (0, a3)] [] D Φ
    refine r_iload_n d_X8_givesPieces_2 rfl ?_
    refine r_aload_n d_X8_givesPieces_3 rfl (by decide) ?_
    refine r_getR (t := 53) d_X8_givesPieces_4 fk_RX8_71 sh_32 rfl (by decide) (R 32 rfl) ?_
    refine r_iload_n d_X8_givesPieces_7 rfl ?_
    refine c_iald d_X8_givesPieces_8 sh_53 (by decide) (R 53 rfl) (by decide) h (fun v1 h => ?_)
    refine c_callSPi (as := [(0, v1)]) (rest := [(0, a3)]) (ls' := [(0, v1)]) d_X8_givesPieces_9 ck_RX8_237 rfl rfl rfl (Nat.le_of_ble_eq_true rfl) (Nat.le_of_ble_eq_true rfl) (by decide) rfl rfl (fun Ψ hΨ => run_pM_piecesFor R _ rfl hΨ) ?_
    show Run Γ rg κ Y_X8_givesPieces 12 [(40, 0), (0, a1), (5, 0), (0, a3)] [(0, (pM_piecesFor v1)), (0, a3)] D Φ
    refine c_icmp_ge (tgt := 35) d_X8_givesPieces_12 (by decide) (nz_w _) (nz_w _) h (fun h => ?_) (fun h => ?_)
    · skip
      show Run Γ rg κ Y_X8_givesPieces 35 [(40, 0), (0, a1), (5, 0), (0, a3)] [] D Φ
      exact c_vret d_X8_givesPieces_35 rfl h
    · skip
      show Run Γ rg κ Y_X8_givesPieces 15 [(40, 0), (0, a1), (5, 0), (0, a3)] [] D Φ
      refine r_aload_n d_X8_givesPieces_15 rfl (by decide) ?_
      refine r_aload_n d_X8_givesPieces_16 rfl (by decide) ?_
      refine r_getR (t := 55) d_X8_givesPieces_17 fk_RX8_77 sh_32 rfl (by decide) (R 32 rfl) ?_
      refine r_iconst d_X8_givesPieces_20 ?_
      refine r_iload_n d_X8_givesPieces_21 rfl ?_
      refine r_imul d_X8_givesPieces_22 ?_
      refine r_iload_n d_X8_givesPieces_23 rfl ?_
      refine r_iadd d_X8_givesPieces_24 ?_
      refine c_iald d_X8_givesPieces_25 sh_55 (by decide) (R 55 rfl) (by decide) h (fun v2 h => ?_)
      refine c_callVv (a := 32) (z := 0) (as := [(0, v2)]) (rest := []) (ls' := [(40, 0), (0, v2), (5, 0), (5, 0), (5, 0)]) d_X8_givesPieces_26 ck_RX8_182 rfl sh_32 rfl (by decide) (R 32 rfl) rfl rfl (Nat.le_of_ble_eq_true rfl) (Nat.le_of_ble_eq_true rfl) (by decide) rfl rfl (fun κ' Ψ hΨ => run_pM_gives R _ hΨ) h (fun _ D1 h => ?_)
      show Run Γ rg κ Y_X8_givesPieces 29 [(40, 0), (0, a1), (5, 0), (0, a3)] [] D1 Φ
      refine r_iinc d_X8_givesPieces_29 rfl (by decide) rfl ?_
      show Run Γ rg κ Y_X8_givesPieces 32 [(40, 0), (0, a1), (5, 0), (0, (a3 + 1))] [] D1 Φ
      show Run Γ rg κ Y_X8_givesPieces 32 [(40, 0), (0, a1), (5, 0), (0, (a3 + 1))] [] D1 Φ
      refine r_goto (tgt := 2) d_X8_givesPieces_32 (by decide) ?_
      exact (ih (a3 + 1) D1 h)
set_option maxRecDepth 20000 in
theorem run_pM_givesPieces {Γ : GG} {rg : Nat → Bool} {κ : Nat} {Φ : OT → DD → Prop} (R : cov rg rg1) (p1 : Int) (p2 : Int) {D : DD} (h : WP none κ Φ (pM_givesPieces p1 p2 D)) : Run Γ rg κ Y_X8_givesPieces 0 [(40, 0), (0, p1), (0, p2), (5, 0)] [] D Φ := by
  unfold pM_givesPieces at h
  show Run Γ rg κ Y_X8_givesPieces 0 [(40, 0), (0, p1), (0, p2), (5, 0)] [] D Φ
  refine r_iload_n d_X8_givesPieces_0 rfl ?_
  refine r_istore_n d_X8_givesPieces_1 (by decide) rfl ?_
  show Run Γ rg κ Y_X8_givesPieces 2 [(40, 0), (0, p1), (0, p2), (0, p2)] [] D Φ
  refine Run.forget (ls' := [(40, 0), (0, p1), (5, 0), (0, p2)]) ⟨Or.inr rfl, Or.inr rfl, Or.inl rfl, Or.inr rfl, trivial⟩ ?_
  exact run_pM_givesPieces_2 R p1 fu p2 D h
set_option maxRecDepth 20000 in
theorem run_pM_delete_48 {Γ : GG} {rg : Nat → Bool} {κ : Nat} {Φ : OT → DD → Prop} (R : cov rg rg1) (a1 : Int) {K : DD → Res} (hK : ∀ (D : DD), WP (some .int) κ Φ (K D) → Run Γ rg κ Y_X8_delete 90 [(40, 0), (0, a1), (5, 0), (5, 0)] [] D Φ) : ∀ (n : Nat) (a3 : Int) (D : DD), WP (some .int) κ Φ (pM_delete_48 a1 n a3 D K) → Run Γ rg κ Y_X8_delete 48 [(40, 0), (0, a1), (5, 0), (0, a3)] [] D Φ := by
  intro n
  induction n with
  | zero => intro a3 D h; exact h.no.elim
  | succ n ih =>
    intro a3 D h
    rw [pM_delete_48] at h
    show Run Γ rg κ Y_X8_delete 48 [(40, 0), (0, a1), (5, 0), (0, a3)] [] D Φ
    refine r_iload_n d_X8_delete_48 rfl ?_
    refine r_aload_n d_X8_delete_49 rfl (by decide) ?_
    refine r_getR (t := 48) d_X8_delete_50 fk_RX8_56 sh_32 rfl (by decide) (R 32 rfl) ?_
    refine r_iload_n d_X8_delete_53 rfl ?_
    refine c_iald d_X8_delete_54 sh_48 (by decide) (R 48 rfl) (by decide) h (fun v1 h => ?_)
    refine c_icmp_ge (tgt := 90) d_X8_delete_55 (by decide) (nz_w _) (nz_w _) h (fun h => ?_) (fun h => ?_)
    · skip
      exact Run.forget (ls' := [(40, 0), (0, a1), (5, 0), (5, 0)]) ⟨Or.inr rfl, Or.inr rfl, Or.inr rfl, Or.inl rfl, trivial⟩ (hK D h)
    · skip
      show Run Γ rg κ Y_X8_delete 58 [(40, 0), (0, a1), (5, 0), (0, a3)] [] D Φ
      refine r_aload_n d_X8_delete_58 rfl (by decide) ?_
      refine r_bipush d_X8_delete_59 (by decide) ?_
      refine r_iload_n d_X8_delete_61 rfl ?_
      refine r_imul d_X8_delete_62 ?_
      refine r_iload_n d_X8_delete_63 rfl ?_
      refine r_iadd d_X8_delete_64 ?_
      refine r_iconst d_X8_delete_65 ?_
      refine c_callVv (a := 32) (z := 0) (as := [(0, ((8 * a1) + a3)), (0, 0)]) (rest := []) (ls' := [(40, 0), (0, ((8 * a1) + a3)), (0, 0), (5, 0)]) d_X8_delete_66 ck_RX8_240 rfl sh_32 rfl (by decide) (R 32 rfl) rfl rfl (Nat.le_of_ble_eq_true rfl) (Nat.le_of_ble_eq_true rfl) (by decide) rfl rfl (fun κ' Ψ hΨ => run_pM_givesPieces R _ _ hΨ) h (fun _ D1 h => ?_)
      show Run Γ rg κ Y_X8_delete 69 [(40, 0), (0, a1), (5, 0), (0, a3)] [] D1 Φ
      refine r_aload_n d_X8_delete_69 rfl (by decide) ?_
      refine r_aload_n d_X8_delete_70 rfl (by decide) ?_
      refine r_getR (t := 54) d_X8_delete_71 fk_RX8_74 sh_32 rfl (by decide) (R 32 rfl) ?_
      show Run Γ rg κ Y_X8_delete 74 [(40, 0), (0, a1), (5, 0), (0, a3)] [(62, 0), (40, 0)] D1 Φ
      refine r_bipush d_X8_delete_74 (by decide) ?_
      refine r_iload_n d_X8_delete_76 rfl ?_
      refine r_imul d_X8_delete_77 ?_
      refine r_iload_n d_X8_delete_78 rfl ?_
      refine r_iadd d_X8_delete_79 ?_
      refine c_iald d_X8_delete_80 sh_54 (by decide) (R 54 rfl) (by decide) h (fun v2 h => ?_)
      refine c_callVv (a := 32) (z := 0) (as := [(0, v2)]) (rest := []) (ls' := [(40, 0), (0, v2), (5, 0), (5, 0), (5, 0)]) d_X8_delete_81 ck_RX8_182 rfl sh_32 rfl (by decide) (R 32 rfl) rfl rfl (Nat.le_of_ble_eq_true rfl) (Nat.le_of_ble_eq_true rfl) (by decide) rfl rfl (fun κ' Ψ hΨ => run_pM_gives R _ hΨ) h (fun _ D2 h => ?_)
      show Run Γ rg κ Y_X8_delete 84 [(40, 0), (0, a1), (5, 0), (0, a3)] [] D2 Φ
      refine r_iinc d_X8_delete_84 rfl (by decide) rfl ?_
      show Run Γ rg κ Y_X8_delete 87 [(40, 0), (0, a1), (5, 0), (0, (a3 + 1))] [] D2 Φ
      refine r_goto (tgt := 48) d_X8_delete_87 (by decide) ?_
      exact (ih (a3 + 1) D2 h)
set_option maxRecDepth 20000 in
theorem run_pM_leavesRights {Γ : GG} {rg : Nat → Bool} {κ : Nat} {Φ : OT → DD → Prop} (R : cov rg rg1) (p1 : Int) {D : DD} (h : WP none κ Φ (pM_leavesRights p1 D)) : Run Γ rg κ Y_X8_leavesRights 0 [(40, 0), (0, p1)] [] D Φ := by
  unfold pM_leavesRights at h
  show Run Γ rg κ Y_X8_leavesRights 0 [(40, 0), (0, p1)] [] D Φ
  refine r_aload_n d_X8_leavesRights_0 rfl (by decide) ?_
  refine r_getR (t := 57) d_X8_leavesRights_1 fk_RX8_83 sh_32 rfl (by decide) (R 32 rfl) ?_
  refine r_iload_n d_X8_leavesRights_4 rfl ?_
  refine r_dup2 d_X8_leavesRights_5 (show (0 : Nat) ≠ 1 by decide) (by decide) ?_
  refine c_iald d_X8_leavesRights_6 sh_57 (by decide) (R 57 rfl) (by decide) h (fun v1 h => ?_)
  refine r_iconst d_X8_leavesRights_7 ?_
  refine r_isub d_X8_leavesRights_8 ?_
  refine c_iast d_X8_leavesRights_9 sh_57 (by decide) (R 57 rfl) (by decide) h (fun D1 h => ?_)
  refine r_aload_n d_X8_leavesRights_10 rfl (by decide) ?_
  refine r_aload_n d_X8_leavesRights_11 rfl (by decide) ?_
  refine r_getR (t := 56) d_X8_leavesRights_12 fk_RX8_80 sh_32 rfl (by decide) (R 32 rfl) ?_
  show Run Γ rg κ Y_X8_leavesRights 15 [(40, 0), (0, p1)] [(64, 0), (40, 0)] D1 Φ
  refine r_iload_n d_X8_leavesRights_15 rfl ?_
  refine c_iald d_X8_leavesRights_16 sh_56 (by decide) (R 56 rfl) (by decide) h (fun v2 h => ?_)
  refine c_callVv (a := 32) (z := 0) (as := [(0, v2)]) (rest := []) (ls' := [(40, 0), (0, v2), (5, 0), (5, 0)]) d_X8_leavesRights_17 ck_RX8_152 rfl sh_32 rfl (by decide) (R 32 rfl) rfl rfl (Nat.le_of_ble_eq_true rfl) (Nat.le_of_ble_eq_true rfl) (by decide) rfl rfl (fun κ' Ψ hΨ => run_pM_writes R _ hΨ) h (fun _ D2 h => ?_)
  show Run Γ rg κ Y_X8_leavesRights 20 [(40, 0), (0, p1)] [] D2 Φ
  refine r_aload_n d_X8_leavesRights_20 rfl (by decide) ?_
  refine r_getR (t := 57) d_X8_leavesRights_21 fk_RX8_83 sh_32 rfl (by decide) (R 32 rfl) ?_
  refine r_iload_n d_X8_leavesRights_24 rfl ?_
  refine c_iald d_X8_leavesRights_25 sh_57 (by decide) (R 57 rfl) (by decide) h (fun v3 h => ?_)
  refine c_if_ne (tgt := 46) d_X8_leavesRights_26 (by decide) (nz_w _) h (fun h => ?_) (fun h => ?_)
  · skip
    show Run Γ rg κ Y_X8_leavesRights 46 [(40, 0), (0, p1)] [] D2 Φ
    exact c_vret d_X8_leavesRights_46 rfl h
  · skip
    show Run Γ rg κ Y_X8_leavesRights 29 [(40, 0), (0, p1)] [] D2 Φ
    refine r_aload_n d_X8_leavesRights_29 rfl (by decide) ?_
    refine r_aload_n d_X8_leavesRights_30 rfl (by decide) ?_
    refine r_getR (t := 56) d_X8_leavesRights_31 fk_RX8_80 sh_32 rfl (by decide) (R 32 rfl) ?_
    refine r_iload_n d_X8_leavesRights_34 rfl ?_
    refine c_iald d_X8_leavesRights_35 sh_56 (by decide) (R 56 rfl) (by decide) h (fun v4 h => ?_)
    refine c_callVv (a := 32) (z := 0) (as := [(0, v4)]) (rest := []) (ls' := [(40, 0), (0, v4), (5, 0), (5, 0), (5, 0)]) d_X8_leavesRights_36 ck_RX8_182 rfl sh_32 rfl (by decide) (R 32 rfl) rfl rfl (Nat.le_of_ble_eq_true rfl) (Nat.le_of_ble_eq_true rfl) (by decide) rfl rfl (fun κ' Ψ hΨ => run_pM_gives R _ hΨ) h (fun _ D3 h => ?_)
    show Run Γ rg κ Y_X8_leavesRights 39 [(40, 0), (0, p1)] [] D3 Φ
    refine r_aload_n d_X8_leavesRights_39 rfl (by decide) ?_
    refine r_getR (t := 56) d_X8_leavesRights_40 fk_RX8_80 sh_32 rfl (by decide) (R 32 rfl) ?_
    refine r_iload_n d_X8_leavesRights_43 rfl ?_
    refine r_iconst d_X8_leavesRights_44 ?_
    refine c_iast d_X8_leavesRights_45 sh_56 (by decide) (R 56 rfl) (by decide) h (fun D4 h => ?_)
    show Run Γ rg κ Y_X8_leavesRights 46 [(40, 0), (0, p1)] [] D4 Φ
    exact c_vret d_X8_leavesRights_46 rfl h
set_option maxRecDepth 20000 in
theorem run_pM_forgets_25 {Γ : GG} {rg : Nat → Bool} {κ : Nat} {Φ : OT → DD → Prop} (R : cov rg rg1) (a1 : Int) {K : Int → DD → Res} (hK : ∀ (z2 : Int) (D : DD), WP none κ Φ (K z2 D) → Run Γ rg κ Y_X8_forgets 81 [(40, 0), (5, 0), (0, z2), (5, 0)] [] D Φ) : ∀ (n : Nat) (a2 : Int) (a3 : Int) (D : DD), WP none κ Φ (pM_forgets_25 a1 n a2 a3 D K) → Run Γ rg κ Y_X8_forgets 25 [(40, 0), (0, a1), (0, a2), (0, a3)] [] D Φ := by
  intro n
  induction n with
  | zero => intro a2 a3 D h; exact h.no.elim
  | succ n ih =>
    intro a2 a3 D h
    rw [pM_forgets_25] at h
    show Run Γ rg κ Y_X8_forgets 25 [(40, 0), (0, a1), (0, a2), (0, a3)] [] D Φ
    refine r_iload_n d_X8_forgets_25 rfl ?_
    refine r_aload_n d_X8_forgets_26 rfl (by decide) ?_
    refine r_getI d_X8_forgets_27 fk_RX8_185 sh_32 rfl (by decide) (by decide) (R 32 rfl) ?_
    refine c_icmp_ge (tgt := 81) d_X8_forgets_30 (by decide) (nz_w _) (nz_w _) h (fun h => ?_) (fun h => ?_)
    · skip
      exact Run.forget (ls' := [(40, 0), (5, 0), (0, a2), (5, 0)]) ⟨Or.inr rfl, Or.inl rfl, Or.inr rfl, Or.inl rfl, trivial⟩ (hK a2 D h)
    · skip
      show Run Γ rg κ Y_X8_forgets 33 [(40, 0), (0, a1), (0, a2), (0, a3)] [] D Φ
      refine r_aload_n d_X8_forgets_33 rfl (by decide) ?_
      refine r_getR (t := 62) d_X8_forgets_34 fk_RX8_98 sh_32 rfl (by decide) (R 32 rfl) ?_
      refine r_iload_n d_X8_forgets_37 rfl ?_
      refine r_aload_n d_X8_forgets_38 rfl (by decide) ?_
      refine r_getR (t := 62) d_X8_forgets_39 fk_RX8_98 sh_32 rfl (by decide) (R 32 rfl) ?_
      refine r_iload_n d_X8_forgets_42 rfl ?_
      refine c_iald d_X8_forgets_43 sh_62 (by decide) (R 62 rfl) (by decide) h (fun v1 h => ?_)
      refine c_iast d_X8_forgets_44 sh_62 (by decide) (R 62 rfl) (by decide) h (fun D1 h => ?_)
      refine r_aload_n d_X8_forgets_45 rfl (by decide) ?_
      refine r_getR (t := 63) d_X8_forgets_46 fk_RX8_101 sh_32 rfl (by decide) (R 32 rfl) ?_
      refine r_iload_n d_X8_forgets_49 rfl ?_
      show Run Γ rg κ Y_X8_forgets 50 [(40, 0), (0, a1), (0, a2), (0, a3)] [(0, a2), (71, 0)] D1 Φ
      refine r_aload_n d_X8_forgets_50 rfl (by decide) ?_
      refine r_getR (t := 63) d_X8_forgets_51 fk_RX8_101 sh_32 rfl (by decide) (R 32 rfl) ?_
      refine r_iload_n d_X8_forgets_54 rfl ?_
      refine c_iald d_X8_forgets_55 sh_63 (by decide) (R 63 rfl) (by decide) h (fun v2 h => ?_)
      refine c_iast d_X8_forgets_56 sh_63 (by decide) (R 63 rfl) (by decide) h (fun D2 h => ?_)
      refine r_iload_n d_X8_forgets_57 rfl ?_
      refine r_aload_n d_X8_forgets_58 rfl (by decide) ?_
      refine r_getR (t := 62) d_X8_forgets_59 fk_RX8_98 sh_32 rfl (by decide) (R 32 rfl) ?_
      refine r_iload_n d_X8_forgets_62 rfl ?_
      refine c_iald d_X8_forgets_63 sh_62 (by decide) (R 62 rfl) (by decide) h (fun v3 h => ?_)
      refine r_iload_n d_X8_forgets_64 rfl ?_
      refine c_jn (fun J => ∀ (x1 : Int) (D3 : DD), WP none κ Φ (J x1 D3) → Run Γ rg κ Y_X8_forgets 73 [(40, 0), (0, a1), (5, 0), (0, a3)] [(0, x1), (0, a2)] D3 Φ) h ?_ (fun J1 hJ1 h => ?_)
      · intro x1 D3 h
        show Run Γ rg κ Y_X8_forgets 73 [(40, 0), (0, a1), (5, 0), (0, a3)] [(0, x1), (0, a2)] D3 Φ
        refine r_iadd d_X8_forgets_73 ?_
        refine c_lt_n d_X8_forgets_74 (by decide) rfl h (fun x2 h => ?_)
        show Run Γ rg κ Y_X8_forgets 75 [(40, 0), (0, a1), (0, x2), (0, a3)] [] D3 Φ
        refine r_iinc d_X8_forgets_75 rfl (by decide) rfl ?_
        show Run Γ rg κ Y_X8_forgets 78 [(40, 0), (0, a1), (0, x2), (0, (a3 + 1))] [] D3 Φ
        refine r_goto (tgt := 25) d_X8_forgets_78 (by decide) ?_
        exact (ih x2 (a3 + 1) D3 h)
      refine c_icmp_ne (tgt := 72) d_X8_forgets_65 (by decide) (nz_w _) (nz_w _) h (fun h => ?_) (fun h => ?_)
      · skip
        show Run Γ rg κ Y_X8_forgets 72 [(40, 0), (0, a1), (0, a2), (0, a3)] [(0, a2)] D2 Φ
        refine r_iconst d_X8_forgets_72 ?_
        exact Run.forget (ls' := [(40, 0), (0, a1), (5, 0), (0, a3)]) ⟨Or.inr rfl, Or.inr rfl, Or.inl rfl, Or.inr rfl, trivial⟩ (hJ1 1 D2 h)
      · skip
        show Run Γ rg κ Y_X8_forgets 68 [(40, 0), (0, a1), (0, a2), (0, a3)] [(0, a2)] D2 Φ
        refine r_iconst d_X8_forgets_68 ?_
        refine r_goto (tgt := 73) d_X8_forgets_69 (by decide) ?_
        exact Run.forget (ls' := [(40, 0), (0, a1), (5, 0), (0, a3)]) ⟨Or.inr rfl, Or.inr rfl, Or.inl rfl, Or.inr rfl, trivial⟩ (hJ1 0 D2 h)
set_option maxRecDepth 20000 in
theorem run_pM_forgets {Γ : GG} {rg : Nat → Bool} {κ : Nat} {Φ : OT → DD → Prop} (R : cov rg rg1) (p1 : Int) {D : DD} (h : WP none κ Φ (pM_forgets p1 D)) : Run Γ rg κ Y_X8_forgets 0 [(40, 0), (0, p1), (5, 0), (5, 0)] [] D Φ := by
  unfold pM_forgets at h
  show Run Γ rg κ Y_X8_forgets 0 [(40, 0), (0, p1), (5, 0), (5, 0)] [] D Φ
  refine r_aload_n d_X8_forgets_0 rfl (by decide) ?_
  refine r_getR (t := 59) d_X8_forgets_1 fk_RX8_89 sh_32 rfl (by decide) (R 32 rfl) ?_
  refine r_iload_n d_X8_forgets_4 rfl ?_
  refine r_iconst d_X8_forgets_5 ?_
  refine c_iast d_X8_forgets_6 sh_59 (by decide) (R 59 rfl) (by decide) h (fun D1 h => ?_)
  refine r_aload_n d_X8_forgets_7 rfl (by decide) ?_
  refine r_getR (t := 60) d_X8_forgets_8 fk_RX8_92 sh_32 rfl (by decide) (R 32 rfl) ?_
  refine r_iload_n d_X8_forgets_11 rfl ?_
  refine r_iconst d_X8_forgets_12 ?_
  refine c_zast d_X8_forgets_13 sh_60 (by decide) (R 60 rfl) (by decide) h (fun D2 h => ?_)
  refine r_aload_n d_X8_forgets_14 rfl (by decide) ?_
  show Run Γ rg κ Y_X8_forgets 15 [(40, 0), (0, p1), (5, 0), (5, 0)] [(40, 0)] D2 Φ
  refine r_getR (t := 61) d_X8_forgets_15 fk_RX8_95 sh_32 rfl (by decide) (R 32 rfl) ?_
  refine r_iload_n d_X8_forgets_18 rfl ?_
  refine r_iconst d_X8_forgets_19 ?_
  refine c_zast d_X8_forgets_20 sh_61 (by decide) (R 61 rfl) (by decide) h (fun D3 h => ?_)
  refine r_iconst d_X8_forgets_21 ?_
  refine r_istore_n d_X8_forgets_22 (by decide) rfl ?_
  show Run Γ rg κ Y_X8_forgets 23 [(40, 0), (0, p1), (0, 0), (5, 0)] [] D3 Φ
  refine r_iconst d_X8_forgets_23 ?_
  refine r_istore_n d_X8_forgets_24 (by decide) rfl ?_
  show Run Γ rg κ Y_X8_forgets 25 [(40, 0), (0, p1), (0, 0), (0, 0)] [] D3 Φ
  refine run_pM_forgets_25 R p1 ?_ fu 0 0 D3 h
  intro x1 D4 h
  show Run Γ rg κ Y_X8_forgets 81 [(40, 0), (5, 0), (0, x1), (5, 0)] [] D4 Φ
  refine r_aload_n d_X8_forgets_81 rfl (by decide) ?_
  refine r_iload_n d_X8_forgets_82 rfl ?_
  refine c_putI (k := 29) d_X8_forgets_83 pk_RX8_185 sh_32 rfl (by decide) (R 32 rfl) h (fun D5 h => ?_)
  exact c_vret d_X8_forgets_86 rfl h
set_option maxRecDepth 20000 in
theorem run_pM_delete {Γ : GG} {rg : Nat → Bool} {κ : Nat} {Φ : OT → DD → Prop} (R : cov rg rg1) (p1 : Int) {D : DD} (h : WP (some .int) κ Φ (pM_delete p1 D)) : Run Γ rg κ Y_X8_delete 0 [(40, 0), (0, p1), (5, 0), (5, 0)] [] D Φ := by
  unfold pM_delete at h
  show Run Γ rg κ Y_X8_delete 0 [(40, 0), (0, p1), (5, 0), (5, 0)] [] D Φ
  refine r_aload_n d_X8_delete_0 rfl (by decide) ?_
  refine r_iload_n d_X8_delete_1 rfl ?_
  refine c_callVi (t' := (some .boolean)) (a := 32) (z := 0) (as := [(0, p1)]) (rest := []) (ls' := [(40, 0), (0, p1)]) d_X8_delete_2 ck_RX8_191 rfl sh_32 rfl (by decide) (R 32 rfl) rfl rfl (Nat.le_of_ble_eq_true rfl) (Nat.le_of_ble_eq_true rfl) (by decide) rfl rfl (fun _ => rfl) (fun κ' Ψ hΨ => run_pM_isKey R _ hΨ) h (fun v1 D1 h => ?_)
  show Run Γ rg κ Y_X8_delete 5 [(40, 0), (0, p1), (5, 0), (5, 0)] [(0, v1)] D1 Φ
  refine r_istore_n d_X8_delete_5 (by decide) rfl ?_
  show Run Γ rg κ Y_X8_delete 6 [(40, 0), (0, p1), (0, v1), (5, 0)] [] D1 Φ
  refine r_aload_n d_X8_delete_6 rfl (by decide) ?_
  refine r_iload_n d_X8_delete_7 rfl ?_
  refine c_jn (fun J => ∀ (x1 : Int) (D2 : DD), WP (some .int) κ Φ (J x1 D2) → Run Γ rg κ Y_X8_delete 33 [(40, 0), (0, p1), (5, 0), (5, 0)] [(0, x1), (40, 0)] D2 Φ) h ?_ (fun J1 hJ1 h => ?_)
  · intro x1 D2 h
    show Run Γ rg κ Y_X8_delete 33 [(40, 0), (0, p1), (5, 0), (5, 0)] [(0, x1), (40, 0)] D2 Φ
    refine c_callVi (t' := (some .boolean)) (a := 32) (z := 0) (as := [(0, x1)]) (rest := []) (ls' := [(40, 0), (0, x1)]) d_X8_delete_33 ck_RX8_195 rfl sh_32 rfl (by decide) (R 32 rfl) rfl rfl (Nat.le_of_ble_eq_true rfl) (Nat.le_of_ble_eq_true rfl) (by decide) rfl rfl (fun _ => rfl) (fun κ' Ψ hΨ => run_pM_fails R _ hΨ) h (fun v2 D3 h => ?_)
    show Run Γ rg κ Y_X8_delete 36 [(40, 0), (0, p1), (5, 0), (5, 0)] [(0, v2)] D3 Φ
    refine c_if_eq (tgt := 41) d_X8_delete_36 (by decide) (nz_w _) h (fun h => ?_) (fun h => ?_)
    · skip
      show Run Γ rg κ Y_X8_delete 41 [(40, 0), (0, p1), (5, 0), (5, 0)] [] D3 Φ
      refine r_aload_n d_X8_delete_41 rfl (by decide) ?_
      refine r_iconst d_X8_delete_42 ?_
      refine c_putI (k := 41) d_X8_delete_43 pk_RX8_156 sh_32 rfl (by decide) (R 32 rfl) h (fun D4 h => ?_)
      refine r_iconst d_X8_delete_46 ?_
      refine r_istore_n d_X8_delete_47 (by decide) rfl ?_
      show Run Γ rg κ Y_X8_delete 48 [(40, 0), (0, p1), (5, 0), (0, 0)] [] D4 Φ
      refine run_pM_delete_48 R p1 ?_ fu 0 D4 h
      intro D5 h
      show Run Γ rg κ Y_X8_delete 90 [(40, 0), (0, p1), (5, 0), (5, 0)] [] D5 Φ
      refine r_aload_n d_X8_delete_90 rfl (by decide) ?_
      refine r_getR (t := 49) d_X8_delete_91 fk_RX8_59 sh_32 rfl (by decide) (R 32 rfl) ?_
      refine r_iload_n d_X8_delete_94 rfl ?_
      refine c_iald d_X8_delete_95 sh_49 (by decide) (R 49 rfl) (by decide) h (fun v3 h => ?_)
      refine r_iconst d_X8_delete_96 ?_
      refine c_jn (fun J => ∀ (D6 : DD), WP (some .int) κ Φ (J D6) → Run Γ rg κ Y_X8_delete 110 [(40, 0), (0, p1), (5, 0), (5, 0)] [] D6 Φ) h ?_ (fun J2 hJ2 h => ?_)
      · intro D6 h
        show Run Γ rg κ Y_X8_delete 110 [(40, 0), (0, p1), (5, 0), (5, 0)] [] D6 Φ
        refine r_aload_n d_X8_delete_110 rfl (by decide) ?_
        refine r_aload_n d_X8_delete_111 rfl (by decide) ?_
        refine r_getR (t := 40) d_X8_delete_112 fk_RX8_32 sh_32 rfl (by decide) (R 32 rfl) ?_
        refine r_iload_n d_X8_delete_115 rfl ?_
        refine c_iald d_X8_delete_116 sh_40 (by decide) (R 40 rfl) (by decide) h (fun v4 h => ?_)
        refine c_callVv (a := 32) (z := 0) (as := [(0, v4)]) (rest := []) (ls' := [(40, 0), (0, v4), (5, 0), (5, 0), (5, 0)]) d_X8_delete_117 ck_RX8_182 rfl sh_32 rfl (by decide) (R 32 rfl) rfl rfl (Nat.le_of_ble_eq_true rfl) (Nat.le_of_ble_eq_true rfl) (by decide) rfl rfl (fun κ' Ψ hΨ => run_pM_gives R _ hΨ) h (fun _ D7 h => ?_)
        show Run Γ rg κ Y_X8_delete 120 [(40, 0), (0, p1), (5, 0), (5, 0)] [] D7 Φ
        refine r_aload_n d_X8_delete_120 rfl (by decide) ?_
        refine r_aload_n d_X8_delete_121 rfl (by decide) ?_
        refine r_getR (t := 41) d_X8_delete_122 fk_RX8_35 sh_32 rfl (by decide) (R 32 rfl) ?_
        refine r_iload_n d_X8_delete_125 rfl ?_
        refine c_iald d_X8_delete_126 sh_41 (by decide) (R 41 rfl) (by decide) h (fun v5 h => ?_)
        show Run Γ rg κ Y_X8_delete 127 [(40, 0), (0, p1), (5, 0), (5, 0)] [(0, v5), (40, 0)] D7 Φ
        refine c_callVv (a := 32) (z := 0) (as := [(0, v5)]) (rest := []) (ls' := [(40, 0), (0, v5)]) d_X8_delete_127 ck_RX8_243 rfl sh_32 rfl (by decide) (R 32 rfl) rfl rfl (Nat.le_of_ble_eq_true rfl) (Nat.le_of_ble_eq_true rfl) (by decide) rfl rfl (fun κ' Ψ hΨ => run_pM_leavesRights R _ hΨ) h (fun _ D8 h => ?_)
        show Run Γ rg κ Y_X8_delete 130 [(40, 0), (0, p1), (5, 0), (5, 0)] [] D8 Φ
        refine r_aload_n d_X8_delete_130 rfl (by decide) ?_
        refine r_aload_n d_X8_delete_131 rfl (by decide) ?_
        refine r_getR (t := 37) d_X8_delete_132 fk_RX8_23 sh_32 rfl (by decide) (R 32 rfl) ?_
        refine r_iload_n d_X8_delete_135 rfl ?_
        refine c_iald d_X8_delete_136 sh_37 (by decide) (R 37 rfl) (by decide) h (fun v6 h => ?_)
        refine r_aload_n d_X8_delete_137 rfl (by decide) ?_
        refine r_getR (t := 38) d_X8_delete_138 fk_RX8_26 sh_32 rfl (by decide) (R 32 rfl) ?_
        refine r_iload_n d_X8_delete_141 rfl ?_
        refine c_iald d_X8_delete_142 sh_38 (by decide) (R 38 rfl) (by decide) h (fun v7 h => ?_)
        refine c_callVv (a := 32) (z := 0) (as := [(0, v6), (0, v7)]) (rest := []) (ls' := [(40, 0), (0, v6), (0, v7), (5, 0), (5, 0), (5, 0), (5, 0)]) d_X8_delete_143 ck_RX8_234 rfl sh_32 rfl (by decide) (R 32 rfl) rfl rfl (Nat.le_of_ble_eq_true rfl) (Nat.le_of_ble_eq_true rfl) (by decide) rfl rfl (fun κ' Ψ hΨ => run_pM_goes R _ _ hΨ) h (fun _ D9 h => ?_)
        show Run Γ rg κ Y_X8_delete 146 [(40, 0), (0, p1), (5, 0), (5, 0)] [] D9 Φ
        refine r_aload_n d_X8_delete_146 rfl (by decide) ?_
        show Run Γ rg κ Y_X8_delete 147 [(40, 0), (0, p1), (5, 0), (5, 0)] [(40, 0)] D9 Φ
        refine r_getR (t := 36) d_X8_delete_147 fk_RX8_19 sh_32 rfl (by decide) (R 32 rfl) ?_
        refine r_iload_n d_X8_delete_150 rfl ?_
        refine r_iconst d_X8_delete_151 ?_
        refine c_zast d_X8_delete_152 sh_36 (by decide) (R 36 rfl) (by decide) h (fun D10 h => ?_)
        refine r_aload_n d_X8_delete_153 rfl (by decide) ?_
        refine r_iload_n d_X8_delete_154 rfl ?_
        refine c_callVv (a := 32) (z := 0) (as := [(0, p1)]) (rest := []) (ls' := [(40, 0), (0, p1), (5, 0), (5, 0)]) d_X8_delete_155 ck_RX8_198 rfl sh_32 rfl (by decide) (R 32 rfl) rfl rfl (Nat.le_of_ble_eq_true rfl) (Nat.le_of_ble_eq_true rfl) (by decide) rfl rfl (fun κ' Ψ hΨ => run_pM_forgets R _ hΨ) h (fun _ D11 h => ?_)
        show Run Γ rg κ Y_X8_delete 158 [(40, 0), (0, p1), (5, 0), (5, 0)] [] D11 Φ
        refine r_aload_n d_X8_delete_158 rfl (by decide) ?_
        refine r_aload_n d_X8_delete_159 rfl (by decide) ?_
        refine r_getR (t := 37) d_X8_delete_160 fk_RX8_23 sh_32 rfl (by decide) (R 32 rfl) ?_
        refine r_iload_n d_X8_delete_163 rfl ?_
        refine c_iald d_X8_delete_164 sh_37 (by decide) (R 37 rfl) (by decide) h (fun v8 h => ?_)
        show Run Γ rg κ Y_X8_delete 165 [(40, 0), (0, p1), (5, 0), (5, 0)] [(0, v8), (40, 0)] D11 Φ
        refine r_iconst d_X8_delete_165 ?_
        refine c_callVv (a := 32) (z := 0) (as := [(0, v8), (0, 1)]) (rest := []) (ls' := [(40, 0), (0, v8), (0, 1), (5, 0)]) d_X8_delete_166 ck_RX8_218 rfl sh_32 rfl (by decide) (R 32 rfl) rfl rfl (Nat.le_of_ble_eq_true rfl) (Nat.le_of_ble_eq_true rfl) (by decide) rfl rfl (fun κ' Ψ hΨ => run_pM_changes R _ _ hΨ) h (fun _ D12 h => ?_)
        show Run Γ rg κ Y_X8_delete 169 [(40, 0), (0, p1), (5, 0), (5, 0)] [] D12 Φ
        refine r_aload_n d_X8_delete_169 rfl (by decide) ?_
        refine r_getI d_X8_delete_170 fk_RX8_156 sh_32 rfl (by decide) (by decide) (R 32 rfl) ?_
        exact c_iret d_X8_delete_173 rfl h
      refine c_icmp_eq (tgt := 110) d_X8_delete_97 (by decide) (nz_w _) (nz_k rfl) h (fun h => ?_) (fun h => ?_)
      · skip
        exact (hJ2 D5 h)
      · skip
        show Run Γ rg κ Y_X8_delete 100 [(40, 0), (0, p1), (5, 0), (5, 0)] [] D5 Φ
        refine r_aload_n d_X8_delete_100 rfl (by decide) ?_
        refine r_aload_n d_X8_delete_101 rfl (by decide) ?_
        refine r_getR (t := 49) d_X8_delete_102 fk_RX8_59 sh_32 rfl (by decide) (R 32 rfl) ?_
        refine r_iload_n d_X8_delete_105 rfl ?_
        refine c_iald d_X8_delete_106 sh_49 (by decide) (R 49 rfl) (by decide) h (fun v9 h => ?_)
        refine c_callVv (a := 32) (z := 0) (as := [(0, v9)]) (rest := []) (ls' := [(40, 0), (0, v9), (5, 0), (5, 0), (5, 0)]) d_X8_delete_107 ck_RX8_182 rfl sh_32 rfl (by decide) (R 32 rfl) rfl rfl (Nat.le_of_ble_eq_true rfl) (Nat.le_of_ble_eq_true rfl) (by decide) rfl rfl (fun κ' Ψ hΨ => run_pM_gives R _ hΨ) h (fun _ D13 h => ?_)
        show Run Γ rg κ Y_X8_delete 110 [(40, 0), (0, p1), (5, 0), (5, 0)] [] D13 Φ
        exact (hJ2 D13 h)
    · skip
      show Run Γ rg κ Y_X8_delete 39 [(40, 0), (0, p1), (5, 0), (5, 0)] [] D3 Φ
      refine r_iconst d_X8_delete_39 ?_
      exact c_iret d_X8_delete_40 rfl h
  refine c_if_ne (tgt := 15) d_X8_delete_8 (by decide) (nz_w _) h (fun h => ?_) (fun h => ?_)
  · skip
    show Run Γ rg κ Y_X8_delete 15 [(40, 0), (0, p1), (0, v1), (5, 0)] [(40, 0)] D1 Φ
    refine r_iload_n d_X8_delete_15 rfl ?_
    refine c_jn (fun J => ∀ (D14 : DD), WP (some .int) κ Φ (J D14) → Run Γ rg κ Y_X8_delete 28 [(40, 0), (0, p1), (5, 0), (5, 0)] [(40, 0)] D14 Φ) h ?_ (fun J3 hJ3 h => ?_)
    · intro D14 h
      show Run Γ rg κ Y_X8_delete 28 [(40, 0), (0, p1), (5, 0), (5, 0)] [(40, 0)] D14 Φ
      refine r_iconst d_X8_delete_28 ?_
      refine r_goto (tgt := 33) d_X8_delete_29 (by decide) ?_
      exact (hJ1 2 D14 h)
    refine c_if_eq (tgt := 28) d_X8_delete_16 (by decide) (nz_w _) h (fun h => ?_) (fun h => ?_)
    · skip
      exact Run.forget (ls' := [(40, 0), (0, p1), (5, 0), (5, 0)]) ⟨Or.inr rfl, Or.inr rfl, Or.inl rfl, Or.inr rfl, trivial⟩ (hJ3 D1 h)
    · skip
      show Run Γ rg κ Y_X8_delete 19 [(40, 0), (0, p1), (0, v1), (5, 0)] [(40, 0)] D1 Φ
      refine r_aload_n d_X8_delete_19 rfl (by decide) ?_
      refine r_getR (t := 42) d_X8_delete_20 fk_RX8_38 sh_32 rfl (by decide) (R 32 rfl) ?_
      refine r_iload_n d_X8_delete_23 rfl ?_
      refine c_iald d_X8_delete_24 sh_42 (by decide) (R 42 rfl) (by decide) h (fun v10 h => ?_)
      refine c_if_le (tgt := 32) d_X8_delete_25 (by decide) (nz_w _) h (fun h => ?_) (fun h => ?_)
      · skip
        show Run Γ rg κ Y_X8_delete 32 [(40, 0), (0, p1), (0, v1), (5, 0)] [(40, 0)] D1 Φ
        refine r_iconst d_X8_delete_32 ?_
        exact Run.forget (ls' := [(40, 0), (0, p1), (5, 0), (5, 0)]) ⟨Or.inr rfl, Or.inr rfl, Or.inl rfl, Or.inr rfl, trivial⟩ (hJ1 0 D1 h)
      · skip
        exact Run.forget (ls' := [(40, 0), (0, p1), (5, 0), (5, 0)]) ⟨Or.inr rfl, Or.inr rfl, Or.inl rfl, Or.inr rfl, trivial⟩ (hJ3 D1 h)
  · skip
    show Run Γ rg κ Y_X8_delete 11 [(40, 0), (0, p1), (0, v1), (5, 0)] [(40, 0)] D1 Φ
    refine r_iconst d_X8_delete_11 ?_
    refine r_goto (tgt := 33) d_X8_delete_12 (by decide) ?_
    exact Run.forget (ls' := [(40, 0), (0, p1), (5, 0), (5, 0)]) ⟨Or.inr rfl, Or.inr rfl, Or.inl rfl, Or.inr rfl, trivial⟩ (hJ1 1 D1 h)
set_option maxRecDepth 20000 in
theorem run_pM_find {Γ : GG} {rg : Nat → Bool} {κ : Nat} {Φ : OT → DD → Prop} (R : cov rg rg1) (p1 : Int) (p2 : Int) {D : DD} (h : WP (some .int) κ Φ (pM_find p1 p2 D)) : Run Γ rg κ Y_X8_find 0 [(40, 0), (0, p1), (0, p2), (5, 0), (5, 0)] [] D Φ := by
  unfold pM_find at h
  show Run Γ rg κ Y_X8_find 0 [(40, 0), (0, p1), (0, p2), (5, 0), (5, 0)] [] D Φ
  refine r_aload_n d_X8_find_0 rfl (by decide) ?_
  refine r_iload_n d_X8_find_1 rfl ?_
  refine c_callVi (t' := (some .boolean)) (a := 32) (z := 0) (as := [(0, p1)]) (rest := []) (ls' := [(40, 0), (0, p1)]) d_X8_find_2 ck_RX8_191 rfl sh_32 rfl (by decide) (R 32 rfl) rfl rfl (Nat.le_of_ble_eq_true rfl) (Nat.le_of_ble_eq_true rfl) (by decide) rfl rfl (fun _ => rfl) (fun κ' Ψ hΨ => run_pM_isKey R _ hΨ) h (fun v1 D1 h => ?_)
  show Run Γ rg κ Y_X8_find 5 [(40, 0), (0, p1), (0, p2), (5, 0), (5, 0)] [(0, v1)] D1 Φ
  refine r_istore_n d_X8_find_5 (by decide) rfl ?_
  show Run Γ rg κ Y_X8_find 6 [(40, 0), (0, p1), (0, p2), (0, v1), (5, 0)] [] D1 Φ
  refine r_aload_n d_X8_find_6 rfl (by decide) ?_
  refine r_iload_n d_X8_find_7 rfl ?_
  refine c_jn (fun J => ∀ (x1 : Int) (D2 : DD), WP (some .int) κ Φ (J x1 D2) → Run Γ rg κ Y_X8_find 27 [(40, 0), (0, p1), (0, p2), (5, 0), (5, 0)] [(0, x1), (40, 0)] D2 Φ) h ?_ (fun J1 hJ1 h => ?_)
  · intro x1 D2 h
    show Run Γ rg κ Y_X8_find 27 [(40, 0), (0, p1), (0, p2), (5, 0), (5, 0)] [(0, x1), (40, 0)] D2 Φ
    refine c_callVi (t' := (some .boolean)) (a := 32) (z := 0) (as := [(0, x1)]) (rest := []) (ls' := [(40, 0), (0, x1)]) d_X8_find_27 ck_RX8_195 rfl sh_32 rfl (by decide) (R 32 rfl) rfl rfl (Nat.le_of_ble_eq_true rfl) (Nat.le_of_ble_eq_true rfl) (by decide) rfl rfl (fun _ => rfl) (fun κ' Ψ hΨ => run_pM_fails R _ hΨ) h (fun v2 D3 h => ?_)
    show Run Γ rg κ Y_X8_find 30 [(40, 0), (0, p1), (0, p2), (5, 0), (5, 0)] [(0, v2)] D3 Φ
    refine c_if_eq (tgt := 35) d_X8_find_30 (by decide) (nz_w _) h (fun h => ?_) (fun h => ?_)
    · skip
      show Run Γ rg κ Y_X8_find 35 [(40, 0), (0, p1), (0, p2), (5, 0), (5, 0)] [] D3 Φ
      refine r_aload_n d_X8_find_35 rfl (by decide) ?_
      refine r_iload_n d_X8_find_36 rfl ?_
      refine r_iload_n d_X8_find_37 rfl ?_
      refine c_callVi (t' := (some .int)) (a := 32) (z := 0) (as := [(0, p1), (0, p2)]) (rest := []) (ls' := [(40, 0), (0, p1), (0, p2), (5, 0), (5, 0)]) d_X8_find_38 ck_RX8_179 rfl sh_32 rfl (by decide) (R 32 rfl) rfl rfl (Nat.le_of_ble_eq_true rfl) (Nat.le_of_ble_eq_true rfl) (by decide) rfl rfl (fun _ => rfl) (fun κ' Ψ hΨ => run_pM_entryOf R _ _ hΨ) h (fun v3 D4 h => ?_)
      show Run Γ rg κ Y_X8_find 41 [(40, 0), (0, p1), (0, p2), (5, 0), (5, 0)] [(0, v3)] D4 Φ
      refine r_istore d_X8_find_41 (by decide) rfl ?_
      show Run Γ rg κ Y_X8_find 43 [(40, 0), (0, p1), (0, p2), (5, 0), (0, v3)] [] D4 Φ
      refine r_iload d_X8_find_43 rfl ?_
      refine r_iconst d_X8_find_45 ?_
      refine c_icmp_ne (tgt := 53) d_X8_find_46 (by decide) (nz_w _) (nz_k rfl) h (fun h => ?_) (fun h => ?_)
      · skip
        show Run Γ rg κ Y_X8_find 53 [(40, 0), (0, p1), (0, p2), (5, 0), (0, v3)] [] D4 Φ
        refine r_aload_n d_X8_find_53 rfl (by decide) ?_
        refine r_getR (t := 46) d_X8_find_54 fk_RX8_50 sh_32 rfl (by decide) (R 32 rfl) ?_
        refine r_bipush d_X8_find_57 (by decide) ?_
        refine r_iload_n d_X8_find_59 rfl ?_
        refine r_imul d_X8_find_60 ?_
        refine r_iload d_X8_find_61 rfl ?_
        refine r_iadd d_X8_find_63 ?_
        refine c_iald d_X8_find_64 sh_46 (by decide) (R 46 rfl) (by decide) h (fun v4 h => ?_)
        exact c_iret d_X8_find_65 rfl h
      · skip
        show Run Γ rg κ Y_X8_find 49 [(40, 0), (0, p1), (0, p2), (5, 0), (0, v3)] [] D4 Φ
        refine r_iconst d_X8_find_49 ?_
        refine r_goto (tgt := 65) d_X8_find_50 (by decide) ?_
        show Run Γ rg κ Y_X8_find 65 [(40, 0), (0, p1), (0, p2), (5, 0), (0, v3)] [(0, (-1))] D4 Φ
        exact c_iret d_X8_find_65 rfl h
    · skip
      show Run Γ rg κ Y_X8_find 33 [(40, 0), (0, p1), (0, p2), (5, 0), (5, 0)] [] D3 Φ
      refine r_iconst d_X8_find_33 ?_
      exact c_iret d_X8_find_34 rfl h
  refine c_if_ne (tgt := 15) d_X8_find_8 (by decide) (nz_w _) h (fun h => ?_) (fun h => ?_)
  · skip
    show Run Γ rg κ Y_X8_find 15 [(40, 0), (0, p1), (0, p2), (0, v1), (5, 0)] [(40, 0)] D1 Φ
    refine r_iload_n d_X8_find_15 rfl ?_
    refine c_callSPi (as := [(0, p2)]) (rest := [(40, 0)]) (ls' := [(0, p2)]) d_X8_find_16 ck_RX8_221 rfl rfl rfl (Nat.le_of_ble_eq_true rfl) (Nat.le_of_ble_eq_true rfl) (by decide) rfl rfl (fun Ψ hΨ => run_pM_isName R _ rfl hΨ) ?_
    show Run Γ rg κ Y_X8_find 19 [(40, 0), (0, p1), (0, p2), (0, v1), (5, 0)] [(0, (pM_isName p2)), (40, 0)] D1 Φ
    refine c_if_eq (tgt := 26) d_X8_find_19 (by decide) (nz_b (pM_isName_b p2)) h (fun h => ?_) (fun h => ?_)
    · skip
      show Run Γ rg κ Y_X8_find 26 [(40, 0), (0, p1), (0, p2), (0, v1), (5, 0)] [(40, 0)] D1 Φ
      refine r_iconst d_X8_find_26 ?_
      exact Run.forget (ls' := [(40, 0), (0, p1), (0, p2), (5, 0), (5, 0)]) ⟨Or.inr rfl, Or.inr rfl, Or.inr rfl, Or.inl rfl, Or.inr rfl, trivial⟩ (hJ1 2 D1 h)
    · skip
      show Run Γ rg κ Y_X8_find 22 [(40, 0), (0, p1), (0, p2), (0, v1), (5, 0)] [(40, 0)] D1 Φ
      refine r_iconst d_X8_find_22 ?_
      refine r_goto (tgt := 27) d_X8_find_23 (by decide) ?_
      exact Run.forget (ls' := [(40, 0), (0, p1), (0, p2), (5, 0), (5, 0)]) ⟨Or.inr rfl, Or.inr rfl, Or.inr rfl, Or.inl rfl, Or.inr rfl, trivial⟩ (hJ1 0 D1 h)
  · skip
    show Run Γ rg κ Y_X8_find 11 [(40, 0), (0, p1), (0, p2), (0, v1), (5, 0)] [(40, 0)] D1 Φ
    refine r_iconst d_X8_find_11 ?_
    refine r_goto (tgt := 27) d_X8_find_12 (by decide) ?_
    exact Run.forget (ls' := [(40, 0), (0, p1), (0, p2), (5, 0), (5, 0)]) ⟨Or.inr rfl, Or.inr rfl, Or.inr rfl, Or.inl rfl, Or.inr rfl, trivial⟩ (hJ1 1 D1 h)
set_option maxRecDepth 20000 in
theorem run_pM_subkeyAt {Γ : GG} {rg : Nat → Bool} {κ : Nat} {Φ : OT → DD → Prop} (R : cov rg rg1) (p1 : Int) (p2 : Int) {D : DD} (h : WP (some .int) κ Φ (pM_subkeyAt p1 p2 D)) : Run Γ rg κ Y_X8_subkeyAt 0 [(40, 0), (0, p1), (0, p2), (5, 0)] [] D Φ := by
  unfold pM_subkeyAt at h
  show Run Γ rg κ Y_X8_subkeyAt 0 [(40, 0), (0, p1), (0, p2), (5, 0)] [] D Φ
  refine r_aload_n d_X8_subkeyAt_0 rfl (by decide) ?_
  refine r_iload_n d_X8_subkeyAt_1 rfl ?_
  refine c_callVi (t' := (some .boolean)) (a := 32) (z := 0) (as := [(0, p1)]) (rest := []) (ls' := [(40, 0), (0, p1)]) d_X8_subkeyAt_2 ck_RX8_191 rfl sh_32 rfl (by decide) (R 32 rfl) rfl rfl (Nat.le_of_ble_eq_true rfl) (Nat.le_of_ble_eq_true rfl) (by decide) rfl rfl (fun _ => rfl) (fun κ' Ψ hΨ => run_pM_isKey R _ hΨ) h (fun v1 D1 h => ?_)
  show Run Γ rg κ Y_X8_subkeyAt 5 [(40, 0), (0, p1), (0, p2), (5, 0)] [(0, v1)] D1 Φ
  refine c_jn (fun J => ∀ (x1 : Int) (D2 : DD), WP (some .int) κ Φ (J x1 D2) → Run Γ rg κ Y_X8_subkeyAt 28 [(40, 0), (0, p1), (0, p2), (5, 0)] [(0, x1)] D2 Φ) h ?_ (fun J1 hJ1 h => ?_)
  · intro x1 D2 h
    show Run Γ rg κ Y_X8_subkeyAt 28 [(40, 0), (0, p1), (0, p2), (5, 0)] [(0, x1)] D2 Φ
    refine r_istore_n d_X8_subkeyAt_28 (by decide) rfl ?_
    show Run Γ rg κ Y_X8_subkeyAt 29 [(40, 0), (0, p1), (0, p2), (0, x1)] [] D2 Φ
    refine r_aload_n d_X8_subkeyAt_29 rfl (by decide) ?_
    refine r_iload_n d_X8_subkeyAt_30 rfl ?_
    refine c_jn (fun J => ∀ (x2 : Int) (D3 : DD), WP (some .int) κ Φ (J x2 D3) → Run Γ rg κ Y_X8_subkeyAt 39 [(40, 0), (0, p1), (0, p2), (5, 0)] [(0, x2), (40, 0)] D3 Φ) h ?_ (fun J2 hJ2 h => ?_)
    · intro x2 D3 h
      show Run Γ rg κ Y_X8_subkeyAt 39 [(40, 0), (0, p1), (0, p2), (5, 0)] [(0, x2), (40, 0)] D3 Φ
      refine c_callVi (t' := (some .boolean)) (a := 32) (z := 0) (as := [(0, x2)]) (rest := []) (ls' := [(40, 0), (0, x2)]) d_X8_subkeyAt_39 ck_RX8_195 rfl sh_32 rfl (by decide) (R 32 rfl) rfl rfl (Nat.le_of_ble_eq_true rfl) (Nat.le_of_ble_eq_true rfl) (by decide) rfl rfl (fun _ => rfl) (fun κ' Ψ hΨ => run_pM_fails R _ hΨ) h (fun v2 D4 h => ?_)
      show Run Γ rg κ Y_X8_subkeyAt 42 [(40, 0), (0, p1), (0, p2), (5, 0)] [(0, v2)] D4 Φ
      refine c_if_eq (tgt := 49) d_X8_subkeyAt_42 (by decide) (nz_w _) h (fun h => ?_) (fun h => ?_)
      · skip
        show Run Γ rg κ Y_X8_subkeyAt 49 [(40, 0), (0, p1), (0, p2), (5, 0)] [] D4 Φ
        refine r_aload_n d_X8_subkeyAt_49 rfl (by decide) ?_
        refine r_getR (t := 46) d_X8_subkeyAt_50 fk_RX8_50 sh_32 rfl (by decide) (R 32 rfl) ?_
        refine r_bipush d_X8_subkeyAt_53 (by decide) ?_
        refine r_iload_n d_X8_subkeyAt_55 rfl ?_
        refine r_imul d_X8_subkeyAt_56 ?_
        refine r_iload_n d_X8_subkeyAt_57 rfl ?_
        refine r_iadd d_X8_subkeyAt_58 ?_
        refine c_iald d_X8_subkeyAt_59 sh_46 (by decide) (R 46 rfl) (by decide) h (fun v3 h => ?_)
        exact c_iret d_X8_subkeyAt_60 rfl h
      · skip
        show Run Γ rg κ Y_X8_subkeyAt 45 [(40, 0), (0, p1), (0, p2), (5, 0)] [] D4 Φ
        refine r_iconst d_X8_subkeyAt_45 ?_
        refine r_goto (tgt := 60) d_X8_subkeyAt_46 (by decide) ?_
        show Run Γ rg κ Y_X8_subkeyAt 60 [(40, 0), (0, p1), (0, p2), (5, 0)] [(0, 0)] D4 Φ
        exact c_iret d_X8_subkeyAt_60 rfl h
    refine c_if_eq (tgt := 38) d_X8_subkeyAt_31 (by decide) (nz_w _) h (fun h => ?_) (fun h => ?_)
    · skip
      show Run Γ rg κ Y_X8_subkeyAt 38 [(40, 0), (0, p1), (0, p2), (0, x1)] [(40, 0)] D2 Φ
      refine r_iconst d_X8_subkeyAt_38 ?_
      exact Run.forget (ls' := [(40, 0), (0, p1), (0, p2), (5, 0)]) ⟨Or.inr rfl, Or.inr rfl, Or.inr rfl, Or.inl rfl, trivial⟩ (hJ2 1 D2 h)
    · skip
      show Run Γ rg κ Y_X8_subkeyAt 34 [(40, 0), (0, p1), (0, p2), (0, x1)] [(40, 0)] D2 Φ
      refine r_iconst d_X8_subkeyAt_34 ?_
      refine r_goto (tgt := 39) d_X8_subkeyAt_35 (by decide) ?_
      exact Run.forget (ls' := [(40, 0), (0, p1), (0, p2), (5, 0)]) ⟨Or.inr rfl, Or.inr rfl, Or.inr rfl, Or.inl rfl, trivial⟩ (hJ2 0 D2 h)
  refine c_jn (fun J => ∀ (D5 : DD), WP (some .int) κ Φ (J D5) → Run Γ rg κ Y_X8_subkeyAt 27 [(40, 0), (0, p1), (0, p2), (5, 0)] [] D5 Φ) h ?_ (fun J3 hJ3 h => ?_)
  · intro D5 h
    show Run Γ rg κ Y_X8_subkeyAt 27 [(40, 0), (0, p1), (0, p2), (5, 0)] [] D5 Φ
    refine r_iconst d_X8_subkeyAt_27 ?_
    exact (hJ1 0 D5 h)
  refine c_if_eq (tgt := 27) d_X8_subkeyAt_5 (by decide) (nz_w _) h (fun h => ?_) (fun h => ?_)
  · skip
    exact (hJ3 D1 h)
  · skip
    show Run Γ rg κ Y_X8_subkeyAt 8 [(40, 0), (0, p1), (0, p2), (5, 0)] [] D1 Φ
    refine r_iload_n d_X8_subkeyAt_8 rfl ?_
    refine r_iconst d_X8_subkeyAt_9 ?_
    refine r_aload_n d_X8_subkeyAt_10 rfl (by decide) ?_
    refine r_iload_n d_X8_subkeyAt_11 rfl ?_
    refine c_callVi (t' := (some .int)) (a := 32) (z := 0) (as := [(0, p1)]) (rest := [(0, 0), (0, p2)]) (ls' := [(40, 0), (0, p1)]) d_X8_subkeyAt_12 ck_RX8_163 rfl sh_32 rfl (by decide) (R 32 rfl) rfl rfl (Nat.le_of_ble_eq_true rfl) (Nat.le_of_ble_eq_true rfl) (by decide) rfl rfl (fun _ => rfl) (fun κ' Ψ hΨ => run_pM_entries R _ hΨ) h (fun v4 D6 h => ?_)
    show Run Γ rg κ Y_X8_subkeyAt 15 [(40, 0), (0, p1), (0, p2), (5, 0)] [(0, v4), (0, 0), (0, p2)] D6 Φ
    refine r_iconst d_X8_subkeyAt_15 ?_
    refine r_isub d_X8_subkeyAt_16 ?_
    refine c_callSPi (as := [(0, p2), (0, 0), (0, (v4 - 1))]) (rest := []) (ls' := [(0, p2), (0, 0), (0, (v4 - 1))]) d_X8_subkeyAt_17 ck_RX8_124 rfl rfl rfl (Nat.le_of_ble_eq_true rfl) (Nat.le_of_ble_eq_true rfl) (by decide) rfl rfl (fun Ψ hΨ => run_pM_isIn R _ _ _ rfl hΨ) ?_
    show Run Γ rg κ Y_X8_subkeyAt 20 [(40, 0), (0, p1), (0, p2), (5, 0)] [(0, (pM_isIn p2 0 (v4 - 1)))] D6 Φ
    refine c_if_eq (tgt := 27) d_X8_subkeyAt_20 (by decide) (nz_b (pM_isIn_b p2 0 (v4 - 1))) h (fun h => ?_) (fun h => ?_)
    · skip
      exact (hJ3 D6 h)
    · skip
      show Run Γ rg κ Y_X8_subkeyAt 23 [(40, 0), (0, p1), (0, p2), (5, 0)] [] D6 Φ
      refine r_iconst d_X8_subkeyAt_23 ?_
      refine r_goto (tgt := 28) d_X8_subkeyAt_24 (by decide) ?_
      exact (hJ1 1 D6 h)
set_option maxRecDepth 20000 in
theorem run_pM_list {Γ : GG} {rg : Nat → Bool} {κ : Nat} {Φ : OT → DD → Prop} (R : cov rg rg1) (p1 : Int) {D : DD} (h : WP (some .int) κ Φ (pM_list p1 D)) : Run Γ rg κ Y_X8_list 0 [(40, 0), (0, p1)] [] D Φ := by
  unfold pM_list at h
  show Run Γ rg κ Y_X8_list 0 [(40, 0), (0, p1)] [] D Φ
  refine r_aload_n d_X8_list_0 rfl (by decide) ?_
  refine r_aload_n d_X8_list_1 rfl (by decide) ?_
  refine r_iload_n d_X8_list_2 rfl ?_
  refine c_callVi (t' := (some .boolean)) (a := 32) (z := 0) (as := [(0, p1)]) (rest := [(40, 0)]) (ls' := [(40, 0), (0, p1)]) d_X8_list_3 ck_RX8_191 rfl sh_32 rfl (by decide) (R 32 rfl) rfl rfl (Nat.le_of_ble_eq_true rfl) (Nat.le_of_ble_eq_true rfl) (by decide) rfl rfl (fun _ => rfl) (fun κ' Ψ hΨ => run_pM_isKey R _ hΨ) h (fun v1 D1 h => ?_)
  show Run Γ rg κ Y_X8_list 6 [(40, 0), (0, p1)] [(0, v1), (40, 0)] D1 Φ
  refine c_jn (fun J => ∀ (x1 : Int) (D2 : DD), WP (some .int) κ Φ (J x1 D2) → Run Γ rg κ Y_X8_list 14 [(40, 0), (0, p1)] [(0, x1), (40, 0)] D2 Φ) h ?_ (fun J1 hJ1 h => ?_)
  · intro x1 D2 h
    show Run Γ rg κ Y_X8_list 14 [(40, 0), (0, p1)] [(0, x1), (40, 0)] D2 Φ
    refine c_callVi (t' := (some .boolean)) (a := 32) (z := 0) (as := [(0, x1)]) (rest := []) (ls' := [(40, 0), (0, x1)]) d_X8_list_14 ck_RX8_195 rfl sh_32 rfl (by decide) (R 32 rfl) rfl rfl (Nat.le_of_ble_eq_true rfl) (Nat.le_of_ble_eq_true rfl) (by decide) rfl rfl (fun _ => rfl) (fun κ' Ψ hΨ => run_pM_fails R _ hΨ) h (fun v2 D3 h => ?_)
    show Run Γ rg κ Y_X8_list 17 [(40, 0), (0, p1)] [(0, v2)] D3 Φ
    refine c_if_eq (tgt := 24) d_X8_list_17 (by decide) (nz_w _) h (fun h => ?_) (fun h => ?_)
    · skip
      show Run Γ rg κ Y_X8_list 24 [(40, 0), (0, p1)] [] D3 Φ
      refine r_bipush d_X8_list_24 (by decide) ?_
      refine r_aload_n d_X8_list_26 rfl (by decide) ?_
      refine r_iload_n d_X8_list_27 rfl ?_
      refine c_callVi (t' := (some .int)) (a := 32) (z := 0) (as := [(0, p1)]) (rest := [(0, 10)]) (ls' := [(40, 0), (0, p1)]) d_X8_list_28 ck_RX8_163 rfl sh_32 rfl (by decide) (R 32 rfl) rfl rfl (Nat.le_of_ble_eq_true rfl) (Nat.le_of_ble_eq_true rfl) (by decide) rfl rfl (fun _ => rfl) (fun κ' Ψ hΨ => run_pM_entries R _ hΨ) h (fun v3 D4 h => ?_)
      show Run Γ rg κ Y_X8_list 31 [(40, 0), (0, p1)] [(0, v3), (0, 10)] D4 Φ
      refine r_imul d_X8_list_31 ?_
      refine r_aload_n d_X8_list_32 rfl (by decide) ?_
      refine r_getR (t := 42) d_X8_list_33 fk_RX8_38 sh_32 rfl (by decide) (R 32 rfl) ?_
      refine r_iload_n d_X8_list_36 rfl ?_
      refine c_iald d_X8_list_37 sh_42 (by decide) (R 42 rfl) (by decide) h (fun v4 h => ?_)
      refine r_iadd d_X8_list_38 ?_
      exact c_iret d_X8_list_39 rfl h
    · skip
      show Run Γ rg κ Y_X8_list 20 [(40, 0), (0, p1)] [] D3 Φ
      refine r_iconst d_X8_list_20 ?_
      refine r_goto (tgt := 39) d_X8_list_21 (by decide) ?_
      show Run Γ rg κ Y_X8_list 39 [(40, 0), (0, p1)] [(0, 0)] D3 Φ
      exact c_iret d_X8_list_39 rfl h
  refine c_if_eq (tgt := 13) d_X8_list_6 (by decide) (nz_w _) h (fun h => ?_) (fun h => ?_)
  · skip
    show Run Γ rg κ Y_X8_list 13 [(40, 0), (0, p1)] [(40, 0)] D1 Φ
    refine r_iconst d_X8_list_13 ?_
    exact (hJ1 1 D1 h)
  · skip
    show Run Γ rg κ Y_X8_list 9 [(40, 0), (0, p1)] [(40, 0)] D1 Φ
    refine r_iconst d_X8_list_9 ?_
    refine r_goto (tgt := 14) d_X8_list_10 (by decide) ?_
    exact (hJ1 0 D1 h)
set_option maxRecDepth 20000 in
theorem run_pM_follow_26 {Γ : GG} {rg : Nat → Bool} {κ : Nat} {Φ : OT → DD → Prop} (R : cov rg rg1) : ∀ (n : Nat) (a2 : Int) (a3 : Int) (D : DD), WP (some .int) κ Φ (pM_follow_26 n a2 a3 D) → Run Γ rg κ Y_X8_follow 26 [(40, 0), (5, 0), (0, a2), (0, a3)] [] D Φ := by
  intro n
  induction n with
  | zero => intro a2 a3 D h; exact h.no.elim
  | succ n ih =>
    intro a2 a3 D h
    rw [pM_follow_26] at h
    show Run Γ rg κ Y_X8_follow 26 [(40, 0), (5, 0), (0, a2), (0, a3)] [] D Φ
    refine r_iload_n d_X8_follow_26 rfl ?_
    refine r_iconst d_X8_follow_27 ?_
    refine c_icmp_eq (tgt := 77) d_X8_follow_28 (by decide) (nz_w _) (nz_k rfl) h (fun h => ?_) (fun h => ?_)
    · skip
      show Run Γ rg κ Y_X8_follow 77 [(40, 0), (5, 0), (0, a2), (0, a3)] [] D Φ
      refine r_iload_n d_X8_follow_77 rfl ?_
      exact c_iret d_X8_follow_78 rfl h
    · skip
      show Run Γ rg κ Y_X8_follow 31 [(40, 0), (5, 0), (0, a2), (0, a3)] [] D Φ
      refine r_aload_n d_X8_follow_31 rfl (by decide) ?_
      refine r_getR (t := 39) d_X8_follow_32 fk_RX8_29 sh_32 rfl (by decide) (R 32 rfl) ?_
      refine r_iload_n d_X8_follow_35 rfl ?_
      refine c_iald d_X8_follow_36 sh_39 (by decide) (R 39 rfl) (by decide) h (fun v1 h => ?_)
      refine r_iconst d_X8_follow_37 ?_
      refine c_icmp_eq (tgt := 77) d_X8_follow_38 (by decide) (nz_w _) (nz_k rfl) h (fun h => ?_) (fun h => ?_)
      · skip
        show Run Γ rg κ Y_X8_follow 77 [(40, 0), (5, 0), (0, a2), (0, a3)] [] D Φ
        refine r_iload_n d_X8_follow_77 rfl ?_
        exact c_iret d_X8_follow_78 rfl h
      · skip
        show Run Γ rg κ Y_X8_follow 41 [(40, 0), (5, 0), (0, a2), (0, a3)] [] D Φ
        refine r_iinc d_X8_follow_41 rfl (by decide) rfl ?_
        show Run Γ rg κ Y_X8_follow 44 [(40, 0), (5, 0), (0, a2), (0, (a3 + 1))] [] D Φ
        refine r_iload_n d_X8_follow_44 rfl ?_
        refine r_iconst d_X8_follow_45 ?_
        refine c_jn (fun J => ∀ (x1 : Int) (D1 : DD), WP (some .int) κ Φ (J x1 D1) → Run Γ rg κ Y_X8_follow 73 [(40, 0), (5, 0), (5, 0), (0, (a3 + 1))] [(0, x1)] D1 Φ) h ?_ (fun J1 hJ1 h => ?_)
        · intro x1 D1 h
          show Run Γ rg κ Y_X8_follow 73 [(40, 0), (5, 0), (5, 0), (0, (a3 + 1))] [(0, x1)] D1 Φ
          refine r_istore_n d_X8_follow_73 (by decide) rfl ?_
          show Run Γ rg κ Y_X8_follow 74 [(40, 0), (5, 0), (0, x1), (0, (a3 + 1))] [] D1 Φ
          refine r_goto (tgt := 26) d_X8_follow_74 (by decide) ?_
          exact (ih x1 (a3 + 1) D1 h)
        refine c_jn (fun J => ∀ (D2 : DD), WP (some .int) κ Φ (J D2) → Run Γ rg κ Y_X8_follow 63 [(40, 0), (5, 0), (5, 0), (0, (a3 + 1))] [] D2 Φ) h ?_ (fun J2 hJ2 h => ?_)
        · intro D2 h
          show Run Γ rg κ Y_X8_follow 63 [(40, 0), (5, 0), (5, 0), (0, (a3 + 1))] [] D2 Φ
          refine r_iconst d_X8_follow_63 ?_
          refine r_goto (tgt := 73) d_X8_follow_64 (by decide) ?_
          exact (hJ1 (-1) D2 h)
        refine c_icmp_gt (tgt := 63) d_X8_follow_46 (by decide) (nz_w _) (nz_k rfl) h (fun h => ?_) (fun h => ?_)
        · skip
          exact Run.forget (ls' := [(40, 0), (5, 0), (5, 0), (0, (a3 + 1))]) ⟨Or.inr rfl, Or.inr rfl, Or.inl rfl, Or.inr rfl, trivial⟩ (hJ2 D h)
        · skip
          show Run Γ rg κ Y_X8_follow 49 [(40, 0), (5, 0), (0, a2), (0, (a3 + 1))] [] D Φ
          refine r_aload_n d_X8_follow_49 rfl (by decide) ?_
          refine r_getR (t := 36) d_X8_follow_50 fk_RX8_19 sh_32 rfl (by decide) (R 32 rfl) ?_
          refine r_aload_n d_X8_follow_53 rfl (by decide) ?_
          refine r_getR (t := 39) d_X8_follow_54 fk_RX8_29 sh_32 rfl (by decide) (R 32 rfl) ?_
          refine r_iload_n d_X8_follow_57 rfl ?_
          refine c_iald d_X8_follow_58 sh_39 (by decide) (R 39 rfl) (by decide) h (fun v2 h => ?_)
          refine c_zald d_X8_follow_59 sh_36 (by decide) (R 36 rfl) (by decide) h (fun v3 h => ?_)
          refine c_if_ne (tgt := 67) d_X8_follow_60 (by decide) (nz_w _) h (fun h => ?_) (fun h => ?_)
          · skip
            show Run Γ rg κ Y_X8_follow 67 [(40, 0), (5, 0), (0, a2), (0, (a3 + 1))] [] D Φ
            refine r_aload_n d_X8_follow_67 rfl (by decide) ?_
            refine r_getR (t := 39) d_X8_follow_68 fk_RX8_29 sh_32 rfl (by decide) (R 32 rfl) ?_
            refine r_iload_n d_X8_follow_71 rfl ?_
            refine c_iald d_X8_follow_72 sh_39 (by decide) (R 39 rfl) (by decide) h (fun v4 h => ?_)
            exact Run.forget (ls' := [(40, 0), (5, 0), (5, 0), (0, (a3 + 1))]) ⟨Or.inr rfl, Or.inr rfl, Or.inl rfl, Or.inr rfl, trivial⟩ (hJ1 v4 D h)
          · skip
            exact Run.forget (ls' := [(40, 0), (5, 0), (5, 0), (0, (a3 + 1))]) ⟨Or.inr rfl, Or.inr rfl, Or.inl rfl, Or.inr rfl, trivial⟩ (hJ2 D h)
set_option maxRecDepth 20000 in
theorem run_pM_follow {Γ : GG} {rg : Nat → Bool} {κ : Nat} {Φ : OT → DD → Prop} (R : cov rg rg1) (p1 : Int) {D : DD} (h : WP (some .int) κ Φ (pM_follow p1 D)) : Run Γ rg κ Y_X8_follow 0 [(40, 0), (0, p1), (5, 0), (5, 0)] [] D Φ := by
  unfold pM_follow at h
  show Run Γ rg κ Y_X8_follow 0 [(40, 0), (0, p1), (5, 0), (5, 0)] [] D Φ
  refine r_aload_n d_X8_follow_0 rfl (by decide) ?_
  refine r_aload_n d_X8_follow_1 rfl (by decide) ?_
  refine r_iload_n d_X8_follow_2 rfl ?_
  refine c_callVi (t' := (some .boolean)) (a := 32) (z := 0) (as := [(0, p1)]) (rest := [(40, 0)]) (ls' := [(40, 0), (0, p1)]) d_X8_follow_3 ck_RX8_191 rfl sh_32 rfl (by decide) (R 32 rfl) rfl rfl (Nat.le_of_ble_eq_true rfl) (Nat.le_of_ble_eq_true rfl) (by decide) rfl rfl (fun _ => rfl) (fun κ' Ψ hΨ => run_pM_isKey R _ hΨ) h (fun v1 D1 h => ?_)
  show Run Γ rg κ Y_X8_follow 6 [(40, 0), (0, p1), (5, 0), (5, 0)] [(0, v1), (40, 0)] D1 Φ
  refine c_jn (fun J => ∀ (x1 : Int) (D2 : DD), WP (some .int) κ Φ (J x1 D2) → Run Γ rg κ Y_X8_follow 14 [(40, 0), (0, p1), (5, 0), (5, 0)] [(0, x1), (40, 0)] D2 Φ) h ?_ (fun J1 hJ1 h => ?_)
  · intro x1 D2 h
    show Run Γ rg κ Y_X8_follow 14 [(40, 0), (0, p1), (5, 0), (5, 0)] [(0, x1), (40, 0)] D2 Φ
    refine c_callVi (t' := (some .boolean)) (a := 32) (z := 0) (as := [(0, x1)]) (rest := []) (ls' := [(40, 0), (0, x1)]) d_X8_follow_14 ck_RX8_195 rfl sh_32 rfl (by decide) (R 32 rfl) rfl rfl (Nat.le_of_ble_eq_true rfl) (Nat.le_of_ble_eq_true rfl) (by decide) rfl rfl (fun _ => rfl) (fun κ' Ψ hΨ => run_pM_fails R _ hΨ) h (fun v2 D3 h => ?_)
    show Run Γ rg κ Y_X8_follow 17 [(40, 0), (0, p1), (5, 0), (5, 0)] [(0, v2)] D3 Φ
    refine c_if_eq (tgt := 22) d_X8_follow_17 (by decide) (nz_w _) h (fun h => ?_) (fun h => ?_)
    · skip
      show Run Γ rg κ Y_X8_follow 22 [(40, 0), (0, p1), (5, 0), (5, 0)] [] D3 Φ
      refine r_iload_n d_X8_follow_22 rfl ?_
      refine r_istore_n d_X8_follow_23 (by decide) rfl ?_
      show Run Γ rg κ Y_X8_follow 24 [(40, 0), (0, p1), (0, p1), (5, 0)] [] D3 Φ
      refine r_iconst d_X8_follow_24 ?_
      refine r_istore_n d_X8_follow_25 (by decide) rfl ?_
      show Run Γ rg κ Y_X8_follow 26 [(40, 0), (0, p1), (0, p1), (0, 0)] [] D3 Φ
      refine Run.forget (ls' := [(40, 0), (5, 0), (0, p1), (0, 0)]) ⟨Or.inr rfl, Or.inl rfl, Or.inr rfl, Or.inr rfl, trivial⟩ ?_
      exact run_pM_follow_26 R fu p1 0 D3 h
    · skip
      show Run Γ rg κ Y_X8_follow 20 [(40, 0), (0, p1), (5, 0), (5, 0)] [] D3 Φ
      refine r_iconst d_X8_follow_20 ?_
      exact c_iret d_X8_follow_21 rfl h
  refine c_if_eq (tgt := 13) d_X8_follow_6 (by decide) (nz_w _) h (fun h => ?_) (fun h => ?_)
  · skip
    show Run Γ rg κ Y_X8_follow 13 [(40, 0), (0, p1), (5, 0), (5, 0)] [(40, 0)] D1 Φ
    refine r_iconst d_X8_follow_13 ?_
    exact (hJ1 1 D1 h)
  · skip
    show Run Γ rg κ Y_X8_follow 9 [(40, 0), (0, p1), (5, 0), (5, 0)] [(40, 0)] D1 Φ
    refine r_iconst d_X8_follow_9 ?_
    refine r_goto (tgt := 14) d_X8_follow_10 (by decide) ?_
    exact (hJ1 0 D1 h)
set_option maxRecDepth 20000 in
theorem run_pM_valueOf_8 {Γ : GG} {rg : Nat → Bool} {κ : Nat} {Φ : OT → DD → Prop} (R : cov rg rg1) (a1 : Int) (a2 : Int) : ∀ (n : Nat) (a3 : Int) (a4 : Int) (D : DD), WP (some .int) κ Φ (pM_valueOf_8 a1 a2 n a3 a4 D) → Run Γ rg κ Y_X8_valueOf 8 [(40, 0), (0, a1), (0, a2), (0, a3), (0, a4)] [] D Φ := by
  intro n
  induction n with
  | zero => intro a3 a4 D h; exact h.no.elim
  | succ n ih =>
    intro a3 a4 D h
    rw [pM_valueOf_8] at h
    show Run Γ rg κ Y_X8_valueOf 8 [(40, 0), (0, a1), (0, a2), (0, a3), (0, a4)] [] D Φ
    refine r_iload d_X8_valueOf_8 rfl ?_
    refine r_bipush d_X8_valueOf_10 (by decide) ?_
    refine r_iload_n d_X8_valueOf_12 rfl ?_
    refine r_imul d_X8_valueOf_13 ?_
    refine r_aload_n d_X8_valueOf_14 rfl (by decide) ?_
    refine r_getR (t := 48) d_X8_valueOf_15 fk_RX8_56 sh_32 rfl (by decide) (R 32 rfl) ?_
    refine r_iload_n d_X8_valueOf_18 rfl ?_
    refine c_iald d_X8_valueOf_19 sh_48 (by decide) (R 48 rfl) (by decide) h (fun v1 h => ?_)
    refine r_iadd d_X8_valueOf_20 ?_
    refine c_icmp_ge (tgt := 48) d_X8_valueOf_21 (by decide) (nz_w _) (nz_w _) h (fun h => ?_) (fun h => ?_)
    · skip
      show Run Γ rg κ Y_X8_valueOf 48 [(40, 0), (0, a1), (0, a2), (0, a3), (0, a4)] [] D Φ
      refine r_iload_n d_X8_valueOf_48 rfl ?_
      exact c_iret d_X8_valueOf_49 rfl h
    · skip
      show Run Γ rg κ Y_X8_valueOf 24 [(40, 0), (0, a1), (0, a2), (0, a3), (0, a4)] [] D Φ
      refine r_aload_n d_X8_valueOf_24 rfl (by decide) ?_
      refine r_getR (t := 51) d_X8_valueOf_25 fk_RX8_65 sh_32 rfl (by decide) (R 32 rfl) ?_
      refine r_iload d_X8_valueOf_28 rfl ?_
      refine c_iald d_X8_valueOf_30 sh_51 (by decide) (R 51 rfl) (by decide) h (fun v2 h => ?_)
      refine r_iload_n d_X8_valueOf_31 rfl ?_
      refine c_jn (fun J => ∀ (x1 : Int) (D1 : DD), WP (some .int) κ Φ (J x1 D1) → Run Γ rg κ Y_X8_valueOf 41 [(40, 0), (0, a1), (0, a2), (5, 0), (0, a4)] [(0, x1)] D1 Φ) h ?_ (fun J1 hJ1 h => ?_)
      · intro x1 D1 h
        show Run Γ rg κ Y_X8_valueOf 41 [(40, 0), (0, a1), (0, a2), (5, 0), (0, a4)] [(0, x1)] D1 Φ
        refine r_istore_n d_X8_valueOf_41 (by decide) rfl ?_
        show Run Γ rg κ Y_X8_valueOf 42 [(40, 0), (0, a1), (0, a2), (0, x1), (0, a4)] [] D1 Φ
        refine r_iinc d_X8_valueOf_42 rfl (by decide) rfl ?_
        show Run Γ rg κ Y_X8_valueOf 45 [(40, 0), (0, a1), (0, a2), (0, x1), (0, (a4 + 1))] [] D1 Φ
        refine r_goto (tgt := 8) d_X8_valueOf_45 (by decide) ?_
        exact (ih x1 (a4 + 1) D1 h)
      refine c_icmp_ne (tgt := 40) d_X8_valueOf_32 (by decide) (nz_w _) (nz_w _) h (fun h => ?_) (fun h => ?_)
      · skip
        show Run Γ rg κ Y_X8_valueOf 40 [(40, 0), (0, a1), (0, a2), (0, a3), (0, a4)] [] D Φ
        refine r_iload_n d_X8_valueOf_40 rfl ?_
        exact Run.forget (ls' := [(40, 0), (0, a1), (0, a2), (5, 0), (0, a4)]) ⟨Or.inr rfl, Or.inr rfl, Or.inr rfl, Or.inl rfl, Or.inr rfl, trivial⟩ (hJ1 a3 D h)
      · skip
        show Run Γ rg κ Y_X8_valueOf 35 [(40, 0), (0, a1), (0, a2), (0, a3), (0, a4)] [] D Φ
        refine r_iload d_X8_valueOf_35 rfl ?_
        refine r_goto (tgt := 41) d_X8_valueOf_37 (by decide) ?_
        exact Run.forget (ls' := [(40, 0), (0, a1), (0, a2), (5, 0), (0, a4)]) ⟨Or.inr rfl, Or.inr rfl, Or.inr rfl, Or.inl rfl, Or.inr rfl, trivial⟩ (hJ1 a4 D h)
set_option maxRecDepth 20000 in
theorem run_pM_valueOf {Γ : GG} {rg : Nat → Bool} {κ : Nat} {Φ : OT → DD → Prop} (R : cov rg rg1) (p1 : Int) (p2 : Int) {D : DD} (h : WP (some .int) κ Φ (pM_valueOf p1 p2 D)) : Run Γ rg κ Y_X8_valueOf 0 [(40, 0), (0, p1), (0, p2), (5, 0), (5, 0)] [] D Φ := by
  unfold pM_valueOf at h
  show Run Γ rg κ Y_X8_valueOf 0 [(40, 0), (0, p1), (0, p2), (5, 0), (5, 0)] [] D Φ
  refine r_iconst d_X8_valueOf_0 ?_
  refine r_istore_n d_X8_valueOf_1 (by decide) rfl ?_
  show Run Γ rg κ Y_X8_valueOf 2 [(40, 0), (0, p1), (0, p2), (0, (-1)), (5, 0)] [] D Φ
  refine r_bipush d_X8_valueOf_2 (by decide) ?_
  refine r_iload_n d_X8_valueOf_4 rfl ?_
  refine r_imul d_X8_valueOf_5 ?_
  refine c_lt d_X8_valueOf_6 (by decide) rfl h (fun x1 h => ?_)
  show Run Γ rg κ Y_X8_valueOf 8 [(40, 0), (0, p1), (0, p2), (0, (-1)), (0, x1)] [] D Φ
  exact run_pM_valueOf_8 R p1 p2 fu (-1) x1 D h
set_option maxRecDepth 20000 in
theorem run_pM_setValue_231 {Γ : GG} {rg : Nat → Bool} {κ : Nat} {Φ : OT → DD → Prop} (R : cov rg rg1) (a7 : Int) (a8 : Int) (c1 : Int) (c3 : Int) (c4 : Int) {K : DD → Res} (hK : ∀ (D : DD), WP (some .int) κ Φ (K D) → Run Γ rg κ Y_X8_setValue 263 [(40, 0), (0, c1), (5, 0), (0, c3), (0, c4), (5, 0), (5, 0), (0, a7), (5, 0), (5, 0), (5, 0)] [] D Φ) : ∀ (n : Nat) (a10 : Int) (D : DD), WP (some .int) κ Φ (pM_setValue_231 a7 a8 n a10 D K) → Run Γ rg κ Y_X8_setValue 231 [(40, 0), (0, c1), (5, 0), (0, c3), (0, c4), (5, 0), (5, 0), (0, a7), (0, a8), (5, 0), (0, a10)] [] D Φ := by
  intro n
  induction n with
  | zero => intro a10 D h; exact h.no.elim
  | succ n ih =>
    intro a10 D h
    rw [pM_setValue_231] at h
    show Run Γ rg κ Y_X8_setValue 231 [(40, 0), (0, c1), (5, 0), (0, c3), (0, c4), (5, 0), (5, 0), (0, a7), (0, a8), (5, 0), (0, a10)] [] D Φ
    refine r_iload d_X8_setValue_231 rfl ?_
    refine r_iload d_X8_setValue_233 rfl ?_
    refine c_icmp_ge (tgt := 263) d_X8_setValue_235 (by decide) (nz_w _) (nz_w _) h (fun h => ?_) (fun h => ?_)
    · skip
      exact Run.forget (ls' := [(40, 0), (0, c1), (5, 0), (0, c3), (0, c4), (5, 0), (5, 0), (0, a7), (5, 0), (5, 0), (5, 0)]) ⟨Or.inr rfl, Or.inr rfl, Or.inr rfl, Or.inr rfl, Or.inr rfl, Or.inr rfl, Or.inr rfl, Or.inr rfl, Or.inl rfl, Or.inr rfl, Or.inl rfl, trivial⟩ (hK D h)
    · skip
      show Run Γ rg κ Y_X8_setValue 238 [(40, 0), (0, c1), (5, 0), (0, c3), (0, c4), (5, 0), (5, 0), (0, a7), (0, a8), (5, 0), (0, a10)] [] D Φ
      refine r_aload_n d_X8_setValue_238 rfl (by decide) ?_
      refine r_getR (t := 55) d_X8_setValue_239 fk_RX8_77 sh_32 rfl (by decide) (R 32 rfl) ?_
      refine r_iconst d_X8_setValue_242 ?_
      refine r_iload d_X8_setValue_243 rfl ?_
      refine r_imul d_X8_setValue_245 ?_
      refine r_iload d_X8_setValue_246 rfl ?_
      refine r_iadd d_X8_setValue_248 ?_
      refine r_aload_n d_X8_setValue_249 rfl (by decide) ?_
      refine r_getR (t := 66) d_X8_setValue_250 fk_RX8_110 sh_32 rfl (by decide) (R 32 rfl) ?_
      refine r_iload d_X8_setValue_253 rfl ?_
      refine c_iald d_X8_setValue_255 sh_66 (by decide) (R 66 rfl) (by decide) h (fun v1 h => ?_)
      show Run Γ rg κ Y_X8_setValue 256 [(40, 0), (0, c1), (5, 0), (0, c3), (0, c4), (5, 0), (5, 0), (0, a7), (0, a8), (5, 0), (0, a10)] [(0, v1), (0, ((4 * a7) + a10)), (63, 0)] D Φ
      refine c_iast d_X8_setValue_256 sh_55 (by decide) (R 55 rfl) (by decide) h (fun D1 h => ?_)
      refine r_iinc d_X8_setValue_257 rfl (by decide) rfl ?_
      show Run Γ rg κ Y_X8_setValue 260 [(40, 0), (0, c1), (5, 0), (0, c3), (0, c4), (5, 0), (5, 0), (0, a7), (0, a8), (5, 0), (0, (a10 + 1))] [] D1 Φ
      refine r_goto (tgt := 231) d_X8_setValue_260 (by decide) ?_
      exact (ih (a10 + 1) D1 h)
set_option maxRecDepth 20000 in
theorem run_pM_listFor {Γ : GG} {rg : Nat → Bool} {κ : Nat} {Φ : OT → DD → Prop} (R : cov rg rg1) (p1 : Int) {D : DD} (h : WP (some .int) κ Φ (pM_listFor p1 D)) : Run Γ rg κ Y_X8_listFor 0 [(40, 0), (0, p1)] [] D Φ := by
  unfold pM_listFor at h
  show Run Γ rg κ Y_X8_listFor 0 [(40, 0), (0, p1)] [] D Φ
  refine r_aload_n d_X8_listFor_0 rfl (by decide) ?_
  refine r_getR (t := 49) d_X8_listFor_1 fk_RX8_59 sh_32 rfl (by decide) (R 32 rfl) ?_
  refine r_iload_n d_X8_listFor_4 rfl ?_
  refine c_iald d_X8_listFor_5 sh_49 (by decide) (R 49 rfl) (by decide) h (fun v1 h => ?_)
  refine r_iconst d_X8_listFor_6 ?_
  refine c_icmp_ne (tgt := 14) d_X8_listFor_7 (by decide) (nz_w _) (nz_k rfl) h (fun h => ?_) (fun h => ?_)
  · skip
    show Run Γ rg κ Y_X8_listFor 14 [(40, 0), (0, p1)] [] D Φ
    refine r_aload_n d_X8_listFor_14 rfl (by decide) ?_
    refine r_getR (t := 48) d_X8_listFor_15 fk_RX8_56 sh_32 rfl (by decide) (R 32 rfl) ?_
    refine r_iload_n d_X8_listFor_18 rfl ?_
    refine c_iald d_X8_listFor_19 sh_48 (by decide) (R 48 rfl) (by decide) h (fun v2 h => ?_)
    refine r_iconst d_X8_listFor_20 ?_
    refine c_icmp_ne (tgt := 39) d_X8_listFor_21 (by decide) (nz_w _) (nz_k rfl) h (fun h => ?_) (fun h => ?_)
    · skip
      show Run Γ rg κ Y_X8_listFor 39 [(40, 0), (0, p1)] [] D Φ
      refine r_iconst d_X8_listFor_39 ?_
      exact c_iret d_X8_listFor_40 rfl h
    · skip
      show Run Γ rg κ Y_X8_listFor 24 [(40, 0), (0, p1)] [] D Φ
      refine r_aload_n d_X8_listFor_24 rfl (by decide) ?_
      refine r_getR (t := 50) d_X8_listFor_25 fk_RX8_62 sh_32 rfl (by decide) (R 32 rfl) ?_
      refine r_iload_n d_X8_listFor_28 rfl ?_
      refine c_iald d_X8_listFor_29 sh_50 (by decide) (R 50 rfl) (by decide) h (fun v3 h => ?_)
      refine r_iconst d_X8_listFor_30 ?_
      refine c_icmp_ne (tgt := 39) d_X8_listFor_31 (by decide) (nz_w _) (nz_k rfl) h (fun h => ?_) (fun h => ?_)
      · skip
        show Run Γ rg κ Y_X8_listFor 39 [(40, 0), (0, p1)] [] D Φ
        refine r_iconst d_X8_listFor_39 ?_
        exact c_iret d_X8_listFor_40 rfl h
      · skip
        show Run Γ rg κ Y_X8_listFor 34 [(40, 0), (0, p1)] [] D Φ
        refine r_bipush d_X8_listFor_34 (by decide) ?_
        refine r_goto (tgt := 40) d_X8_listFor_36 (by decide) ?_
        show Run Γ rg κ Y_X8_listFor 40 [(40, 0), (0, p1)] [(0, 9)] D Φ
        exact c_iret d_X8_listFor_40 rfl h
  · skip
    show Run Γ rg κ Y_X8_listFor 10 [(40, 0), (0, p1)] [] D Φ
    refine r_iconst d_X8_listFor_10 ?_
    refine r_goto (tgt := 40) d_X8_listFor_11 (by decide) ?_
    show Run Γ rg κ Y_X8_listFor 40 [(40, 0), (0, p1)] [(0, 5)] D Φ
    exact c_iret d_X8_listFor_40 rfl h
set_option maxRecDepth 20000 in
theorem run_pM_unitsIn {Γ : GG} {rg : Nat → Bool} {κ : Nat} {Φ : OT → DD → Prop} (R : cov rg rg1) (p1 : Int) (p2 : Int) {D : DD} {x : Int} (h : EQx x (pM_unitsIn p1 p2)) (hΦ : Φ (.inl (some (0, x))) D) : Run Γ rg κ Y_X8_unitsIn 0 [(0, p1), (0, p2), (5, 0)] [] D Φ := by
  unfold pM_unitsIn at h
  show Run Γ rg κ Y_X8_unitsIn 0 [(0, p1), (0, p2), (5, 0)] [] D Φ
  refine r_iload_n d_X8_unitsIn_0 rfl ?_
  refine r_bipush d_X8_unitsIn_1 (by decide) ?_
  refine r_iload_n d_X8_unitsIn_3 rfl ?_
  refine r_imul d_X8_unitsIn_4 ?_
  refine r_isub d_X8_unitsIn_5 ?_
  refine c_lt_n d_X8_unitsIn_6 (by decide) rfl h (fun x1 h => ?_)
  show Run Γ rg κ Y_X8_unitsIn 7 [(0, p1), (0, p2), (0, x1)] [] D Φ
  refine r_iload_n d_X8_unitsIn_7 rfl ?_
  refine r_bipush d_X8_unitsIn_8 (by decide) ?_
  refine c_icmp_le (tgt := 18) d_X8_unitsIn_10 (by decide) (nz_w _) (nz_k rfl) h (fun h => ?_) (fun h => ?_)
  · skip
    show Run Γ rg κ Y_X8_unitsIn 18 [(0, p1), (0, p2), (0, x1)] [] D Φ
    refine r_iload_n d_X8_unitsIn_18 rfl ?_
    exact e_iret d_X8_unitsIn_19 rfl h hΦ
  · skip
    show Run Γ rg κ Y_X8_unitsIn 13 [(0, p1), (0, p2), (0, x1)] [] D Φ
    refine r_bipush d_X8_unitsIn_13 (by decide) ?_
    refine r_goto (tgt := 19) d_X8_unitsIn_15 (by decide) ?_
    show Run Γ rg κ Y_X8_unitsIn 19 [(0, p1), (0, p2), (0, x1)] [(0, 8)] D Φ
    exact e_iret d_X8_unitsIn_19 rfl h hΦ
set_option maxRecDepth 20000 in
theorem run_pM_cannotSet_45 {Γ : GG} {rg : Nat → Bool} {κ : Nat} {Φ : OT → DD → Prop} (R : cov rg rg1) (a3 : Int) (c1 : Int) (c4 : Int) {K : DD → Res} (hK : ∀ (D : DD), WP (some .boolean) κ Φ (K D) → Run Γ rg κ Y_X8_cannotSet 72 [(40, 0), (0, c1), (5, 0), (5, 0), (0, c4), (5, 0)] [] D Φ) : ∀ (n : Nat) (a5 : Int) (D : DD), WP (some .boolean) κ Φ (pM_cannotSet_45 a3 n a5 D K) → Run Γ rg κ Y_X8_cannotSet 45 [(40, 0), (0, c1), (5, 0), (0, a3), (0, c4), (0, a5)] [] D Φ := by
  intro n
  induction n with
  | zero => intro a5 D h; exact h.no.elim
  | succ n ih =>
    intro a5 D h
    rw [pM_cannotSet_45] at h
    show Run Γ rg κ Y_X8_cannotSet 45 [(40, 0), (0, c1), (5, 0), (0, a3), (0, c4), (0, a5)] [] D Φ
    refine r_iload d_X8_cannotSet_45 rfl ?_
    refine r_iload_n d_X8_cannotSet_47 rfl ?_
    refine c_callSPi (as := [(0, a3)]) (rest := [(0, a5)]) (ls' := [(0, a3)]) d_X8_cannotSet_48 ck_RX8_237 rfl rfl rfl (Nat.le_of_ble_eq_true rfl) (Nat.le_of_ble_eq_true rfl) (by decide) rfl rfl (fun Ψ hΨ => run_pM_piecesFor R _ rfl hΨ) ?_
    show Run Γ rg κ Y_X8_cannotSet 51 [(40, 0), (0, c1), (5, 0), (0, a3), (0, c4), (0, a5)] [(0, (pM_piecesFor a3)), (0, a5)] D Φ
    refine c_icmp_ge (tgt := 72) d_X8_cannotSet_51 (by decide) (nz_w _) (nz_w _) h (fun h => ?_) (fun h => ?_)
    · skip
      exact Run.forget (ls' := [(40, 0), (0, c1), (5, 0), (5, 0), (0, c4), (5, 0)]) ⟨Or.inr rfl, Or.inr rfl, Or.inr rfl, Or.inl rfl, Or.inr rfl, Or.inl rfl, trivial⟩ (hK D h)
    · skip
      show Run Γ rg κ Y_X8_cannotSet 54 [(40, 0), (0, c1), (5, 0), (0, a3), (0, c4), (0, a5)] [] D Φ
      refine r_aload_n d_X8_cannotSet_54 rfl (by decide) ?_
      refine r_iload_n d_X8_cannotSet_55 rfl ?_
      refine r_iload d_X8_cannotSet_56 rfl ?_
      refine c_callSPi (as := [(0, a3), (0, a5)]) (rest := [(40, 0)]) (ls' := [(0, a3), (0, a5), (5, 0)]) d_X8_cannotSet_58 ck_RX8_249 rfl rfl rfl (Nat.le_of_ble_eq_true rfl) (Nat.le_of_ble_eq_true rfl) (by decide) rfl rfl (fun Ψ hΨ => run_pM_unitsIn R _ _ rfl hΨ) ?_
      show Run Γ rg κ Y_X8_cannotSet 61 [(40, 0), (0, c1), (5, 0), (0, a3), (0, c4), (0, a5)] [(0, (pM_unitsIn a3 a5)), (40, 0)] D Φ
      refine r_iconst d_X8_cannotSet_61 ?_
      refine r_iadd d_X8_cannotSet_62 ?_
      refine c_callVv (a := 32) (z := 0) (as := [(0, ((pM_unitsIn a3 a5) + 2))]) (rest := []) (ls' := [(40, 0), (0, ((pM_unitsIn a3 a5) + 2))]) d_X8_cannotSet_63 ck_RX8_176 rfl sh_32 rfl (by decide) (R 32 rfl) rfl rfl (Nat.le_of_ble_eq_true rfl) (Nat.le_of_ble_eq_true rfl) (by decide) rfl rfl (fun κ' Ψ hΨ => run_pM_wants R _ hΨ) h (fun _ D1 h => ?_)
      show Run Γ rg κ Y_X8_cannotSet 66 [(40, 0), (0, c1), (5, 0), (0, a3), (0, c4), (0, a5)] [] D1 Φ
      refine r_iinc d_X8_cannotSet_66 rfl (by decide) rfl ?_
      show Run Γ rg κ Y_X8_cannotSet 69 [(40, 0), (0, c1), (5, 0), (0, a3), (0, c4), (0, (a5 + 1))] [] D1 Φ
      refine r_goto (tgt := 45) d_X8_cannotSet_69 (by decide) ?_
      exact (ih (a5 + 1) D1 h)
set_option maxRecDepth 20000 in
theorem run_pM_cannotSet {Γ : GG} {rg : Nat → Bool} {κ : Nat} {Φ : OT → DD → Prop} (R : cov rg rg1) (p1 : Int) (p2 : Int) (p3 : Int) {D : DD} (h : WP (some .boolean) κ Φ (pM_cannotSet p1 p2 p3 D)) : Run Γ rg κ Y_X8_cannotSet 0 [(40, 0), (0, p1), (0, p2), (0, p3), (5, 0), (5, 0)] [] D Φ := by
  unfold pM_cannotSet at h
  show Run Γ rg κ Y_X8_cannotSet 0 [(40, 0), (0, p1), (0, p2), (0, p3), (5, 0), (5, 0)] [] D Φ
  refine r_aload_n d_X8_cannotSet_0 rfl (by decide) ?_
  refine r_iload_n d_X8_cannotSet_1 rfl ?_
  refine r_iload_n d_X8_cannotSet_2 rfl ?_
  refine c_callVi (t' := (some .int)) (a := 32) (z := 0) (as := [(0, p1), (0, p2)]) (rest := []) (ls' := [(40, 0), (0, p1), (0, p2), (5, 0), (5, 0)]) d_X8_cannotSet_3 ck_RX8_246 rfl sh_32 rfl (by decide) (R 32 rfl) rfl rfl (Nat.le_of_ble_eq_true rfl) (Nat.le_of_ble_eq_true rfl) (by decide) rfl rfl (fun _ => rfl) (fun κ' Ψ hΨ => run_pM_valueOf R _ _ hΨ) h (fun v1 D1 h => ?_)
  show Run Γ rg κ Y_X8_cannotSet 6 [(40, 0), (0, p1), (0, p2), (0, p3), (5, 0), (5, 0)] [(0, v1)] D1 Φ
  refine r_istore d_X8_cannotSet_6 (by decide) rfl ?_
  show Run Γ rg κ Y_X8_cannotSet 8 [(40, 0), (0, p1), (0, p2), (0, p3), (0, v1), (5, 0)] [] D1 Φ
  refine r_aload_n d_X8_cannotSet_8 rfl (by decide) ?_
  refine r_getR (t := 39) d_X8_cannotSet_9 fk_RX8_29 sh_32 rfl (by decide) (R 32 rfl) ?_
  refine r_iload_n d_X8_cannotSet_12 rfl ?_
  refine c_iald d_X8_cannotSet_13 sh_39 (by decide) (R 39 rfl) (by decide) h (fun v2 h => ?_)
  refine r_iconst d_X8_cannotSet_14 ?_
  refine c_icmp_ne (tgt := 35) d_X8_cannotSet_15 (by decide) (nz_w _) (nz_k rfl) h (fun h => ?_) (fun h => ?_)
  · skip
    show Run Γ rg κ Y_X8_cannotSet 35 [(40, 0), (0, p1), (0, p2), (0, p3), (0, v1), (5, 0)] [] D1 Φ
    refine r_iconst d_X8_cannotSet_35 ?_
    exact c_zret d_X8_cannotSet_36 rfl (Or.inr rfl) h
  · skip
    show Run Γ rg κ Y_X8_cannotSet 18 [(40, 0), (0, p1), (0, p2), (0, p3), (0, v1), (5, 0)] [] D1 Φ
    refine r_iload d_X8_cannotSet_18 rfl ?_
    refine r_iconst d_X8_cannotSet_20 ?_
    refine c_jn (fun J => ∀ (D2 : DD), WP (some .boolean) κ Φ (J D2) → Run Γ rg κ Y_X8_cannotSet 37 [(40, 0), (0, p1), (5, 0), (0, p3), (0, v1), (5, 0)] [] D2 Φ) h ?_ (fun J1 hJ1 h => ?_)
    · intro D2 h
      show Run Γ rg κ Y_X8_cannotSet 37 [(40, 0), (0, p1), (5, 0), (0, p3), (0, v1), (5, 0)] [] D2 Φ
      refine r_aload_n d_X8_cannotSet_37 rfl (by decide) ?_
      refine r_iconst d_X8_cannotSet_38 ?_
      refine c_putI (k := 37) d_X8_cannotSet_39 pk_RX8_146 sh_32 rfl (by decide) (R 32 rfl) h (fun D3 h => ?_)
      refine r_iconst d_X8_cannotSet_42 ?_
      refine r_istore d_X8_cannotSet_43 (by decide) rfl ?_
      show Run Γ rg κ Y_X8_cannotSet 45 [(40, 0), (0, p1), (5, 0), (0, p3), (0, v1), (0, 0)] [] D3 Φ
      refine run_pM_cannotSet_45 R p3 p1 v1 ?_ fu 0 D3 h
      intro D4 h
      show Run Γ rg κ Y_X8_cannotSet 72 [(40, 0), (0, p1), (5, 0), (5, 0), (0, v1), (5, 0)] [] D4 Φ
      refine r_iload d_X8_cannotSet_72 rfl ?_
      refine r_iconst d_X8_cannotSet_74 ?_
      refine c_jn (fun J => ∀ (D5 : DD), WP (some .boolean) κ Φ (J D5) → Run Γ rg κ Y_X8_cannotSet 83 [(40, 0), (0, p1), (5, 0), (5, 0), (0, v1), (5, 0)] [] D5 Φ) h ?_ (fun J2 hJ2 h => ?_)
      · intro D5 h
        show Run Γ rg κ Y_X8_cannotSet 83 [(40, 0), (0, p1), (5, 0), (5, 0), (0, v1), (5, 0)] [] D5 Φ
        refine r_iload d_X8_cannotSet_83 rfl ?_
        refine r_iconst d_X8_cannotSet_85 ?_
        refine c_jn (fun J => ∀ (D6 : DD), WP (some .boolean) κ Φ (J D6) → Run Γ rg κ Y_X8_cannotSet 106 [(40, 0), (5, 0), (5, 0), (5, 0), (5, 0), (5, 0)] [] D6 Φ) h ?_ (fun J3 hJ3 h => ?_)
        · intro D6 h
          show Run Γ rg κ Y_X8_cannotSet 106 [(40, 0), (5, 0), (5, 0), (5, 0), (5, 0), (5, 0)] [] D6 Φ
          refine r_aload_n d_X8_cannotSet_106 rfl (by decide) ?_
          refine c_callVi (t' := (some .boolean)) (a := 32) (z := 0) (as := []) (rest := []) (ls' := [(40, 0), (5, 0), (5, 0), (5, 0)]) d_X8_cannotSet_107 ck_RX8_207 rfl sh_32 rfl (by decide) (R 32 rfl) rfl rfl (Nat.le_of_ble_eq_true rfl) (Nat.le_of_ble_eq_true rfl) (by decide) rfl rfl (fun _ => rfl) (fun κ' Ψ hΨ => run_pM_gets R hΨ) h (fun v3 D7 h => ?_)
          show Run Γ rg κ Y_X8_cannotSet 110 [(40, 0), (5, 0), (5, 0), (5, 0), (5, 0), (5, 0)] [(0, v3)] D7 Φ
          refine c_if_ne (tgt := 117) d_X8_cannotSet_110 (by decide) (nz_w _) h (fun h => ?_) (fun h => ?_)
          · skip
            show Run Γ rg κ Y_X8_cannotSet 117 [(40, 0), (5, 0), (5, 0), (5, 0), (5, 0), (5, 0)] [] D7 Φ
            refine r_iconst d_X8_cannotSet_117 ?_
            exact c_zret d_X8_cannotSet_118 rfl (Or.inl rfl) h
          · skip
            show Run Γ rg κ Y_X8_cannotSet 113 [(40, 0), (5, 0), (5, 0), (5, 0), (5, 0), (5, 0)] [] D7 Φ
            refine r_iconst d_X8_cannotSet_113 ?_
            refine r_goto (tgt := 118) d_X8_cannotSet_114 (by decide) ?_
            show Run Γ rg κ Y_X8_cannotSet 118 [(40, 0), (5, 0), (5, 0), (5, 0), (5, 0), (5, 0)] [(0, 1)] D7 Φ
            exact c_zret d_X8_cannotSet_118 rfl (Or.inr rfl) h
        refine c_icmp_ne (tgt := 106) d_X8_cannotSet_86 (by decide) (nz_w _) (nz_k rfl) h (fun h => ?_) (fun h => ?_)
        · skip
          exact Run.forget (ls' := [(40, 0), (5, 0), (5, 0), (5, 0), (5, 0), (5, 0)]) ⟨Or.inr rfl, Or.inl rfl, Or.inr rfl, Or.inr rfl, Or.inl rfl, Or.inr rfl, trivial⟩ (hJ3 D5 h)
        · skip
          show Run Γ rg κ Y_X8_cannotSet 89 [(40, 0), (0, p1), (5, 0), (5, 0), (0, v1), (5, 0)] [] D5 Φ
          refine r_aload_n d_X8_cannotSet_89 rfl (by decide) ?_
          refine r_iload_n d_X8_cannotSet_90 rfl ?_
          refine c_callVi (t' := (some .int)) (a := 32) (z := 0) (as := [(0, p1)]) (rest := []) (ls' := [(40, 0), (0, p1)]) d_X8_cannotSet_91 ck_RX8_252 rfl sh_32 rfl (by decide) (R 32 rfl) rfl rfl (Nat.le_of_ble_eq_true rfl) (Nat.le_of_ble_eq_true rfl) (by decide) rfl rfl (fun _ => rfl) (fun κ' Ψ hΨ => run_pM_listFor R _ hΨ) h (fun v4 D8 h => ?_)
          show Run Γ rg κ Y_X8_cannotSet 94 [(40, 0), (0, p1), (5, 0), (5, 0), (0, v1), (5, 0)] [(0, v4)] D8 Φ
          refine c_if_le (tgt := 106) d_X8_cannotSet_94 (by decide) (nz_w _) h (fun h => ?_) (fun h => ?_)
          · skip
            exact Run.forget (ls' := [(40, 0), (5, 0), (5, 0), (5, 0), (5, 0), (5, 0)]) ⟨Or.inr rfl, Or.inl rfl, Or.inr rfl, Or.inr rfl, Or.inl rfl, Or.inr rfl, trivial⟩ (hJ3 D8 h)
          · skip
            show Run Γ rg κ Y_X8_cannotSet 97 [(40, 0), (0, p1), (5, 0), (5, 0), (0, v1), (5, 0)] [] D8 Φ
            refine r_aload_n d_X8_cannotSet_97 rfl (by decide) ?_
            refine r_aload_n d_X8_cannotSet_98 rfl (by decide) ?_
            refine r_iload_n d_X8_cannotSet_99 rfl ?_
            refine c_callVi (t' := (some .int)) (a := 32) (z := 0) (as := [(0, p1)]) (rest := [(40, 0)]) (ls' := [(40, 0), (0, p1)]) d_X8_cannotSet_100 ck_RX8_252 rfl sh_32 rfl (by decide) (R 32 rfl) rfl rfl (Nat.le_of_ble_eq_true rfl) (Nat.le_of_ble_eq_true rfl) (by decide) rfl rfl (fun _ => rfl) (fun κ' Ψ hΨ => run_pM_listFor R _ hΨ) h (fun v5 D9 h => ?_)
            show Run Γ rg κ Y_X8_cannotSet 103 [(40, 0), (0, p1), (5, 0), (5, 0), (0, v1), (5, 0)] [(0, v5), (40, 0)] D9 Φ
            refine c_callVv (a := 32) (z := 0) (as := [(0, v5)]) (rest := []) (ls' := [(40, 0), (0, v5)]) d_X8_cannotSet_103 ck_RX8_176 rfl sh_32 rfl (by decide) (R 32 rfl) rfl rfl (Nat.le_of_ble_eq_true rfl) (Nat.le_of_ble_eq_true rfl) (by decide) rfl rfl (fun κ' Ψ hΨ => run_pM_wants R _ hΨ) h (fun _ D10 h => ?_)
            show Run Γ rg κ Y_X8_cannotSet 106 [(40, 0), (0, p1), (5, 0), (5, 0), (0, v1), (5, 0)] [] D10 Φ
            exact Run.forget (ls' := [(40, 0), (5, 0), (5, 0), (5, 0), (5, 0), (5, 0)]) ⟨Or.inr rfl, Or.inl rfl, Or.inr rfl, Or.inr rfl, Or.inl rfl, Or.inr rfl, trivial⟩ (hJ3 D10 h)
      refine c_icmp_ne (tgt := 83) d_X8_cannotSet_75 (by decide) (nz_w _) (nz_k rfl) h (fun h => ?_) (fun h => ?_)
      · skip
        exact (hJ2 D4 h)
      · skip
        show Run Γ rg κ Y_X8_cannotSet 78 [(40, 0), (0, p1), (5, 0), (5, 0), (0, v1), (5, 0)] [] D4 Φ
        refine r_aload_n d_X8_cannotSet_78 rfl (by decide) ?_
        refine r_iconst d_X8_cannotSet_79 ?_
        refine c_callVv (a := 32) (z := 0) (as := [(0, 3)]) (rest := []) (ls' := [(40, 0), (0, 3)]) d_X8_cannotSet_80 ck_RX8_176 rfl sh_32 rfl (by decide) (R 32 rfl) rfl rfl (Nat.le_of_ble_eq_true rfl) (Nat.le_of_ble_eq_true rfl) (by decide) rfl rfl (fun κ' Ψ hΨ => run_pM_wants R _ hΨ) h (fun _ D11 h => ?_)
        show Run Γ rg κ Y_X8_cannotSet 83 [(40, 0), (0, p1), (5, 0), (5, 0), (0, v1), (5, 0)] [] D11 Φ
        exact (hJ2 D11 h)
    refine c_icmp_ne (tgt := 37) d_X8_cannotSet_21 (by decide) (nz_w _) (nz_k rfl) h (fun h => ?_) (fun h => ?_)
    · skip
      exact Run.forget (ls' := [(40, 0), (0, p1), (5, 0), (0, p3), (0, v1), (5, 0)]) ⟨Or.inr rfl, Or.inr rfl, Or.inl rfl, Or.inr rfl, Or.inr rfl, Or.inr rfl, trivial⟩ (hJ1 D1 h)
    · skip
      show Run Γ rg κ Y_X8_cannotSet 24 [(40, 0), (0, p1), (0, p2), (0, p3), (0, v1), (5, 0)] [] D1 Φ
      refine r_aload_n d_X8_cannotSet_24 rfl (by decide) ?_
      refine r_getR (t := 48) d_X8_cannotSet_25 fk_RX8_56 sh_32 rfl (by decide) (R 32 rfl) ?_
      refine r_iload_n d_X8_cannotSet_28 rfl ?_
      refine c_iald d_X8_cannotSet_29 sh_48 (by decide) (R 48 rfl) (by decide) h (fun v6 h => ?_)
      refine r_bipush d_X8_cannotSet_30 (by decide) ?_
      refine c_icmp_ne (tgt := 37) d_X8_cannotSet_32 (by decide) (nz_w _) (nz_k rfl) h (fun h => ?_) (fun h => ?_)
      · skip
        exact Run.forget (ls' := [(40, 0), (0, p1), (5, 0), (0, p3), (0, v1), (5, 0)]) ⟨Or.inr rfl, Or.inr rfl, Or.inl rfl, Or.inr rfl, Or.inr rfl, Or.inr rfl, trivial⟩ (hJ1 D1 h)
      · skip
        show Run Γ rg κ Y_X8_cannotSet 35 [(40, 0), (0, p1), (0, p2), (0, p3), (0, v1), (5, 0)] [] D1 Φ
        refine r_iconst d_X8_cannotSet_35 ?_
        exact c_zret d_X8_cannotSet_36 rfl (Or.inr rfl) h
set_option maxRecDepth 20000 in
theorem run_pM_setValue {Γ : GG} {rg : Nat → Bool} {κ : Nat} {Φ : OT → DD → Prop} (R : cov rg rg1) (p1 : Int) (p2 : Int) (p3 : Int) (p4 : Int) {D : DD} (h : WP (some .int) κ Φ (pM_setValue p1 p2 p3 p4 D)) : Run Γ rg κ Y_X8_setValue 0 [(40, 0), (0, p1), (0, p2), (0, p3), (0, p4), (5, 0), (5, 0), (5, 0), (5, 0), (5, 0), (5, 0)] [] D Φ := by
  unfold pM_setValue at h
  show Run Γ rg κ Y_X8_setValue 0 [(40, 0), (0, p1), (0, p2), (0, p3), (0, p4), (5, 0), (5, 0), (5, 0), (5, 0), (5, 0), (5, 0)] [] D Φ
  refine r_aload_n d_X8_setValue_0 rfl (by decide) ?_
  refine r_iload_n d_X8_setValue_1 rfl ?_
  refine c_callVi (t' := (some .boolean)) (a := 32) (z := 0) (as := [(0, p1)]) (rest := []) (ls' := [(40, 0), (0, p1)]) d_X8_setValue_2 ck_RX8_191 rfl sh_32 rfl (by decide) (R 32 rfl) rfl rfl (Nat.le_of_ble_eq_true rfl) (Nat.le_of_ble_eq_true rfl) (by decide) rfl rfl (fun _ => rfl) (fun κ' Ψ hΨ => run_pM_isKey R _ hΨ) h (fun v1 D1 h => ?_)
  show Run Γ rg κ Y_X8_setValue 5 [(40, 0), (0, p1), (0, p2), (0, p3), (0, p4), (5, 0), (5, 0), (5, 0), (5, 0), (5, 0), (5, 0)] [(0, v1)] D1 Φ
  refine r_istore d_X8_setValue_5 (by decide) rfl ?_
  show Run Γ rg κ Y_X8_setValue 7 [(40, 0), (0, p1), (0, p2), (0, p3), (0, p4), (0, v1), (5, 0), (5, 0), (5, 0), (5, 0), (5, 0)] [] D1 Φ
  refine r_iload_n d_X8_setValue_7 rfl ?_
  refine r_iconst d_X8_setValue_8 ?_
  refine r_bipush d_X8_setValue_9 (by decide) ?_
  refine c_callSPi (as := [(0, p2), (0, 0), (0, 99)]) (rest := []) (ls' := [(0, p2), (0, 0), (0, 99)]) d_X8_setValue_11 ck_RX8_124 rfl rfl rfl (Nat.le_of_ble_eq_true rfl) (Nat.le_of_ble_eq_true rfl) (by decide) rfl rfl (fun Ψ hΨ => run_pM_isIn R _ _ _ rfl hΨ) ?_
  show Run Γ rg κ Y_X8_setValue 14 [(40, 0), (0, p1), (0, p2), (0, p3), (0, p4), (0, v1), (5, 0), (5, 0), (5, 0), (5, 0), (5, 0)] [(0, (pM_isIn p2 0 99))] D1 Φ
  refine c_jn (fun J => ∀ (x1 : Int) (D2 : DD), WP (some .int) κ Φ (J x1 D2) → Run Γ rg κ Y_X8_setValue 32 [(40, 0), (0, p1), (0, p2), (0, p3), (0, p4), (0, v1), (5, 0), (5, 0), (5, 0), (5, 0), (5, 0)] [(0, x1)] D2 Φ) h ?_ (fun J1 hJ1 h => ?_)
  · intro x1 D2 h
    show Run Γ rg κ Y_X8_setValue 32 [(40, 0), (0, p1), (0, p2), (0, p3), (0, p4), (0, v1), (5, 0), (5, 0), (5, 0), (5, 0), (5, 0)] [(0, x1)] D2 Φ
    refine r_istore d_X8_setValue_32 (by decide) rfl ?_
    show Run Γ rg κ Y_X8_setValue 34 [(40, 0), (0, p1), (0, p2), (0, p3), (0, p4), (0, v1), (0, x1), (5, 0), (5, 0), (5, 0), (5, 0)] [] D2 Φ
    refine r_aload_n d_X8_setValue_34 rfl (by decide) ?_
    refine r_iload d_X8_setValue_35 rfl ?_
    refine c_jn (fun J => ∀ (x2 : Int) (D3 : DD), WP (some .int) κ Φ (J x2 D3) → Run Γ rg κ Y_X8_setValue 68 [(40, 0), (0, p1), (0, p2), (0, p3), (0, p4), (5, 0), (5, 0), (5, 0), (5, 0), (5, 0), (5, 0)] [(0, x2), (40, 0)] D3 Φ) h ?_ (fun J2 hJ2 h => ?_)
    · intro x2 D3 h
      show Run Γ rg κ Y_X8_setValue 68 [(40, 0), (0, p1), (0, p2), (0, p3), (0, p4), (5, 0), (5, 0), (5, 0), (5, 0), (5, 0), (5, 0)] [(0, x2), (40, 0)] D3 Φ
      refine c_callVi (t' := (some .boolean)) (a := 32) (z := 0) (as := [(0, x2)]) (rest := []) (ls' := [(40, 0), (0, x2)]) d_X8_setValue_68 ck_RX8_195 rfl sh_32 rfl (by decide) (R 32 rfl) rfl rfl (Nat.le_of_ble_eq_true rfl) (Nat.le_of_ble_eq_true rfl) (by decide) rfl rfl (fun _ => rfl) (fun κ' Ψ hΨ => run_pM_fails R _ hΨ) h (fun v2 D4 h => ?_)
      show Run Γ rg κ Y_X8_setValue 71 [(40, 0), (0, p1), (0, p2), (0, p3), (0, p4), (5, 0), (5, 0), (5, 0), (5, 0), (5, 0), (5, 0)] [(0, v2)] D4 Φ
      refine c_if_eq (tgt := 76) d_X8_setValue_71 (by decide) (nz_w _) h (fun h => ?_) (fun h => ?_)
      · skip
        show Run Γ rg κ Y_X8_setValue 76 [(40, 0), (0, p1), (0, p2), (0, p3), (0, p4), (5, 0), (5, 0), (5, 0), (5, 0), (5, 0), (5, 0)] [] D4 Φ
        refine r_aload_n d_X8_setValue_76 rfl (by decide) ?_
        refine c_callVv (a := 32) (z := 0) (as := []) (rest := []) (ls' := [(40, 0), (5, 0)]) d_X8_setValue_77 ck_RX8_211 rfl sh_32 rfl (by decide) (R 32 rfl) rfl rfl (Nat.le_of_ble_eq_true rfl) (Nat.le_of_ble_eq_true rfl) (by decide) rfl rfl (fun κ' Ψ hΨ => run_pM_writesGot R hΨ) h (fun _ D5 h => ?_)
        show Run Γ rg κ Y_X8_setValue 80 [(40, 0), (0, p1), (0, p2), (0, p3), (0, p4), (5, 0), (5, 0), (5, 0), (5, 0), (5, 0), (5, 0)] [] D5 Φ
        refine r_aload_n d_X8_setValue_80 rfl (by decide) ?_
        refine r_iload_n d_X8_setValue_81 rfl ?_
        refine r_iload_n d_X8_setValue_82 rfl ?_
        refine c_callVi (t' := (some .int)) (a := 32) (z := 0) (as := [(0, p1), (0, p2)]) (rest := []) (ls' := [(40, 0), (0, p1), (0, p2), (5, 0), (5, 0)]) d_X8_setValue_83 ck_RX8_246 rfl sh_32 rfl (by decide) (R 32 rfl) rfl rfl (Nat.le_of_ble_eq_true rfl) (Nat.le_of_ble_eq_true rfl) (by decide) rfl rfl (fun _ => rfl) (fun κ' Ψ hΨ => run_pM_valueOf R _ _ hΨ) h (fun v3 D6 h => ?_)
        show Run Γ rg κ Y_X8_setValue 86 [(40, 0), (0, p1), (0, p2), (0, p3), (0, p4), (5, 0), (5, 0), (5, 0), (5, 0), (5, 0), (5, 0)] [(0, v3)] D6 Φ
        refine r_istore d_X8_setValue_86 (by decide) rfl ?_
        show Run Γ rg κ Y_X8_setValue 88 [(40, 0), (0, p1), (0, p2), (0, p3), (0, p4), (5, 0), (5, 0), (0, v3), (5, 0), (5, 0), (5, 0)] [] D6 Φ
        refine r_iload_n d_X8_setValue_88 rfl ?_
        refine c_callSPi (as := [(0, p3)]) (rest := []) (ls' := [(0, p3)]) d_X8_setValue_89 ck_RX8_237 rfl rfl rfl (Nat.le_of_ble_eq_true rfl) (Nat.le_of_ble_eq_true rfl) (by decide) rfl rfl (fun Ψ hΨ => run_pM_piecesFor R _ rfl hΨ) ?_
        show Run Γ rg κ Y_X8_setValue 92 [(40, 0), (0, p1), (0, p2), (0, p3), (0, p4), (5, 0), (5, 0), (0, v3), (5, 0), (5, 0), (5, 0)] [(0, (pM_piecesFor p3))] D6 Φ
        refine c_lt d_X8_setValue_92 (by decide) rfl h (fun x3 h => ?_)
        show Run Γ rg κ Y_X8_setValue 94 [(40, 0), (0, p1), (0, p2), (0, p3), (0, p4), (5, 0), (5, 0), (0, v3), (0, x3), (5, 0), (5, 0)] [] D6 Φ
        refine r_iconst d_X8_setValue_94 ?_
        show Run Γ rg κ Y_X8_setValue 95 [(40, 0), (0, p1), (0, p2), (0, p3), (0, p4), (5, 0), (5, 0), (0, v3), (0, x3), (5, 0), (5, 0)] [(0, (-1))] D6 Φ
        refine r_istore d_X8_setValue_95 (by decide) rfl ?_
        show Run Γ rg κ Y_X8_setValue 97 [(40, 0), (0, p1), (0, p2), (0, p3), (0, p4), (5, 0), (5, 0), (0, v3), (0, x3), (0, (-1)), (5, 0)] [] D6 Φ
        refine r_iload d_X8_setValue_97 rfl ?_
        refine r_iconst d_X8_setValue_99 ?_
        refine c_jn (fun J => ∀ (x4 : Int) (x5 : Int) (D7 : DD), WP (some .int) κ Φ (J x4 x5 D7) → Run Γ rg κ Y_X8_setValue 209 [(40, 0), (0, p1), (5, 0), (0, p3), (0, p4), (5, 0), (5, 0), (0, x4), (0, x3), (0, x5), (5, 0)] [] D7 Φ) h ?_ (fun J3 hJ3 h => ?_)
        · intro x4 x5 D7 h
          show Run Γ rg κ Y_X8_setValue 209 [(40, 0), (0, p1), (5, 0), (0, p3), (0, p4), (5, 0), (5, 0), (0, x4), (0, x3), (0, x5), (5, 0)] [] D7 Φ
          refine r_aload_n d_X8_setValue_209 rfl (by decide) ?_
          refine r_iload d_X8_setValue_210 rfl ?_
          refine r_iconst d_X8_setValue_212 ?_
          refine c_callVv (a := 32) (z := 0) (as := [(0, x4), (0, 0)]) (rest := []) (ls' := [(40, 0), (0, x4), (0, 0), (5, 0)]) d_X8_setValue_213 ck_RX8_240 rfl sh_32 rfl (by decide) (R 32 rfl) rfl rfl (Nat.le_of_ble_eq_true rfl) (Nat.le_of_ble_eq_true rfl) (by decide) rfl rfl (fun κ' Ψ hΨ => run_pM_givesPieces R _ _ hΨ) h (fun _ D8 h => ?_)
          show Run Γ rg κ Y_X8_setValue 216 [(40, 0), (0, p1), (5, 0), (0, p3), (0, p4), (5, 0), (5, 0), (0, x4), (0, x3), (0, x5), (5, 0)] [] D8 Φ
          refine r_iload d_X8_setValue_216 rfl ?_
          refine r_iconst d_X8_setValue_218 ?_
          refine c_jn (fun J => ∀ (D9 : DD), WP (some .int) κ Φ (J D9) → Run Γ rg κ Y_X8_setValue 228 [(40, 0), (0, p1), (5, 0), (0, p3), (0, p4), (5, 0), (5, 0), (0, x4), (0, x3), (5, 0), (5, 0)] [] D9 Φ) h ?_ (fun J4 hJ4 h => ?_)
          · intro D9 h
            show Run Γ rg κ Y_X8_setValue 228 [(40, 0), (0, p1), (5, 0), (0, p3), (0, p4), (5, 0), (5, 0), (0, x4), (0, x3), (5, 0), (5, 0)] [] D9 Φ
            refine r_iconst d_X8_setValue_228 ?_
            refine r_istore d_X8_setValue_229 (by decide) rfl ?_
            show Run Γ rg κ Y_X8_setValue 231 [(40, 0), (0, p1), (5, 0), (0, p3), (0, p4), (5, 0), (5, 0), (0, x4), (0, x3), (5, 0), (0, 0)] [] D9 Φ
            refine run_pM_setValue_231 R x4 x3 p1 p3 p4 ?_ fu 0 D9 h
            intro D10 h
            show Run Γ rg κ Y_X8_setValue 263 [(40, 0), (0, p1), (5, 0), (0, p3), (0, p4), (5, 0), (5, 0), (0, x4), (5, 0), (5, 0), (5, 0)] [] D10 Φ
            refine r_aload_n d_X8_setValue_263 rfl (by decide) ?_
            refine r_getR (t := 53) d_X8_setValue_264 fk_RX8_71 sh_32 rfl (by decide) (R 32 rfl) ?_
            refine r_iload d_X8_setValue_267 rfl ?_
            refine r_iload_n d_X8_setValue_269 rfl ?_
            refine c_iast d_X8_setValue_270 sh_53 (by decide) (R 53 rfl) (by decide) h (fun D11 h => ?_)
            refine r_aload_n d_X8_setValue_271 rfl (by decide) ?_
            refine r_getR (t := 52) d_X8_setValue_272 fk_RX8_68 sh_32 rfl (by decide) (R 32 rfl) ?_
            refine r_iload d_X8_setValue_275 rfl ?_
            refine r_iload d_X8_setValue_277 rfl ?_
            refine c_iast d_X8_setValue_279 sh_52 (by decide) (R 52 rfl) (by decide) h (fun D12 h => ?_)
            refine r_aload_n d_X8_setValue_280 rfl (by decide) ?_
            show Run Γ rg κ Y_X8_setValue 281 [(40, 0), (0, p1), (5, 0), (0, p3), (0, p4), (5, 0), (5, 0), (0, x4), (5, 0), (5, 0), (5, 0)] [(40, 0)] D12 Φ
            refine r_aload_n d_X8_setValue_281 rfl (by decide) ?_
            refine r_getR (t := 54) d_X8_setValue_282 fk_RX8_74 sh_32 rfl (by decide) (R 32 rfl) ?_
            refine r_iload d_X8_setValue_285 rfl ?_
            refine c_iald d_X8_setValue_287 sh_54 (by decide) (R 54 rfl) (by decide) h (fun v4 h => ?_)
            refine c_callVv (a := 32) (z := 0) (as := [(0, v4)]) (rest := []) (ls' := [(40, 0), (0, v4), (5, 0), (5, 0)]) d_X8_setValue_288 ck_RX8_152 rfl sh_32 rfl (by decide) (R 32 rfl) rfl rfl (Nat.le_of_ble_eq_true rfl) (Nat.le_of_ble_eq_true rfl) (by decide) rfl rfl (fun κ' Ψ hΨ => run_pM_writes R _ hΨ) h (fun _ D13 h => ?_)
            show Run Γ rg κ Y_X8_setValue 291 [(40, 0), (0, p1), (5, 0), (0, p3), (0, p4), (5, 0), (5, 0), (0, x4), (5, 0), (5, 0), (5, 0)] [] D13 Φ
            refine r_aload_n d_X8_setValue_291 rfl (by decide) ?_
            refine r_aload_n d_X8_setValue_292 rfl (by decide) ?_
            refine r_getR (t := 40) d_X8_setValue_293 fk_RX8_32 sh_32 rfl (by decide) (R 32 rfl) ?_
            refine r_iload_n d_X8_setValue_296 rfl ?_
            refine c_iald d_X8_setValue_297 sh_40 (by decide) (R 40 rfl) (by decide) h (fun v5 h => ?_)
            refine c_callVv (a := 32) (z := 0) (as := [(0, v5)]) (rest := []) (ls' := [(40, 0), (0, v5), (5, 0), (5, 0)]) d_X8_setValue_298 ck_RX8_152 rfl sh_32 rfl (by decide) (R 32 rfl) rfl rfl (Nat.le_of_ble_eq_true rfl) (Nat.le_of_ble_eq_true rfl) (by decide) rfl rfl (fun κ' Ψ hΨ => run_pM_writes R _ hΨ) h (fun _ D14 h => ?_)
            show Run Γ rg κ Y_X8_setValue 301 [(40, 0), (0, p1), (5, 0), (0, p3), (0, p4), (5, 0), (5, 0), (0, x4), (5, 0), (5, 0), (5, 0)] [] D14 Φ
            refine r_aload_n d_X8_setValue_301 rfl (by decide) ?_
            show Run Γ rg κ Y_X8_setValue 302 [(40, 0), (0, p1), (5, 0), (0, p3), (0, p4), (5, 0), (5, 0), (0, x4), (5, 0), (5, 0), (5, 0)] [(40, 0)] D14 Φ
            refine r_iload_n d_X8_setValue_302 rfl ?_
            refine r_iconst d_X8_setValue_303 ?_
            refine c_callVv (a := 32) (z := 0) (as := [(0, p1), (0, 2)]) (rest := []) (ls' := [(40, 0), (0, p1), (0, 2), (5, 0)]) d_X8_setValue_304 ck_RX8_218 rfl sh_32 rfl (by decide) (R 32 rfl) rfl rfl (Nat.le_of_ble_eq_true rfl) (Nat.le_of_ble_eq_true rfl) (by decide) rfl rfl (fun κ' Ψ hΨ => run_pM_changes R _ _ hΨ) h (fun _ D15 h => ?_)
            show Run Γ rg κ Y_X8_setValue 307 [(40, 0), (0, p1), (5, 0), (0, p3), (0, p4), (5, 0), (5, 0), (0, x4), (5, 0), (5, 0), (5, 0)] [] D15 Φ
            refine r_aload_n d_X8_setValue_307 rfl (by decide) ?_
            refine r_getR (t := 48) d_X8_setValue_308 fk_RX8_56 sh_32 rfl (by decide) (R 32 rfl) ?_
            refine r_iload_n d_X8_setValue_311 rfl ?_
            refine c_iald d_X8_setValue_312 sh_48 (by decide) (R 48 rfl) (by decide) h (fun v6 h => ?_)
            exact c_iret d_X8_setValue_313 rfl h
          refine c_icmp_eq (tgt := 228) d_X8_setValue_219 (by decide) (nz_w _) (nz_k rfl) h (fun h => ?_) (fun h => ?_)
          · skip
            exact Run.forget (ls' := [(40, 0), (0, p1), (5, 0), (0, p3), (0, p4), (5, 0), (5, 0), (0, x4), (0, x3), (5, 0), (5, 0)]) ⟨Or.inr rfl, Or.inr rfl, Or.inr rfl, Or.inr rfl, Or.inr rfl, Or.inr rfl, Or.inr rfl, Or.inr rfl, Or.inr rfl, Or.inl rfl, Or.inr rfl, trivial⟩ (hJ4 D8 h)
          · skip
            show Run Γ rg κ Y_X8_setValue 222 [(40, 0), (0, p1), (5, 0), (0, p3), (0, p4), (5, 0), (5, 0), (0, x4), (0, x3), (0, x5), (5, 0)] [] D8 Φ
            refine r_aload_n d_X8_setValue_222 rfl (by decide) ?_
            refine r_iload d_X8_setValue_223 rfl ?_
            refine c_callVv (a := 32) (z := 0) (as := [(0, x5)]) (rest := []) (ls' := [(40, 0), (0, x5), (5, 0), (5, 0), (5, 0)]) d_X8_setValue_225 ck_RX8_182 rfl sh_32 rfl (by decide) (R 32 rfl) rfl rfl (Nat.le_of_ble_eq_true rfl) (Nat.le_of_ble_eq_true rfl) (by decide) rfl rfl (fun κ' Ψ hΨ => run_pM_gives R _ hΨ) h (fun _ D16 h => ?_)
            show Run Γ rg κ Y_X8_setValue 228 [(40, 0), (0, p1), (5, 0), (0, p3), (0, p4), (5, 0), (5, 0), (0, x4), (0, x3), (0, x5), (5, 0)] [] D16 Φ
            exact Run.forget (ls' := [(40, 0), (0, p1), (5, 0), (0, p3), (0, p4), (5, 0), (5, 0), (0, x4), (0, x3), (5, 0), (5, 0)]) ⟨Or.inr rfl, Or.inr rfl, Or.inr rfl, Or.inr rfl, Or.inr rfl, Or.inr rfl, Or.inr rfl, Or.inr rfl, Or.inr rfl, Or.inl rfl, Or.inr rfl, trivial⟩ (hJ4 D16 h)
        refine c_icmp_ne (tgt := 209) d_X8_setValue_100 (by decide) (nz_w _) (nz_k rfl) h (fun h => ?_) (fun h => ?_)
        · skip
          exact Run.forget (ls' := [(40, 0), (0, p1), (5, 0), (0, p3), (0, p4), (5, 0), (5, 0), (0, v3), (0, x3), (0, (-1)), (5, 0)]) ⟨Or.inr rfl, Or.inr rfl, Or.inl rfl, Or.inr rfl, Or.inr rfl, Or.inr rfl, Or.inr rfl, Or.inr rfl, Or.inr rfl, Or.inr rfl, Or.inr rfl, trivial⟩ (hJ3 v3 (-1) D6 h)
        · skip
          show Run Γ rg κ Y_X8_setValue 103 [(40, 0), (0, p1), (0, p2), (0, p3), (0, p4), (5, 0), (5, 0), (0, v3), (0, x3), (0, (-1)), (5, 0)] [] D6 Φ
          refine r_bipush d_X8_setValue_103 (by decide) ?_
          refine r_iload_n d_X8_setValue_105 rfl ?_
          refine r_imul d_X8_setValue_106 ?_
          refine r_aload_n d_X8_setValue_107 rfl (by decide) ?_
          refine r_getR (t := 48) d_X8_setValue_108 fk_RX8_56 sh_32 rfl (by decide) (R 32 rfl) ?_
          refine r_iload_n d_X8_setValue_111 rfl ?_
          refine c_iald d_X8_setValue_112 sh_48 (by decide) (R 48 rfl) (by decide) h (fun v7 h => ?_)
          refine r_iadd d_X8_setValue_113 ?_
          refine c_lt d_X8_setValue_114 (by decide) rfl h (fun x6 h => ?_)
          show Run Γ rg κ Y_X8_setValue 116 [(40, 0), (0, p1), (0, p2), (0, p3), (0, p4), (5, 0), (5, 0), (0, x6), (0, x3), (0, (-1)), (5, 0)] [] D6 Φ
          refine r_aload_n d_X8_setValue_116 rfl (by decide) ?_
          refine r_getR (t := 51) d_X8_setValue_117 fk_RX8_65 sh_32 rfl (by decide) (R 32 rfl) ?_
          show Run Γ rg κ Y_X8_setValue 120 [(40, 0), (0, p1), (0, p2), (0, p3), (0, p4), (5, 0), (5, 0), (0, x6), (0, x3), (0, (-1)), (5, 0)] [(59, 0)] D6 Φ
          refine r_iload d_X8_setValue_120 rfl ?_
          refine r_iload_n d_X8_setValue_122 rfl ?_
          refine c_iast d_X8_setValue_123 sh_51 (by decide) (R 51 rfl) (by decide) h (fun D17 h => ?_)
          refine r_aload_n d_X8_setValue_124 rfl (by decide) ?_
          refine r_getR (t := 54) d_X8_setValue_125 fk_RX8_74 sh_32 rfl (by decide) (R 32 rfl) ?_
          refine r_iload d_X8_setValue_128 rfl ?_
          refine r_aload_n d_X8_setValue_130 rfl (by decide) ?_
          refine r_getR (t := 66) d_X8_setValue_131 fk_RX8_110 sh_32 rfl (by decide) (R 32 rfl) ?_
          refine r_iload d_X8_setValue_134 rfl ?_
          refine c_iald d_X8_setValue_136 sh_66 (by decide) (R 66 rfl) (by decide) h (fun v8 h => ?_)
          refine c_iast d_X8_setValue_137 sh_54 (by decide) (R 54 rfl) (by decide) h (fun D18 h => ?_)
          refine r_aload_n d_X8_setValue_138 rfl (by decide) ?_
          show Run Γ rg κ Y_X8_setValue 139 [(40, 0), (0, p1), (0, p2), (0, p3), (0, p4), (5, 0), (5, 0), (0, x6), (0, x3), (0, (-1)), (5, 0)] [(40, 0)] D18 Φ
          refine r_getR (t := 53) d_X8_setValue_139 fk_RX8_71 sh_32 rfl (by decide) (R 32 rfl) ?_
          refine r_iload d_X8_setValue_142 rfl ?_
          refine r_iconst d_X8_setValue_144 ?_
          refine c_iast d_X8_setValue_145 sh_53 (by decide) (R 53 rfl) (by decide) h (fun D19 h => ?_)
          refine r_aload_n d_X8_setValue_146 rfl (by decide) ?_
          refine r_iload_n d_X8_setValue_147 rfl ?_
          refine c_callVi (t' := (some .int)) (a := 32) (z := 0) (as := [(0, p1)]) (rest := []) (ls' := [(40, 0), (0, p1)]) d_X8_setValue_148 ck_RX8_252 rfl sh_32 rfl (by decide) (R 32 rfl) rfl rfl (Nat.le_of_ble_eq_true rfl) (Nat.le_of_ble_eq_true rfl) (by decide) rfl rfl (fun _ => rfl) (fun κ' Ψ hΨ => run_pM_listFor R _ hΨ) h (fun v9 D20 h => ?_)
          show Run Γ rg κ Y_X8_setValue 151 [(40, 0), (0, p1), (0, p2), (0, p3), (0, p4), (5, 0), (5, 0), (0, x6), (0, x3), (0, (-1)), (5, 0)] [(0, v9)] D20 Φ
          refine r_istore d_X8_setValue_151 (by decide) rfl ?_
          show Run Γ rg κ Y_X8_setValue 153 [(40, 0), (0, p1), (0, p2), (0, p3), (0, p4), (5, 0), (5, 0), (0, x6), (0, x3), (0, (-1)), (0, v9)] [] D20 Φ
          refine r_iload d_X8_setValue_153 rfl ?_
          refine c_jn (fun J => ∀ (x7 : Int) (D21 : DD), WP (some .int) κ Φ (J x7 D21) → Run Γ rg κ Y_X8_setValue 189 [(40, 0), (0, p1), (5, 0), (0, p3), (0, p4), (5, 0), (5, 0), (0, x6), (0, x3), (0, x7), (5, 0)] [] D21 Φ) h ?_ (fun J5 hJ5 h => ?_)
          · intro x7 D21 h
            show Run Γ rg κ Y_X8_setValue 189 [(40, 0), (0, p1), (5, 0), (0, p3), (0, p4), (5, 0), (5, 0), (0, x6), (0, x3), (0, x7), (5, 0)] [] D21 Φ
            refine r_aload_n d_X8_setValue_189 rfl (by decide) ?_
            refine r_getR (t := 48) d_X8_setValue_190 fk_RX8_56 sh_32 rfl (by decide) (R 32 rfl) ?_
            refine r_iload_n d_X8_setValue_193 rfl ?_
            refine r_dup2 d_X8_setValue_194 (show (0 : Nat) ≠ 1 by decide) (by decide) ?_
            refine c_iald d_X8_setValue_195 sh_48 (by decide) (R 48 rfl) (by decide) h (fun v10 h => ?_)
            refine r_iconst d_X8_setValue_196 ?_
            refine r_iadd d_X8_setValue_197 ?_
            refine c_iast d_X8_setValue_198 sh_48 (by decide) (R 48 rfl) (by decide) h (fun D22 h => ?_)
            refine r_aload_n d_X8_setValue_199 rfl (by decide) ?_
            refine r_aload_n d_X8_setValue_200 rfl (by decide) ?_
            refine r_getR (t := 49) d_X8_setValue_201 fk_RX8_59 sh_32 rfl (by decide) (R 32 rfl) ?_
            show Run Γ rg κ Y_X8_setValue 204 [(40, 0), (0, p1), (5, 0), (0, p3), (0, p4), (5, 0), (5, 0), (0, x6), (0, x3), (0, x7), (5, 0)] [(57, 0), (40, 0)] D22 Φ
            refine r_iload_n d_X8_setValue_204 rfl ?_
            refine c_iald d_X8_setValue_205 sh_49 (by decide) (R 49 rfl) (by decide) h (fun v11 h => ?_)
            refine c_callVv (a := 32) (z := 0) (as := [(0, v11)]) (rest := []) (ls' := [(40, 0), (0, v11), (5, 0), (5, 0)]) d_X8_setValue_206 ck_RX8_152 rfl sh_32 rfl (by decide) (R 32 rfl) rfl rfl (Nat.le_of_ble_eq_true rfl) (Nat.le_of_ble_eq_true rfl) (by decide) rfl rfl (fun κ' Ψ hΨ => run_pM_writes R _ hΨ) h (fun _ D23 h => ?_)
            show Run Γ rg κ Y_X8_setValue 209 [(40, 0), (0, p1), (5, 0), (0, p3), (0, p4), (5, 0), (5, 0), (0, x6), (0, x3), (0, x7), (5, 0)] [] D23 Φ
            exact (hJ3 x6 x7 D23 h)
          refine c_if_le (tgt := 189) d_X8_setValue_155 (by decide) (nz_w _) h (fun h => ?_) (fun h => ?_)
          · skip
            exact Run.forget (ls' := [(40, 0), (0, p1), (5, 0), (0, p3), (0, p4), (5, 0), (5, 0), (0, x6), (0, x3), (0, (-1)), (5, 0)]) ⟨Or.inr rfl, Or.inr rfl, Or.inl rfl, Or.inr rfl, Or.inr rfl, Or.inr rfl, Or.inr rfl, Or.inr rfl, Or.inr rfl, Or.inr rfl, Or.inl rfl, trivial⟩ (hJ5 (-1) D20 h)
          · skip
            show Run Γ rg κ Y_X8_setValue 158 [(40, 0), (0, p1), (0, p2), (0, p3), (0, p4), (5, 0), (5, 0), (0, x6), (0, x3), (0, (-1)), (0, v9)] [] D20 Φ
            refine r_aload_n d_X8_setValue_158 rfl (by decide) ?_
            refine r_getR (t := 49) d_X8_setValue_159 fk_RX8_59 sh_32 rfl (by decide) (R 32 rfl) ?_
            refine r_iload_n d_X8_setValue_162 rfl ?_
            refine c_iald d_X8_setValue_163 sh_49 (by decide) (R 49 rfl) (by decide) h (fun v12 h => ?_)
            refine r_istore d_X8_setValue_164 (by decide) rfl ?_
            show Run Γ rg κ Y_X8_setValue 166 [(40, 0), (0, p1), (0, p2), (0, p3), (0, p4), (5, 0), (5, 0), (0, x6), (0, x3), (0, v12), (0, v9)] [] D20 Φ
            refine r_aload_n d_X8_setValue_166 rfl (by decide) ?_
            refine r_getR (t := 49) d_X8_setValue_167 fk_RX8_59 sh_32 rfl (by decide) (R 32 rfl) ?_
            refine r_iload_n d_X8_setValue_170 rfl ?_
            refine r_aload_n d_X8_setValue_171 rfl (by decide) ?_
            refine r_getR (t := 66) d_X8_setValue_172 fk_RX8_110 sh_32 rfl (by decide) (R 32 rfl) ?_
            refine r_iload d_X8_setValue_175 rfl ?_
            show Run Γ rg κ Y_X8_setValue 177 [(40, 0), (0, p1), (0, p2), (0, p3), (0, p4), (5, 0), (5, 0), (0, x6), (0, x3), (0, v12), (0, v9)] [(0, x3), (74, 0), (0, p1), (57, 0)] D20 Φ
            refine r_iconst d_X8_setValue_177 ?_
            refine r_iadd d_X8_setValue_178 ?_
            refine c_iald d_X8_setValue_179 sh_66 (by decide) (R 66 rfl) (by decide) h (fun v13 h => ?_)
            refine c_iast d_X8_setValue_180 sh_49 (by decide) (R 49 rfl) (by decide) h (fun D24 h => ?_)
            refine r_aload_n d_X8_setValue_181 rfl (by decide) ?_
            refine r_getR (t := 50) d_X8_setValue_182 fk_RX8_62 sh_32 rfl (by decide) (R 32 rfl) ?_
            refine r_iload_n d_X8_setValue_185 rfl ?_
            refine r_iload d_X8_setValue_186 rfl ?_
            refine c_iast d_X8_setValue_188 sh_50 (by decide) (R 50 rfl) (by decide) h (fun D25 h => ?_)
            exact Run.forget (ls' := [(40, 0), (0, p1), (5, 0), (0, p3), (0, p4), (5, 0), (5, 0), (0, x6), (0, x3), (0, v12), (5, 0)]) ⟨Or.inr rfl, Or.inr rfl, Or.inl rfl, Or.inr rfl, Or.inr rfl, Or.inr rfl, Or.inr rfl, Or.inr rfl, Or.inr rfl, Or.inr rfl, Or.inl rfl, trivial⟩ (hJ5 v12 D25 h)
      · skip
        show Run Γ rg κ Y_X8_setValue 74 [(40, 0), (0, p1), (0, p2), (0, p3), (0, p4), (5, 0), (5, 0), (5, 0), (5, 0), (5, 0), (5, 0)] [] D4 Φ
        refine r_iconst d_X8_setValue_74 ?_
        exact c_iret d_X8_setValue_75 rfl h
    refine c_if_ne (tgt := 44) d_X8_setValue_37 (by decide) (nz_w _) h (fun h => ?_) (fun h => ?_)
    · skip
      show Run Γ rg κ Y_X8_setValue 44 [(40, 0), (0, p1), (0, p2), (0, p3), (0, p4), (0, v1), (0, x1), (5, 0), (5, 0), (5, 0), (5, 0)] [(40, 0)] D2 Φ
      refine r_iload d_X8_setValue_44 rfl ?_
      refine c_if_ne (tgt := 53) d_X8_setValue_46 (by decide) (nz_w _) h (fun h => ?_) (fun h => ?_)
      · skip
        show Run Γ rg κ Y_X8_setValue 53 [(40, 0), (0, p1), (0, p2), (0, p3), (0, p4), (0, v1), (0, x1), (5, 0), (5, 0), (5, 0), (5, 0)] [(40, 0)] D2 Φ
        refine r_aload_n d_X8_setValue_53 rfl (by decide) ?_
        refine r_iload_n d_X8_setValue_54 rfl ?_
        refine r_iload_n d_X8_setValue_55 rfl ?_
        refine r_iload_n d_X8_setValue_56 rfl ?_
        refine c_callVi (t' := (some .boolean)) (a := 32) (z := 0) (as := [(0, p1), (0, p2), (0, p3)]) (rest := [(40, 0)]) (ls' := [(40, 0), (0, p1), (0, p2), (0, p3), (5, 0), (5, 0)]) d_X8_setValue_57 ck_RX8_255 rfl sh_32 rfl (by decide) (R 32 rfl) rfl rfl (Nat.le_of_ble_eq_true rfl) (Nat.le_of_ble_eq_true rfl) (by decide) rfl rfl (fun _ => rfl) (fun κ' Ψ hΨ => run_pM_cannotSet R _ _ _ hΨ) h (fun v14 D26 h => ?_)
        show Run Γ rg κ Y_X8_setValue 60 [(40, 0), (0, p1), (0, p2), (0, p3), (0, p4), (0, v1), (0, x1), (5, 0), (5, 0), (5, 0), (5, 0)] [(0, v14), (40, 0)] D26 Φ
        refine c_if_eq (tgt := 67) d_X8_setValue_60 (by decide) (nz_w _) h (fun h => ?_) (fun h => ?_)
        · skip
          show Run Γ rg κ Y_X8_setValue 67 [(40, 0), (0, p1), (0, p2), (0, p3), (0, p4), (0, v1), (0, x1), (5, 0), (5, 0), (5, 0), (5, 0)] [(40, 0)] D26 Φ
          refine r_iconst d_X8_setValue_67 ?_
          exact Run.forget (ls' := [(40, 0), (0, p1), (0, p2), (0, p3), (0, p4), (5, 0), (5, 0), (5, 0), (5, 0), (5, 0), (5, 0)]) ⟨Or.inr rfl, Or.inr rfl, Or.inr rfl, Or.inr rfl, Or.inr rfl, Or.inl rfl, Or.inl rfl, Or.inr rfl, Or.inr rfl, Or.inr rfl, Or.inr rfl, trivial⟩ (hJ2 0 D26 h)
        · skip
          show Run Γ rg κ Y_X8_setValue 63 [(40, 0), (0, p1), (0, p2), (0, p3), (0, p4), (0, v1), (0, x1), (5, 0), (5, 0), (5, 0), (5, 0)] [(40, 0)] D26 Φ
          refine r_iconst d_X8_setValue_63 ?_
          refine r_goto (tgt := 68) d_X8_setValue_64 (by decide) ?_
          exact Run.forget (ls' := [(40, 0), (0, p1), (0, p2), (0, p3), (0, p4), (5, 0), (5, 0), (5, 0), (5, 0), (5, 0), (5, 0)]) ⟨Or.inr rfl, Or.inr rfl, Or.inr rfl, Or.inr rfl, Or.inr rfl, Or.inl rfl, Or.inl rfl, Or.inr rfl, Or.inr rfl, Or.inr rfl, Or.inr rfl, trivial⟩ (hJ2 3 D26 h)
      · skip
        show Run Γ rg κ Y_X8_setValue 49 [(40, 0), (0, p1), (0, p2), (0, p3), (0, p4), (0, v1), (0, x1), (5, 0), (5, 0), (5, 0), (5, 0)] [(40, 0)] D2 Φ
        refine r_iconst d_X8_setValue_49 ?_
        refine r_goto (tgt := 68) d_X8_setValue_50 (by decide) ?_
        exact Run.forget (ls' := [(40, 0), (0, p1), (0, p2), (0, p3), (0, p4), (5, 0), (5, 0), (5, 0), (5, 0), (5, 0), (5, 0)]) ⟨Or.inr rfl, Or.inr rfl, Or.inr rfl, Or.inr rfl, Or.inr rfl, Or.inl rfl, Or.inl rfl, Or.inr rfl, Or.inr rfl, Or.inr rfl, Or.inr rfl, trivial⟩ (hJ2 2 D2 h)
    · skip
      show Run Γ rg κ Y_X8_setValue 40 [(40, 0), (0, p1), (0, p2), (0, p3), (0, p4), (0, v1), (0, x1), (5, 0), (5, 0), (5, 0), (5, 0)] [(40, 0)] D2 Φ
      refine r_iconst d_X8_setValue_40 ?_
      refine r_goto (tgt := 68) d_X8_setValue_41 (by decide) ?_
      exact Run.forget (ls' := [(40, 0), (0, p1), (0, p2), (0, p3), (0, p4), (5, 0), (5, 0), (5, 0), (5, 0), (5, 0), (5, 0)]) ⟨Or.inr rfl, Or.inr rfl, Or.inr rfl, Or.inr rfl, Or.inr rfl, Or.inl rfl, Or.inl rfl, Or.inr rfl, Or.inr rfl, Or.inr rfl, Or.inr rfl, trivial⟩ (hJ2 1 D2 h)
  refine c_jn (fun J => ∀ (D27 : DD), WP (some .int) κ Φ (J D27) → Run Γ rg κ Y_X8_setValue 31 [(40, 0), (0, p1), (0, p2), (0, p3), (0, p4), (0, v1), (5, 0), (5, 0), (5, 0), (5, 0), (5, 0)] [] D27 Φ) h ?_ (fun J6 hJ6 h => ?_)
  · intro D27 h
    show Run Γ rg κ Y_X8_setValue 31 [(40, 0), (0, p1), (0, p2), (0, p3), (0, p4), (0, v1), (5, 0), (5, 0), (5, 0), (5, 0), (5, 0)] [] D27 Φ
    refine r_iconst d_X8_setValue_31 ?_
    exact (hJ1 0 D27 h)
  refine c_if_eq (tgt := 31) d_X8_setValue_14 (by decide) (nz_b (pM_isIn_b p2 0 99)) h (fun h => ?_) (fun h => ?_)
  · skip
    exact (hJ6 D1 h)
  · skip
    show Run Γ rg κ Y_X8_setValue 17 [(40, 0), (0, p1), (0, p2), (0, p3), (0, p4), (0, v1), (5, 0), (5, 0), (5, 0), (5, 0), (5, 0)] [] D1 Φ
    refine r_iload_n d_X8_setValue_17 rfl ?_
    refine r_iconst d_X8_setValue_18 ?_
    refine r_bipush d_X8_setValue_19 (by decide) ?_
    refine c_callSPi (as := [(0, p3), (0, 0), (0, 30)]) (rest := []) (ls' := [(0, p3), (0, 0), (0, 30)]) d_X8_setValue_21 ck_RX8_124 rfl rfl rfl (Nat.le_of_ble_eq_true rfl) (Nat.le_of_ble_eq_true rfl) (by decide) rfl rfl (fun Ψ hΨ => run_pM_isIn R _ _ _ rfl hΨ) ?_
    show Run Γ rg κ Y_X8_setValue 24 [(40, 0), (0, p1), (0, p2), (0, p3), (0, p4), (0, v1), (5, 0), (5, 0), (5, 0), (5, 0), (5, 0)] [(0, (pM_isIn p3 0 30))] D1 Φ
    refine c_if_eq (tgt := 31) d_X8_setValue_24 (by decide) (nz_b (pM_isIn_b p3 0 30)) h (fun h => ?_) (fun h => ?_)
    · skip
      exact (hJ6 D1 h)
    · skip
      show Run Γ rg κ Y_X8_setValue 27 [(40, 0), (0, p1), (0, p2), (0, p3), (0, p4), (0, v1), (5, 0), (5, 0), (5, 0), (5, 0), (5, 0)] [] D1 Φ
      refine r_iconst d_X8_setValue_27 ?_
      refine r_goto (tgt := 32) d_X8_setValue_28 (by decide) ?_
      exact (hJ1 1 D1 h)
set_option maxRecDepth 20000 in
theorem run_pM_stays_2 {Γ : GG} {rg : Nat → Bool} {κ : Nat} {Φ : OT → DD → Prop} (R : cov rg rg1) (a0 : Int) (a1 : Int) : ∀ (n : Nat) (a2 : Int) (D : DD), WP (some .int) κ Φ (pM_stays_2 a0 a1 n a2 D) → Run Γ rg κ Y_X8_stays 2 [(0, a0), (0, a1), (0, a2)] [] D Φ := by
  intro n
  induction n with
  | zero => intro a2 D h; exact h.no.elim
  | succ n ih =>
    intro a2 D h
    rw [pM_stays_2] at h
    show Run Γ rg κ Y_X8_stays 2 [(0, a0), (0, a1), (0, a2)] [] D Φ
    refine r_iload_n d_X8_stays_2 rfl ?_
    refine r_iload_n d_X8_stays_3 rfl ?_
    refine c_callSPi (as := [(0, a0)]) (rest := [(0, a2)]) (ls' := [(0, a0)]) d_X8_stays_4 ck_RX8_237 rfl rfl rfl (Nat.le_of_ble_eq_true rfl) (Nat.le_of_ble_eq_true rfl) (by decide) rfl rfl (fun Ψ hΨ => run_pM_piecesFor R _ rfl hΨ) ?_
    show Run Γ rg κ Y_X8_stays 7 [(0, a0), (0, a1), (0, a2)] [(0, (pM_piecesFor a0)), (0, a2)] D Φ
    refine c_icmp_ge (tgt := 37) d_X8_stays_7 (by decide) (nz_w _) (nz_w _) h (fun h => ?_) (fun h => ?_)
    · skip
      show Run Γ rg κ Y_X8_stays 37 [(0, a0), (0, a1), (0, a2)] [] D Φ
      refine r_iload_n d_X8_stays_37 rfl ?_
      exact c_iret d_X8_stays_38 rfl h
    · skip
      show Run Γ rg κ Y_X8_stays 10 [(0, a0), (0, a1), (0, a2)] [] D Φ
      refine r_iload_n d_X8_stays_10 rfl ?_
      refine r_iload_n d_X8_stays_11 rfl ?_
      refine c_callSPi (as := [(0, a1)]) (rest := [(0, a2)]) (ls' := [(0, a1)]) d_X8_stays_12 ck_RX8_237 rfl rfl rfl (Nat.le_of_ble_eq_true rfl) (Nat.le_of_ble_eq_true rfl) (by decide) rfl rfl (fun Ψ hΨ => run_pM_piecesFor R _ rfl hΨ) ?_
      show Run Γ rg κ Y_X8_stays 15 [(0, a0), (0, a1), (0, a2)] [(0, (pM_piecesFor a1)), (0, a2)] D Φ
      refine c_icmp_ge (tgt := 37) d_X8_stays_15 (by decide) (nz_w _) (nz_w _) h (fun h => ?_) (fun h => ?_)
      · skip
        show Run Γ rg κ Y_X8_stays 37 [(0, a0), (0, a1), (0, a2)] [] D Φ
        refine r_iload_n d_X8_stays_37 rfl ?_
        exact c_iret d_X8_stays_38 rfl h
      · skip
        show Run Γ rg κ Y_X8_stays 18 [(0, a0), (0, a1), (0, a2)] [] D Φ
        refine r_iload_n d_X8_stays_18 rfl ?_
        refine r_iload_n d_X8_stays_19 rfl ?_
        refine c_callSPi (as := [(0, a0), (0, a2)]) (rest := []) (ls' := [(0, a0), (0, a2), (5, 0)]) d_X8_stays_20 ck_RX8_249 rfl rfl rfl (Nat.le_of_ble_eq_true rfl) (Nat.le_of_ble_eq_true rfl) (by decide) rfl rfl (fun Ψ hΨ => run_pM_unitsIn R _ _ rfl hΨ) ?_
        show Run Γ rg κ Y_X8_stays 23 [(0, a0), (0, a1), (0, a2)] [(0, (pM_unitsIn a0 a2))] D Φ
        refine r_iload_n d_X8_stays_23 rfl ?_
        refine r_iload_n d_X8_stays_24 rfl ?_
        refine c_callSPi (as := [(0, a1), (0, a2)]) (rest := [(0, (pM_unitsIn a0 a2))]) (ls' := [(0, a1), (0, a2), (5, 0)]) d_X8_stays_25 ck_RX8_249 rfl rfl rfl (Nat.le_of_ble_eq_true rfl) (Nat.le_of_ble_eq_true rfl) (by decide) rfl rfl (fun Ψ hΨ => run_pM_unitsIn R _ _ rfl hΨ) ?_
        show Run Γ rg κ Y_X8_stays 28 [(0, a0), (0, a1), (0, a2)] [(0, (pM_unitsIn a1 a2)), (0, (pM_unitsIn a0 a2))] D Φ
        refine c_icmp_ne (tgt := 37) d_X8_stays_28 (by decide) (nz_w _) (nz_w _) h (fun h => ?_) (fun h => ?_)
        · skip
          show Run Γ rg κ Y_X8_stays 37 [(0, a0), (0, a1), (0, a2)] [] D Φ
          refine r_iload_n d_X8_stays_37 rfl ?_
          exact c_iret d_X8_stays_38 rfl h
        · skip
          show Run Γ rg κ Y_X8_stays 31 [(0, a0), (0, a1), (0, a2)] [] D Φ
          refine r_iinc d_X8_stays_31 rfl (by decide) rfl ?_
          show Run Γ rg κ Y_X8_stays 34 [(0, a0), (0, a1), (0, (a2 + 1))] [] D Φ
          refine r_goto (tgt := 2) d_X8_stays_34 (by decide) ?_
          exact (ih (a2 + 1) D h)
set_option maxRecDepth 20000 in
theorem run_pM_stays {Γ : GG} {rg : Nat → Bool} {κ : Nat} {Φ : OT → DD → Prop} (R : cov rg rg1) (p1 : Int) (p2 : Int) {D : DD} (h : WP (some .int) κ Φ (pM_stays p1 p2 D)) : Run Γ rg κ Y_X8_stays 0 [(0, p1), (0, p2), (5, 0)] [] D Φ := by
  unfold pM_stays at h
  show Run Γ rg κ Y_X8_stays 0 [(0, p1), (0, p2), (5, 0)] [] D Φ
  refine r_iconst d_X8_stays_0 ?_
  refine r_istore_n d_X8_stays_1 (by decide) rfl ?_
  show Run Γ rg κ Y_X8_stays 2 [(0, p1), (0, p2), (0, 0)] [] D Φ
  exact run_pM_stays_2 R p1 p2 fu 0 D h
set_option maxRecDepth 20000 in
theorem run_pM_resize_122 {Γ : GG} {rg : Nat → Bool} {κ : Nat} {Φ : OT → DD → Prop} (R : cov rg rg1) (a3 : Int) (a5 : Int) (a7 : Int) (c1 : Int) (c6 : Int) {K : DD → Res} (hK : ∀ (D : DD), WP (some .int) κ Φ (K D) → Run Γ rg κ Y_X8_resize 159 [(40, 0), (0, c1), (5, 0), (0, a3), (5, 0), (0, a5), (0, c6), (5, 0), (5, 0)] [] D Φ) : ∀ (n : Nat) (a8 : Int) (D : DD), WP (some .int) κ Φ (pM_resize_122 a3 a5 a7 n a8 D K) → Run Γ rg κ Y_X8_resize 122 [(40, 0), (0, c1), (5, 0), (0, a3), (5, 0), (0, a5), (0, c6), (0, a7), (0, a8)] [] D Φ := by
  intro n
  induction n with
  | zero => intro a8 D h; exact h.no.elim
  | succ n ih =>
    intro a8 D h
    rw [pM_resize_122] at h
    show Run Γ rg κ Y_X8_resize 122 [(40, 0), (0, c1), (5, 0), (0, a3), (5, 0), (0, a5), (0, c6), (0, a7), (0, a8)] [] D Φ
    refine r_iload d_X8_resize_122 rfl ?_
    refine r_iload_n d_X8_resize_124 rfl ?_
    refine c_callSPi (as := [(0, a3)]) (rest := [(0, a8)]) (ls' := [(0, a3)]) d_X8_resize_125 ck_RX8_237 rfl rfl rfl (Nat.le_of_ble_eq_true rfl) (Nat.le_of_ble_eq_true rfl) (by decide) rfl rfl (fun Ψ hΨ => run_pM_piecesFor R _ rfl hΨ) ?_
    show Run Γ rg κ Y_X8_resize 128 [(40, 0), (0, c1), (5, 0), (0, a3), (5, 0), (0, a5), (0, c6), (0, a7), (0, a8)] [(0, (pM_piecesFor a3)), (0, a8)] D Φ
    refine c_icmp_ge (tgt := 159) d_X8_resize_128 (by decide) (nz_w _) (nz_w _) h (fun h => ?_) (fun h => ?_)
    · skip
      exact Run.forget (ls' := [(40, 0), (0, c1), (5, 0), (0, a3), (5, 0), (0, a5), (0, c6), (5, 0), (5, 0)]) ⟨Or.inr rfl, Or.inr rfl, Or.inr rfl, Or.inr rfl, Or.inr rfl, Or.inr rfl, Or.inr rfl, Or.inl rfl, Or.inl rfl, trivial⟩ (hK D h)
    · skip
      show Run Γ rg κ Y_X8_resize 131 [(40, 0), (0, c1), (5, 0), (0, a3), (5, 0), (0, a5), (0, c6), (0, a7), (0, a8)] [] D Φ
      refine r_aload_n d_X8_resize_131 rfl (by decide) ?_
      refine r_getR (t := 55) d_X8_resize_132 fk_RX8_77 sh_32 rfl (by decide) (R 32 rfl) ?_
      refine r_iconst d_X8_resize_135 ?_
      refine r_iload d_X8_resize_136 rfl ?_
      refine r_imul d_X8_resize_138 ?_
      refine r_iload d_X8_resize_139 rfl ?_
      refine r_iadd d_X8_resize_141 ?_
      refine r_aload_n d_X8_resize_142 rfl (by decide) ?_
      refine r_getR (t := 66) d_X8_resize_143 fk_RX8_110 sh_32 rfl (by decide) (R 32 rfl) ?_
      refine r_iload d_X8_resize_146 rfl ?_
      refine r_iload d_X8_resize_148 rfl ?_
      show Run Γ rg κ Y_X8_resize 150 [(40, 0), (0, c1), (5, 0), (0, a3), (5, 0), (0, a5), (0, c6), (0, a7), (0, a8)] [(0, a7), (0, a8), (74, 0), (0, ((4 * a5) + a8)), (63, 0)] D Φ
      refine r_isub d_X8_resize_150 ?_
      refine c_iald d_X8_resize_151 sh_66 (by decide) (R 66 rfl) (by decide) h (fun v1 h => ?_)
      refine c_iast d_X8_resize_152 sh_55 (by decide) (R 55 rfl) (by decide) h (fun D1 h => ?_)
      refine r_iinc d_X8_resize_153 rfl (by decide) rfl ?_
      show Run Γ rg κ Y_X8_resize 156 [(40, 0), (0, c1), (5, 0), (0, a3), (5, 0), (0, a5), (0, c6), (0, a7), (0, (a8 + 1))] [] D1 Φ
      refine r_goto (tgt := 122) d_X8_resize_156 (by decide) ?_
      exact (ih (a8 + 1) D1 h)
set_option maxRecDepth 20000 in
theorem run_pM_cannotResize_16 {Γ : GG} {rg : Nat → Bool} {κ : Nat} {Φ : OT → DD → Prop} (R : cov rg rg1) (a2 : Int) {K : DD → Res} (hK : ∀ (D : DD), WP (some .boolean) κ Φ (K D) → Run Γ rg κ Y_X8_cannotResize 41 [(40, 0), (5, 0), (5, 0), (5, 0)] [] D Φ) : ∀ (n : Nat) (a3 : Int) (D : DD), WP (some .boolean) κ Φ (pM_cannotResize_16 a2 n a3 D K) → Run Γ rg κ Y_X8_cannotResize 16 [(40, 0), (5, 0), (0, a2), (0, a3)] [] D Φ := by
  intro n
  induction n with
  | zero => intro a3 D h; exact h.no.elim
  | succ n ih =>
    intro a3 D h
    rw [pM_cannotResize_16] at h
    show Run Γ rg κ Y_X8_cannotResize 16 [(40, 0), (5, 0), (0, a2), (0, a3)] [] D Φ
    refine r_iload_n d_X8_cannotResize_16 rfl ?_
    refine r_iload_n d_X8_cannotResize_17 rfl ?_
    refine c_callSPi (as := [(0, a2)]) (rest := [(0, a3)]) (ls' := [(0, a2)]) d_X8_cannotResize_18 ck_RX8_237 rfl rfl rfl (Nat.le_of_ble_eq_true rfl) (Nat.le_of_ble_eq_true rfl) (by decide) rfl rfl (fun Ψ hΨ => run_pM_piecesFor R _ rfl hΨ) ?_
    show Run Γ rg κ Y_X8_cannotResize 21 [(40, 0), (5, 0), (0, a2), (0, a3)] [(0, (pM_piecesFor a2)), (0, a3)] D Φ
    refine c_icmp_ge (tgt := 41) d_X8_cannotResize_21 (by decide) (nz_w _) (nz_w _) h (fun h => ?_) (fun h => ?_)
    · skip
      exact Run.forget (ls' := [(40, 0), (5, 0), (5, 0), (5, 0)]) ⟨Or.inr rfl, Or.inr rfl, Or.inl rfl, Or.inl rfl, trivial⟩ (hK D h)
    · skip
      show Run Γ rg κ Y_X8_cannotResize 24 [(40, 0), (5, 0), (0, a2), (0, a3)] [] D Φ
      refine r_aload_n d_X8_cannotResize_24 rfl (by decide) ?_
      refine r_iload_n d_X8_cannotResize_25 rfl ?_
      refine r_iload_n d_X8_cannotResize_26 rfl ?_
      refine c_callSPi (as := [(0, a2), (0, a3)]) (rest := [(40, 0)]) (ls' := [(0, a2), (0, a3), (5, 0)]) d_X8_cannotResize_27 ck_RX8_249 rfl rfl rfl (Nat.le_of_ble_eq_true rfl) (Nat.le_of_ble_eq_true rfl) (by decide) rfl rfl (fun Ψ hΨ => run_pM_unitsIn R _ _ rfl hΨ) ?_
      show Run Γ rg κ Y_X8_cannotResize 30 [(40, 0), (5, 0), (0, a2), (0, a3)] [(0, (pM_unitsIn a2 a3)), (40, 0)] D Φ
      refine r_iconst d_X8_cannotResize_30 ?_
      refine r_iadd d_X8_cannotResize_31 ?_
      refine c_callVv (a := 32) (z := 0) (as := [(0, ((pM_unitsIn a2 a3) + 2))]) (rest := []) (ls' := [(40, 0), (0, ((pM_unitsIn a2 a3) + 2))]) d_X8_cannotResize_32 ck_RX8_176 rfl sh_32 rfl (by decide) (R 32 rfl) rfl rfl (Nat.le_of_ble_eq_true rfl) (Nat.le_of_ble_eq_true rfl) (by decide) rfl rfl (fun κ' Ψ hΨ => run_pM_wants R _ hΨ) h (fun _ D1 h => ?_)
      show Run Γ rg κ Y_X8_cannotResize 35 [(40, 0), (5, 0), (0, a2), (0, a3)] [] D1 Φ
      refine r_iinc d_X8_cannotResize_35 rfl (by decide) rfl ?_
      show Run Γ rg κ Y_X8_cannotResize 38 [(40, 0), (5, 0), (0, a2), (0, (a3 + 1))] [] D1 Φ
      refine r_goto (tgt := 16) d_X8_cannotResize_38 (by decide) ?_
      exact (ih (a3 + 1) D1 h)
set_option maxRecDepth 20000 in
theorem run_pM_cannotResize {Γ : GG} {rg : Nat → Bool} {κ : Nat} {Φ : OT → DD → Prop} (R : cov rg rg1) (p1 : Int) (p2 : Int) {D : DD} (h : WP (some .boolean) κ Φ (pM_cannotResize p1 p2 D)) : Run Γ rg κ Y_X8_cannotResize 0 [(40, 0), (0, p1), (0, p2), (5, 0)] [] D Φ := by
  unfold pM_cannotResize at h
  show Run Γ rg κ Y_X8_cannotResize 0 [(40, 0), (0, p1), (0, p2), (5, 0)] [] D Φ
  refine r_aload_n d_X8_cannotResize_0 rfl (by decide) ?_
  refine r_iconst d_X8_cannotResize_1 ?_
  refine c_putI (k := 37) d_X8_cannotResize_2 pk_RX8_146 sh_32 rfl (by decide) (R 32 rfl) h (fun D1 h => ?_)
  refine r_aload_n d_X8_cannotResize_5 rfl (by decide) ?_
  refine r_getR (t := 53) d_X8_cannotResize_6 fk_RX8_71 sh_32 rfl (by decide) (R 32 rfl) ?_
  refine r_iload_n d_X8_cannotResize_9 rfl ?_
  refine c_iald d_X8_cannotResize_10 sh_53 (by decide) (R 53 rfl) (by decide) h (fun v1 h => ?_)
  refine r_iload_n d_X8_cannotResize_11 rfl ?_
  refine c_callSi (t' := (some .int)) (as := [(0, v1), (0, p2)]) (rest := []) (ls' := [(0, v1), (0, p2), (5, 0)]) d_X8_cannotResize_12 ck_RX8_258 rfl rfl rfl (Nat.le_of_ble_eq_true rfl) (Nat.le_of_ble_eq_true rfl) (by decide) rfl rfl (fun _ => rfl) (fun κ' Ψ hΨ => run_pM_stays R _ _ hΨ) h (fun v2 D2 h => ?_)
  show Run Γ rg κ Y_X8_cannotResize 15 [(40, 0), (0, p1), (0, p2), (5, 0)] [(0, v2)] D2 Φ
  refine r_istore_n d_X8_cannotResize_15 (by decide) rfl ?_
  show Run Γ rg κ Y_X8_cannotResize 16 [(40, 0), (0, p1), (0, p2), (0, v2)] [] D2 Φ
  refine Run.forget (ls' := [(40, 0), (5, 0), (0, p2), (0, v2)]) ⟨Or.inr rfl, Or.inl rfl, Or.inr rfl, Or.inr rfl, trivial⟩ ?_
  refine run_pM_cannotResize_16 R p2 ?_ fu v2 D2 h
  intro D3 h
  show Run Γ rg κ Y_X8_cannotResize 41 [(40, 0), (5, 0), (5, 0), (5, 0)] [] D3 Φ
  refine r_aload_n d_X8_cannotResize_41 rfl (by decide) ?_
  refine c_callVi (t' := (some .boolean)) (a := 32) (z := 0) (as := []) (rest := []) (ls' := [(40, 0), (5, 0), (5, 0), (5, 0)]) d_X8_cannotResize_42 ck_RX8_207 rfl sh_32 rfl (by decide) (R 32 rfl) rfl rfl (Nat.le_of_ble_eq_true rfl) (Nat.le_of_ble_eq_true rfl) (by decide) rfl rfl (fun _ => rfl) (fun κ' Ψ hΨ => run_pM_gets R hΨ) h (fun v3 D4 h => ?_)
  show Run Γ rg κ Y_X8_cannotResize 45 [(40, 0), (5, 0), (5, 0), (5, 0)] [(0, v3)] D4 Φ
  refine c_if_ne (tgt := 52) d_X8_cannotResize_45 (by decide) (nz_w _) h (fun h => ?_) (fun h => ?_)
  · skip
    show Run Γ rg κ Y_X8_cannotResize 52 [(40, 0), (5, 0), (5, 0), (5, 0)] [] D4 Φ
    refine r_iconst d_X8_cannotResize_52 ?_
    exact c_zret d_X8_cannotResize_53 rfl (Or.inl rfl) h
  · skip
    show Run Γ rg κ Y_X8_cannotResize 48 [(40, 0), (5, 0), (5, 0), (5, 0)] [] D4 Φ
    refine r_iconst d_X8_cannotResize_48 ?_
    refine r_goto (tgt := 53) d_X8_cannotResize_49 (by decide) ?_
    show Run Γ rg κ Y_X8_cannotResize 53 [(40, 0), (5, 0), (5, 0), (5, 0)] [(0, 1)] D4 Φ
    exact c_zret d_X8_cannotResize_53 rfl (Or.inr rfl) h
set_option maxRecDepth 20000 in
theorem run_pM_resize {Γ : GG} {rg : Nat → Bool} {κ : Nat} {Φ : OT → DD → Prop} (R : cov rg rg1) (p1 : Int) (p2 : Int) (p3 : Int) {D : DD} (h : WP (some .int) κ Φ (pM_resize p1 p2 p3 D)) : Run Γ rg κ Y_X8_resize 0 [(40, 0), (0, p1), (0, p2), (0, p3), (5, 0), (5, 0), (5, 0), (5, 0), (5, 0)] [] D Φ := by
  unfold pM_resize at h
  show Run Γ rg κ Y_X8_resize 0 [(40, 0), (0, p1), (0, p2), (0, p3), (5, 0), (5, 0), (5, 0), (5, 0), (5, 0)] [] D Φ
  refine r_aload_n d_X8_resize_0 rfl (by decide) ?_
  refine r_iload_n d_X8_resize_1 rfl ?_
  refine c_callVi (t' := (some .boolean)) (a := 32) (z := 0) (as := [(0, p1)]) (rest := []) (ls' := [(40, 0), (0, p1)]) d_X8_resize_2 ck_RX8_191 rfl sh_32 rfl (by decide) (R 32 rfl) rfl rfl (Nat.le_of_ble_eq_true rfl) (Nat.le_of_ble_eq_true rfl) (by decide) rfl rfl (fun _ => rfl) (fun κ' Ψ hΨ => run_pM_isKey R _ hΨ) h (fun v1 D1 h => ?_)
  show Run Γ rg κ Y_X8_resize 5 [(40, 0), (0, p1), (0, p2), (0, p3), (5, 0), (5, 0), (5, 0), (5, 0), (5, 0)] [(0, v1)] D1 Φ
  refine c_jn (fun J => ∀ (x1 : Int) (D2 : DD), WP (some .int) κ Φ (J x1 D2) → Run Γ rg κ Y_X8_resize 23 [(40, 0), (0, p1), (0, p2), (0, p3), (5, 0), (5, 0), (5, 0), (5, 0), (5, 0)] [(0, x1)] D2 Φ) h ?_ (fun J1 hJ1 h => ?_)
  · intro x1 D2 h
    show Run Γ rg κ Y_X8_resize 23 [(40, 0), (0, p1), (0, p2), (0, p3), (5, 0), (5, 0), (5, 0), (5, 0), (5, 0)] [(0, x1)] D2 Φ
    refine r_istore d_X8_resize_23 (by decide) rfl ?_
    show Run Γ rg κ Y_X8_resize 25 [(40, 0), (0, p1), (0, p2), (0, p3), (0, x1), (5, 0), (5, 0), (5, 0), (5, 0)] [] D2 Φ
    refine r_iload d_X8_resize_25 rfl ?_
    refine c_jn (fun J => ∀ (x2 : Int) (D3 : DD), WP (some .int) κ Φ (J x2 D3) → Run Γ rg κ Y_X8_resize 40 [(40, 0), (0, p1), (5, 0), (0, p3), (0, x1), (5, 0), (5, 0), (5, 0), (5, 0)] [(0, x2)] D3 Φ) h ?_ (fun J2 hJ2 h => ?_)
    · intro x2 D3 h
      show Run Γ rg κ Y_X8_resize 40 [(40, 0), (0, p1), (5, 0), (0, p3), (0, x1), (5, 0), (5, 0), (5, 0), (5, 0)] [(0, x2)] D3 Φ
      refine r_istore d_X8_resize_40 (by decide) rfl ?_
      show Run Γ rg κ Y_X8_resize 42 [(40, 0), (0, p1), (5, 0), (0, p3), (0, x1), (0, x2), (5, 0), (5, 0), (5, 0)] [] D3 Φ
      refine r_aload_n d_X8_resize_42 rfl (by decide) ?_
      refine r_iload d_X8_resize_43 rfl ?_
      refine c_jn (fun J => ∀ (x3 : Int) (D4 : DD), WP (some .int) κ Φ (J x3 D4) → Run Γ rg κ Y_X8_resize 81 [(40, 0), (0, p1), (5, 0), (0, p3), (5, 0), (0, x2), (5, 0), (5, 0), (5, 0)] [(0, x3), (40, 0)] D4 Φ) h ?_ (fun J3 hJ3 h => ?_)
      · intro x3 D4 h
        show Run Γ rg κ Y_X8_resize 81 [(40, 0), (0, p1), (5, 0), (0, p3), (5, 0), (0, x2), (5, 0), (5, 0), (5, 0)] [(0, x3), (40, 0)] D4 Φ
        refine c_callVi (t' := (some .boolean)) (a := 32) (z := 0) (as := [(0, x3)]) (rest := []) (ls' := [(40, 0), (0, x3)]) d_X8_resize_81 ck_RX8_195 rfl sh_32 rfl (by decide) (R 32 rfl) rfl rfl (Nat.le_of_ble_eq_true rfl) (Nat.le_of_ble_eq_true rfl) (by decide) rfl rfl (fun _ => rfl) (fun κ' Ψ hΨ => run_pM_fails R _ hΨ) h (fun v2 D5 h => ?_)
        show Run Γ rg κ Y_X8_resize 84 [(40, 0), (0, p1), (5, 0), (0, p3), (5, 0), (0, x2), (5, 0), (5, 0), (5, 0)] [(0, v2)] D5 Φ
        refine c_if_eq (tgt := 89) d_X8_resize_84 (by decide) (nz_w _) h (fun h => ?_) (fun h => ?_)
        · skip
          show Run Γ rg κ Y_X8_resize 89 [(40, 0), (0, p1), (5, 0), (0, p3), (5, 0), (0, x2), (5, 0), (5, 0), (5, 0)] [] D5 Φ
          refine r_aload_n d_X8_resize_89 rfl (by decide) ?_
          refine r_getR (t := 53) d_X8_resize_90 fk_RX8_71 sh_32 rfl (by decide) (R 32 rfl) ?_
          refine r_iload d_X8_resize_93 rfl ?_
          refine c_iald d_X8_resize_95 sh_53 (by decide) (R 53 rfl) (by decide) h (fun v3 h => ?_)
          refine r_istore d_X8_resize_96 (by decide) rfl ?_
          show Run Γ rg κ Y_X8_resize 98 [(40, 0), (0, p1), (5, 0), (0, p3), (5, 0), (0, x2), (0, v3), (5, 0), (5, 0)] [] D5 Φ
          refine r_iload d_X8_resize_98 rfl ?_
          refine r_iload_n d_X8_resize_100 rfl ?_
          refine c_callSi (t' := (some .int)) (as := [(0, v3), (0, p3)]) (rest := []) (ls' := [(0, v3), (0, p3), (5, 0)]) d_X8_resize_101 ck_RX8_258 rfl rfl rfl (Nat.le_of_ble_eq_true rfl) (Nat.le_of_ble_eq_true rfl) (by decide) rfl rfl (fun _ => rfl) (fun κ' Ψ hΨ => run_pM_stays R _ _ hΨ) h (fun v4 D6 h => ?_)
          show Run Γ rg κ Y_X8_resize 104 [(40, 0), (0, p1), (5, 0), (0, p3), (5, 0), (0, x2), (0, v3), (5, 0), (5, 0)] [(0, v4)] D6 Φ
          refine r_istore d_X8_resize_104 (by decide) rfl ?_
          show Run Γ rg κ Y_X8_resize 106 [(40, 0), (0, p1), (5, 0), (0, p3), (5, 0), (0, x2), (0, v3), (0, v4), (5, 0)] [] D6 Φ
          refine r_aload_n d_X8_resize_106 rfl (by decide) ?_
          refine c_callVv (a := 32) (z := 0) (as := []) (rest := []) (ls' := [(40, 0), (5, 0)]) d_X8_resize_107 ck_RX8_211 rfl sh_32 rfl (by decide) (R 32 rfl) rfl rfl (Nat.le_of_ble_eq_true rfl) (Nat.le_of_ble_eq_true rfl) (by decide) rfl rfl (fun κ' Ψ hΨ => run_pM_writesGot R hΨ) h (fun _ D7 h => ?_)
          show Run Γ rg κ Y_X8_resize 110 [(40, 0), (0, p1), (5, 0), (0, p3), (5, 0), (0, x2), (0, v3), (0, v4), (5, 0)] [] D7 Φ
          show Run Γ rg κ Y_X8_resize 110 [(40, 0), (0, p1), (5, 0), (0, p3), (5, 0), (0, x2), (0, v3), (0, v4), (5, 0)] [] D7 Φ
          refine r_aload_n d_X8_resize_110 rfl (by decide) ?_
          refine r_iload d_X8_resize_111 rfl ?_
          refine r_iload d_X8_resize_113 rfl ?_
          refine c_callVv (a := 32) (z := 0) (as := [(0, x2), (0, v4)]) (rest := []) (ls' := [(40, 0), (0, x2), (0, v4), (5, 0)]) d_X8_resize_115 ck_RX8_240 rfl sh_32 rfl (by decide) (R 32 rfl) rfl rfl (Nat.le_of_ble_eq_true rfl) (Nat.le_of_ble_eq_true rfl) (by decide) rfl rfl (fun κ' Ψ hΨ => run_pM_givesPieces R _ _ hΨ) h (fun _ D8 h => ?_)
          show Run Γ rg κ Y_X8_resize 118 [(40, 0), (0, p1), (5, 0), (0, p3), (5, 0), (0, x2), (0, v3), (0, v4), (5, 0)] [] D8 Φ
          refine r_iload d_X8_resize_118 rfl ?_
          refine r_istore d_X8_resize_120 (by decide) rfl ?_
          show Run Γ rg κ Y_X8_resize 122 [(40, 0), (0, p1), (5, 0), (0, p3), (5, 0), (0, x2), (0, v3), (0, v4), (0, v4)] [] D8 Φ
          refine run_pM_resize_122 R p3 x2 v4 p1 v3 ?_ fu v4 D8 h
          intro D9 h
          show Run Γ rg κ Y_X8_resize 159 [(40, 0), (0, p1), (5, 0), (0, p3), (5, 0), (0, x2), (0, v3), (5, 0), (5, 0)] [] D9 Φ
          refine r_aload_n d_X8_resize_159 rfl (by decide) ?_
          refine r_getR (t := 53) d_X8_resize_160 fk_RX8_71 sh_32 rfl (by decide) (R 32 rfl) ?_
          refine r_iload d_X8_resize_163 rfl ?_
          refine r_iload_n d_X8_resize_165 rfl ?_
          refine c_iast d_X8_resize_166 sh_53 (by decide) (R 53 rfl) (by decide) h (fun D10 h => ?_)
          refine r_aload_n d_X8_resize_167 rfl (by decide) ?_
          refine r_aload_n d_X8_resize_168 rfl (by decide) ?_
          refine r_getR (t := 54) d_X8_resize_169 fk_RX8_74 sh_32 rfl (by decide) (R 32 rfl) ?_
          refine r_iload d_X8_resize_172 rfl ?_
          refine c_iald d_X8_resize_174 sh_54 (by decide) (R 54 rfl) (by decide) h (fun v5 h => ?_)
          refine c_callVv (a := 32) (z := 0) (as := [(0, v5)]) (rest := []) (ls' := [(40, 0), (0, v5), (5, 0), (5, 0)]) d_X8_resize_175 ck_RX8_152 rfl sh_32 rfl (by decide) (R 32 rfl) rfl rfl (Nat.le_of_ble_eq_true rfl) (Nat.le_of_ble_eq_true rfl) (by decide) rfl rfl (fun κ' Ψ hΨ => run_pM_writes R _ hΨ) h (fun _ D11 h => ?_)
          show Run Γ rg κ Y_X8_resize 178 [(40, 0), (0, p1), (5, 0), (0, p3), (5, 0), (0, x2), (0, v3), (5, 0), (5, 0)] [] D11 Φ
          show Run Γ rg κ Y_X8_resize 178 [(40, 0), (0, p1), (5, 0), (0, p3), (5, 0), (0, x2), (0, v3), (5, 0), (5, 0)] [] D11 Φ
          refine r_aload_n d_X8_resize_178 rfl (by decide) ?_
          refine r_aload_n d_X8_resize_179 rfl (by decide) ?_
          refine r_getR (t := 40) d_X8_resize_180 fk_RX8_32 sh_32 rfl (by decide) (R 32 rfl) ?_
          refine r_iload_n d_X8_resize_183 rfl ?_
          refine c_iald d_X8_resize_184 sh_40 (by decide) (R 40 rfl) (by decide) h (fun v6 h => ?_)
          refine c_callVv (a := 32) (z := 0) (as := [(0, v6)]) (rest := []) (ls' := [(40, 0), (0, v6), (5, 0), (5, 0)]) d_X8_resize_185 ck_RX8_152 rfl sh_32 rfl (by decide) (R 32 rfl) rfl rfl (Nat.le_of_ble_eq_true rfl) (Nat.le_of_ble_eq_true rfl) (by decide) rfl rfl (fun κ' Ψ hΨ => run_pM_writes R _ hΨ) h (fun _ D12 h => ?_)
          show Run Γ rg κ Y_X8_resize 188 [(40, 0), (0, p1), (5, 0), (0, p3), (5, 0), (0, x2), (0, v3), (5, 0), (5, 0)] [] D12 Φ
          refine r_aload_n d_X8_resize_188 rfl (by decide) ?_
          refine r_iload_n d_X8_resize_189 rfl ?_
          refine r_iconst d_X8_resize_190 ?_
          refine c_callVv (a := 32) (z := 0) (as := [(0, p1), (0, 2)]) (rest := []) (ls' := [(40, 0), (0, p1), (0, 2), (5, 0)]) d_X8_resize_191 ck_RX8_218 rfl sh_32 rfl (by decide) (R 32 rfl) rfl rfl (Nat.le_of_ble_eq_true rfl) (Nat.le_of_ble_eq_true rfl) (by decide) rfl rfl (fun κ' Ψ hΨ => run_pM_changes R _ _ hΨ) h (fun _ D13 h => ?_)
          show Run Γ rg κ Y_X8_resize 194 [(40, 0), (0, p1), (5, 0), (0, p3), (5, 0), (0, x2), (0, v3), (5, 0), (5, 0)] [] D13 Φ
          refine r_iload d_X8_resize_194 rfl ?_
          exact c_iret d_X8_resize_196 rfl h
        · skip
          show Run Γ rg κ Y_X8_resize 87 [(40, 0), (0, p1), (5, 0), (0, p3), (5, 0), (0, x2), (5, 0), (5, 0), (5, 0)] [] D5 Φ
          refine r_iconst d_X8_resize_87 ?_
          exact c_iret d_X8_resize_88 rfl h
      refine c_if_ne (tgt := 52) d_X8_resize_45 (by decide) (nz_w _) h (fun h => ?_) (fun h => ?_)
      · skip
        show Run Γ rg κ Y_X8_resize 52 [(40, 0), (0, p1), (5, 0), (0, p3), (0, x1), (0, x2), (5, 0), (5, 0), (5, 0)] [(40, 0)] D3 Φ
        refine r_iload_n d_X8_resize_52 rfl ?_
        refine r_iconst d_X8_resize_53 ?_
        refine r_bipush d_X8_resize_54 (by decide) ?_
        refine c_callSPi (as := [(0, p3), (0, 0), (0, 30)]) (rest := [(40, 0)]) (ls' := [(0, p3), (0, 0), (0, 30)]) d_X8_resize_56 ck_RX8_124 rfl rfl rfl (Nat.le_of_ble_eq_true rfl) (Nat.le_of_ble_eq_true rfl) (by decide) rfl rfl (fun Ψ hΨ => run_pM_isIn R _ _ _ rfl hΨ) ?_
        show Run Γ rg κ Y_X8_resize 59 [(40, 0), (0, p1), (5, 0), (0, p3), (0, x1), (0, x2), (5, 0), (5, 0), (5, 0)] [(0, (pM_isIn p3 0 30)), (40, 0)] D3 Φ
        refine c_if_ne (tgt := 66) d_X8_resize_59 (by decide) (nz_b (pM_isIn_b p3 0 30)) h (fun h => ?_) (fun h => ?_)
        · skip
          show Run Γ rg κ Y_X8_resize 66 [(40, 0), (0, p1), (5, 0), (0, p3), (0, x1), (0, x2), (5, 0), (5, 0), (5, 0)] [(40, 0)] D3 Φ
          refine r_aload_n d_X8_resize_66 rfl (by decide) ?_
          refine r_iload d_X8_resize_67 rfl ?_
          refine r_iload_n d_X8_resize_69 rfl ?_
          refine c_callVi (t' := (some .boolean)) (a := 32) (z := 0) (as := [(0, x2), (0, p3)]) (rest := [(40, 0)]) (ls' := [(40, 0), (0, x2), (0, p3), (5, 0)]) d_X8_resize_70 ck_RX8_261 rfl sh_32 rfl (by decide) (R 32 rfl) rfl rfl (Nat.le_of_ble_eq_true rfl) (Nat.le_of_ble_eq_true rfl) (by decide) rfl rfl (fun _ => rfl) (fun κ' Ψ hΨ => run_pM_cannotResize R _ _ hΨ) h (fun v7 D14 h => ?_)
          show Run Γ rg κ Y_X8_resize 73 [(40, 0), (0, p1), (5, 0), (0, p3), (0, x1), (0, x2), (5, 0), (5, 0), (5, 0)] [(0, v7), (40, 0)] D14 Φ
          refine c_if_eq (tgt := 80) d_X8_resize_73 (by decide) (nz_w _) h (fun h => ?_) (fun h => ?_)
          · skip
            show Run Γ rg κ Y_X8_resize 80 [(40, 0), (0, p1), (5, 0), (0, p3), (0, x1), (0, x2), (5, 0), (5, 0), (5, 0)] [(40, 0)] D14 Φ
            refine r_iconst d_X8_resize_80 ?_
            exact Run.forget (ls' := [(40, 0), (0, p1), (5, 0), (0, p3), (5, 0), (0, x2), (5, 0), (5, 0), (5, 0)]) ⟨Or.inr rfl, Or.inr rfl, Or.inr rfl, Or.inr rfl, Or.inl rfl, Or.inr rfl, Or.inr rfl, Or.inr rfl, Or.inr rfl, trivial⟩ (hJ3 0 D14 h)
          · skip
            show Run Γ rg κ Y_X8_resize 76 [(40, 0), (0, p1), (5, 0), (0, p3), (0, x1), (0, x2), (5, 0), (5, 0), (5, 0)] [(40, 0)] D14 Φ
            refine r_iconst d_X8_resize_76 ?_
            refine r_goto (tgt := 81) d_X8_resize_77 (by decide) ?_
            exact Run.forget (ls' := [(40, 0), (0, p1), (5, 0), (0, p3), (5, 0), (0, x2), (5, 0), (5, 0), (5, 0)]) ⟨Or.inr rfl, Or.inr rfl, Or.inr rfl, Or.inr rfl, Or.inl rfl, Or.inr rfl, Or.inr rfl, Or.inr rfl, Or.inr rfl, trivial⟩ (hJ3 3 D14 h)
        · skip
          show Run Γ rg κ Y_X8_resize 62 [(40, 0), (0, p1), (5, 0), (0, p3), (0, x1), (0, x2), (5, 0), (5, 0), (5, 0)] [(40, 0)] D3 Φ
          refine r_iconst d_X8_resize_62 ?_
          refine r_goto (tgt := 81) d_X8_resize_63 (by decide) ?_
          exact Run.forget (ls' := [(40, 0), (0, p1), (5, 0), (0, p3), (5, 0), (0, x2), (5, 0), (5, 0), (5, 0)]) ⟨Or.inr rfl, Or.inr rfl, Or.inr rfl, Or.inr rfl, Or.inl rfl, Or.inr rfl, Or.inr rfl, Or.inr rfl, Or.inr rfl, trivial⟩ (hJ3 2 D3 h)
      · skip
        show Run Γ rg κ Y_X8_resize 48 [(40, 0), (0, p1), (5, 0), (0, p3), (0, x1), (0, x2), (5, 0), (5, 0), (5, 0)] [(40, 0)] D3 Φ
        refine r_iconst d_X8_resize_48 ?_
        refine r_goto (tgt := 81) d_X8_resize_49 (by decide) ?_
        exact Run.forget (ls' := [(40, 0), (0, p1), (5, 0), (0, p3), (5, 0), (0, x2), (5, 0), (5, 0), (5, 0)]) ⟨Or.inr rfl, Or.inr rfl, Or.inr rfl, Or.inr rfl, Or.inl rfl, Or.inr rfl, Or.inr rfl, Or.inr rfl, Or.inr rfl, trivial⟩ (hJ3 1 D3 h)
    refine c_if_eq (tgt := 39) d_X8_resize_27 (by decide) (nz_w _) h (fun h => ?_) (fun h => ?_)
    · skip
      show Run Γ rg κ Y_X8_resize 39 [(40, 0), (0, p1), (0, p2), (0, p3), (0, x1), (5, 0), (5, 0), (5, 0), (5, 0)] [] D2 Φ
      refine r_iconst d_X8_resize_39 ?_
      exact Run.forget (ls' := [(40, 0), (0, p1), (5, 0), (0, p3), (0, x1), (5, 0), (5, 0), (5, 0), (5, 0)]) ⟨Or.inr rfl, Or.inr rfl, Or.inl rfl, Or.inr rfl, Or.inr rfl, Or.inr rfl, Or.inr rfl, Or.inr rfl, Or.inr rfl, trivial⟩ (hJ2 0 D2 h)
    · skip
      show Run Γ rg κ Y_X8_resize 30 [(40, 0), (0, p1), (0, p2), (0, p3), (0, x1), (5, 0), (5, 0), (5, 0), (5, 0)] [] D2 Φ
      refine r_aload_n d_X8_resize_30 rfl (by decide) ?_
      refine r_iload_n d_X8_resize_31 rfl ?_
      refine r_iload_n d_X8_resize_32 rfl ?_
      refine c_callVi (t' := (some .int)) (a := 32) (z := 0) (as := [(0, p1), (0, p2)]) (rest := []) (ls' := [(40, 0), (0, p1), (0, p2), (5, 0), (5, 0)]) d_X8_resize_33 ck_RX8_246 rfl sh_32 rfl (by decide) (R 32 rfl) rfl rfl (Nat.le_of_ble_eq_true rfl) (Nat.le_of_ble_eq_true rfl) (by decide) rfl rfl (fun _ => rfl) (fun κ' Ψ hΨ => run_pM_valueOf R _ _ hΨ) h (fun v8 D15 h => ?_)
      show Run Γ rg κ Y_X8_resize 36 [(40, 0), (0, p1), (0, p2), (0, p3), (0, x1), (5, 0), (5, 0), (5, 0), (5, 0)] [(0, v8)] D15 Φ
      refine r_goto (tgt := 40) d_X8_resize_36 (by decide) ?_
      exact Run.forget (ls' := [(40, 0), (0, p1), (5, 0), (0, p3), (0, x1), (5, 0), (5, 0), (5, 0), (5, 0)]) ⟨Or.inr rfl, Or.inr rfl, Or.inl rfl, Or.inr rfl, Or.inr rfl, Or.inr rfl, Or.inr rfl, Or.inr rfl, Or.inr rfl, trivial⟩ (hJ2 v8 D15 h)
  refine c_jn (fun J => ∀ (D16 : DD), WP (some .int) κ Φ (J D16) → Run Γ rg κ Y_X8_resize 22 [(40, 0), (0, p1), (0, p2), (0, p3), (5, 0), (5, 0), (5, 0), (5, 0), (5, 0)] [] D16 Φ) h ?_ (fun J4 hJ4 h => ?_)
  · intro D16 h
    show Run Γ rg κ Y_X8_resize 22 [(40, 0), (0, p1), (0, p2), (0, p3), (5, 0), (5, 0), (5, 0), (5, 0), (5, 0)] [] D16 Φ
    refine r_iconst d_X8_resize_22 ?_
    exact (hJ1 0 D16 h)
  refine c_if_eq (tgt := 22) d_X8_resize_5 (by decide) (nz_w _) h (fun h => ?_) (fun h => ?_)
  · skip
    exact (hJ4 D1 h)
  · skip
    show Run Γ rg κ Y_X8_resize 8 [(40, 0), (0, p1), (0, p2), (0, p3), (5, 0), (5, 0), (5, 0), (5, 0), (5, 0)] [] D1 Φ
    refine r_aload_n d_X8_resize_8 rfl (by decide) ?_
    refine r_iload_n d_X8_resize_9 rfl ?_
    refine r_iload_n d_X8_resize_10 rfl ?_
    refine c_callVi (t' := (some .int)) (a := 32) (z := 0) (as := [(0, p1), (0, p2)]) (rest := []) (ls' := [(40, 0), (0, p1), (0, p2), (5, 0), (5, 0)]) d_X8_resize_11 ck_RX8_246 rfl sh_32 rfl (by decide) (R 32 rfl) rfl rfl (Nat.le_of_ble_eq_true rfl) (Nat.le_of_ble_eq_true rfl) (by decide) rfl rfl (fun _ => rfl) (fun κ' Ψ hΨ => run_pM_valueOf R _ _ hΨ) h (fun v9 D17 h => ?_)
    show Run Γ rg κ Y_X8_resize 14 [(40, 0), (0, p1), (0, p2), (0, p3), (5, 0), (5, 0), (5, 0), (5, 0), (5, 0)] [(0, v9)] D17 Φ
    refine r_iconst d_X8_resize_14 ?_
    refine c_icmp_eq (tgt := 22) d_X8_resize_15 (by decide) (nz_w _) (nz_k rfl) h (fun h => ?_) (fun h => ?_)
    · skip
      exact (hJ4 D17 h)
    · skip
      show Run Γ rg κ Y_X8_resize 18 [(40, 0), (0, p1), (0, p2), (0, p3), (5, 0), (5, 0), (5, 0), (5, 0), (5, 0)] [] D17 Φ
      refine r_iconst d_X8_resize_18 ?_
      refine r_goto (tgt := 23) d_X8_resize_19 (by decide) ?_
      exact (hJ1 1 D17 h)
