/-! the law's own methods: each run keeps to its reading -/
set_option maxRecDepth 20000 in
theorem run_pE_isTree_76 {Γ : GG} {rg : Nat → Bool} {κ : Nat} {Φ : OT → DD → Prop} (R : cov rg rg2) {K : Int → Int → DD → Res} (hK : ∀ (z6 : Int) (z7 : Int) (D : DD), WP (some .boolean) 0 Φ (K z6 z7 D) → Run Γ rg κ Y_L_isTree 452 [(8, 0), (40, 0), (43, 0), (46, 0), (49, 0), (5, 0), (0, z6), (0, z7), (5, 0), (5, 0), (5, 0), (5, 0), (5, 0), (5, 0), (5, 0), (5, 0), (5, 0)] [] D Φ) : ∀ (n : Nat) (a6 : Int) (a7 : Int) (a8 : Int) (D : DD), WP (some .boolean) 0 Φ (pE_isTree_76 n a6 a7 a8 D K) → Run Γ rg (κ + 2 * n) Y_L_isTree 76 [(8, 0), (40, 0), (43, 0), (46, 0), (49, 0), (51, 0), (0, a6), (0, a7), (0, a8), (5, 0), (5, 0), (5, 0), (5, 0), (5, 0), (5, 0), (5, 0), (5, 0)] [] D Φ := by
  intro n
  induction n with
  | zero => intro a6 a7 a8 D h; exact h.no.elim
  | succ n ih =>
    intro a6 a7 a8 D h
    rw [pE_isTree_76] at h
    rw [show κ + 2 * (n + 1) = κ + 2 * n + 2 by omega]
    show Run Γ rg (κ + 2 * n + 2) Y_L_isTree 76 [(8, 0), (40, 0), (43, 0), (46, 0), (49, 0), (51, 0), (0, a6), (0, a7), (0, a8), (5, 0), (5, 0), (5, 0), (5, 0), (5, 0), (5, 0), (5, 0), (5, 0)] [] D Φ
    refine r_iload d_L_isTree_76 rfl ?_
    refine r_bipush d_L_isTree_78 (by decide) ?_
    refine c_icmp_ge (tgt := 452) d_L_isTree_80 (by decide) (nz_w _) (nz_k rfl) h (fun h => ?_) (fun h => ?_)
    · skip
      refine Run.mono (κ' := κ) (by omega) (fun _ _ h => h) ?_
      exact Run.forget (ls' := [(8, 0), (40, 0), (43, 0), (46, 0), (49, 0), (5, 0), (0, a6), (0, a7), (5, 0), (5, 0), (5, 0), (5, 0), (5, 0), (5, 0), (5, 0), (5, 0), (5, 0)]) ⟨Or.inr rfl, Or.inr rfl, Or.inr rfl, Or.inr rfl, Or.inr rfl, Or.inl rfl, Or.inr rfl, Or.inr rfl, Or.inl rfl, Or.inr rfl, Or.inr rfl, Or.inr rfl, Or.inr rfl, Or.inr rfl, Or.inr rfl, Or.inr rfl, Or.inr rfl, trivial⟩ (hK a6 a7 D h)
    · skip
      show Run Γ rg (κ + 2 * n + 2) Y_L_isTree 83 [(8, 0), (40, 0), (43, 0), (46, 0), (49, 0), (51, 0), (0, a6), (0, a7), (0, a8), (5, 0), (5, 0), (5, 0), (5, 0), (5, 0), (5, 0), (5, 0), (5, 0)] [] D Φ
      refine r_iload d_L_isTree_83 rfl ?_
      refine c_if_eq (tgt := 452) d_L_isTree_85 (by decide) (nz_w _) h (fun h => ?_) (fun h => ?_)
      · skip
        refine Run.mono (κ' := κ) (by omega) (fun _ _ h => h) ?_
        exact Run.forget (ls' := [(8, 0), (40, 0), (43, 0), (46, 0), (49, 0), (5, 0), (0, a6), (0, a7), (5, 0), (5, 0), (5, 0), (5, 0), (5, 0), (5, 0), (5, 0), (5, 0), (5, 0)]) ⟨Or.inr rfl, Or.inr rfl, Or.inr rfl, Or.inr rfl, Or.inr rfl, Or.inl rfl, Or.inr rfl, Or.inr rfl, Or.inl rfl, Or.inr rfl, Or.inr rfl, Or.inr rfl, Or.inr rfl, Or.inr rfl, Or.inr rfl, Or.inr rfl, Or.inr rfl, trivial⟩ (hK a6 a7 D h)
      · skip
        show Run Γ rg (κ + 2 * n + 2) Y_L_isTree 88 [(8, 0), (40, 0), (43, 0), (46, 0), (49, 0), (51, 0), (0, a6), (0, a7), (0, a8), (5, 0), (5, 0), (5, 0), (5, 0), (5, 0), (5, 0), (5, 0), (5, 0)] [] D Φ
        refine r_aload_n d_L_isTree_88 rfl (by decide) ?_
        refine r_iconst d_L_isTree_89 ?_
        refine r_iload d_L_isTree_90 rfl ?_
        refine r_iconst d_L_isTree_92 ?_
        refine r_iconst d_L_isTree_93 ?_
        refine c_callHi (as := [(8, 0), (0, 2), (0, a8), (0, 0), (0, 0)]) (rest := []) (ls' := [(8, 0), (0, 2), (0, a8), (0, 0), (0, 0), (5, 0)]) d_L_isTree_94 ck_RL_113 rfl rfl rfl (Nat.le_of_ble_eq_true rfl) (Nat.le_of_ble_eq_true rfl) (by decide) rfl rfl (fun Ψ hΨ => run_pE_asks (κ := 0) R _ _ _ _ hΨ) h (fun v1 D1 h => ?_)
        show Run Γ rg (κ + 2 * n + 1) Y_L_isTree 97 [(8, 0), (40, 0), (43, 0), (46, 0), (49, 0), (51, 0), (0, a6), (0, a7), (0, a8), (5, 0), (5, 0), (5, 0), (5, 0), (5, 0), (5, 0), (5, 0), (5, 0)] [(0, v1)] D1 Φ
        refine r_istore d_L_isTree_97 (by decide) rfl ?_
        show Run Γ rg (κ + 2 * n + 1) Y_L_isTree 99 [(8, 0), (40, 0), (43, 0), (46, 0), (49, 0), (51, 0), (0, a6), (0, a7), (0, a8), (0, v1), (5, 0), (5, 0), (5, 0), (5, 0), (5, 0), (5, 0), (5, 0)] [] D1 Φ
        refine r_aload_n d_L_isTree_99 rfl (by decide) ?_
        refine r_iload d_L_isTree_100 rfl ?_
        refine c_lald d_L_isTree_102 sh_32 (by decide) (R 32 rfl) (by decide) h (fun v2 h => ?_)
        refine c_lconst d_L_isTree_103 rfl ?_
        show Run Γ rg (κ + 2 * n + 1) Y_L_isTree 104 [(8, 0), (40, 0), (43, 0), (46, 0), (49, 0), (51, 0), (0, a6), (0, a7), (0, a8), (0, v1), (5, 0), (5, 0), (5, 0), (5, 0), (5, 0), (5, 0), (5, 0)] [(1, 0), (1, v2)] D1 Φ
        refine c_lcmp d_L_isTree_104 ?_
        refine c_jn (fun J => ∀ (x1 : Int) (x2 : Int) (D2 : DD), WP (some .boolean) 0 Φ (J x1 x2 D2) → Run Γ rg (κ + 2 * n) Y_L_isTree 446 [(8, 0), (40, 0), (43, 0), (46, 0), (49, 0), (51, 0), (0, x1), (0, x2), (0, a8), (5, 0), (5, 0), (5, 0), (5, 0), (5, 0), (5, 0), (5, 0), (5, 0)] [] D2 Φ) h ?_ (fun J1 hJ1 h => ?_)
        · intro x1 x2 D2 h
          show Run Γ rg (κ + 2 * n) Y_L_isTree 446 [(8, 0), (40, 0), (43, 0), (46, 0), (49, 0), (51, 0), (0, x1), (0, x2), (0, a8), (5, 0), (5, 0), (5, 0), (5, 0), (5, 0), (5, 0), (5, 0), (5, 0)] [] D2 Φ
          refine r_iinc d_L_isTree_446 rfl (by decide) rfl ?_
          show Run Γ rg (κ + 2 * n) Y_L_isTree 449 [(8, 0), (40, 0), (43, 0), (46, 0), (49, 0), (51, 0), (0, x1), (0, x2), (0, (a8 + 1)), (5, 0), (5, 0), (5, 0), (5, 0), (5, 0), (5, 0), (5, 0), (5, 0)] [] D2 Φ
          refine r_goto (tgt := 76) d_L_isTree_449 (by decide) ?_
          exact (ih x1 x2 (a8 + 1) D2 h)
        refine c_if_ne (tgt := 126) d_L_isTree_105 (by decide) (nz_c _ _) h (fun h => ?_) (fun h => ?_)
        · skip
          show Run Γ rg (κ + 2 * n + 1) Y_L_isTree 126 [(8, 0), (40, 0), (43, 0), (46, 0), (49, 0), (51, 0), (0, a6), (0, a7), (0, a8), (0, v1), (5, 0), (5, 0), (5, 0), (5, 0), (5, 0), (5, 0), (5, 0)] [] D1 Φ
          refine r_iconst d_L_isTree_126 ?_
          refine r_istore d_L_isTree_127 (by decide) rfl ?_
          show Run Γ rg (κ + 2 * n + 1) Y_L_isTree 129 [(8, 0), (40, 0), (43, 0), (46, 0), (49, 0), (51, 0), (0, a6), (0, a7), (0, a8), (0, v1), (0, 0), (5, 0), (5, 0), (5, 0), (5, 0), (5, 0), (5, 0)] [] D1 Φ
          refine r_iconst d_L_isTree_129 ?_
          refine r_istore d_L_isTree_130 (by decide) rfl ?_
          show Run Γ rg (κ + 2 * n + 1) Y_L_isTree 132 [(8, 0), (40, 0), (43, 0), (46, 0), (49, 0), (51, 0), (0, a6), (0, a7), (0, a8), (0, v1), (0, 0), (0, 1), (5, 0), (5, 0), (5, 0), (5, 0), (5, 0)] [] D1 Φ
          refine Run.forget (ls' := [(8, 0), (40, 0), (43, 0), (46, 0), (49, 0), (51, 0), (0, a6), (5, 0), (0, a8), (0, v1), (0, 0), (0, 1), (5, 0), (5, 0), (5, 0), (5, 0), (5, 0)]) ⟨Or.inr rfl, Or.inr rfl, Or.inr rfl, Or.inr rfl, Or.inr rfl, Or.inr rfl, Or.inr rfl, Or.inl rfl, Or.inr rfl, Or.inr rfl, Or.inr rfl, Or.inr rfl, Or.inr rfl, Or.inr rfl, Or.inr rfl, Or.inr rfl, Or.inr rfl, trivial⟩ ?_
          refine run_pE_isTree_132 R a8 a6 v1 ?_ 64 0 1 D1 h
          intro x3 D3 h
          show Run Γ rg (κ + 2 * n + 1) Y_L_isTree 175 [(8, 0), (40, 0), (43, 0), (46, 0), (49, 0), (51, 0), (0, a6), (5, 0), (0, a8), (0, v1), (0, x3), (5, 0), (5, 0), (5, 0), (5, 0), (5, 0), (5, 0)] [] D3 Φ
          refine r_iload d_L_isTree_175 rfl ?_
          refine r_bipush d_L_isTree_177 (by decide) ?_
          refine c_irem d_L_isTree_179 (nz_w _) ⟨by decide, by decide⟩ (by decide) ?_
          refine c_lt d_L_isTree_180 (by decide) rfl h (fun x4 h => ?_)
          show Run Γ rg (κ + 2 * n + 1) Y_L_isTree 182 [(8, 0), (40, 0), (43, 0), (46, 0), (49, 0), (51, 0), (0, a6), (5, 0), (0, a8), (0, v1), (0, x3), (0, x4), (5, 0), (5, 0), (5, 0), (5, 0), (5, 0)] [] D3 Φ
          refine r_iload d_L_isTree_182 rfl ?_
          refine r_bipush d_L_isTree_184 (by decide) ?_
          refine c_idiv d_L_isTree_186 (nz_w _) ⟨by decide, by decide⟩ (by decide) ?_
          refine r_iload d_L_isTree_187 rfl ?_
          refine c_jn (fun J => ∀ (x5 : Int) (D4 : DD), WP (some .boolean) 0 Φ (J x5 D4) → Run Γ rg (κ + 2 * n) Y_L_isTree 244 [(8, 0), (40, 0), (43, 0), (46, 0), (49, 0), (51, 0), (0, a6), (5, 0), (0, a8), (5, 0), (0, x3), (0, x4), (5, 0), (5, 0), (5, 0), (5, 0), (5, 0)] [(0, x5)] D4 Φ) h ?_ (fun J2 hJ2 h => ?_)
          · intro x5 D4 h
            show Run Γ rg (κ + 2 * n) Y_L_isTree 244 [(8, 0), (40, 0), (43, 0), (46, 0), (49, 0), (51, 0), (0, a6), (5, 0), (0, a8), (5, 0), (0, x3), (0, x4), (5, 0), (5, 0), (5, 0), (5, 0), (5, 0)] [(0, x5)] D4 Φ
            refine r_istore d_L_isTree_244 (by decide) rfl ?_
            show Run Γ rg (κ + 2 * n) Y_L_isTree 246 [(8, 0), (40, 0), (43, 0), (46, 0), (49, 0), (51, 0), (0, a6), (0, x5), (0, a8), (5, 0), (0, x3), (0, x4), (5, 0), (5, 0), (5, 0), (5, 0), (5, 0)] [] D4 Φ
            refine r_aload_n d_L_isTree_246 rfl (by decide) ?_
            refine r_aload d_L_isTree_247 rfl (by decide) ?_
            refine r_iload d_L_isTree_249 rfl ?_
            refine c_callSi0 (t' := (some .int)) (as := [(43, 0), (49, 0), (0, a8)]) (rest := []) (ls' := [(43, 0), (49, 0), (0, a8), (5, 0), (5, 0)]) d_L_isTree_251 ck_RL_129 rfl rfl rfl (Nat.le_of_ble_eq_true rfl) (Nat.le_of_ble_eq_true rfl) (by decide) rfl rfl (fun _ => rfl) (fun κ' Ψ hΨ => run_pE_values R _ hΨ) h (fun v3 D5 h => ?_)
            show Run Γ rg (κ + 2 * n) Y_L_isTree 254 [(8, 0), (40, 0), (43, 0), (46, 0), (49, 0), (51, 0), (0, a6), (0, x5), (0, a8), (5, 0), (0, x3), (0, x4), (5, 0), (5, 0), (5, 0), (5, 0), (5, 0)] [(0, v3)] D5 Φ
            refine r_istore d_L_isTree_254 (by decide) rfl ?_
            show Run Γ rg (κ + 2 * n) Y_L_isTree 256 [(8, 0), (40, 0), (43, 0), (46, 0), (49, 0), (51, 0), (0, a6), (0, x5), (0, a8), (5, 0), (0, x3), (0, x4), (0, v3), (5, 0), (5, 0), (5, 0), (5, 0)] [] D5 Φ
            refine r_iload d_L_isTree_256 rfl ?_
            refine r_bipush d_L_isTree_258 (by decide) ?_
            refine r_iconst d_L_isTree_260 ?_
            refine r_iload d_L_isTree_261 rfl ?_
            refine r_imul d_L_isTree_263 ?_
            show Run Γ rg (κ + 2 * n) Y_L_isTree 264 [(8, 0), (40, 0), (43, 0), (46, 0), (49, 0), (51, 0), (0, a6), (0, x5), (0, a8), (5, 0), (0, x3), (0, x4), (0, v3), (5, 0), (5, 0), (5, 0), (5, 0)] [(0, (5 * x4)), (0, 6), (0, a6)] D5 Φ
            refine r_iadd d_L_isTree_264 ?_
            refine r_iload d_L_isTree_265 rfl ?_
            refine r_iconst d_L_isTree_267 ?_
            refine c_jn (fun J => ∀ (x6 : Int) (D6 : DD), WP (some .boolean) 0 Φ (J x6 D6) → Run Γ rg (κ + 2 * n) Y_L_isTree 277 [(8, 0), (40, 0), (43, 0), (46, 0), (49, 0), (51, 0), (5, 0), (0, x5), (0, a8), (5, 0), (0, x3), (5, 0), (0, v3), (5, 0), (5, 0), (5, 0), (5, 0)] [(0, x6), (0, (6 + (5 * x4))), (0, a6)] D6 Φ) h ?_ (fun J3 hJ3 h => ?_)
            · intro x6 D6 h
              show Run Γ rg (κ + 2 * n) Y_L_isTree 277 [(8, 0), (40, 0), (43, 0), (46, 0), (49, 0), (51, 0), (5, 0), (0, x5), (0, a8), (5, 0), (0, x3), (5, 0), (0, v3), (5, 0), (5, 0), (5, 0), (5, 0)] [(0, x6), (0, (6 + (5 * x4))), (0, a6)] D6 Φ
              refine r_iadd d_L_isTree_277 ?_
              refine r_iload d_L_isTree_278 rfl ?_
              refine c_jn (fun J => ∀ (x7 : Int) (D7 : DD), WP (some .boolean) 0 Φ (J x7 D7) → Run Γ rg (κ + 2 * n) Y_L_isTree 307 [(8, 0), (40, 0), (43, 0), (46, 0), (49, 0), (51, 0), (5, 0), (0, x5), (0, a8), (5, 0), (0, x3), (5, 0), (5, 0), (5, 0), (5, 0), (5, 0), (5, 0)] [(0, x7), (0, ((6 + (5 * x4)) + x6)), (0, a6)] D7 Φ) h ?_ (fun J4 hJ4 h => ?_)
              · intro x7 D7 h
                show Run Γ rg (κ + 2 * n) Y_L_isTree 307 [(8, 0), (40, 0), (43, 0), (46, 0), (49, 0), (51, 0), (5, 0), (0, x5), (0, a8), (5, 0), (0, x3), (5, 0), (5, 0), (5, 0), (5, 0), (5, 0), (5, 0)] [(0, x7), (0, ((6 + (5 * x4)) + x6)), (0, a6)] D7 Φ
                refine r_iadd d_L_isTree_307 ?_
                refine r_iadd d_L_isTree_308 ?_
                refine c_lt d_L_isTree_309 (by decide) rfl h (fun x8 h => ?_)
                show Run Γ rg (κ + 2 * n) Y_L_isTree 311 [(8, 0), (40, 0), (43, 0), (46, 0), (49, 0), (51, 0), (0, x8), (0, x5), (0, a8), (5, 0), (0, x3), (5, 0), (5, 0), (5, 0), (5, 0), (5, 0), (5, 0)] [] D7 Φ
                refine r_iconst d_L_isTree_311 ?_
                refine r_istore d_L_isTree_312 (by decide) rfl ?_
                show Run Γ rg (κ + 2 * n) Y_L_isTree 314 [(8, 0), (40, 0), (43, 0), (46, 0), (49, 0), (51, 0), (0, x8), (0, x5), (0, a8), (5, 0), (0, x3), (5, 0), (5, 0), (0, (-1)), (5, 0), (5, 0), (5, 0)] [] D7 Φ
                refine r_iconst d_L_isTree_314 ?_
                refine r_istore d_L_isTree_315 (by decide) rfl ?_
                show Run Γ rg (κ + 2 * n) Y_L_isTree 317 [(8, 0), (40, 0), (43, 0), (46, 0), (49, 0), (51, 0), (0, x8), (0, x5), (0, a8), (5, 0), (0, x3), (5, 0), (5, 0), (0, (-1)), (0, 0), (5, 0), (5, 0)] [] D7 Φ
                refine run_pE_isTree_317 R a8 x3 x8 ?_ 64 x5 (-1) 0 D7 h
                intro x9 D8 h
                exact (hJ1 x8 x9 D8 h)
              refine c_if_ne (tgt := 287) d_L_isTree_280 (by decide) (nz_w _) h (fun h => ?_) (fun h => ?_)
              · skip
                show Run Γ rg (κ + 2 * n) Y_L_isTree 287 [(8, 0), (40, 0), (43, 0), (46, 0), (49, 0), (51, 0), (5, 0), (0, x5), (0, a8), (5, 0), (0, x3), (5, 0), (0, v3), (5, 0), (5, 0), (5, 0), (5, 0)] [(0, ((6 + (5 * x4)) + x6)), (0, a6)] D6 Φ
                refine r_aload d_L_isTree_287 rfl (by decide) ?_
                refine r_iconst d_L_isTree_289 ?_
                refine c_lald0 (k := 0) d_L_isTree_290 sh_43 (by decide) (R 43 rfl) (by decide) rfl (by decide) ?_
                refine r_iload d_L_isTree_291 rfl ?_
                refine c_lshr d_L_isTree_293 ?_
                refine c_lconst d_L_isTree_294 rfl ?_
                refine c_land d_L_isTree_295 ?_
                refine c_lconst d_L_isTree_296 rfl ?_
                refine c_lcmp d_L_isTree_297 ?_
                refine c_if_ne (tgt := 306) d_L_isTree_298 (by decide) (nz_c _ _) h (fun h => ?_) (fun h => ?_)
                · skip
                  show Run Γ rg (κ + 2 * n) Y_L_isTree 306 [(8, 0), (40, 0), (43, 0), (46, 0), (49, 0), (51, 0), (5, 0), (0, x5), (0, a8), (5, 0), (0, x3), (5, 0), (0, v3), (5, 0), (5, 0), (5, 0), (5, 0)] [(0, ((6 + (5 * x4)) + x6)), (0, a6)] D6 Φ
                  refine r_iconst d_L_isTree_306 ?_
                  exact Run.forget (ls' := [(8, 0), (40, 0), (43, 0), (46, 0), (49, 0), (51, 0), (5, 0), (0, x5), (0, a8), (5, 0), (0, x3), (5, 0), (5, 0), (5, 0), (5, 0), (5, 0), (5, 0)]) ⟨Or.inr rfl, Or.inr rfl, Or.inr rfl, Or.inr rfl, Or.inr rfl, Or.inr rfl, Or.inr rfl, Or.inr rfl, Or.inr rfl, Or.inr rfl, Or.inr rfl, Or.inr rfl, Or.inl rfl, Or.inr rfl, Or.inr rfl, Or.inr rfl, Or.inr rfl, trivial⟩ (hJ4 5 D6 h)
                · skip
                  show Run Γ rg (κ + 2 * n) Y_L_isTree 301 [(8, 0), (40, 0), (43, 0), (46, 0), (49, 0), (51, 0), (5, 0), (0, x5), (0, a8), (5, 0), (0, x3), (5, 0), (0, v3), (5, 0), (5, 0), (5, 0), (5, 0)] [(0, ((6 + (5 * x4)) + x6)), (0, a6)] D6 Φ
                  refine r_bipush d_L_isTree_301 (by decide) ?_
                  refine r_goto (tgt := 307) d_L_isTree_303 (by decide) ?_
                  exact Run.forget (ls' := [(8, 0), (40, 0), (43, 0), (46, 0), (49, 0), (51, 0), (5, 0), (0, x5), (0, a8), (5, 0), (0, x3), (5, 0), (5, 0), (5, 0), (5, 0), (5, 0), (5, 0)]) ⟨Or.inr rfl, Or.inr rfl, Or.inr rfl, Or.inr rfl, Or.inr rfl, Or.inr rfl, Or.inr rfl, Or.inr rfl, Or.inr rfl, Or.inr rfl, Or.inr rfl, Or.inr rfl, Or.inl rfl, Or.inr rfl, Or.inr rfl, Or.inr rfl, Or.inr rfl, trivial⟩ (hJ4 9 D6 h)
              · skip
                show Run Γ rg (κ + 2 * n) Y_L_isTree 283 [(8, 0), (40, 0), (43, 0), (46, 0), (49, 0), (51, 0), (5, 0), (0, x5), (0, a8), (5, 0), (0, x3), (5, 0), (0, v3), (5, 0), (5, 0), (5, 0), (5, 0)] [(0, ((6 + (5 * x4)) + x6)), (0, a6)] D6 Φ
                refine r_iconst d_L_isTree_283 ?_
                refine r_goto (tgt := 307) d_L_isTree_284 (by decide) ?_
                exact Run.forget (ls' := [(8, 0), (40, 0), (43, 0), (46, 0), (49, 0), (51, 0), (5, 0), (0, x5), (0, a8), (5, 0), (0, x3), (5, 0), (5, 0), (5, 0), (5, 0), (5, 0), (5, 0)]) ⟨Or.inr rfl, Or.inr rfl, Or.inr rfl, Or.inr rfl, Or.inr rfl, Or.inr rfl, Or.inr rfl, Or.inr rfl, Or.inr rfl, Or.inr rfl, Or.inr rfl, Or.inr rfl, Or.inl rfl, Or.inr rfl, Or.inr rfl, Or.inr rfl, Or.inr rfl, trivial⟩ (hJ4 0 D6 h)
            refine c_icmp_le (tgt := 276) d_L_isTree_268 (by decide) (nz_w _) (nz_k rfl) h (fun h => ?_) (fun h => ?_)
            · skip
              show Run Γ rg (κ + 2 * n) Y_L_isTree 276 [(8, 0), (40, 0), (43, 0), (46, 0), (49, 0), (51, 0), (0, a6), (0, x5), (0, a8), (5, 0), (0, x3), (0, x4), (0, v3), (5, 0), (5, 0), (5, 0), (5, 0)] [(0, (6 + (5 * x4))), (0, a6)] D5 Φ
              refine r_iconst d_L_isTree_276 ?_
              exact Run.forget (ls' := [(8, 0), (40, 0), (43, 0), (46, 0), (49, 0), (51, 0), (5, 0), (0, x5), (0, a8), (5, 0), (0, x3), (5, 0), (0, v3), (5, 0), (5, 0), (5, 0), (5, 0)]) ⟨Or.inr rfl, Or.inr rfl, Or.inr rfl, Or.inr rfl, Or.inr rfl, Or.inr rfl, Or.inl rfl, Or.inr rfl, Or.inr rfl, Or.inr rfl, Or.inr rfl, Or.inl rfl, Or.inr rfl, Or.inr rfl, Or.inr rfl, Or.inr rfl, Or.inr rfl, trivial⟩ (hJ3 0 D5 h)
            · skip
              show Run Γ rg (κ + 2 * n) Y_L_isTree 271 [(8, 0), (40, 0), (43, 0), (46, 0), (49, 0), (51, 0), (0, a6), (0, x5), (0, a8), (5, 0), (0, x3), (0, x4), (0, v3), (5, 0), (5, 0), (5, 0), (5, 0)] [(0, (6 + (5 * x4))), (0, a6)] D5 Φ
              refine r_bipush d_L_isTree_271 (by decide) ?_
              refine r_goto (tgt := 277) d_L_isTree_273 (by decide) ?_
              exact Run.forget (ls' := [(8, 0), (40, 0), (43, 0), (46, 0), (49, 0), (51, 0), (5, 0), (0, x5), (0, a8), (5, 0), (0, x3), (5, 0), (0, v3), (5, 0), (5, 0), (5, 0), (5, 0)]) ⟨Or.inr rfl, Or.inr rfl, Or.inr rfl, Or.inr rfl, Or.inr rfl, Or.inr rfl, Or.inl rfl, Or.inr rfl, Or.inr rfl, Or.inr rfl, Or.inr rfl, Or.inl rfl, Or.inr rfl, Or.inr rfl, Or.inr rfl, Or.inr rfl, Or.inr rfl, trivial⟩ (hJ3 9 D5 h)
          refine c_jn (fun J => ∀ (D9 : DD), WP (some .boolean) 0 Φ (J D9) → Run Γ rg (κ + 2 * n) Y_L_isTree 243 [(8, 0), (40, 0), (43, 0), (46, 0), (49, 0), (51, 0), (0, a6), (5, 0), (0, a8), (5, 0), (0, x3), (0, x4), (5, 0), (5, 0), (5, 0), (5, 0), (5, 0)] [] D9 Φ) h ?_ (fun J5 hJ5 h => ?_)
          · intro D9 h
            show Run Γ rg (κ + 2 * n) Y_L_isTree 243 [(8, 0), (40, 0), (43, 0), (46, 0), (49, 0), (51, 0), (0, a6), (5, 0), (0, a8), (5, 0), (0, x3), (0, x4), (5, 0), (5, 0), (5, 0), (5, 0), (5, 0)] [] D9 Φ
            refine r_iconst d_L_isTree_243 ?_
            exact (hJ2 0 D9 h)
          refine c_icmp_ne (tgt := 243) d_L_isTree_189 (by decide) (nz_w _) (nz_w _) h (fun h => ?_) (fun h => ?_)
          · skip
            refine Run.mono (κ' := (κ + 2 * n)) (by omega) (fun _ _ h => h) ?_
            exact Run.forget (ls' := [(8, 0), (40, 0), (43, 0), (46, 0), (49, 0), (51, 0), (0, a6), (5, 0), (0, a8), (5, 0), (0, x3), (0, x4), (5, 0), (5, 0), (5, 0), (5, 0), (5, 0)]) ⟨Or.inr rfl, Or.inr rfl, Or.inr rfl, Or.inr rfl, Or.inr rfl, Or.inr rfl, Or.inr rfl, Or.inr rfl, Or.inr rfl, Or.inl rfl, Or.inr rfl, Or.inr rfl, Or.inr rfl, Or.inr rfl, Or.inr rfl, Or.inr rfl, Or.inr rfl, trivial⟩ (hJ5 D3 h)
          · skip
            show Run Γ rg (κ + 2 * n + 1) Y_L_isTree 192 [(8, 0), (40, 0), (43, 0), (46, 0), (49, 0), (51, 0), (0, a6), (5, 0), (0, a8), (0, v1), (0, x3), (0, x4), (5, 0), (5, 0), (5, 0), (5, 0), (5, 0)] [] D3 Φ
            refine r_iconst d_L_isTree_192 ?_
            refine r_iload d_L_isTree_193 rfl ?_
            refine r_imul d_L_isTree_195 ?_
            refine r_iload d_L_isTree_196 rfl ?_
            refine c_icmp_lt (tgt := 243) d_L_isTree_198 (by decide) (nz_w _) (nz_w _) h (fun h => ?_) (fun h => ?_)
            · skip
              refine Run.mono (κ' := (κ + 2 * n)) (by omega) (fun _ _ h => h) ?_
              exact Run.forget (ls' := [(8, 0), (40, 0), (43, 0), (46, 0), (49, 0), (51, 0), (0, a6), (5, 0), (0, a8), (5, 0), (0, x3), (0, x4), (5, 0), (5, 0), (5, 0), (5, 0), (5, 0)]) ⟨Or.inr rfl, Or.inr rfl, Or.inr rfl, Or.inr rfl, Or.inr rfl, Or.inr rfl, Or.inr rfl, Or.inr rfl, Or.inr rfl, Or.inl rfl, Or.inr rfl, Or.inr rfl, Or.inr rfl, Or.inr rfl, Or.inr rfl, Or.inr rfl, Or.inr rfl, trivial⟩ (hJ5 D3 h)
            · skip
              show Run Γ rg (κ + 2 * n + 1) Y_L_isTree 201 [(8, 0), (40, 0), (43, 0), (46, 0), (49, 0), (51, 0), (0, a6), (5, 0), (0, a8), (0, v1), (0, x3), (0, x4), (5, 0), (5, 0), (5, 0), (5, 0), (5, 0)] [] D3 Φ
              refine r_iload d_L_isTree_201 rfl ?_
              refine r_iload d_L_isTree_203 rfl ?_
              refine c_icmp_gt (tgt := 243) d_L_isTree_205 (by decide) (nz_w _) (nz_w _) h (fun h => ?_) (fun h => ?_)
              · skip
                refine Run.mono (κ' := (κ + 2 * n)) (by omega) (fun _ _ h => h) ?_
                exact Run.forget (ls' := [(8, 0), (40, 0), (43, 0), (46, 0), (49, 0), (51, 0), (0, a6), (5, 0), (0, a8), (5, 0), (0, x3), (0, x4), (5, 0), (5, 0), (5, 0), (5, 0), (5, 0)]) ⟨Or.inr rfl, Or.inr rfl, Or.inr rfl, Or.inr rfl, Or.inr rfl, Or.inr rfl, Or.inr rfl, Or.inr rfl, Or.inr rfl, Or.inl rfl, Or.inr rfl, Or.inr rfl, Or.inr rfl, Or.inr rfl, Or.inr rfl, Or.inr rfl, Or.inr rfl, trivial⟩ (hJ5 D3 h)
              · skip
                show Run Γ rg (κ + 2 * n + 1) Y_L_isTree 208 [(8, 0), (40, 0), (43, 0), (46, 0), (49, 0), (51, 0), (0, a6), (5, 0), (0, a8), (0, v1), (0, x3), (0, x4), (5, 0), (5, 0), (5, 0), (5, 0), (5, 0)] [] D3 Φ
                refine r_aload_n d_L_isTree_208 rfl (by decide) ?_
                refine r_aload_n d_L_isTree_209 rfl (by decide) ?_
                refine r_iload d_L_isTree_210 rfl ?_
                refine c_callVi0 (t' := (some .int)) (a := 0) (z := 0) (as := [(0, a8)]) (rest := [(8, 0)]) (ls' := [(8, 0), (0, a8)]) d_L_isTree_212 ck_RL_76 rfl sh_0 rfl (by decide) (R 0 rfl) rfl rfl (Nat.le_of_ble_eq_true rfl) (Nat.le_of_ble_eq_true rfl) (by decide) rfl rfl (fun _ => rfl) (fun κ' Ψ hΨ => run_pH_place (cov20 R) _ hΨ) h (fun v4 D10 h => ?_)
                show Run Γ rg (κ + 2 * n + 1) Y_L_isTree 215 [(8, 0), (40, 0), (43, 0), (46, 0), (49, 0), (51, 0), (0, a6), (5, 0), (0, a8), (0, v1), (0, x3), (0, x4), (5, 0), (5, 0), (5, 0), (5, 0), (5, 0)] [(0, v4), (8, 0)] D10 Φ
                refine c_callVi0 (t' := (some .int)) (a := 0) (z := 0) (as := [(0, v4)]) (rest := []) (ls' := [(8, 0), (0, v4)]) d_L_isTree_215 ck_RL_73 rfl sh_0 rfl (by decide) (R 0 rfl) rfl rfl (Nat.le_of_ble_eq_true rfl) (Nat.le_of_ble_eq_true rfl) (by decide) rfl rfl (fun _ => rfl) (fun κ' Ψ hΨ => run_pH_cell (cov20 R) _ hΨ) h (fun v5 D11 h => ?_)
                show Run Γ rg (κ + 2 * n + 1) Y_L_isTree 218 [(8, 0), (40, 0), (43, 0), (46, 0), (49, 0), (51, 0), (0, a6), (5, 0), (0, a8), (0, v1), (0, x3), (0, x4), (5, 0), (5, 0), (5, 0), (5, 0), (5, 0)] [(0, v5)] D11 Φ
                refine r_bipush d_L_isTree_218 (by decide) ?_
                refine c_icmp_ne (tgt := 243) d_L_isTree_220 (by decide) (nz_w _) (nz_k rfl) h (fun h => ?_) (fun h => ?_)
                · skip
                  refine Run.mono (κ' := (κ + 2 * n)) (by omega) (fun _ _ h => h) ?_
                  exact Run.forget (ls' := [(8, 0), (40, 0), (43, 0), (46, 0), (49, 0), (51, 0), (0, a6), (5, 0), (0, a8), (5, 0), (0, x3), (0, x4), (5, 0), (5, 0), (5, 0), (5, 0), (5, 0)]) ⟨Or.inr rfl, Or.inr rfl, Or.inr rfl, Or.inr rfl, Or.inr rfl, Or.inr rfl, Or.inr rfl, Or.inr rfl, Or.inr rfl, Or.inl rfl, Or.inr rfl, Or.inr rfl, Or.inr rfl, Or.inr rfl, Or.inr rfl, Or.inr rfl, Or.inr rfl, trivial⟩ (hJ5 D11 h)
                · skip
                  show Run Γ rg (κ + 2 * n + 1) Y_L_isTree 223 [(8, 0), (40, 0), (43, 0), (46, 0), (49, 0), (51, 0), (0, a6), (5, 0), (0, a8), (0, v1), (0, x3), (0, x4), (5, 0), (5, 0), (5, 0), (5, 0), (5, 0)] [] D11 Φ
                  refine r_aload_n d_L_isTree_223 rfl (by decide) ?_
                  refine r_iconst d_L_isTree_224 ?_
                  refine r_iload d_L_isTree_225 rfl ?_
                  refine r_iload d_L_isTree_227 rfl ?_
                  refine r_iconst d_L_isTree_229 ?_
                  refine c_callHi (as := [(8, 0), (0, 1), (0, a8), (0, x3), (0, 0)]) (rest := []) (ls' := [(8, 0), (0, 1), (0, a8), (0, x3), (0, 0), (5, 0)]) d_L_isTree_230 ck_RL_113 rfl rfl rfl (Nat.le_of_ble_eq_true rfl) (Nat.le_of_ble_eq_true rfl) (by decide) rfl rfl (fun Ψ hΨ => run_pE_asks (κ := 0) R _ _ _ _ hΨ) h (fun v6 D12 h => ?_)
                  show Run Γ rg (κ + 2 * n) Y_L_isTree 233 [(8, 0), (40, 0), (43, 0), (46, 0), (49, 0), (51, 0), (0, a6), (5, 0), (0, a8), (0, v1), (0, x3), (0, x4), (5, 0), (5, 0), (5, 0), (5, 0), (5, 0)] [(0, v6)] D12 Φ
                  refine r_sipush d_L_isTree_233 (by decide) ?_
                  refine c_icmp_ne (tgt := 243) d_L_isTree_236 (by decide) (nz_w _) (nz_k rfl) h (fun h => ?_) (fun h => ?_)
                  · skip
                    exact Run.forget (ls' := [(8, 0), (40, 0), (43, 0), (46, 0), (49, 0), (51, 0), (0, a6), (5, 0), (0, a8), (5, 0), (0, x3), (0, x4), (5, 0), (5, 0), (5, 0), (5, 0), (5, 0)]) ⟨Or.inr rfl, Or.inr rfl, Or.inr rfl, Or.inr rfl, Or.inr rfl, Or.inr rfl, Or.inr rfl, Or.inr rfl, Or.inr rfl, Or.inl rfl, Or.inr rfl, Or.inr rfl, Or.inr rfl, Or.inr rfl, Or.inr rfl, Or.inr rfl, Or.inr rfl, trivial⟩ (hJ5 D12 h)
                  · skip
                    show Run Γ rg (κ + 2 * n) Y_L_isTree 239 [(8, 0), (40, 0), (43, 0), (46, 0), (49, 0), (51, 0), (0, a6), (5, 0), (0, a8), (0, v1), (0, x3), (0, x4), (5, 0), (5, 0), (5, 0), (5, 0), (5, 0)] [] D12 Φ
                    refine r_iconst d_L_isTree_239 ?_
                    refine r_goto (tgt := 244) d_L_isTree_240 (by decide) ?_
                    exact Run.forget (ls' := [(8, 0), (40, 0), (43, 0), (46, 0), (49, 0), (51, 0), (0, a6), (5, 0), (0, a8), (5, 0), (0, x3), (0, x4), (5, 0), (5, 0), (5, 0), (5, 0), (5, 0)]) ⟨Or.inr rfl, Or.inr rfl, Or.inr rfl, Or.inr rfl, Or.inr rfl, Or.inr rfl, Or.inr rfl, Or.inr rfl, Or.inr rfl, Or.inl rfl, Or.inr rfl, Or.inr rfl, Or.inr rfl, Or.inr rfl, Or.inr rfl, Or.inr rfl, Or.inr rfl, trivial⟩ (hJ2 1 D12 h)
        · skip
          show Run Γ rg (κ + 2 * n + 1) Y_L_isTree 108 [(8, 0), (40, 0), (43, 0), (46, 0), (49, 0), (51, 0), (0, a6), (0, a7), (0, a8), (0, v1), (5, 0), (5, 0), (5, 0), (5, 0), (5, 0), (5, 0), (5, 0)] [] D1 Φ
          refine r_iload d_L_isTree_108 rfl ?_
          refine r_sipush d_L_isTree_110 (by decide) ?_
          refine c_jn (fun J => ∀ (x10 : Int) (D13 : DD), WP (some .boolean) 0 Φ (J x10 D13) → Run Γ rg (κ + 2 * n + 1) Y_L_isTree 121 [(8, 0), (40, 0), (43, 0), (46, 0), (49, 0), (51, 0), (0, a6), (5, 0), (0, a8), (5, 0), (5, 0), (5, 0), (5, 0), (5, 0), (5, 0), (5, 0), (5, 0)] [(0, x10)] D13 Φ) h ?_ (fun J6 hJ6 h => ?_)
          · intro x10 D13 h
            show Run Γ rg (κ + 2 * n + 1) Y_L_isTree 121 [(8, 0), (40, 0), (43, 0), (46, 0), (49, 0), (51, 0), (0, a6), (5, 0), (0, a8), (5, 0), (5, 0), (5, 0), (5, 0), (5, 0), (5, 0), (5, 0), (5, 0)] [(0, x10)] D13 Φ
            refine r_istore d_L_isTree_121 (by decide) rfl ?_
            show Run Γ rg (κ + 2 * n + 1) Y_L_isTree 123 [(8, 0), (40, 0), (43, 0), (46, 0), (49, 0), (51, 0), (0, a6), (0, x10), (0, a8), (5, 0), (5, 0), (5, 0), (5, 0), (5, 0), (5, 0), (5, 0), (5, 0)] [] D13 Φ
            refine r_goto (tgt := 446) d_L_isTree_123 (by decide) ?_
            refine Run.mono (κ' := (κ + 2 * n)) (by omega) (fun _ _ h => h) ?_
            exact (hJ1 a6 x10 D13 h)
          refine c_icmp_ne (tgt := 120) d_L_isTree_113 (by decide) (nz_w _) (nz_k rfl) h (fun h => ?_) (fun h => ?_)
          · skip
            show Run Γ rg (κ + 2 * n + 1) Y_L_isTree 120 [(8, 0), (40, 0), (43, 0), (46, 0), (49, 0), (51, 0), (0, a6), (0, a7), (0, a8), (0, v1), (5, 0), (5, 0), (5, 0), (5, 0), (5, 0), (5, 0), (5, 0)] [] D1 Φ
            refine r_iconst d_L_isTree_120 ?_
            exact Run.forget (ls' := [(8, 0), (40, 0), (43, 0), (46, 0), (49, 0), (51, 0), (0, a6), (5, 0), (0, a8), (5, 0), (5, 0), (5, 0), (5, 0), (5, 0), (5, 0), (5, 0), (5, 0)]) ⟨Or.inr rfl, Or.inr rfl, Or.inr rfl, Or.inr rfl, Or.inr rfl, Or.inr rfl, Or.inr rfl, Or.inl rfl, Or.inr rfl, Or.inl rfl, Or.inr rfl, Or.inr rfl, Or.inr rfl, Or.inr rfl, Or.inr rfl, Or.inr rfl, Or.inr rfl, trivial⟩ (hJ6 0 D1 h)
          · skip
            show Run Γ rg (κ + 2 * n + 1) Y_L_isTree 116 [(8, 0), (40, 0), (43, 0), (46, 0), (49, 0), (51, 0), (0, a6), (0, a7), (0, a8), (0, v1), (5, 0), (5, 0), (5, 0), (5, 0), (5, 0), (5, 0), (5, 0)] [] D1 Φ
            refine r_iconst d_L_isTree_116 ?_
            refine r_goto (tgt := 121) d_L_isTree_117 (by decide) ?_
            exact Run.forget (ls' := [(8, 0), (40, 0), (43, 0), (46, 0), (49, 0), (51, 0), (0, a6), (5, 0), (0, a8), (5, 0), (5, 0), (5, 0), (5, 0), (5, 0), (5, 0), (5, 0), (5, 0)]) ⟨Or.inr rfl, Or.inr rfl, Or.inr rfl, Or.inr rfl, Or.inr rfl, Or.inr rfl, Or.inr rfl, Or.inl rfl, Or.inr rfl, Or.inl rfl, Or.inr rfl, Or.inr rfl, Or.inr rfl, Or.inr rfl, Or.inr rfl, Or.inr rfl, Or.inr rfl, trivial⟩ (hJ6 1 D1 h)
set_option maxRecDepth 20000 in
theorem run_pE_isTree_481 {Γ : GG} {rg : Nat → Bool} {κ : Nat} {Φ : OT → DD → Prop} (R : cov rg rg2) (a8 : Int) (c6 : Int) (c7 : Int) {K : Int → DD → Res} (hK : ∀ (z9 : Int) (D : DD), WP (some .boolean) 0 Φ (K z9 D) → Run Γ rg κ Y_L_isTree 530 [(8, 0), (40, 0), (43, 0), (46, 0), (49, 0), (5, 0), (0, c6), (0, c7), (0, a8), (0, z9), (5, 0), (5, 0), (5, 0), (5, 0), (5, 0), (5, 0), (5, 0)] [] D Φ) : ∀ (n : Nat) (a9 : Int) (a10 : Int) (D : DD), WP (some .boolean) 0 Φ (pE_isTree_481 a8 n a9 a10 D K) → Run Γ rg κ Y_L_isTree 481 [(8, 0), (40, 0), (43, 0), (46, 0), (49, 0), (5, 0), (0, c6), (0, c7), (0, a8), (0, a9), (0, a10), (5, 0), (5, 0), (5, 0), (5, 0), (5, 0), (5, 0)] [] D Φ := by
  intro n
  induction n with
  | zero => intro a9 a10 D h; exact h.no.elim
  | succ n ih =>
    intro a9 a10 D h
    rw [pE_isTree_481] at h
    show Run Γ rg κ Y_L_isTree 481 [(8, 0), (40, 0), (43, 0), (46, 0), (49, 0), (5, 0), (0, c6), (0, c7), (0, a8), (0, a9), (0, a10), (5, 0), (5, 0), (5, 0), (5, 0), (5, 0), (5, 0)] [] D Φ
    refine r_iload d_L_isTree_481 rfl ?_
    refine r_iload d_L_isTree_483 rfl ?_
    refine c_icmp_ge (tgt := 530) d_L_isTree_485 (by decide) (nz_w _) (nz_w _) h (fun h => ?_) (fun h => ?_)
    · skip
      exact Run.forget (ls' := [(8, 0), (40, 0), (43, 0), (46, 0), (49, 0), (5, 0), (0, c6), (0, c7), (0, a8), (0, a9), (5, 0), (5, 0), (5, 0), (5, 0), (5, 0), (5, 0), (5, 0)]) ⟨Or.inr rfl, Or.inr rfl, Or.inr rfl, Or.inr rfl, Or.inr rfl, Or.inr rfl, Or.inr rfl, Or.inr rfl, Or.inr rfl, Or.inr rfl, Or.inl rfl, Or.inr rfl, Or.inr rfl, Or.inr rfl, Or.inr rfl, Or.inr rfl, Or.inr rfl, trivial⟩ (hK a9 D h)
    · skip
      show Run Γ rg κ Y_L_isTree 488 [(8, 0), (40, 0), (43, 0), (46, 0), (49, 0), (5, 0), (0, c6), (0, c7), (0, a8), (0, a9), (0, a10), (5, 0), (5, 0), (5, 0), (5, 0), (5, 0), (5, 0)] [] D Φ
      refine r_iload d_L_isTree_488 rfl ?_
      refine c_jn (fun J => ∀ (x1 : Int) (D1 : DD), WP (some .boolean) 0 Φ (J x1 D1) → Run Γ rg κ Y_L_isTree 522 [(8, 0), (40, 0), (43, 0), (46, 0), (49, 0), (5, 0), (0, c6), (0, c7), (0, a8), (5, 0), (0, a10), (5, 0), (5, 0), (5, 0), (5, 0), (5, 0), (5, 0)] [(0, x1)] D1 Φ) h ?_ (fun J1 hJ1 h => ?_)
      · intro x1 D1 h
        show Run Γ rg κ Y_L_isTree 522 [(8, 0), (40, 0), (43, 0), (46, 0), (49, 0), (5, 0), (0, c6), (0, c7), (0, a8), (5, 0), (0, a10), (5, 0), (5, 0), (5, 0), (5, 0), (5, 0), (5, 0)] [(0, x1)] D1 Φ
        refine r_istore d_L_isTree_522 (by decide) rfl ?_
        show Run Γ rg κ Y_L_isTree 524 [(8, 0), (40, 0), (43, 0), (46, 0), (49, 0), (5, 0), (0, c6), (0, c7), (0, a8), (0, x1), (0, a10), (5, 0), (5, 0), (5, 0), (5, 0), (5, 0), (5, 0)] [] D1 Φ
        refine r_iinc d_L_isTree_524 rfl (by decide) rfl ?_
        show Run Γ rg κ Y_L_isTree 527 [(8, 0), (40, 0), (43, 0), (46, 0), (49, 0), (5, 0), (0, c6), (0, c7), (0, a8), (0, x1), (0, (a10 + 1)), (5, 0), (5, 0), (5, 0), (5, 0), (5, 0), (5, 0)] [] D1 Φ
        refine r_goto (tgt := 481) d_L_isTree_527 (by decide) ?_
        exact (ih x1 (a10 + 1) D1 h)
      refine c_jn (fun J => ∀ (D2 : DD), WP (some .boolean) 0 Φ (J D2) → Run Γ rg κ Y_L_isTree 521 [(8, 0), (40, 0), (43, 0), (46, 0), (49, 0), (5, 0), (0, c6), (0, c7), (0, a8), (5, 0), (0, a10), (5, 0), (5, 0), (5, 0), (5, 0), (5, 0), (5, 0)] [] D2 Φ) h ?_ (fun J2 hJ2 h => ?_)
      · intro D2 h
        show Run Γ rg κ Y_L_isTree 521 [(8, 0), (40, 0), (43, 0), (46, 0), (49, 0), (5, 0), (0, c6), (0, c7), (0, a8), (5, 0), (0, a10), (5, 0), (5, 0), (5, 0), (5, 0), (5, 0), (5, 0)] [] D2 Φ
        refine r_iconst d_L_isTree_521 ?_
        exact (hJ1 0 D2 h)
      refine c_if_eq (tgt := 521) d_L_isTree_490 (by decide) (nz_w _) h (fun h => ?_) (fun h => ?_)
      · skip
        exact Run.forget (ls' := [(8, 0), (40, 0), (43, 0), (46, 0), (49, 0), (5, 0), (0, c6), (0, c7), (0, a8), (5, 0), (0, a10), (5, 0), (5, 0), (5, 0), (5, 0), (5, 0), (5, 0)]) ⟨Or.inr rfl, Or.inr rfl, Or.inr rfl, Or.inr rfl, Or.inr rfl, Or.inr rfl, Or.inr rfl, Or.inr rfl, Or.inr rfl, Or.inl rfl, Or.inr rfl, Or.inr rfl, Or.inr rfl, Or.inr rfl, Or.inr rfl, Or.inr rfl, Or.inr rfl, trivial⟩ (hJ2 D h)
      · skip
        show Run Γ rg κ Y_L_isTree 493 [(8, 0), (40, 0), (43, 0), (46, 0), (49, 0), (5, 0), (0, c6), (0, c7), (0, a8), (0, a9), (0, a10), (5, 0), (5, 0), (5, 0), (5, 0), (5, 0), (5, 0)] [] D Φ
        refine r_aload_n d_L_isTree_493 rfl (by decide) ?_
        refine r_iload d_L_isTree_494 rfl ?_
        refine c_lald d_L_isTree_496 sh_32 (by decide) (R 32 rfl) (by decide) h (fun v1 h => ?_)
        refine c_lconst d_L_isTree_497 rfl ?_
        refine c_lcmp d_L_isTree_498 ?_
        refine c_jn (fun J => ∀ (D3 : DD), WP (some .boolean) 0 Φ (J D3) → Run Γ rg κ Y_L_isTree 517 [(8, 0), (40, 0), (43, 0), (46, 0), (49, 0), (5, 0), (0, c6), (0, c7), (0, a8), (5, 0), (0, a10), (5, 0), (5, 0), (5, 0), (5, 0), (5, 0), (5, 0)] [] D3 Φ) h ?_ (fun J3 hJ3 h => ?_)
        · intro D3 h
          show Run Γ rg κ Y_L_isTree 517 [(8, 0), (40, 0), (43, 0), (46, 0), (49, 0), (5, 0), (0, c6), (0, c7), (0, a8), (5, 0), (0, a10), (5, 0), (5, 0), (5, 0), (5, 0), (5, 0), (5, 0)] [] D3 Φ
          refine r_iconst d_L_isTree_517 ?_
          refine r_goto (tgt := 522) d_L_isTree_518 (by decide) ?_
          exact (hJ1 1 D3 h)
        refine c_if_eq (tgt := 517) d_L_isTree_499 (by decide) (nz_c _ _) h (fun h => ?_) (fun h => ?_)
        · skip
          exact Run.forget (ls' := [(8, 0), (40, 0), (43, 0), (46, 0), (49, 0), (5, 0), (0, c6), (0, c7), (0, a8), (5, 0), (0, a10), (5, 0), (5, 0), (5, 0), (5, 0), (5, 0), (5, 0)]) ⟨Or.inr rfl, Or.inr rfl, Or.inr rfl, Or.inr rfl, Or.inr rfl, Or.inr rfl, Or.inr rfl, Or.inr rfl, Or.inr rfl, Or.inl rfl, Or.inr rfl, Or.inr rfl, Or.inr rfl, Or.inr rfl, Or.inr rfl, Or.inr rfl, Or.inr rfl, trivial⟩ (hJ3 D h)
        · skip
          show Run Γ rg κ Y_L_isTree 502 [(8, 0), (40, 0), (43, 0), (46, 0), (49, 0), (5, 0), (0, c6), (0, c7), (0, a8), (0, a9), (0, a10), (5, 0), (5, 0), (5, 0), (5, 0), (5, 0), (5, 0)] [] D Φ
          refine r_aload_n d_L_isTree_502 rfl (by decide) ?_
          refine r_iload d_L_isTree_503 rfl ?_
          refine c_callSi0 (t' := (some .int)) (as := [(40, 0), (0, a10)]) (rest := []) (ls' := [(40, 0), (0, a10)]) d_L_isTree_505 ck_RL_105 rfl rfl rfl (Nat.le_of_ble_eq_true rfl) (Nat.le_of_ble_eq_true rfl) (by decide) rfl rfl (fun _ => rfl) (fun κ' Ψ hΨ => run_pE_rights R _ hΨ) h (fun v2 D4 h => ?_)
          show Run Γ rg κ Y_L_isTree 508 [(8, 0), (40, 0), (43, 0), (46, 0), (49, 0), (5, 0), (0, c6), (0, c7), (0, a8), (0, a9), (0, a10), (5, 0), (5, 0), (5, 0), (5, 0), (5, 0), (5, 0)] [(0, v2)] D4 Φ
          refine r_aload_n d_L_isTree_508 rfl (by decide) ?_
          refine r_iload d_L_isTree_509 rfl ?_
          refine c_callSi0 (t' := (some .int)) (as := [(40, 0), (0, a8)]) (rest := [(0, v2)]) (ls' := [(40, 0), (0, a8)]) d_L_isTree_511 ck_RL_105 rfl rfl rfl (Nat.le_of_ble_eq_true rfl) (Nat.le_of_ble_eq_true rfl) (by decide) rfl rfl (fun _ => rfl) (fun κ' Ψ hΨ => run_pE_rights R _ hΨ) h (fun v3 D5 h => ?_)
          show Run Γ rg κ Y_L_isTree 514 [(8, 0), (40, 0), (43, 0), (46, 0), (49, 0), (5, 0), (0, c6), (0, c7), (0, a8), (0, a9), (0, a10), (5, 0), (5, 0), (5, 0), (5, 0), (5, 0), (5, 0)] [(0, v3), (0, v2)] D5 Φ
          refine c_icmp_eq (tgt := 521) d_L_isTree_514 (by decide) (nz_w _) (nz_w _) h (fun h => ?_) (fun h => ?_)
          · skip
            exact Run.forget (ls' := [(8, 0), (40, 0), (43, 0), (46, 0), (49, 0), (5, 0), (0, c6), (0, c7), (0, a8), (5, 0), (0, a10), (5, 0), (5, 0), (5, 0), (5, 0), (5, 0), (5, 0)]) ⟨Or.inr rfl, Or.inr rfl, Or.inr rfl, Or.inr rfl, Or.inr rfl, Or.inr rfl, Or.inr rfl, Or.inr rfl, Or.inr rfl, Or.inl rfl, Or.inr rfl, Or.inr rfl, Or.inr rfl, Or.inr rfl, Or.inr rfl, Or.inr rfl, Or.inr rfl, trivial⟩ (hJ2 D5 h)
          · skip
            exact Run.forget (ls' := [(8, 0), (40, 0), (43, 0), (46, 0), (49, 0), (5, 0), (0, c6), (0, c7), (0, a8), (5, 0), (0, a10), (5, 0), (5, 0), (5, 0), (5, 0), (5, 0), (5, 0)]) ⟨Or.inr rfl, Or.inr rfl, Or.inr rfl, Or.inr rfl, Or.inr rfl, Or.inr rfl, Or.inr rfl, Or.inr rfl, Or.inr rfl, Or.inl rfl, Or.inr rfl, Or.inr rfl, Or.inr rfl, Or.inr rfl, Or.inr rfl, Or.inr rfl, Or.inr rfl, trivial⟩ (hJ3 D5 h)
set_option maxRecDepth 20000 in
theorem run_pE_isTree_455 {Γ : GG} {rg : Nat → Bool} {κ : Nat} {Φ : OT → DD → Prop} (R : cov rg rg2) (c7 : Int) {K : Int → DD → Res} (hK : ∀ (z6 : Int) (D : DD), WP (some .boolean) 0 Φ (K z6 D) → Run Γ rg κ Y_L_isTree 551 [(8, 0), (5, 0), (43, 0), (46, 0), (49, 0), (5, 0), (0, z6), (0, c7), (5, 0), (5, 0), (5, 0), (5, 0), (5, 0), (5, 0), (5, 0), (5, 0), (5, 0)] [] D Φ) : ∀ (n : Nat) (a6 : Int) (a8 : Int) (D : DD), WP (some .boolean) 0 Φ (pE_isTree_455 n a6 a8 D K) → Run Γ rg κ Y_L_isTree 455 [(8, 0), (40, 0), (43, 0), (46, 0), (49, 0), (5, 0), (0, a6), (0, c7), (0, a8), (5, 0), (5, 0), (5, 0), (5, 0), (5, 0), (5, 0), (5, 0), (5, 0)] [] D Φ := by
  intro n
  induction n with
  | zero => intro a6 a8 D h; exact h.no.elim
  | succ n ih =>
    intro a6 a8 D h
    rw [pE_isTree_455] at h
    show Run Γ rg κ Y_L_isTree 455 [(8, 0), (40, 0), (43, 0), (46, 0), (49, 0), (5, 0), (0, a6), (0, c7), (0, a8), (5, 0), (5, 0), (5, 0), (5, 0), (5, 0), (5, 0), (5, 0), (5, 0)] [] D Φ
    refine r_iload d_L_isTree_455 rfl ?_
    refine r_bipush d_L_isTree_457 (by decide) ?_
    refine c_icmp_ge (tgt := 551) d_L_isTree_459 (by decide) (nz_w _) (nz_k rfl) h (fun h => ?_) (fun h => ?_)
    · skip
      exact Run.forget (ls' := [(8, 0), (5, 0), (43, 0), (46, 0), (49, 0), (5, 0), (0, a6), (0, c7), (5, 0), (5, 0), (5, 0), (5, 0), (5, 0), (5, 0), (5, 0), (5, 0), (5, 0)]) ⟨Or.inr rfl, Or.inl rfl, Or.inr rfl, Or.inr rfl, Or.inr rfl, Or.inr rfl, Or.inr rfl, Or.inr rfl, Or.inl rfl, Or.inr rfl, Or.inr rfl, Or.inr rfl, Or.inr rfl, Or.inr rfl, Or.inr rfl, Or.inr rfl, Or.inr rfl, trivial⟩ (hK a6 D h)
    · skip
      show Run Γ rg κ Y_L_isTree 462 [(8, 0), (40, 0), (43, 0), (46, 0), (49, 0), (5, 0), (0, a6), (0, c7), (0, a8), (5, 0), (5, 0), (5, 0), (5, 0), (5, 0), (5, 0), (5, 0), (5, 0)] [] D Φ
      refine r_aload_n d_L_isTree_462 rfl (by decide) ?_
      refine r_iload d_L_isTree_463 rfl ?_
      refine c_lald d_L_isTree_465 sh_32 (by decide) (R 32 rfl) (by decide) h (fun v1 h => ?_)
      refine c_lconst d_L_isTree_466 rfl ?_
      refine c_lcmp d_L_isTree_467 ?_
      refine c_jn (fun J => ∀ (x1 : Int) (D1 : DD), WP (some .boolean) 0 Φ (J x1 D1) → Run Γ rg κ Y_L_isTree 476 [(8, 0), (40, 0), (43, 0), (46, 0), (49, 0), (5, 0), (0, a6), (0, c7), (0, a8), (5, 0), (5, 0), (5, 0), (5, 0), (5, 0), (5, 0), (5, 0), (5, 0)] [(0, x1)] D1 Φ) h ?_ (fun J1 hJ1 h => ?_)
      · intro x1 D1 h
        show Run Γ rg κ Y_L_isTree 476 [(8, 0), (40, 0), (43, 0), (46, 0), (49, 0), (5, 0), (0, a6), (0, c7), (0, a8), (5, 0), (5, 0), (5, 0), (5, 0), (5, 0), (5, 0), (5, 0), (5, 0)] [(0, x1)] D1 Φ
        refine r_istore d_L_isTree_476 (by decide) rfl ?_
        show Run Γ rg κ Y_L_isTree 478 [(8, 0), (40, 0), (43, 0), (46, 0), (49, 0), (5, 0), (0, a6), (0, c7), (0, a8), (0, x1), (5, 0), (5, 0), (5, 0), (5, 0), (5, 0), (5, 0), (5, 0)] [] D1 Φ
        refine r_iconst d_L_isTree_478 ?_
        refine r_istore d_L_isTree_479 (by decide) rfl ?_
        show Run Γ rg κ Y_L_isTree 481 [(8, 0), (40, 0), (43, 0), (46, 0), (49, 0), (5, 0), (0, a6), (0, c7), (0, a8), (0, x1), (0, 0), (5, 0), (5, 0), (5, 0), (5, 0), (5, 0), (5, 0)] [] D1 Φ
        refine run_pE_isTree_481 R a8 a6 c7 ?_ 64 x1 0 D1 h
        intro x2 D2 h
        show Run Γ rg κ Y_L_isTree 530 [(8, 0), (40, 0), (43, 0), (46, 0), (49, 0), (5, 0), (0, a6), (0, c7), (0, a8), (0, x2), (5, 0), (5, 0), (5, 0), (5, 0), (5, 0), (5, 0), (5, 0)] [] D2 Φ
        refine r_iload d_L_isTree_530 rfl ?_
        refine r_iload d_L_isTree_532 rfl ?_
        refine c_jn (fun J => ∀ (x3 : Int) (D3 : DD), WP (some .boolean) 0 Φ (J x3 D3) → Run Γ rg κ Y_L_isTree 542 [(8, 0), (40, 0), (43, 0), (46, 0), (49, 0), (5, 0), (5, 0), (0, c7), (0, a8), (5, 0), (5, 0), (5, 0), (5, 0), (5, 0), (5, 0), (5, 0), (5, 0)] [(0, x3), (0, a6)] D3 Φ) h ?_ (fun J2 hJ2 h => ?_)
        · intro x3 D3 h
          show Run Γ rg κ Y_L_isTree 542 [(8, 0), (40, 0), (43, 0), (46, 0), (49, 0), (5, 0), (5, 0), (0, c7), (0, a8), (5, 0), (5, 0), (5, 0), (5, 0), (5, 0), (5, 0), (5, 0), (5, 0)] [(0, x3), (0, a6)] D3 Φ
          refine r_iadd d_L_isTree_542 ?_
          refine c_lt d_L_isTree_543 (by decide) rfl h (fun x4 h => ?_)
          show Run Γ rg κ Y_L_isTree 545 [(8, 0), (40, 0), (43, 0), (46, 0), (49, 0), (5, 0), (0, x4), (0, c7), (0, a8), (5, 0), (5, 0), (5, 0), (5, 0), (5, 0), (5, 0), (5, 0), (5, 0)] [] D3 Φ
          refine r_iinc d_L_isTree_545 rfl (by decide) rfl ?_
          show Run Γ rg κ Y_L_isTree 548 [(8, 0), (40, 0), (43, 0), (46, 0), (49, 0), (5, 0), (0, x4), (0, c7), (0, (a8 + 1)), (5, 0), (5, 0), (5, 0), (5, 0), (5, 0), (5, 0), (5, 0), (5, 0)] [] D3 Φ
          refine r_goto (tgt := 455) d_L_isTree_548 (by decide) ?_
          exact (ih x4 (a8 + 1) D3 h)
        refine c_if_eq (tgt := 541) d_L_isTree_534 (by decide) (nz_w _) h (fun h => ?_) (fun h => ?_)
        · skip
          show Run Γ rg κ Y_L_isTree 541 [(8, 0), (40, 0), (43, 0), (46, 0), (49, 0), (5, 0), (0, a6), (0, c7), (0, a8), (0, x2), (5, 0), (5, 0), (5, 0), (5, 0), (5, 0), (5, 0), (5, 0)] [(0, a6)] D2 Φ
          refine r_iconst d_L_isTree_541 ?_
          exact Run.forget (ls' := [(8, 0), (40, 0), (43, 0), (46, 0), (49, 0), (5, 0), (5, 0), (0, c7), (0, a8), (5, 0), (5, 0), (5, 0), (5, 0), (5, 0), (5, 0), (5, 0), (5, 0)]) ⟨Or.inr rfl, Or.inr rfl, Or.inr rfl, Or.inr rfl, Or.inr rfl, Or.inr rfl, Or.inl rfl, Or.inr rfl, Or.inr rfl, Or.inl rfl, Or.inr rfl, Or.inr rfl, Or.inr rfl, Or.inr rfl, Or.inr rfl, Or.inr rfl, Or.inr rfl, trivial⟩ (hJ2 0 D2 h)
        · skip
          show Run Γ rg κ Y_L_isTree 537 [(8, 0), (40, 0), (43, 0), (46, 0), (49, 0), (5, 0), (0, a6), (0, c7), (0, a8), (0, x2), (5, 0), (5, 0), (5, 0), (5, 0), (5, 0), (5, 0), (5, 0)] [(0, a6)] D2 Φ
          refine r_iconst d_L_isTree_537 ?_
          refine r_goto (tgt := 542) d_L_isTree_538 (by decide) ?_
          exact Run.forget (ls' := [(8, 0), (40, 0), (43, 0), (46, 0), (49, 0), (5, 0), (5, 0), (0, c7), (0, a8), (5, 0), (5, 0), (5, 0), (5, 0), (5, 0), (5, 0), (5, 0), (5, 0)]) ⟨Or.inr rfl, Or.inr rfl, Or.inr rfl, Or.inr rfl, Or.inr rfl, Or.inr rfl, Or.inl rfl, Or.inr rfl, Or.inr rfl, Or.inl rfl, Or.inr rfl, Or.inr rfl, Or.inr rfl, Or.inr rfl, Or.inr rfl, Or.inr rfl, Or.inr rfl, trivial⟩ (hJ2 2 D2 h)
      refine c_if_le (tgt := 475) d_L_isTree_468 (by decide) (nz_c _ _) h (fun h => ?_) (fun h => ?_)
      · skip
        show Run Γ rg κ Y_L_isTree 475 [(8, 0), (40, 0), (43, 0), (46, 0), (49, 0), (5, 0), (0, a6), (0, c7), (0, a8), (5, 0), (5, 0), (5, 0), (5, 0), (5, 0), (5, 0), (5, 0), (5, 0)] [] D Φ
        refine r_iconst d_L_isTree_475 ?_
        exact (hJ1 0 D h)
      · skip
        show Run Γ rg κ Y_L_isTree 471 [(8, 0), (40, 0), (43, 0), (46, 0), (49, 0), (5, 0), (0, a6), (0, c7), (0, a8), (5, 0), (5, 0), (5, 0), (5, 0), (5, 0), (5, 0), (5, 0), (5, 0)] [] D Φ
        refine r_iconst d_L_isTree_471 ?_
        refine r_goto (tgt := 476) d_L_isTree_472 (by decide) ?_
        exact (hJ1 1 D h)
set_option maxRecDepth 20000 in
theorem run_pE_isTree_554 {Γ : GG} {rg : Nat → Bool} {κ : Nat} {Φ : OT → DD → Prop} (R : cov rg rg2) {K : Int → Int → DD → Res} (hK : ∀ (z6 : Int) (z7 : Int) (D : DD), WP (some .boolean) 0 Φ (K z6 z7 D) → Run Γ rg κ Y_L_isTree 680 [(8, 0), (5, 0), (5, 0), (5, 0), (5, 0), (5, 0), (0, z6), (0, z7), (5, 0), (5, 0), (5, 0), (5, 0), (5, 0), (5, 0), (5, 0), (5, 0), (5, 0)] [] D Φ) : ∀ (n : Nat) (a6 : Int) (a7 : Int) (a8 : Int) (D : DD), WP (some .boolean) 0 Φ (pE_isTree_554 n a6 a7 a8 D K) → Run Γ rg (κ + 1 * n) Y_L_isTree 554 [(8, 0), (5, 0), (43, 0), (46, 0), (49, 0), (5, 0), (0, a6), (0, a7), (0, a8), (5, 0), (5, 0), (5, 0), (5, 0), (5, 0), (5, 0), (5, 0), (5, 0)] [] D Φ := by
  intro n
  induction n with
  | zero => intro a6 a7 a8 D h; exact h.no.elim
  | succ n ih =>
    intro a6 a7 a8 D h
    rw [pE_isTree_554] at h
    rw [show κ + 1 * (n + 1) = κ + 1 * n + 1 by omega]
    show Run Γ rg (κ + 1 * n + 1) Y_L_isTree 554 [(8, 0), (5, 0), (43, 0), (46, 0), (49, 0), (5, 0), (0, a6), (0, a7), (0, a8), (5, 0), (5, 0), (5, 0), (5, 0), (5, 0), (5, 0), (5, 0), (5, 0)] [] D Φ
    refine r_iload d_L_isTree_554 rfl ?_
    refine r_aload d_L_isTree_556 rfl (by decide) ?_
    refine r_iconst d_L_isTree_558 ?_
    refine c_iald0 (k := 1) d_L_isTree_559 sh_41 (by decide) (R 41 rfl) (by decide) rfl (by decide) ?_
    refine c_icmp_ge (tgt := 680) d_L_isTree_560 (by decide) (nz_w _) (nz_w _) h (fun h => ?_) (fun h => ?_)
    · skip
      refine Run.mono (κ' := κ) (by omega) (fun _ _ h => h) ?_
      exact Run.forget (ls' := [(8, 0), (5, 0), (5, 0), (5, 0), (5, 0), (5, 0), (0, a6), (0, a7), (5, 0), (5, 0), (5, 0), (5, 0), (5, 0), (5, 0), (5, 0), (5, 0), (5, 0)]) ⟨Or.inr rfl, Or.inr rfl, Or.inl rfl, Or.inl rfl, Or.inl rfl, Or.inr rfl, Or.inr rfl, Or.inr rfl, Or.inl rfl, Or.inr rfl, Or.inr rfl, Or.inr rfl, Or.inr rfl, Or.inr rfl, Or.inr rfl, Or.inr rfl, Or.inr rfl, trivial⟩ (hK a6 a7 D h)
    · skip
      show Run Γ rg (κ + 1 * n + 1) Y_L_isTree 563 [(8, 0), (5, 0), (43, 0), (46, 0), (49, 0), (5, 0), (0, a6), (0, a7), (0, a8), (5, 0), (5, 0), (5, 0), (5, 0), (5, 0), (5, 0), (5, 0), (5, 0)] [] D Φ
      refine r_iload d_L_isTree_563 rfl ?_
      refine c_if_eq (tgt := 680) d_L_isTree_565 (by decide) (nz_w _) h (fun h => ?_) (fun h => ?_)
      · skip
        refine Run.mono (κ' := κ) (by omega) (fun _ _ h => h) ?_
        exact Run.forget (ls' := [(8, 0), (5, 0), (5, 0), (5, 0), (5, 0), (5, 0), (0, a6), (0, a7), (5, 0), (5, 0), (5, 0), (5, 0), (5, 0), (5, 0), (5, 0), (5, 0), (5, 0)]) ⟨Or.inr rfl, Or.inr rfl, Or.inl rfl, Or.inl rfl, Or.inl rfl, Or.inr rfl, Or.inr rfl, Or.inr rfl, Or.inl rfl, Or.inr rfl, Or.inr rfl, Or.inr rfl, Or.inr rfl, Or.inr rfl, Or.inr rfl, Or.inr rfl, Or.inr rfl, trivial⟩ (hK a6 a7 D h)
      · skip
        show Run Γ rg (κ + 1 * n + 1) Y_L_isTree 568 [(8, 0), (5, 0), (43, 0), (46, 0), (49, 0), (5, 0), (0, a6), (0, a7), (0, a8), (5, 0), (5, 0), (5, 0), (5, 0), (5, 0), (5, 0), (5, 0), (5, 0)] [] D Φ
        refine r_aload_n d_L_isTree_568 rfl (by decide) ?_
        refine r_iload d_L_isTree_569 rfl ?_
        refine c_lald d_L_isTree_571 sh_35 (by decide) (R 35 rfl) (by decide) h (fun v1 h => ?_)
        refine r_ldc2 d_L_isTree_572 kl_RL_84 ?_
        refine c_lrem d_L_isTree_575 (by decide) (by decide) ?_
        refine r_l2i d_L_isTree_576 ?_
        refine c_lt d_L_isTree_577 (by decide) rfl h (fun x1 h => ?_)
        show Run Γ rg (κ + 1 * n + 1) Y_L_isTree 579 [(8, 0), (5, 0), (43, 0), (46, 0), (49, 0), (5, 0), (0, a6), (0, a7), (0, a8), (0, x1), (5, 0), (5, 0), (5, 0), (5, 0), (5, 0), (5, 0), (5, 0)] [] D Φ
        refine r_aload_n d_L_isTree_579 rfl (by decide) ?_
        refine r_iload d_L_isTree_580 rfl ?_
        refine c_lald d_L_isTree_582 sh_35 (by decide) (R 35 rfl) (by decide) h (fun v2 h => ?_)
        refine r_ldc2 d_L_isTree_583 kl_RL_84 ?_
        show Run Γ rg (κ + 1 * n + 1) Y_L_isTree 586 [(8, 0), (5, 0), (43, 0), (46, 0), (49, 0), (5, 0), (0, a6), (0, a7), (0, a8), (0, x1), (5, 0), (5, 0), (5, 0), (5, 0), (5, 0), (5, 0), (5, 0)] [(1, 64), (1, v2)] D Φ
        refine c_ldiv d_L_isTree_586 (by decide) (by decide) ?_
        refine r_ldc2 d_L_isTree_587 kl_RL_137 ?_
        refine c_lrem d_L_isTree_590 (by decide) (by decide) ?_
        refine r_l2i d_L_isTree_591 ?_
        refine c_lt d_L_isTree_592 (by decide) rfl h (fun x2 h => ?_)
        show Run Γ rg (κ + 1 * n + 1) Y_L_isTree 594 [(8, 0), (5, 0), (43, 0), (46, 0), (49, 0), (5, 0), (0, a6), (0, a7), (0, a8), (0, x1), (0, x2), (5, 0), (5, 0), (5, 0), (5, 0), (5, 0), (5, 0)] [] D Φ
        refine r_aload_n d_L_isTree_594 rfl (by decide) ?_
        refine r_iload d_L_isTree_595 rfl ?_
        refine c_lald d_L_isTree_597 sh_35 (by decide) (R 35 rfl) (by decide) h (fun v3 h => ?_)
        refine r_ldc2 d_L_isTree_598 kl_RL_94 ?_
        refine c_ldiv d_L_isTree_601 (by decide) (by decide) ?_
        refine r_l2i d_L_isTree_602 ?_
        refine c_lt d_L_isTree_603 (by decide) rfl h (fun x3 h => ?_)
        show Run Γ rg (κ + 1 * n + 1) Y_L_isTree 605 [(8, 0), (5, 0), (43, 0), (46, 0), (49, 0), (5, 0), (0, a6), (0, a7), (0, a8), (0, x1), (0, x2), (0, x3), (5, 0), (5, 0), (5, 0), (5, 0), (5, 0)] [] D Φ
        show Run Γ rg (κ + 1 * n + 1) Y_L_isTree 605 [(8, 0), (5, 0), (43, 0), (46, 0), (49, 0), (5, 0), (0, a6), (0, a7), (0, a8), (0, x1), (0, x2), (0, x3), (5, 0), (5, 0), (5, 0), (5, 0), (5, 0)] [] D Φ
        refine r_iload d_L_isTree_605 rfl ?_
        refine r_iload d_L_isTree_607 rfl ?_
        refine c_callSPi (as := [(0, x3)]) (rest := [(0, a6)]) (ls' := [(0, x3)]) d_L_isTree_609 ck_RL_139 rfl rfl rfl (Nat.le_of_ble_eq_true rfl) (Nat.le_of_ble_eq_true rfl) (by decide) rfl rfl (fun Ψ hΨ => run_pE_size R _ rfl hΨ) ?_
        show Run Γ rg (κ + 1 * n + 1) Y_L_isTree 612 [(8, 0), (5, 0), (43, 0), (46, 0), (49, 0), (5, 0), (0, a6), (0, a7), (0, a8), (0, x1), (0, x2), (0, x3), (5, 0), (5, 0), (5, 0), (5, 0), (5, 0)] [(0, (pE_size x3)), (0, a6)] D Φ
        refine r_iadd d_L_isTree_612 ?_
        refine c_lt d_L_isTree_613 (by decide) rfl h (fun x4 h => ?_)
        show Run Γ rg (κ + 1 * n + 1) Y_L_isTree 615 [(8, 0), (5, 0), (43, 0), (46, 0), (49, 0), (5, 0), (0, x4), (0, a7), (0, a8), (0, x1), (0, x2), (0, x3), (5, 0), (5, 0), (5, 0), (5, 0), (5, 0)] [] D Φ
        refine r_iload d_L_isTree_615 rfl ?_
        refine c_jn (fun J => ∀ (x5 : Int) (D1 : DD), WP (some .boolean) 0 Φ (J x5 D1) → Run Γ rg (κ + 1 * n) Y_L_isTree 672 [(8, 0), (5, 0), (43, 0), (46, 0), (49, 0), (5, 0), (0, x4), (5, 0), (0, a8), (5, 0), (5, 0), (5, 0), (5, 0), (5, 0), (5, 0), (5, 0), (5, 0)] [(0, x5)] D1 Φ) h ?_ (fun J1 hJ1 h => ?_)
        · intro x5 D1 h
          show Run Γ rg (κ + 1 * n) Y_L_isTree 672 [(8, 0), (5, 0), (43, 0), (46, 0), (49, 0), (5, 0), (0, x4), (5, 0), (0, a8), (5, 0), (5, 0), (5, 0), (5, 0), (5, 0), (5, 0), (5, 0), (5, 0)] [(0, x5)] D1 Φ
          refine r_istore d_L_isTree_672 (by decide) rfl ?_
          show Run Γ rg (κ + 1 * n) Y_L_isTree 674 [(8, 0), (5, 0), (43, 0), (46, 0), (49, 0), (5, 0), (0, x4), (0, x5), (0, a8), (5, 0), (5, 0), (5, 0), (5, 0), (5, 0), (5, 0), (5, 0), (5, 0)] [] D1 Φ
          refine r_iinc d_L_isTree_674 rfl (by decide) rfl ?_
          show Run Γ rg (κ + 1 * n) Y_L_isTree 677 [(8, 0), (5, 0), (43, 0), (46, 0), (49, 0), (5, 0), (0, x4), (0, x5), (0, (a8 + 1)), (5, 0), (5, 0), (5, 0), (5, 0), (5, 0), (5, 0), (5, 0), (5, 0)] [] D1 Φ
          refine r_goto (tgt := 554) d_L_isTree_677 (by decide) ?_
          exact (ih x4 x5 (a8 + 1) D1 h)
        refine c_jn (fun J => ∀ (D2 : DD), WP (some .boolean) 0 Φ (J D2) → Run Γ rg (κ + 1 * n) Y_L_isTree 671 [(8, 0), (5, 0), (43, 0), (46, 0), (49, 0), (5, 0), (0, x4), (5, 0), (0, a8), (5, 0), (5, 0), (5, 0), (5, 0), (5, 0), (5, 0), (5, 0), (5, 0)] [] D2 Φ) h ?_ (fun J2 hJ2 h => ?_)
        · intro D2 h
          show Run Γ rg (κ + 1 * n) Y_L_isTree 671 [(8, 0), (5, 0), (43, 0), (46, 0), (49, 0), (5, 0), (0, x4), (5, 0), (0, a8), (5, 0), (5, 0), (5, 0), (5, 0), (5, 0), (5, 0), (5, 0), (5, 0)] [] D2 Φ
          refine r_iconst d_L_isTree_671 ?_
          exact (hJ1 0 D2 h)
        refine c_jn (fun J => ∀ (D3 : DD), WP (some .boolean) 0 Φ (J D3) → Run Γ rg (κ + 1 * n + 1) Y_L_isTree 650 [(8, 0), (5, 0), (43, 0), (46, 0), (49, 0), (5, 0), (0, x4), (5, 0), (0, a8), (0, x1), (0, x2), (0, x3), (5, 0), (5, 0), (5, 0), (5, 0), (5, 0)] [] D3 Φ) h ?_ (fun J3 hJ3 h => ?_)
        · intro D3 h
          show Run Γ rg (κ + 1 * n + 1) Y_L_isTree 650 [(8, 0), (5, 0), (43, 0), (46, 0), (49, 0), (5, 0), (0, x4), (5, 0), (0, a8), (0, x1), (0, x2), (0, x3), (5, 0), (5, 0), (5, 0), (5, 0), (5, 0)] [] D3 Φ
          refine r_aload_n d_L_isTree_650 rfl (by decide) ?_
          refine r_iconst d_L_isTree_651 ?_
          refine r_iload d_L_isTree_652 rfl ?_
          refine r_iload d_L_isTree_654 rfl ?_
          refine r_iload d_L_isTree_656 rfl ?_
          refine c_callHi (as := [(8, 0), (0, 4), (0, x1), (0, x2), (0, x3)]) (rest := []) (ls' := [(8, 0), (0, 4), (0, x1), (0, x2), (0, x3), (5, 0)]) d_L_isTree_658 ck_RL_113 rfl rfl rfl (Nat.le_of_ble_eq_true rfl) (Nat.le_of_ble_eq_true rfl) (by decide) rfl rfl (fun Ψ hΨ => run_pE_asks (κ := 0) R _ _ _ _ hΨ) h (fun v4 D4 h => ?_)
          show Run Γ rg (κ + 1 * n) Y_L_isTree 661 [(8, 0), (5, 0), (43, 0), (46, 0), (49, 0), (5, 0), (0, x4), (5, 0), (0, a8), (0, x1), (0, x2), (0, x3), (5, 0), (5, 0), (5, 0), (5, 0), (5, 0)] [(0, v4)] D4 Φ
          refine r_sipush d_L_isTree_661 (by decide) ?_
          refine c_icmp_ne (tgt := 671) d_L_isTree_664 (by decide) (nz_w _) (nz_k rfl) h (fun h => ?_) (fun h => ?_)
          · skip
            exact Run.forget (ls' := [(8, 0), (5, 0), (43, 0), (46, 0), (49, 0), (5, 0), (0, x4), (5, 0), (0, a8), (5, 0), (5, 0), (5, 0), (5, 0), (5, 0), (5, 0), (5, 0), (5, 0)]) ⟨Or.inr rfl, Or.inr rfl, Or.inr rfl, Or.inr rfl, Or.inr rfl, Or.inr rfl, Or.inr rfl, Or.inr rfl, Or.inr rfl, Or.inl rfl, Or.inl rfl, Or.inl rfl, Or.inr rfl, Or.inr rfl, Or.inr rfl, Or.inr rfl, Or.inr rfl, trivial⟩ (hJ2 D4 h)
          · skip
            show Run Γ rg (κ + 1 * n) Y_L_isTree 667 [(8, 0), (5, 0), (43, 0), (46, 0), (49, 0), (5, 0), (0, x4), (5, 0), (0, a8), (0, x1), (0, x2), (0, x3), (5, 0), (5, 0), (5, 0), (5, 0), (5, 0)] [] D4 Φ
            refine r_iconst d_L_isTree_667 ?_
            refine r_goto (tgt := 672) d_L_isTree_668 (by decide) ?_
            exact Run.forget (ls' := [(8, 0), (5, 0), (43, 0), (46, 0), (49, 0), (5, 0), (0, x4), (5, 0), (0, a8), (5, 0), (5, 0), (5, 0), (5, 0), (5, 0), (5, 0), (5, 0), (5, 0)]) ⟨Or.inr rfl, Or.inr rfl, Or.inr rfl, Or.inr rfl, Or.inr rfl, Or.inr rfl, Or.inr rfl, Or.inr rfl, Or.inr rfl, Or.inl rfl, Or.inl rfl, Or.inl rfl, Or.inr rfl, Or.inr rfl, Or.inr rfl, Or.inr rfl, Or.inr rfl, trivial⟩ (hJ1 1 D4 h)
        refine c_if_eq (tgt := 650) d_L_isTree_617 (by decide) (nz_w _) h (fun h => ?_) (fun h => ?_)
        · skip
          exact Run.forget (ls' := [(8, 0), (5, 0), (43, 0), (46, 0), (49, 0), (5, 0), (0, x4), (5, 0), (0, a8), (0, x1), (0, x2), (0, x3), (5, 0), (5, 0), (5, 0), (5, 0), (5, 0)]) ⟨Or.inr rfl, Or.inr rfl, Or.inr rfl, Or.inr rfl, Or.inr rfl, Or.inr rfl, Or.inr rfl, Or.inl rfl, Or.inr rfl, Or.inr rfl, Or.inr rfl, Or.inr rfl, Or.inr rfl, Or.inr rfl, Or.inr rfl, Or.inr rfl, Or.inr rfl, trivial⟩ (hJ3 D h)
        · skip
          show Run Γ rg (κ + 1 * n + 1) Y_L_isTree 620 [(8, 0), (5, 0), (43, 0), (46, 0), (49, 0), (5, 0), (0, x4), (0, a7), (0, a8), (0, x1), (0, x2), (0, x3), (5, 0), (5, 0), (5, 0), (5, 0), (5, 0)] [] D Φ
          refine r_aload_n d_L_isTree_620 rfl (by decide) ?_
          refine r_iload d_L_isTree_621 rfl ?_
          refine r_iload d_L_isTree_623 rfl ?_
          refine r_iload d_L_isTree_625 rfl ?_
          refine r_iconst d_L_isTree_627 ?_
          refine r_isub d_L_isTree_628 ?_
          refine c_callVi0 (t' := (some .int)) (a := 0) (z := 0) (as := [(0, x1), (0, x2), (0, (x3 - 1))]) (rest := []) (ls' := [(8, 0), (0, x1), (0, x2), (0, (x3 - 1)), (5, 0)]) d_L_isTree_629 ck_RL_67 rfl sh_0 rfl (by decide) (R 0 rfl) rfl rfl (Nat.le_of_ble_eq_true rfl) (Nat.le_of_ble_eq_true rfl) (by decide) rfl rfl (fun _ => rfl) (fun κ' Ψ hΨ => run_pH_unit (cov20 R) _ _ _ hΨ) h (fun v5 D5 h => ?_)
          show Run Γ rg (κ + 1 * n + 1) Y_L_isTree 632 [(8, 0), (5, 0), (43, 0), (46, 0), (49, 0), (5, 0), (0, x4), (0, a7), (0, a8), (0, x1), (0, x2), (0, x3), (5, 0), (5, 0), (5, 0), (5, 0), (5, 0)] [(0, v5)] D5 Φ
          refine r_bipush d_L_isTree_632 (by decide) ?_
          refine r_aload_n d_L_isTree_634 rfl (by decide) ?_
          refine r_iload d_L_isTree_635 rfl ?_
          refine c_iald d_L_isTree_637 sh_38 (by decide) (R 38 rfl) (by decide) h (fun v6 h => ?_)
          show Run Γ rg (κ + 1 * n + 1) Y_L_isTree 638 [(8, 0), (5, 0), (43, 0), (46, 0), (49, 0), (5, 0), (0, x4), (0, a7), (0, a8), (0, x1), (0, x2), (0, x3), (5, 0), (5, 0), (5, 0), (5, 0), (5, 0)] [(0, v6), (0, 31), (0, v5)] D5 Φ
          refine r_imul d_L_isTree_638 ?_
          refine r_bipush d_L_isTree_639 (by decide) ?_
          refine r_iload d_L_isTree_641 rfl ?_
          refine r_iconst d_L_isTree_643 ?_
          refine r_isub d_L_isTree_644 ?_
          refine r_imul d_L_isTree_645 ?_
          refine r_iadd d_L_isTree_646 ?_
          refine c_icmp_ne (tgt := 671) d_L_isTree_647 (by decide) (nz_w _) (nz_w _) h (fun h => ?_) (fun h => ?_)
          · skip
            refine Run.mono (κ' := (κ + 1 * n)) (by omega) (fun _ _ h => h) ?_
            exact Run.forget (ls' := [(8, 0), (5, 0), (43, 0), (46, 0), (49, 0), (5, 0), (0, x4), (5, 0), (0, a8), (5, 0), (5, 0), (5, 0), (5, 0), (5, 0), (5, 0), (5, 0), (5, 0)]) ⟨Or.inr rfl, Or.inr rfl, Or.inr rfl, Or.inr rfl, Or.inr rfl, Or.inr rfl, Or.inr rfl, Or.inl rfl, Or.inr rfl, Or.inl rfl, Or.inl rfl, Or.inl rfl, Or.inr rfl, Or.inr rfl, Or.inr rfl, Or.inr rfl, Or.inr rfl, trivial⟩ (hJ2 D5 h)
          · skip
            exact Run.forget (ls' := [(8, 0), (5, 0), (43, 0), (46, 0), (49, 0), (5, 0), (0, x4), (5, 0), (0, a8), (0, x1), (0, x2), (0, x3), (5, 0), (5, 0), (5, 0), (5, 0), (5, 0)]) ⟨Or.inr rfl, Or.inr rfl, Or.inr rfl, Or.inr rfl, Or.inr rfl, Or.inr rfl, Or.inr rfl, Or.inl rfl, Or.inr rfl, Or.inr rfl, Or.inr rfl, Or.inr rfl, Or.inr rfl, Or.inr rfl, Or.inr rfl, Or.inr rfl, Or.inr rfl, trivial⟩ (hJ3 D5 h)
set_option maxRecDepth 20000 in
theorem run_pE_isTree {Γ : GG} {rg : Nat → Bool} {κ : Nat} {Φ : OT → DD → Prop} (R : cov rg rg2) {D : DD} (h : WP (some .boolean) 0 Φ (pE_isTree D)) : Run Γ rg (0 + 196) Y_L_isTree 0 [(8, 0), (40, 0), (43, 0), (46, 0), (49, 0), (51, 0), (5, 0), (5, 0), (5, 0), (5, 0), (5, 0), (5, 0), (5, 0), (5, 0), (5, 0), (5, 0), (5, 0)] [] D Φ := by
  unfold pE_isTree at h
  show Run Γ rg (0 + 196) Y_L_isTree 0 [(8, 0), (40, 0), (43, 0), (46, 0), (49, 0), (51, 0), (5, 0), (5, 0), (5, 0), (5, 0), (5, 0), (5, 0), (5, 0), (5, 0), (5, 0), (5, 0), (5, 0)] [] D Φ
  refine r_iconst d_L_isTree_0 ?_
  refine r_istore d_L_isTree_1 (by decide) rfl ?_
  show Run Γ rg (0 + 196) Y_L_isTree 3 [(8, 0), (40, 0), (43, 0), (46, 0), (49, 0), (51, 0), (0, 0), (5, 0), (5, 0), (5, 0), (5, 0), (5, 0), (5, 0), (5, 0), (5, 0), (5, 0), (5, 0)] [] D Φ
  refine r_aload_n d_L_isTree_3 rfl (by decide) ?_
  refine r_iconst d_L_isTree_4 ?_
  refine r_aload d_L_isTree_5 rfl (by decide) ?_
  refine r_iconst d_L_isTree_7 ?_
  refine c_iald0 (k := 0) d_L_isTree_8 sh_41 (by decide) (R 41 rfl) (by decide) rfl (by decide) ?_
  refine r_iconst d_L_isTree_9 ?_
  refine r_iconst d_L_isTree_10 ?_
  refine c_callHi (as := [(8, 0), (0, 2), (0, (D 41 0)), (0, 0), (0, 0)]) (rest := []) (ls' := [(8, 0), (0, 2), (0, (D 41 0)), (0, 0), (0, 0), (5, 0)]) d_L_isTree_11 ck_RL_113 rfl rfl rfl (Nat.le_of_ble_eq_true rfl) (Nat.le_of_ble_eq_true rfl) (by decide) rfl rfl (fun Ψ hΨ => run_pE_asks (κ := 0) R _ _ _ _ hΨ) h (fun v1 D1 h => ?_)
  show Run Γ rg (0 + 195) Y_L_isTree 14 [(8, 0), (40, 0), (43, 0), (46, 0), (49, 0), (51, 0), (0, 0), (5, 0), (5, 0), (5, 0), (5, 0), (5, 0), (5, 0), (5, 0), (5, 0), (5, 0), (5, 0)] [(0, v1)] D1 Φ
  refine r_sipush d_L_isTree_14 (by decide) ?_
  show Run Γ rg (0 + 195) Y_L_isTree 17 [(8, 0), (40, 0), (43, 0), (46, 0), (49, 0), (51, 0), (0, 0), (5, 0), (5, 0), (5, 0), (5, 0), (5, 0), (5, 0), (5, 0), (5, 0), (5, 0), (5, 0)] [(0, (-300)), (0, v1)] D1 Φ
  refine c_jn (fun J => ∀ (x1 : Int) (D2 : DD), WP (some .boolean) 0 Φ (J x1 D2) → Run Γ rg (0 + 192) Y_L_isTree 71 [(8, 0), (40, 0), (43, 0), (46, 0), (49, 0), (51, 0), (0, 0), (5, 0), (5, 0), (5, 0), (5, 0), (5, 0), (5, 0), (5, 0), (5, 0), (5, 0), (5, 0)] [(0, x1)] D2 Φ) h ?_ (fun J1 hJ1 h => ?_)
  · intro x1 D2 h
    show Run Γ rg (0 + 192) Y_L_isTree 71 [(8, 0), (40, 0), (43, 0), (46, 0), (49, 0), (51, 0), (0, 0), (5, 0), (5, 0), (5, 0), (5, 0), (5, 0), (5, 0), (5, 0), (5, 0), (5, 0), (5, 0)] [(0, x1)] D2 Φ
    refine r_istore d_L_isTree_71 (by decide) rfl ?_
    show Run Γ rg (0 + 192) Y_L_isTree 73 [(8, 0), (40, 0), (43, 0), (46, 0), (49, 0), (51, 0), (0, 0), (0, x1), (5, 0), (5, 0), (5, 0), (5, 0), (5, 0), (5, 0), (5, 0), (5, 0), (5, 0)] [] D2 Φ
    refine r_iconst d_L_isTree_73 ?_
    refine r_istore d_L_isTree_74 (by decide) rfl ?_
    show Run Γ rg (0 + 192) Y_L_isTree 76 [(8, 0), (40, 0), (43, 0), (46, 0), (49, 0), (51, 0), (0, 0), (0, x1), (0, 0), (5, 0), (5, 0), (5, 0), (5, 0), (5, 0), (5, 0), (5, 0), (5, 0)] [] D2 Φ
    refine Run.mono (κ' := (0 + 64) + 2 * 64) (by omega) (fun _ _ h => h) ?_
    refine run_pE_isTree_76 (κ := (0 + 64)) R ?_ 64 0 x1 0 D2 h
    intro x2 x3 D3 h
    show Run Γ rg (0 + 64) Y_L_isTree 452 [(8, 0), (40, 0), (43, 0), (46, 0), (49, 0), (5, 0), (0, x2), (0, x3), (5, 0), (5, 0), (5, 0), (5, 0), (5, 0), (5, 0), (5, 0), (5, 0), (5, 0)] [] D3 Φ
    refine r_iconst d_L_isTree_452 ?_
    refine r_istore d_L_isTree_453 (by decide) rfl ?_
    show Run Γ rg (0 + 64) Y_L_isTree 455 [(8, 0), (40, 0), (43, 0), (46, 0), (49, 0), (5, 0), (0, x2), (0, x3), (0, 0), (5, 0), (5, 0), (5, 0), (5, 0), (5, 0), (5, 0), (5, 0), (5, 0)] [] D3 Φ
    refine run_pE_isTree_455 R x3 ?_ 64 x2 0 D3 h
    intro x4 D4 h
    show Run Γ rg (0 + 64) Y_L_isTree 551 [(8, 0), (5, 0), (43, 0), (46, 0), (49, 0), (5, 0), (0, x4), (0, x3), (5, 0), (5, 0), (5, 0), (5, 0), (5, 0), (5, 0), (5, 0), (5, 0), (5, 0)] [] D4 Φ
    refine r_iconst d_L_isTree_551 ?_
    refine r_istore d_L_isTree_552 (by decide) rfl ?_
    show Run Γ rg (0 + 64) Y_L_isTree 554 [(8, 0), (5, 0), (43, 0), (46, 0), (49, 0), (5, 0), (0, x4), (0, x3), (0, 0), (5, 0), (5, 0), (5, 0), (5, 0), (5, 0), (5, 0), (5, 0), (5, 0)] [] D4 Φ
    refine Run.mono (κ' := 0 + 1 * 64) (by omega) (fun _ _ h => h) ?_
    refine run_pE_isTree_554 (κ := 0) R ?_ 64 x4 x3 0 D4 h
    intro x5 x6 D5 h
    show Run Γ rg 0 Y_L_isTree 680 [(8, 0), (5, 0), (5, 0), (5, 0), (5, 0), (5, 0), (0, x5), (0, x6), (5, 0), (5, 0), (5, 0), (5, 0), (5, 0), (5, 0), (5, 0), (5, 0), (5, 0)] [] D5 Φ
    refine r_iload d_L_isTree_680 rfl ?_
    refine c_if_eq (tgt := 698) d_L_isTree_682 (by decide) (nz_w _) h (fun h => ?_) (fun h => ?_)
    · skip
      show Run Γ rg 0 Y_L_isTree 698 [(8, 0), (5, 0), (5, 0), (5, 0), (5, 0), (5, 0), (0, x5), (0, x6), (5, 0), (5, 0), (5, 0), (5, 0), (5, 0), (5, 0), (5, 0), (5, 0), (5, 0)] [] D5 Φ
      refine r_iconst d_L_isTree_698 ?_
      exact c_zret d_L_isTree_699 rfl (Or.inl rfl) h
    · skip
      show Run Γ rg 0 Y_L_isTree 685 [(8, 0), (5, 0), (5, 0), (5, 0), (5, 0), (5, 0), (0, x5), (0, x6), (5, 0), (5, 0), (5, 0), (5, 0), (5, 0), (5, 0), (5, 0), (5, 0), (5, 0)] [] D5 Φ
      refine r_iload d_L_isTree_685 rfl ?_
      refine r_aload_n d_L_isTree_687 rfl (by decide) ?_
      refine c_callVi0 (t' := (some .int)) (a := 0) (z := 0) (as := []) (rest := [(0, x5)]) (ls' := [(8, 0)]) d_L_isTree_688 ck_RL_119 rfl sh_0 rfl (by decide) (R 0 rfl) rfl rfl (Nat.le_of_ble_eq_true rfl) (Nat.le_of_ble_eq_true rfl) (by decide) rfl rfl (fun _ => rfl) (fun κ' Ψ hΨ => run_pH_used (cov20 R) hΨ) h (fun v2 D6 h => ?_)
      show Run Γ rg 0 Y_L_isTree 691 [(8, 0), (5, 0), (5, 0), (5, 0), (5, 0), (5, 0), (0, x5), (0, x6), (5, 0), (5, 0), (5, 0), (5, 0), (5, 0), (5, 0), (5, 0), (5, 0), (5, 0)] [(0, v2), (0, x5)] D6 Φ
      refine c_icmp_ne (tgt := 698) d_L_isTree_691 (by decide) (nz_w _) (nz_w _) h (fun h => ?_) (fun h => ?_)
      · skip
        show Run Γ rg 0 Y_L_isTree 698 [(8, 0), (5, 0), (5, 0), (5, 0), (5, 0), (5, 0), (0, x5), (0, x6), (5, 0), (5, 0), (5, 0), (5, 0), (5, 0), (5, 0), (5, 0), (5, 0), (5, 0)] [] D6 Φ
        refine r_iconst d_L_isTree_698 ?_
        exact c_zret d_L_isTree_699 rfl (Or.inl rfl) h
      · skip
        show Run Γ rg 0 Y_L_isTree 694 [(8, 0), (5, 0), (5, 0), (5, 0), (5, 0), (5, 0), (0, x5), (0, x6), (5, 0), (5, 0), (5, 0), (5, 0), (5, 0), (5, 0), (5, 0), (5, 0), (5, 0)] [] D6 Φ
        refine r_iconst d_L_isTree_694 ?_
        refine r_goto (tgt := 699) d_L_isTree_695 (by decide) ?_
        show Run Γ rg 0 Y_L_isTree 699 [(8, 0), (5, 0), (5, 0), (5, 0), (5, 0), (5, 0), (0, x5), (0, x6), (5, 0), (5, 0), (5, 0), (5, 0), (5, 0), (5, 0), (5, 0), (5, 0), (5, 0)] [(0, 1)] D6 Φ
        exact c_zret d_L_isTree_699 rfl (Or.inr rfl) h
  refine c_jn (fun J => ∀ (D7 : DD), WP (some .boolean) 0 Φ (J D7) → Run Γ rg (0 + 192) Y_L_isTree 70 [(8, 0), (40, 0), (43, 0), (46, 0), (49, 0), (51, 0), (0, 0), (5, 0), (5, 0), (5, 0), (5, 0), (5, 0), (5, 0), (5, 0), (5, 0), (5, 0), (5, 0)] [] D7 Φ) h ?_ (fun J2 hJ2 h => ?_)
  · intro D7 h
    show Run Γ rg (0 + 192) Y_L_isTree 70 [(8, 0), (40, 0), (43, 0), (46, 0), (49, 0), (51, 0), (0, 0), (5, 0), (5, 0), (5, 0), (5, 0), (5, 0), (5, 0), (5, 0), (5, 0), (5, 0), (5, 0)] [] D7 Φ
    refine r_iconst d_L_isTree_70 ?_
    exact (hJ1 0 D7 h)
  refine c_icmp_ne (tgt := 70) d_L_isTree_17 (by decide) (nz_w _) (nz_k rfl) h (fun h => ?_) (fun h => ?_)
  · skip
    refine Run.mono (κ' := (0 + 192)) (by omega) (fun _ _ h => h) ?_
    exact (hJ2 D1 h)
  · skip
    show Run Γ rg (0 + 195) Y_L_isTree 20 [(8, 0), (40, 0), (43, 0), (46, 0), (49, 0), (51, 0), (0, 0), (5, 0), (5, 0), (5, 0), (5, 0), (5, 0), (5, 0), (5, 0), (5, 0), (5, 0), (5, 0)] [] D1 Φ
    refine r_aload_n d_L_isTree_20 rfl (by decide) ?_
    refine r_iconst d_L_isTree_21 ?_
    refine r_iconst d_L_isTree_22 ?_
    refine r_iconst d_L_isTree_23 ?_
    refine r_iconst d_L_isTree_24 ?_
    refine c_callHi (as := [(8, 0), (0, 3), (0, (-1)), (0, 0), (0, 0)]) (rest := []) (ls' := [(8, 0), (0, 3), (0, (-1)), (0, 0), (0, 0), (5, 0)]) d_L_isTree_25 ck_RL_113 rfl rfl rfl (Nat.le_of_ble_eq_true rfl) (Nat.le_of_ble_eq_true rfl) (by decide) rfl rfl (fun Ψ hΨ => run_pE_asks (κ := 0) R _ _ _ _ hΨ) h (fun v3 D8 h => ?_)
    show Run Γ rg (0 + 194) Y_L_isTree 28 [(8, 0), (40, 0), (43, 0), (46, 0), (49, 0), (51, 0), (0, 0), (5, 0), (5, 0), (5, 0), (5, 0), (5, 0), (5, 0), (5, 0), (5, 0), (5, 0), (5, 0)] [(0, v3)] D8 Φ
    refine r_sipush d_L_isTree_28 (by decide) ?_
    refine c_icmp_ne (tgt := 70) d_L_isTree_31 (by decide) (nz_w _) (nz_k rfl) h (fun h => ?_) (fun h => ?_)
    · skip
      refine Run.mono (κ' := (0 + 192)) (by omega) (fun _ _ h => h) ?_
      exact (hJ2 D8 h)
    · skip
      show Run Γ rg (0 + 194) Y_L_isTree 34 [(8, 0), (40, 0), (43, 0), (46, 0), (49, 0), (51, 0), (0, 0), (5, 0), (5, 0), (5, 0), (5, 0), (5, 0), (5, 0), (5, 0), (5, 0), (5, 0), (5, 0)] [] D8 Φ
      refine r_aload_n d_L_isTree_34 rfl (by decide) ?_
      refine r_bipush d_L_isTree_35 (by decide) ?_
      refine r_bipush d_L_isTree_37 (by decide) ?_
      refine r_iconst d_L_isTree_39 ?_
      refine r_iconst d_L_isTree_40 ?_
      refine c_callHi (as := [(8, 0), (0, 7), (0, 80), (0, 0), (0, 0)]) (rest := []) (ls' := [(8, 0), (0, 7), (0, 80), (0, 0), (0, 0), (5, 0)]) d_L_isTree_41 ck_RL_113 rfl rfl rfl (Nat.le_of_ble_eq_true rfl) (Nat.le_of_ble_eq_true rfl) (by decide) rfl rfl (fun Ψ hΨ => run_pE_asks (κ := 0) R _ _ _ _ hΨ) h (fun v4 D9 h => ?_)
      show Run Γ rg (0 + 193) Y_L_isTree 44 [(8, 0), (40, 0), (43, 0), (46, 0), (49, 0), (51, 0), (0, 0), (5, 0), (5, 0), (5, 0), (5, 0), (5, 0), (5, 0), (5, 0), (5, 0), (5, 0), (5, 0)] [(0, v4)] D9 Φ
      refine r_sipush d_L_isTree_44 (by decide) ?_
      refine c_icmp_ne (tgt := 70) d_L_isTree_47 (by decide) (nz_w _) (nz_k rfl) h (fun h => ?_) (fun h => ?_)
      · skip
        refine Run.mono (κ' := (0 + 192)) (by omega) (fun _ _ h => h) ?_
        exact (hJ2 D9 h)
      · skip
        show Run Γ rg (0 + 193) Y_L_isTree 50 [(8, 0), (40, 0), (43, 0), (46, 0), (49, 0), (51, 0), (0, 0), (5, 0), (5, 0), (5, 0), (5, 0), (5, 0), (5, 0), (5, 0), (5, 0), (5, 0), (5, 0)] [] D9 Φ
        refine r_aload_n d_L_isTree_50 rfl (by decide) ?_
        refine r_iconst d_L_isTree_51 ?_
        refine r_iconst d_L_isTree_52 ?_
        refine r_sipush d_L_isTree_53 (by decide) ?_
        refine r_iconst d_L_isTree_56 ?_
        refine c_callHi (as := [(8, 0), (0, 0), (0, 0), (0, 10000), (0, 0)]) (rest := []) (ls' := [(8, 0), (0, 0), (0, 0), (0, 10000), (0, 0), (5, 0)]) d_L_isTree_57 ck_RL_113 rfl rfl rfl (Nat.le_of_ble_eq_true rfl) (Nat.le_of_ble_eq_true rfl) (by decide) rfl rfl (fun Ψ hΨ => run_pE_asks (κ := 0) R _ _ _ _ hΨ) h (fun v5 D10 h => ?_)
        show Run Γ rg (0 + 192) Y_L_isTree 60 [(8, 0), (40, 0), (43, 0), (46, 0), (49, 0), (51, 0), (0, 0), (5, 0), (5, 0), (5, 0), (5, 0), (5, 0), (5, 0), (5, 0), (5, 0), (5, 0), (5, 0)] [(0, v5)] D10 Φ
        refine r_sipush d_L_isTree_60 (by decide) ?_
        refine c_icmp_ne (tgt := 70) d_L_isTree_63 (by decide) (nz_w _) (nz_k rfl) h (fun h => ?_) (fun h => ?_)
        · skip
          exact (hJ2 D10 h)
        · skip
          show Run Γ rg (0 + 192) Y_L_isTree 66 [(8, 0), (40, 0), (43, 0), (46, 0), (49, 0), (51, 0), (0, 0), (5, 0), (5, 0), (5, 0), (5, 0), (5, 0), (5, 0), (5, 0), (5, 0), (5, 0), (5, 0)] [] D10 Φ
          refine r_iconst d_L_isTree_66 ?_
          refine r_goto (tgt := 71) d_L_isTree_67 (by decide) ?_
          exact (hJ1 1 D10 h)
set_option maxRecDepth 20000 in
theorem run_pE_copies_3 {Γ : GG} {rg : Nat → Bool} {κ : Nat} {Φ : OT → DD → Prop} (R : cov rg rg2) {K : DD → Res} (hK : ∀ (D : DD), WP none κ Φ (K D) → Run Γ rg κ Y_L_copies 26 [(45, 0), (43, 0), (48, 0), (46, 0), (5, 0), (5, 0), (5, 0)] [] D Φ) : ∀ (n : Nat) (a6 : Int) (D : DD), WP none κ Φ (pE_copies_3 n a6 D K) → Run Γ rg κ Y_L_copies 3 [(45, 0), (43, 0), (48, 0), (46, 0), (42, 0), (40, 0), (0, a6)] [] D Φ := by
  intro n
  induction n with
  | zero => intro a6 D h; exact h.no.elim
  | succ n ih =>
    intro a6 D h
    rw [pE_copies_3] at h
    show Run Γ rg κ Y_L_copies 3 [(45, 0), (43, 0), (48, 0), (46, 0), (42, 0), (40, 0), (0, a6)] [] D Φ
    refine r_iload d_L_copies_3 rfl ?_
    refine r_bipush d_L_copies_5 (by decide) ?_
    refine c_icmp_ge (tgt := 26) d_L_copies_7 (by decide) (nz_w _) (nz_k rfl) h (fun h => ?_) (fun h => ?_)
    · skip
      exact Run.forget (ls' := [(45, 0), (43, 0), (48, 0), (46, 0), (5, 0), (5, 0), (5, 0)]) ⟨Or.inr rfl, Or.inr rfl, Or.inr rfl, Or.inr rfl, Or.inl rfl, Or.inl rfl, Or.inl rfl, trivial⟩ (hK D h)
    · skip
      show Run Γ rg κ Y_L_copies 10 [(45, 0), (43, 0), (48, 0), (46, 0), (42, 0), (40, 0), (0, a6)] [] D Φ
      refine r_aload d_L_copies_10 rfl (by decide) ?_
      refine r_iload d_L_copies_12 rfl ?_
      refine r_aload d_L_copies_14 rfl (by decide) ?_
      refine r_iload d_L_copies_16 rfl ?_
      refine c_lald d_L_copies_18 sh_34 (by decide) (R 34 rfl) (by decide) h (fun v1 h => ?_)
      refine c_last d_L_copies_19 sh_32 (by decide) (R 32 rfl) (by decide) h (fun D1 h => ?_)
      refine r_iinc d_L_copies_20 rfl (by decide) rfl ?_
      show Run Γ rg κ Y_L_copies 23 [(45, 0), (43, 0), (48, 0), (46, 0), (42, 0), (40, 0), (0, (a6 + 1))] [] D1 Φ
      refine r_goto (tgt := 3) d_L_copies_23 (by decide) ?_
      exact (ih (a6 + 1) D1 h)
set_option maxRecDepth 20000 in
theorem run_pE_copies_29 {Γ : GG} {rg : Nat → Bool} {κ : Nat} {Φ : OT → DD → Prop} (R : cov rg rg2) : ∀ (n : Nat) (a6 : Int) (D : DD), WP none κ Φ (pE_copies_29 n a6 D) → Run Γ rg κ Y_L_copies 29 [(45, 0), (43, 0), (48, 0), (46, 0), (5, 0), (5, 0), (0, a6)] [] D Φ := by
  intro n
  induction n with
  | zero => intro a6 D h; exact h.no.elim
  | succ n ih =>
    intro a6 D h
    rw [pE_copies_29] at h
    show Run Γ rg κ Y_L_copies 29 [(45, 0), (43, 0), (48, 0), (46, 0), (5, 0), (5, 0), (0, a6)] [] D Φ
    refine r_iload d_L_copies_29 rfl ?_
    refine r_bipush d_L_copies_31 (by decide) ?_
    refine c_icmp_ge (tgt := 58) d_L_copies_33 (by decide) (nz_w _) (nz_k rfl) h (fun h => ?_) (fun h => ?_)
    · skip
      show Run Γ rg κ Y_L_copies 58 [(45, 0), (43, 0), (48, 0), (46, 0), (5, 0), (5, 0), (0, a6)] [] D Φ
      exact c_vret d_L_copies_58 rfl h
    · skip
      show Run Γ rg κ Y_L_copies 36 [(45, 0), (43, 0), (48, 0), (46, 0), (5, 0), (5, 0), (0, a6)] [] D Φ
      refine r_aload_n d_L_copies_36 rfl (by decide) ?_
      refine r_iload d_L_copies_37 rfl ?_
      refine r_aload_n d_L_copies_39 rfl (by decide) ?_
      refine r_iload d_L_copies_40 rfl ?_
      refine c_lald d_L_copies_42 sh_37 (by decide) (R 37 rfl) (by decide) h (fun v1 h => ?_)
      refine c_last d_L_copies_43 sh_35 (by decide) (R 35 rfl) (by decide) h (fun D1 h => ?_)
      refine r_aload_n d_L_copies_44 rfl (by decide) ?_
      refine r_iload d_L_copies_45 rfl ?_
      refine r_aload_n d_L_copies_47 rfl (by decide) ?_
      refine r_iload d_L_copies_48 rfl ?_
      refine c_iald d_L_copies_50 sh_40 (by decide) (R 40 rfl) (by decide) h (fun v2 h => ?_)
      show Run Γ rg κ Y_L_copies 51 [(45, 0), (43, 0), (48, 0), (46, 0), (5, 0), (5, 0), (0, a6)] [(0, v2), (0, a6), (46, 0)] D1 Φ
      refine c_iast d_L_copies_51 sh_38 (by decide) (R 38 rfl) (by decide) h (fun D2 h => ?_)
      refine r_iinc d_L_copies_52 rfl (by decide) rfl ?_
      show Run Γ rg κ Y_L_copies 55 [(45, 0), (43, 0), (48, 0), (46, 0), (5, 0), (5, 0), (0, (a6 + 1))] [] D2 Φ
      refine r_goto (tgt := 29) d_L_copies_55 (by decide) ?_
      exact (ih (a6 + 1) D2 h)
set_option maxRecDepth 20000 in
theorem run_pE_copies {Γ : GG} {rg : Nat → Bool} {κ : Nat} {Φ : OT → DD → Prop} (R : cov rg rg2) {D : DD} (h : WP none κ Φ (pE_copies D)) : Run Γ rg κ Y_L_copies 0 [(45, 0), (43, 0), (48, 0), (46, 0), (42, 0), (40, 0), (5, 0)] [] D Φ := by
  unfold pE_copies at h
  show Run Γ rg κ Y_L_copies 0 [(45, 0), (43, 0), (48, 0), (46, 0), (42, 0), (40, 0), (5, 0)] [] D Φ
  refine r_iconst d_L_copies_0 ?_
  refine r_istore d_L_copies_1 (by decide) rfl ?_
  show Run Γ rg κ Y_L_copies 3 [(45, 0), (43, 0), (48, 0), (46, 0), (42, 0), (40, 0), (0, 0)] [] D Φ
  refine run_pE_copies_3 R ?_ 64 0 D h
  intro D1 h
  show Run Γ rg κ Y_L_copies 26 [(45, 0), (43, 0), (48, 0), (46, 0), (5, 0), (5, 0), (5, 0)] [] D1 Φ
  refine r_iconst d_L_copies_26 ?_
  refine r_istore d_L_copies_27 (by decide) rfl ?_
  show Run Γ rg κ Y_L_copies 29 [(45, 0), (43, 0), (48, 0), (46, 0), (5, 0), (5, 0), (0, 0)] [] D1 Φ
  exact run_pE_copies_29 R 64 0 D1 h
