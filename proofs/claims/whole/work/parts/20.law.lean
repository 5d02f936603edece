/-! the law's loop -/
noncomputable section
def pE_law_23 (X : Nat → Int32) (L : Nat) : Nat → Int → DD → Res
  | 0, _, _ => none
  | n + 1, a4, D =>
    if (w32 ((L : Int) - 5)) < (w32 a4) then (
      okR 1 D
    ) else (
      rdX X L a4 D fun v1 =>
      jnR (fun (D1 : DD) =>
          pE_law_23 X L n (a4 + 5) D1) fun J1 =>
      if (w32 (iandZ v1 31)) = 0 then (
        rdX X L (a4 + 1) D fun v2 =>
        rdX X L (a4 + 2) D fun v3 =>
        bnd (pE_make v2 v3 D) fun v4 D2 =>
        rdX X L (a4 + 1) D2 fun v5 =>
        rdX X L (a4 + 2) D2 fun v6 =>
        bnd (pM_make v5 v6 D2) fun v7 D3 =>
        if (w32 (pM_thrown D3)) = (w32 v4) then (
          jnR (fun (D4 : DD) =>
              J1 D4) fun J2 =>
          if (w32 v4) = 0 then (
            if (lcmZ (w64 (D3 68 0)) (w64 (w32 v7))) = 0 then (
              J2 D3
            ) else (
              okR 0 D3
            )
          ) else (
            J2 D3
          )
        ) else (
          okR 0 D3
        )
      ) else (
      if (w32 (iandZ v1 31)) = 1 then (
        rdX X L (a4 + 1) D fun v8 =>
        rdX X L (a4 + 2) D fun v9 =>
        rdX X L (a4 + 3) D fun v10 =>
        bnd (pE_makeLink v8 v9 v10 D) fun v11 D5 =>
        rdX X L (a4 + 1) D5 fun v12 =>
        rdX X L (a4 + 2) D5 fun v13 =>
        rdX X L (a4 + 3) D5 fun v14 =>
        bnd (pM_makeLink v12 v13 v14 D5) fun v15 D6 =>
        if (w32 (pM_thrown D6)) = (w32 v11) then (
          jnR (fun (D7 : DD) =>
              J1 D7) fun J3 =>
          if (w32 v11) = 0 then (
            if (lcmZ (w64 (D6 68 0)) (w64 (w32 v15))) = 0 then (
              J3 D6
            ) else (
              okR 0 D6
            )
          ) else (
            J3 D6
          )
        ) else (
          okR 0 D6
        )
      ) else (
      if (w32 (iandZ v1 31)) = 2 then (
        rdX X L (a4 + 1) D fun v16 =>
        rdX X L (a4 + 2) D fun v17 =>
        bnd (pE_rename v16 v17 D) fun v18 D8 =>
        rdX X L (a4 + 1) D8 fun v19 =>
        rdX X L (a4 + 2) D8 fun v20 =>
        bnd (pM_rename v19 v20 D8) fun v21 D9 =>
        if (w32 (pM_thrown D9)) = (w32 v18) then (
          jnR (fun (D10 : DD) =>
              J1 D10) fun J4 =>
          if (w32 v18) = 0 then (
            if (lcmZ (w64 (D9 68 0)) (w64 (w32 v21))) = 0 then (
              J4 D9
            ) else (
              okR 0 D9
            )
          ) else (
            J4 D9
          )
        ) else (
          okR 0 D9
        )
      ) else (
      if (w32 (iandZ v1 31)) = 3 then (
        rdX X L (a4 + 1) D fun v22 =>
        bnd (pE_delete v22 D) fun v23 D11 =>
        rdX X L (a4 + 1) D11 fun v24 =>
        bnd (pM_delete v24 D11) fun v25 D12 =>
        if (w32 (pM_thrown D12)) = (w32 v23) then (
          jnR (fun (D13 : DD) =>
              J1 D13) fun J5 =>
          if (w32 v23) = 0 then (
            if (lcmZ (w64 (D12 68 0)) (w64 (w32 v25))) = 0 then (
              J5 D12
            ) else (
              okR 0 D12
            )
          ) else (
            J5 D12
          )
        ) else (
          okR 0 D12
        )
      ) else (
      if (w32 (iandZ v1 31)) = 4 then (
        rdX X L (a4 + 1) D fun v26 =>
        rdX X L (a4 + 2) D fun v27 =>
        bnd (pE_find v26 v27 D) fun v28 D14 =>
        rdX X L (a4 + 1) D14 fun v29 =>
        rdX X L (a4 + 2) D14 fun v30 =>
        bnd (pM_find v29 v30 D14) fun v31 D15 =>
        if (w32 (pM_thrown D15)) = (w32 v28) then (
          jnR (fun (D16 : DD) =>
              J1 D16) fun J6 =>
          if (w32 v28) = 0 then (
            if (lcmZ (w64 (D15 68 0)) (w64 (w32 v31))) = 0 then (
              J6 D15
            ) else (
              okR 0 D15
            )
          ) else (
            J6 D15
          )
        ) else (
          okR 0 D15
        )
      ) else (
      if (w32 (iandZ v1 31)) = 5 then (
        rdX X L (a4 + 1) D fun v32 =>
        rdX X L (a4 + 2) D fun v33 =>
        bnd (pE_subkeyAt v32 v33 D) fun v34 D17 =>
        rdX X L (a4 + 1) D17 fun v35 =>
        rdX X L (a4 + 2) D17 fun v36 =>
        bnd (pM_subkeyAt v35 v36 D17) fun v37 D18 =>
        if (w32 (pM_thrown D18)) = (w32 v34) then (
          jnR (fun (D19 : DD) =>
              J1 D19) fun J7 =>
          if (w32 v34) = 0 then (
            if (lcmZ (w64 (D18 68 0)) (w64 (w32 v37))) = 0 then (
              J7 D18
            ) else (
              okR 0 D18
            )
          ) else (
            J7 D18
          )
        ) else (
          okR 0 D18
        )
      ) else (
      if (w32 (iandZ v1 31)) = 6 then (
        rdX X L (a4 + 1) D fun v38 =>
        bnd (pE_list v38 D) fun v39 D20 =>
        rdX X L (a4 + 1) D20 fun v40 =>
        bnd (pM_list v40 D20) fun v41 D21 =>
        if (w32 (pM_thrown D21)) = (w32 v39) then (
          jnR (fun (D22 : DD) =>
              J1 D22) fun J8 =>
          if (w32 v39) = 0 then (
            if (lcmZ (w64 (D21 68 0)) (w64 (w32 v41))) = 0 then (
              J8 D21
            ) else (
              okR 0 D21
            )
          ) else (
            J8 D21
          )
        ) else (
          okR 0 D21
        )
      ) else (
      if (w32 (iandZ v1 31)) = 7 then (
        rdX X L (a4 + 1) D fun v42 =>
        bnd (pE_follow v42 D) fun v43 D23 =>
        rdX X L (a4 + 1) D23 fun v44 =>
        bnd (pM_follow v44 D23) fun v45 D24 =>
        if (w32 (pM_thrown D24)) = (w32 v43) then (
          jnR (fun (D25 : DD) =>
              J1 D25) fun J9 =>
          if (w32 v43) = 0 then (
            if (lcmZ (w64 (D24 68 0)) (w64 (w32 v45))) = 0 then (
              J9 D24
            ) else (
              okR 0 D24
            )
          ) else (
            J9 D24
          )
        ) else (
          okR 0 D24
        )
      ) else (
      if (w32 (iandZ v1 31)) = 8 then (
        rdX X L (a4 + 1) D fun v46 =>
        rdX X L (a4 + 2) D fun v47 =>
        rdX X L (a4 + 3) D fun v48 =>
        rdX X L (a4 + 4) D fun v49 =>
        bnd (pE_setValue v46 v47 v48 v49 D) fun v50 D26 =>
        rdX X L (a4 + 1) D26 fun v51 =>
        rdX X L (a4 + 2) D26 fun v52 =>
        rdX X L (a4 + 3) D26 fun v53 =>
        rdX X L (a4 + 4) D26 fun v54 =>
        bnd (pM_setValue v51 v52 v53 v54 D26) fun v55 D27 =>
        if (w32 (pM_thrown D27)) = (w32 v50) then (
          jnR (fun (D28 : DD) =>
              J1 D28) fun J10 =>
          if (w32 v50) = 0 then (
            if (lcmZ (w64 (D27 68 0)) (w64 (w32 v55))) = 0 then (
              J10 D27
            ) else (
              okR 0 D27
            )
          ) else (
            J10 D27
          )
        ) else (
          okR 0 D27
        )
      ) else (
      if (w32 (iandZ v1 31)) = 9 then (
        rdX X L (a4 + 1) D fun v56 =>
        rdX X L (a4 + 2) D fun v57 =>
        rdX X L (a4 + 3) D fun v58 =>
        bnd (pE_resize v56 v57 v58 D) fun v59 D29 =>
        rdX X L (a4 + 1) D29 fun v60 =>
        rdX X L (a4 + 2) D29 fun v61 =>
        rdX X L (a4 + 3) D29 fun v62 =>
        bnd (pM_resize v60 v61 v62 D29) fun v63 D30 =>
        if (w32 (pM_thrown D30)) = (w32 v59) then (
          jnR (fun (D31 : DD) =>
              J1 D31) fun J11 =>
          if (w32 v59) = 0 then (
            if (lcmZ (w64 (D30 68 0)) (w64 (w32 v63))) = 0 then (
              J11 D30
            ) else (
              okR 0 D30
            )
          ) else (
            J11 D30
          )
        ) else (
          okR 0 D30
        )
      ) else (
      if (w32 (iandZ v1 31)) = 10 then (
        rdX X L (a4 + 1) D fun v64 =>
        rdX X L (a4 + 2) D fun v65 =>
        bnd (pE_dropValue v64 v65 D) fun v66 D32 =>
        rdX X L (a4 + 1) D32 fun v67 =>
        rdX X L (a4 + 2) D32 fun v68 =>
        bnd (pM_dropValue v67 v68 D32) fun v69 D33 =>
        if (w32 (pM_thrown D33)) = (w32 v66) then (
          jnR (fun (D34 : DD) =>
              J1 D34) fun J12 =>
          if (w32 v66) = 0 then (
            if (lcmZ (w64 (D33 68 0)) (w64 (w32 v69))) = 0 then (
              J12 D33
            ) else (
              okR 0 D33
            )
          ) else (
            J12 D33
          )
        ) else (
          okR 0 D33
        )
      ) else (
      if (w32 (iandZ v1 31)) = 11 then (
        rdX X L (a4 + 1) D fun v70 =>
        rdX X L (a4 + 2) D fun v71 =>
        rdX X L (a4 + 3) D fun v72 =>
        bnd (pE_unit v70 v71 v72 D) fun v73 D35 =>
        rdX X L (a4 + 1) D35 fun v74 =>
        rdX X L (a4 + 2) D35 fun v75 =>
        rdX X L (a4 + 3) D35 fun v76 =>
        bnd (pM_unit v74 v75 v76 D35) fun v77 D36 =>
        if (w32 (pM_thrown D36)) = (w32 v73) then (
          jnR (fun (D37 : DD) =>
              J1 D37) fun J13 =>
          if (w32 v73) = 0 then (
            if (lcmZ (w64 (D36 68 0)) (w64 (w32 v77))) = 0 then (
              J13 D36
            ) else (
              okR 0 D36
            )
          ) else (
            J13 D36
          )
        ) else (
          okR 0 D36
        )
      ) else (
      if (w32 (iandZ v1 31)) = 12 then (
        rdX X L (a4 + 1) D fun v78 =>
        rdX X L (a4 + 2) D fun v79 =>
        bnd (pE_setRights v78 v79 D) fun v80 D38 =>
        rdX X L (a4 + 1) D38 fun v81 =>
        rdX X L (a4 + 2) D38 fun v82 =>
        bnd (pM_setRights v81 v82 D38) fun v83 D39 =>
        if (w32 (pM_thrown D39)) = (w32 v80) then (
          jnR (fun (D40 : DD) =>
              J1 D40) fun J14 =>
          if (w32 v80) = 0 then (
            if (lcmZ (w64 (D39 68 0)) (w64 (w32 v83))) = 0 then (
              J14 D39
            ) else (
              okR 0 D39
            )
          ) else (
            J14 D39
          )
        ) else (
          okR 0 D39
        )
      ) else (
      if (w32 (iandZ v1 31)) = 13 then (
        rdX X L (a4 + 1) D fun v84 =>
        bnd (pE_sharers v84 D) fun v85 D41 =>
        rdX X L (a4 + 1) D41 fun v86 =>
        bnd (pM_sharers v86 D41) fun v87 D42 =>
        if (w32 (pM_thrown D42)) = (w32 v85) then (
          jnR (fun (D43 : DD) =>
              J1 D43) fun J15 =>
          if (w32 v85) = 0 then (
            if (lcmZ (w64 (D42 68 0)) (w64 (w32 v87))) = 0 then (
              J15 D42
            ) else (
              okR 0 D42
            )
          ) else (
            J15 D42
          )
        ) else (
          okR 0 D42
        )
      ) else (
      if (w32 (iandZ v1 31)) = 14 then (
        bnd (pM_sectors D) fun v88 D44 =>
        if (w32 (pH_sectors D)) = (w32 v88) then (
          J1 D44
        ) else (
          okR 0 D44
        )
      ) else (
      if (w32 (iandZ v1 31)) = 15 then (
        rdX X L (a4 + 1) D fun v89 =>
        bnd (pE_cell v89 D) fun v90 D45 =>
        rdX X L (a4 + 1) D45 fun v91 =>
        bnd (pM_cell v91 D45) fun v92 D46 =>
        if (w32 (pM_thrown D46)) = (w32 v90) then (
          jnR (fun (D47 : DD) =>
              J1 D47) fun J16 =>
          if (w32 v90) = 0 then (
            if (lcmZ (w64 (D46 68 0)) (w64 (w32 v92))) = 0 then (
              J16 D46
            ) else (
              okR 0 D46
            )
          ) else (
            J16 D46
          )
        ) else (
          okR 0 D46
        )
      ) else (
      if (w32 (iandZ v1 31)) = 16 then (
        rdX X L (a4 + 1) D fun v93 =>
        bnd (pE_place v93 D) fun v94 D48 =>
        rdX X L (a4 + 1) D48 fun v95 =>
        bnd (pM_place v95 D48) fun v96 D49 =>
        if (w32 (pM_thrown D49)) = (w32 v94) then (
          jnR (fun (D50 : DD) =>
              J1 D50) fun J17 =>
          if (w32 v94) = 0 then (
            if (lcmZ (w64 (D49 68 0)) (w64 (w32 v96))) = 0 then (
              J17 D49
            ) else (
              okR 0 D49
            )
          ) else (
            J17 D49
          )
        ) else (
          okR 0 D49
        )
      ) else (
      if (w32 (iandZ v1 31)) = 17 then (
        bnd (pH_used D) fun v97 D51 =>
        bnd (pM_used D51) fun v98 D52 =>
        if (w32 v97) = (w32 v98) then (
          J1 D52
        ) else (
          okR 0 D52
        )
      ) else (
      if (w32 (iandZ v1 31)) = 18 then (
        bnd (pH_usedByTree D) fun v99 D53 =>
        bnd (pM_usedByTree D53) fun v100 D54 =>
        if (w32 v99) = (w32 v100) then (
          J1 D54
        ) else (
          okR 0 D54
        )
      ) else (
      if (w32 (iandZ v1 31)) = 19 then (
        rdX X L (a4 + 1) D fun v101 =>
        rdX X L (a4 + 2) D fun v102 =>
        rdX X L (a4 + 3) D fun v103 =>
        jnR (fun (x1 : Int) (D55 : DD) =>
            bnd (pE_watch v101 v102 x1 D55) fun v104 D56 =>
            rdX X L (a4 + 1) D56 fun v105 =>
            rdX X L (a4 + 2) D56 fun v106 =>
            rdX X L (a4 + 3) D56 fun v107 =>
            jnR (fun (x2 : Int) (D57 : DD) =>
                bnd (pM_watch v105 v106 x2 D57) fun v108 D58 =>
                if (w32 (pM_thrown D58)) = (w32 v104) then (
                  jnR (fun (D59 : DD) =>
                      J1 D59) fun J20 =>
                  if (w32 v104) = 0 then (
                    jnR (fun (x3 : Int) (D60 : DD) =>
                        if (lcmZ (w64 (D58 68 0)) (w64 x3)) = 0 then (
                          J20 D60
                        ) else (
                          okR 0 D60
                        )) fun J21 =>
                    if (w32 v108) = 0 then (
                      J21 0 D58
                    ) else (
                      J21 1 D58
                    )
                  ) else (
                    J20 D58
                  )
                ) else (
                  okR 0 D58
                )) fun J19 =>
            if (w32 v107) = 0 then (
              J19 0 D56
            ) else (
              J19 1 D56
            )) fun J18 =>
        if (w32 v103) = 0 then (
          J18 0 D
        ) else (
          J18 1 D
        )
      ) else (
      if (w32 (iandZ v1 31)) = 20 then (
        bnd (pH_takeNotice D) fun v109 D61 =>
        bnd (pM_takeNotice D61) fun v110 D62 =>
        if (w32 v109) = (w32 v110) then (
          J1 D62
        ) else (
          okR 0 D62
        )
      ) else (
      if (w32 (iandZ v1 31)) = 21 then (
        bnd (pM_dirty D) fun v111 D63 =>
        if (lcmZ (w64 (pH_dirty D)) (w64 v111)) = 0 then (
          J1 D63
        ) else (
          okR 0 D63
        )
      ) else (
      if (w32 (iandZ v1 31)) = 22 then (
        bnd (pE_flush D) fun v112 D64 =>
        bnd (pM_flush D64) fun v113 D65 =>
        if (w32 (pM_thrown D65)) = (w32 v112) then (
          jnR (fun (D66 : DD) =>
              J1 D66) fun J22 =>
          if (w32 v112) = 0 then (
            if (lcmZ (w64 (D65 68 0)) (w64 (w32 v113))) = 0 then (
              J22 D65
            ) else (
              okR 0 D65
            )
          ) else (
            J22 D65
          )
        ) else (
          okR 0 D65
        )
      ) else (
      if (w32 (iandZ v1 31)) = 23 then (
        rdX X L (a4 + 1) D fun v114 =>
        bnd (pE_write v114 D) fun v115 D67 =>
        rdX X L (a4 + 1) D67 fun v116 =>
        bnd (pM_write v116 D67) fun v117 D68 =>
        if (w32 (pM_thrown D68)) = (w32 v115) then (
          jnR (fun (D69 : DD) =>
              J1 D69) fun J23 =>
          if (w32 v115) = 0 then (
            if (lcmZ (w64 (D68 68 0)) (w64 (w32 v117))) = 0 then (
              J23 D68
            ) else (
              okR 0 D68
            )
          ) else (
            J23 D68
          )
        ) else (
          okR 0 D68
        )
      ) else (
      if (w32 (iandZ v1 31)) = 24 then (
        rdX X L (a4 + 1) D fun v118 =>
        bnd (pE_log v118 D) fun v119 D70 =>
        rdX X L (a4 + 1) D70 fun v120 =>
        bnd (pM_log v120 D70) fun v121 D71 =>
        if (w32 (pM_thrown D71)) = (w32 v119) then (
          jnR (fun (D72 : DD) =>
              J1 D72) fun J24 =>
          if (w32 v119) = 0 then (
            if (lcmZ (w64 (D71 68 0)) (w64 (w32 v121))) = 0 then (
              J24 D71
            ) else (
              okR 0 D71
            )
          ) else (
            J24 D71
          )
        ) else (
          okR 0 D71
        )
      ) else (
      if (w32 (iandZ v1 31)) = 25 then (
        bnd (pH_crash D) fun v122 D73 =>
        bnd (pM_crash D73) fun v123 D74 =>
        if (w32 v122) = (w32 v123) then (
          J1 D74
        ) else (
          okR 0 D74
        )
      ) else (
      J1 D
      ))))))))))))))))))))))))))
    )
end
set_option maxRecDepth 20000 in
theorem run_pE_law_23 {Γ : GG} {rg : Nat → Bool} {Φ : OT → DD → Prop} (R : cov rg rg2) (hL : gL Γ < 2147483648) : ∀ (n : Nat) (a4 : Int) (D : DD), WP (some .boolean) 0 Φ (pE_law_23 (gX Γ) (gL Γ) n a4 D) → Run Γ rg n Y_L_law 23 [(7, 0), (8, 0), (40, 0), (76, 0), (0, a4), (5, 0), (5, 0)] [] D Φ := by
  intro n
  induction n with
  | zero => intro a4 D h; exact h.no.elim
  | succ n ih =>
    intro a4 D h
    rw [pE_law_23] at h
    show Run Γ rg (n + 1) Y_L_law 23 [(7, 0), (8, 0), (40, 0), (76, 0), (0, a4), (5, 0), (5, 0)] [] D Φ
    refine r_iload d_L_law_23 rfl ?_
    refine r_aload_n d_L_law_25 rfl (by decide) ?_
    refine r_slen d_L_law_26 ?_
    refine r_iconst d_L_law_27 ?_
    refine r_isub d_L_law_28 ?_
    refine c_icmp_gt (tgt := 1576) d_L_law_29 (by decide) (nz_w _) (nz_w _) h (fun h => ?_) (fun h => ?_)
    · skip
      show Run Γ rg (n + 1) Y_L_law 1576 [(7, 0), (8, 0), (40, 0), (76, 0), (0, a4), (5, 0), (5, 0)] [] D Φ
      refine r_iconst d_L_law_1576 ?_
      exact c_zret0 d_L_law_1577 rfl (Or.inr rfl) h
    · skip
      show Run Γ rg (n + 1) Y_L_law 32 [(7, 0), (8, 0), (40, 0), (76, 0), (0, a4), (5, 0), (5, 0)] [] D Φ
      refine r_aload_n d_L_law_32 rfl (by decide) ?_
      refine r_iload d_L_law_33 rfl ?_
      refine c_sld0 d_L_law_35 hL h (fun v1 h => ?_)
      refine r_bipush d_L_law_36 (by decide) ?_
      refine c_iand d_L_law_38 ?_
      refine c_jn (fun J => ∀ (D1 : DD), WP (some .boolean) 0 Φ (J D1) → Run Γ rg n Y_L_law 1570 [(7, 0), (8, 0), (40, 0), (76, 0), (0, a4), (5, 0), (5, 0)] [] D1 Φ) h ?_ (fun J1 hJ1 h => ?_)
      · intro D1 h
        show Run Γ rg n Y_L_law 1570 [(7, 0), (8, 0), (40, 0), (76, 0), (0, a4), (5, 0), (5, 0)] [] D1 Φ
        refine r_iinc d_L_law_1570 rfl (by decide) rfl ?_
        show Run Γ rg n Y_L_law 1573 [(7, 0), (8, 0), (40, 0), (76, 0), (0, (a4 + 5)), (5, 0), (5, 0)] [] D1 Φ
        refine r_goto (tgt := 23) d_L_law_1573 (by decide) ?_
        exact (ih (a4 + 5) D1 h)
      refine c_sw1 (i := 0) (tgt := 156) d_L_law_39 (nz_w _) (by decide) (by decide) rfl (by decide) h (fun h => ?_) (fun g0 h => ?_)
      · skip
        show Run Γ rg (n + 1) Y_L_law 156 [(7, 0), (8, 0), (40, 0), (76, 0), (0, a4), (5, 0), (5, 0)] [] D Φ
        refine r_aload_n d_L_law_156 rfl (by decide) ?_
        refine r_aload_n d_L_law_157 rfl (by decide) ?_
        refine r_iload d_L_law_158 rfl ?_
        refine r_iconst d_L_law_160 ?_
        refine r_iadd d_L_law_161 ?_
        refine c_sld0 d_L_law_162 hL h (fun v2 h => ?_)
        refine r_aload_n d_L_law_163 rfl (by decide) ?_
        refine r_iload d_L_law_164 rfl ?_
        refine r_iconst d_L_law_166 ?_
        refine r_iadd d_L_law_167 ?_
        refine c_sld0 d_L_law_168 hL h (fun v3 h => ?_)
        show Run Γ rg (n + 1) Y_L_law 169 [(7, 0), (8, 0), (40, 0), (76, 0), (0, a4), (5, 0), (5, 0)] [(0, v3), (0, v2), (8, 0)] D Φ
        refine r_aload_n d_L_law_169 rfl (by decide) ?_
        refine c_callHi (as := [(8, 0), (0, v2), (0, v3), (76, 0)]) (rest := []) (ls' := [(8, 0), (0, v2), (0, v3), (76, 0), (5, 0)]) d_L_law_170 ck_RL_85 rfl rfl rfl (Nat.le_of_ble_eq_true rfl) (Nat.le_of_ble_eq_true rfl) (by decide) rfl rfl (fun Ψ hΨ => run_pE_make (κ := 0) R _ _ hΨ) h (fun v4 D2 h => ?_)
        show Run Γ rg n Y_L_law 173 [(7, 0), (8, 0), (40, 0), (76, 0), (0, a4), (5, 0), (5, 0)] [(0, v4)] D2 Φ
        refine r_istore d_L_law_173 (by decide) rfl ?_
        show Run Γ rg n Y_L_law 175 [(7, 0), (8, 0), (40, 0), (76, 0), (0, a4), (0, v4), (5, 0)] [] D2 Φ
        refine r_aload_n d_L_law_175 rfl (by decide) ?_
        refine r_aload_n d_L_law_176 rfl (by decide) ?_
        refine r_iload d_L_law_177 rfl ?_
        refine r_iconst d_L_law_179 ?_
        refine r_iadd d_L_law_180 ?_
        refine c_sld0 d_L_law_181 hL h (fun v5 h => ?_)
        refine r_aload_n d_L_law_182 rfl (by decide) ?_
        refine r_iload d_L_law_183 rfl ?_
        refine r_iconst d_L_law_185 ?_
        show Run Γ rg n Y_L_law 186 [(7, 0), (8, 0), (40, 0), (76, 0), (0, a4), (0, v4), (5, 0)] [(0, 2), (0, a4), (7, 0), (0, v5), (40, 0)] D2 Φ
        refine r_iadd d_L_law_186 ?_
        refine c_sld0 d_L_law_187 hL h (fun v6 h => ?_)
        refine c_callVi0 (t' := (some .int)) (a := 32) (z := 0) (as := [(0, v5), (0, v6)]) (rest := []) (ls' := [(40, 0), (0, v5), (0, v6), (5, 0)]) d_L_law_188 ck_RL_90 rfl sh_32 rfl (by decide) (R 32 rfl) rfl rfl (Nat.le_of_ble_eq_true rfl) (Nat.le_of_ble_eq_true rfl) (by decide) rfl rfl (fun _ => rfl) (fun κ' Ψ hΨ => run_pM_make (cov21 R) _ _ hΨ) h (fun v7 D3 h => ?_)
        show Run Γ rg n Y_L_law 191 [(7, 0), (8, 0), (40, 0), (76, 0), (0, a4), (0, v4), (5, 0)] [(0, v7)] D3 Φ
        refine r_istore d_L_law_191 (by decide) rfl ?_
        show Run Γ rg n Y_L_law 193 [(7, 0), (8, 0), (40, 0), (76, 0), (0, a4), (0, v4), (0, v7)] [] D3 Φ
        refine r_aload_n d_L_law_193 rfl (by decide) ?_
        refine c_callVPi (a := 32) (z := 0) (as := []) (rest := []) (ls' := [(40, 0)]) d_L_law_194 ck_RL_91 rfl sh_32 rfl (by decide) (R 32 rfl) rfl rfl (Nat.le_of_ble_eq_true rfl) (Nat.le_of_ble_eq_true rfl) (by decide) rfl rfl (fun Ψ hΨ => run_pM_thrown (cov21 R) rfl hΨ) ?_
        show Run Γ rg n Y_L_law 197 [(7, 0), (8, 0), (40, 0), (76, 0), (0, a4), (0, v4), (0, v7)] [(0, (pM_thrown D3))] D3 Φ
        refine r_iload d_L_law_197 rfl ?_
        refine c_icmp_eq (tgt := 204) d_L_law_199 (by decide) (nz_w _) (nz_w _) h (fun h => ?_) (fun h => ?_)
        · skip
          show Run Γ rg n Y_L_law 204 [(7, 0), (8, 0), (40, 0), (76, 0), (0, a4), (0, v4), (0, v7)] [] D3 Φ
          refine r_iload d_L_law_204 rfl ?_
          refine c_jn (fun J => ∀ (D4 : DD), WP (some .boolean) 0 Φ (J D4) → Run Γ rg n Y_L_law 221 [(7, 0), (8, 0), (40, 0), (76, 0), (0, a4), (5, 0), (5, 0)] [] D4 Φ) h ?_ (fun J2 hJ2 h => ?_)
          · intro D4 h
            show Run Γ rg n Y_L_law 221 [(7, 0), (8, 0), (40, 0), (76, 0), (0, a4), (5, 0), (5, 0)] [] D4 Φ
            refine r_goto (tgt := 1570) d_L_law_221 (by decide) ?_
            exact (hJ1 D4 h)
          refine c_if_ne (tgt := 221) d_L_law_206 (by decide) (nz_w _) h (fun h => ?_) (fun h => ?_)
          · skip
            exact Run.forget (ls' := [(7, 0), (8, 0), (40, 0), (76, 0), (0, a4), (5, 0), (5, 0)]) ⟨Or.inr rfl, Or.inr rfl, Or.inr rfl, Or.inr rfl, Or.inr rfl, Or.inl rfl, Or.inl rfl, trivial⟩ (hJ2 D3 h)
          · skip
            show Run Γ rg n Y_L_law 209 [(7, 0), (8, 0), (40, 0), (76, 0), (0, a4), (0, v4), (0, v7)] [] D3 Φ
            refine r_aload_n d_L_law_209 rfl (by decide) ?_
            refine r_iconst d_L_law_210 ?_
            refine c_lald0 (k := 0) d_L_law_211 sh_68 (by decide) (R 68 rfl) (by decide) rfl (by decide) ?_
            refine r_iload d_L_law_212 rfl ?_
            refine c_i2l d_L_law_214 (nz_w _) ?_
            refine c_lcmp d_L_law_215 ?_
            refine c_if_eq (tgt := 221) d_L_law_216 (by decide) (nz_c _ _) h (fun h => ?_) (fun h => ?_)
            · skip
              exact Run.forget (ls' := [(7, 0), (8, 0), (40, 0), (76, 0), (0, a4), (5, 0), (5, 0)]) ⟨Or.inr rfl, Or.inr rfl, Or.inr rfl, Or.inr rfl, Or.inr rfl, Or.inl rfl, Or.inl rfl, trivial⟩ (hJ2 D3 h)
            · skip
              show Run Γ rg n Y_L_law 219 [(7, 0), (8, 0), (40, 0), (76, 0), (0, a4), (0, v4), (0, v7)] [] D3 Φ
              refine r_iconst d_L_law_219 ?_
              exact c_zret0 d_L_law_220 rfl (Or.inl rfl) h
        · skip
          show Run Γ rg n Y_L_law 202 [(7, 0), (8, 0), (40, 0), (76, 0), (0, a4), (0, v4), (0, v7)] [] D3 Φ
          refine r_iconst d_L_law_202 ?_
          exact c_zret0 d_L_law_203 rfl (Or.inl rfl) h
      refine c_sw1 (i := 1) (tgt := 224) d_L_law_39 (nz_w _) (by decide) (by decide) rfl (by decide) h (fun h => ?_) (fun g1 h => ?_)
      · skip
        show Run Γ rg (n + 1) Y_L_law 224 [(7, 0), (8, 0), (40, 0), (76, 0), (0, a4), (5, 0), (5, 0)] [] D Φ
        refine r_aload_n d_L_law_224 rfl (by decide) ?_
        refine r_aload_n d_L_law_225 rfl (by decide) ?_
        refine r_iload d_L_law_226 rfl ?_
        refine r_iconst d_L_law_228 ?_
        refine r_iadd d_L_law_229 ?_
        refine c_sld0 d_L_law_230 hL h (fun v8 h => ?_)
        refine r_aload_n d_L_law_231 rfl (by decide) ?_
        refine r_iload d_L_law_232 rfl ?_
        refine r_iconst d_L_law_234 ?_
        refine r_iadd d_L_law_235 ?_
        refine c_sld0 d_L_law_236 hL h (fun v9 h => ?_)
        show Run Γ rg (n + 1) Y_L_law 237 [(7, 0), (8, 0), (40, 0), (76, 0), (0, a4), (5, 0), (5, 0)] [(0, v9), (0, v8), (8, 0)] D Φ
        refine r_aload_n d_L_law_237 rfl (by decide) ?_
        refine r_iload d_L_law_238 rfl ?_
        refine r_iconst d_L_law_240 ?_
        refine r_iadd d_L_law_241 ?_
        refine c_sld0 d_L_law_242 hL h (fun v10 h => ?_)
        refine r_aload_n d_L_law_243 rfl (by decide) ?_
        refine c_callHi (as := [(8, 0), (0, v8), (0, v9), (0, v10), (76, 0)]) (rest := []) (ls' := [(8, 0), (0, v8), (0, v9), (0, v10), (76, 0), (5, 0)]) d_L_law_244 ck_RL_94 rfl rfl rfl (Nat.le_of_ble_eq_true rfl) (Nat.le_of_ble_eq_true rfl) (by decide) rfl rfl (fun Ψ hΨ => run_pE_makeLink (κ := 0) R _ _ _ hΨ) h (fun v11 D5 h => ?_)
        show Run Γ rg n Y_L_law 247 [(7, 0), (8, 0), (40, 0), (76, 0), (0, a4), (5, 0), (5, 0)] [(0, v11)] D5 Φ
        refine r_istore d_L_law_247 (by decide) rfl ?_
        show Run Γ rg n Y_L_law 249 [(7, 0), (8, 0), (40, 0), (76, 0), (0, a4), (0, v11), (5, 0)] [] D5 Φ
        refine r_aload_n d_L_law_249 rfl (by decide) ?_
        refine r_aload_n d_L_law_250 rfl (by decide) ?_
        refine r_iload d_L_law_251 rfl ?_
        refine r_iconst d_L_law_253 ?_
        show Run Γ rg n Y_L_law 254 [(7, 0), (8, 0), (40, 0), (76, 0), (0, a4), (0, v11), (5, 0)] [(0, 1), (0, a4), (7, 0), (40, 0)] D5 Φ
        refine r_iadd d_L_law_254 ?_
        refine c_sld0 d_L_law_255 hL h (fun v12 h => ?_)
        refine r_aload_n d_L_law_256 rfl (by decide) ?_
        refine r_iload d_L_law_257 rfl ?_
        refine r_iconst d_L_law_259 ?_
        refine r_iadd d_L_law_260 ?_
        refine c_sld0 d_L_law_261 hL h (fun v13 h => ?_)
        refine r_aload_n d_L_law_262 rfl (by decide) ?_
        refine r_iload d_L_law_263 rfl ?_
        refine r_iconst d_L_law_265 ?_
        refine r_iadd d_L_law_266 ?_
        refine c_sld0 d_L_law_267 hL h (fun v14 h => ?_)
        show Run Γ rg n Y_L_law 268 [(7, 0), (8, 0), (40, 0), (76, 0), (0, a4), (0, v11), (5, 0)] [(0, v14), (0, v13), (0, v12), (40, 0)] D5 Φ
        refine c_callVi0 (t' := (some .int)) (a := 32) (z := 0) (as := [(0, v12), (0, v13), (0, v14)]) (rest := []) (ls' := [(40, 0), (0, v12), (0, v13), (0, v14), (5, 0)]) d_L_law_268 ck_RL_97 rfl sh_32 rfl (by decide) (R 32 rfl) rfl rfl (Nat.le_of_ble_eq_true rfl) (Nat.le_of_ble_eq_true rfl) (by decide) rfl rfl (fun _ => rfl) (fun κ' Ψ hΨ => run_pM_makeLink (cov21 R) _ _ _ hΨ) h (fun v15 D6 h => ?_)
        show Run Γ rg n Y_L_law 271 [(7, 0), (8, 0), (40, 0), (76, 0), (0, a4), (0, v11), (5, 0)] [(0, v15)] D6 Φ
        refine r_istore d_L_law_271 (by decide) rfl ?_
        show Run Γ rg n Y_L_law 273 [(7, 0), (8, 0), (40, 0), (76, 0), (0, a4), (0, v11), (0, v15)] [] D6 Φ
        refine r_aload_n d_L_law_273 rfl (by decide) ?_
        refine c_callVPi (a := 32) (z := 0) (as := []) (rest := []) (ls' := [(40, 0)]) d_L_law_274 ck_RL_91 rfl sh_32 rfl (by decide) (R 32 rfl) rfl rfl (Nat.le_of_ble_eq_true rfl) (Nat.le_of_ble_eq_true rfl) (by decide) rfl rfl (fun Ψ hΨ => run_pM_thrown (cov21 R) rfl hΨ) ?_
        show Run Γ rg n Y_L_law 277 [(7, 0), (8, 0), (40, 0), (76, 0), (0, a4), (0, v11), (0, v15)] [(0, (pM_thrown D6))] D6 Φ
        refine r_iload d_L_law_277 rfl ?_
        refine c_icmp_eq (tgt := 284) d_L_law_279 (by decide) (nz_w _) (nz_w _) h (fun h => ?_) (fun h => ?_)
        · skip
          show Run Γ rg n Y_L_law 284 [(7, 0), (8, 0), (40, 0), (76, 0), (0, a4), (0, v11), (0, v15)] [] D6 Φ
          refine r_iload d_L_law_284 rfl ?_
          refine c_jn (fun J => ∀ (D7 : DD), WP (some .boolean) 0 Φ (J D7) → Run Γ rg n Y_L_law 301 [(7, 0), (8, 0), (40, 0), (76, 0), (0, a4), (5, 0), (5, 0)] [] D7 Φ) h ?_ (fun J3 hJ3 h => ?_)
          · intro D7 h
            show Run Γ rg n Y_L_law 301 [(7, 0), (8, 0), (40, 0), (76, 0), (0, a4), (5, 0), (5, 0)] [] D7 Φ
            refine r_goto (tgt := 1570) d_L_law_301 (by decide) ?_
            exact (hJ1 D7 h)
          refine c_if_ne (tgt := 301) d_L_law_286 (by decide) (nz_w _) h (fun h => ?_) (fun h => ?_)
          · skip
            exact Run.forget (ls' := [(7, 0), (8, 0), (40, 0), (76, 0), (0, a4), (5, 0), (5, 0)]) ⟨Or.inr rfl, Or.inr rfl, Or.inr rfl, Or.inr rfl, Or.inr rfl, Or.inl rfl, Or.inl rfl, trivial⟩ (hJ3 D6 h)
          · skip
            show Run Γ rg n Y_L_law 289 [(7, 0), (8, 0), (40, 0), (76, 0), (0, a4), (0, v11), (0, v15)] [] D6 Φ
            refine r_aload_n d_L_law_289 rfl (by decide) ?_
            refine r_iconst d_L_law_290 ?_
            refine c_lald0 (k := 0) d_L_law_291 sh_68 (by decide) (R 68 rfl) (by decide) rfl (by decide) ?_
            refine r_iload d_L_law_292 rfl ?_
            refine c_i2l d_L_law_294 (nz_w _) ?_
            refine c_lcmp d_L_law_295 ?_
            refine c_if_eq (tgt := 301) d_L_law_296 (by decide) (nz_c _ _) h (fun h => ?_) (fun h => ?_)
            · skip
              exact Run.forget (ls' := [(7, 0), (8, 0), (40, 0), (76, 0), (0, a4), (5, 0), (5, 0)]) ⟨Or.inr rfl, Or.inr rfl, Or.inr rfl, Or.inr rfl, Or.inr rfl, Or.inl rfl, Or.inl rfl, trivial⟩ (hJ3 D6 h)
            · skip
              show Run Γ rg n Y_L_law 299 [(7, 0), (8, 0), (40, 0), (76, 0), (0, a4), (0, v11), (0, v15)] [] D6 Φ
              refine r_iconst d_L_law_299 ?_
              exact c_zret0 d_L_law_300 rfl (Or.inl rfl) h
        · skip
          show Run Γ rg n Y_L_law 282 [(7, 0), (8, 0), (40, 0), (76, 0), (0, a4), (0, v11), (0, v15)] [] D6 Φ
          refine r_iconst d_L_law_282 ?_
          exact c_zret0 d_L_law_283 rfl (Or.inl rfl) h
      refine c_sw1 (i := 2) (tgt := 304) d_L_law_39 (nz_w _) (by decide) (by decide) rfl (by decide) h (fun h => ?_) (fun g2 h => ?_)
      · skip
        show Run Γ rg (n + 1) Y_L_law 304 [(7, 0), (8, 0), (40, 0), (76, 0), (0, a4), (5, 0), (5, 0)] [] D Φ
        refine r_aload_n d_L_law_304 rfl (by decide) ?_
        refine r_aload_n d_L_law_305 rfl (by decide) ?_
        refine r_iload d_L_law_306 rfl ?_
        refine r_iconst d_L_law_308 ?_
        refine r_iadd d_L_law_309 ?_
        refine c_sld0 d_L_law_310 hL h (fun v16 h => ?_)
        refine r_aload_n d_L_law_311 rfl (by decide) ?_
        refine r_iload d_L_law_312 rfl ?_
        refine r_iconst d_L_law_314 ?_
        refine r_iadd d_L_law_315 ?_
        refine c_sld0 d_L_law_316 hL h (fun v17 h => ?_)
        show Run Γ rg (n + 1) Y_L_law 317 [(7, 0), (8, 0), (40, 0), (76, 0), (0, a4), (5, 0), (5, 0)] [(0, v17), (0, v16), (8, 0)] D Φ
        refine r_aload_n d_L_law_317 rfl (by decide) ?_
        refine c_callHi (as := [(8, 0), (0, v16), (0, v17), (76, 0)]) (rest := []) (ls' := [(8, 0), (0, v16), (0, v17), (76, 0), (5, 0)]) d_L_law_318 ck_RL_98 rfl rfl rfl (Nat.le_of_ble_eq_true rfl) (Nat.le_of_ble_eq_true rfl) (by decide) rfl rfl (fun Ψ hΨ => run_pE_rename (κ := 0) R _ _ hΨ) h (fun v18 D8 h => ?_)
        show Run Γ rg n Y_L_law 321 [(7, 0), (8, 0), (40, 0), (76, 0), (0, a4), (5, 0), (5, 0)] [(0, v18)] D8 Φ
        refine r_istore d_L_law_321 (by decide) rfl ?_
        show Run Γ rg n Y_L_law 323 [(7, 0), (8, 0), (40, 0), (76, 0), (0, a4), (0, v18), (5, 0)] [] D8 Φ
        refine r_aload_n d_L_law_323 rfl (by decide) ?_
        refine r_aload_n d_L_law_324 rfl (by decide) ?_
        refine r_iload d_L_law_325 rfl ?_
        refine r_iconst d_L_law_327 ?_
        refine r_iadd d_L_law_328 ?_
        refine c_sld0 d_L_law_329 hL h (fun v19 h => ?_)
        refine r_aload_n d_L_law_330 rfl (by decide) ?_
        refine r_iload d_L_law_331 rfl ?_
        refine r_iconst d_L_law_333 ?_
        show Run Γ rg n Y_L_law 334 [(7, 0), (8, 0), (40, 0), (76, 0), (0, a4), (0, v18), (5, 0)] [(0, 2), (0, a4), (7, 0), (0, v19), (40, 0)] D8 Φ
        refine r_iadd d_L_law_334 ?_
        refine c_sld0 d_L_law_335 hL h (fun v20 h => ?_)
        refine c_callVi0 (t' := (some .int)) (a := 32) (z := 0) (as := [(0, v19), (0, v20)]) (rest := []) (ls' := [(40, 0), (0, v19), (0, v20), (5, 0), (5, 0)]) d_L_law_336 ck_RL_100 rfl sh_32 rfl (by decide) (R 32 rfl) rfl rfl (Nat.le_of_ble_eq_true rfl) (Nat.le_of_ble_eq_true rfl) (by decide) rfl rfl (fun _ => rfl) (fun κ' Ψ hΨ => run_pM_rename (cov21 R) _ _ hΨ) h (fun v21 D9 h => ?_)
        show Run Γ rg n Y_L_law 339 [(7, 0), (8, 0), (40, 0), (76, 0), (0, a4), (0, v18), (5, 0)] [(0, v21)] D9 Φ
        refine r_istore d_L_law_339 (by decide) rfl ?_
        show Run Γ rg n Y_L_law 341 [(7, 0), (8, 0), (40, 0), (76, 0), (0, a4), (0, v18), (0, v21)] [] D9 Φ
        refine r_aload_n d_L_law_341 rfl (by decide) ?_
        refine c_callVPi (a := 32) (z := 0) (as := []) (rest := []) (ls' := [(40, 0)]) d_L_law_342 ck_RL_91 rfl sh_32 rfl (by decide) (R 32 rfl) rfl rfl (Nat.le_of_ble_eq_true rfl) (Nat.le_of_ble_eq_true rfl) (by decide) rfl rfl (fun Ψ hΨ => run_pM_thrown (cov21 R) rfl hΨ) ?_
        show Run Γ rg n Y_L_law 345 [(7, 0), (8, 0), (40, 0), (76, 0), (0, a4), (0, v18), (0, v21)] [(0, (pM_thrown D9))] D9 Φ
        refine r_iload d_L_law_345 rfl ?_
        refine c_icmp_eq (tgt := 352) d_L_law_347 (by decide) (nz_w _) (nz_w _) h (fun h => ?_) (fun h => ?_)
        · skip
          show Run Γ rg n Y_L_law 352 [(7, 0), (8, 0), (40, 0), (76, 0), (0, a4), (0, v18), (0, v21)] [] D9 Φ
          refine r_iload d_L_law_352 rfl ?_
          refine c_jn (fun J => ∀ (D10 : DD), WP (some .boolean) 0 Φ (J D10) → Run Γ rg n Y_L_law 369 [(7, 0), (8, 0), (40, 0), (76, 0), (0, a4), (5, 0), (5, 0)] [] D10 Φ) h ?_ (fun J4 hJ4 h => ?_)
          · intro D10 h
            show Run Γ rg n Y_L_law 369 [(7, 0), (8, 0), (40, 0), (76, 0), (0, a4), (5, 0), (5, 0)] [] D10 Φ
            refine r_goto (tgt := 1570) d_L_law_369 (by decide) ?_
            exact (hJ1 D10 h)
          refine c_if_ne (tgt := 369) d_L_law_354 (by decide) (nz_w _) h (fun h => ?_) (fun h => ?_)
          · skip
            exact Run.forget (ls' := [(7, 0), (8, 0), (40, 0), (76, 0), (0, a4), (5, 0), (5, 0)]) ⟨Or.inr rfl, Or.inr rfl, Or.inr rfl, Or.inr rfl, Or.inr rfl, Or.inl rfl, Or.inl rfl, trivial⟩ (hJ4 D9 h)
          · skip
            show Run Γ rg n Y_L_law 357 [(7, 0), (8, 0), (40, 0), (76, 0), (0, a4), (0, v18), (0, v21)] [] D9 Φ
            refine r_aload_n d_L_law_357 rfl (by decide) ?_
            refine r_iconst d_L_law_358 ?_
            refine c_lald0 (k := 0) d_L_law_359 sh_68 (by decide) (R 68 rfl) (by decide) rfl (by decide) ?_
            refine r_iload d_L_law_360 rfl ?_
            refine c_i2l d_L_law_362 (nz_w _) ?_
            refine c_lcmp d_L_law_363 ?_
            refine c_if_eq (tgt := 369) d_L_law_364 (by decide) (nz_c _ _) h (fun h => ?_) (fun h => ?_)
            · skip
              exact Run.forget (ls' := [(7, 0), (8, 0), (40, 0), (76, 0), (0, a4), (5, 0), (5, 0)]) ⟨Or.inr rfl, Or.inr rfl, Or.inr rfl, Or.inr rfl, Or.inr rfl, Or.inl rfl, Or.inl rfl, trivial⟩ (hJ4 D9 h)
            · skip
              show Run Γ rg n Y_L_law 367 [(7, 0), (8, 0), (40, 0), (76, 0), (0, a4), (0, v18), (0, v21)] [] D9 Φ
              refine r_iconst d_L_law_367 ?_
              exact c_zret0 d_L_law_368 rfl (Or.inl rfl) h
        · skip
          show Run Γ rg n Y_L_law 350 [(7, 0), (8, 0), (40, 0), (76, 0), (0, a4), (0, v18), (0, v21)] [] D9 Φ
          refine r_iconst d_L_law_350 ?_
          exact c_zret0 d_L_law_351 rfl (Or.inl rfl) h
      refine c_sw1 (i := 3) (tgt := 372) d_L_law_39 (nz_w _) (by decide) (by decide) rfl (by decide) h (fun h => ?_) (fun g3 h => ?_)
      · skip
        show Run Γ rg (n + 1) Y_L_law 372 [(7, 0), (8, 0), (40, 0), (76, 0), (0, a4), (5, 0), (5, 0)] [] D Φ
        refine r_aload_n d_L_law_372 rfl (by decide) ?_
        refine r_aload_n d_L_law_373 rfl (by decide) ?_
        refine r_iload d_L_law_374 rfl ?_
        refine r_iconst d_L_law_376 ?_
        refine r_iadd d_L_law_377 ?_
        refine c_sld0 d_L_law_378 hL h (fun v22 h => ?_)
        refine r_aload_n d_L_law_379 rfl (by decide) ?_
        refine c_callHi (as := [(8, 0), (0, v22), (76, 0)]) (rest := []) (ls' := [(8, 0), (0, v22), (76, 0), (5, 0)]) d_L_law_380 ck_RL_101 rfl rfl rfl (Nat.le_of_ble_eq_true rfl) (Nat.le_of_ble_eq_true rfl) (by decide) rfl rfl (fun Ψ hΨ => run_pE_delete (κ := 0) R _ hΨ) h (fun v23 D11 h => ?_)
        show Run Γ rg n Y_L_law 383 [(7, 0), (8, 0), (40, 0), (76, 0), (0, a4), (5, 0), (5, 0)] [(0, v23)] D11 Φ
        refine r_istore d_L_law_383 (by decide) rfl ?_
        show Run Γ rg n Y_L_law 385 [(7, 0), (8, 0), (40, 0), (76, 0), (0, a4), (0, v23), (5, 0)] [] D11 Φ
        refine r_aload_n d_L_law_385 rfl (by decide) ?_
        refine r_aload_n d_L_law_386 rfl (by decide) ?_
        show Run Γ rg n Y_L_law 387 [(7, 0), (8, 0), (40, 0), (76, 0), (0, a4), (0, v23), (5, 0)] [(7, 0), (40, 0)] D11 Φ
        refine r_iload d_L_law_387 rfl ?_
        refine r_iconst d_L_law_389 ?_
        refine r_iadd d_L_law_390 ?_
        refine c_sld0 d_L_law_391 hL h (fun v24 h => ?_)
        refine c_callVi0 (t' := (some .int)) (a := 32) (z := 0) (as := [(0, v24)]) (rest := []) (ls' := [(40, 0), (0, v24), (5, 0), (5, 0)]) d_L_law_392 ck_RL_104 rfl sh_32 rfl (by decide) (R 32 rfl) rfl rfl (Nat.le_of_ble_eq_true rfl) (Nat.le_of_ble_eq_true rfl) (by decide) rfl rfl (fun _ => rfl) (fun κ' Ψ hΨ => run_pM_delete (cov21 R) _ hΨ) h (fun v25 D12 h => ?_)
        show Run Γ rg n Y_L_law 395 [(7, 0), (8, 0), (40, 0), (76, 0), (0, a4), (0, v23), (5, 0)] [(0, v25)] D12 Φ
        refine r_istore d_L_law_395 (by decide) rfl ?_
        show Run Γ rg n Y_L_law 397 [(7, 0), (8, 0), (40, 0), (76, 0), (0, a4), (0, v23), (0, v25)] [] D12 Φ
        refine r_aload_n d_L_law_397 rfl (by decide) ?_
        refine c_callVPi (a := 32) (z := 0) (as := []) (rest := []) (ls' := [(40, 0)]) d_L_law_398 ck_RL_91 rfl sh_32 rfl (by decide) (R 32 rfl) rfl rfl (Nat.le_of_ble_eq_true rfl) (Nat.le_of_ble_eq_true rfl) (by decide) rfl rfl (fun Ψ hΨ => run_pM_thrown (cov21 R) rfl hΨ) ?_
        show Run Γ rg n Y_L_law 401 [(7, 0), (8, 0), (40, 0), (76, 0), (0, a4), (0, v23), (0, v25)] [(0, (pM_thrown D12))] D12 Φ
        refine r_iload d_L_law_401 rfl ?_
        refine c_icmp_eq (tgt := 408) d_L_law_403 (by decide) (nz_w _) (nz_w _) h (fun h => ?_) (fun h => ?_)
        · skip
          show Run Γ rg n Y_L_law 408 [(7, 0), (8, 0), (40, 0), (76, 0), (0, a4), (0, v23), (0, v25)] [] D12 Φ
          refine r_iload d_L_law_408 rfl ?_
          refine c_jn (fun J => ∀ (D13 : DD), WP (some .boolean) 0 Φ (J D13) → Run Γ rg n Y_L_law 425 [(7, 0), (8, 0), (40, 0), (76, 0), (0, a4), (5, 0), (5, 0)] [] D13 Φ) h ?_ (fun J5 hJ5 h => ?_)
          · intro D13 h
            show Run Γ rg n Y_L_law 425 [(7, 0), (8, 0), (40, 0), (76, 0), (0, a4), (5, 0), (5, 0)] [] D13 Φ
            refine r_goto (tgt := 1570) d_L_law_425 (by decide) ?_
            exact (hJ1 D13 h)
          refine c_if_ne (tgt := 425) d_L_law_410 (by decide) (nz_w _) h (fun h => ?_) (fun h => ?_)
          · skip
            exact Run.forget (ls' := [(7, 0), (8, 0), (40, 0), (76, 0), (0, a4), (5, 0), (5, 0)]) ⟨Or.inr rfl, Or.inr rfl, Or.inr rfl, Or.inr rfl, Or.inr rfl, Or.inl rfl, Or.inl rfl, trivial⟩ (hJ5 D12 h)
          · skip
            show Run Γ rg n Y_L_law 413 [(7, 0), (8, 0), (40, 0), (76, 0), (0, a4), (0, v23), (0, v25)] [] D12 Φ
            refine r_aload_n d_L_law_413 rfl (by decide) ?_
            refine r_iconst d_L_law_414 ?_
            refine c_lald0 (k := 0) d_L_law_415 sh_68 (by decide) (R 68 rfl) (by decide) rfl (by decide) ?_
            refine r_iload d_L_law_416 rfl ?_
            refine c_i2l d_L_law_418 (nz_w _) ?_
            refine c_lcmp d_L_law_419 ?_
            refine c_if_eq (tgt := 425) d_L_law_420 (by decide) (nz_c _ _) h (fun h => ?_) (fun h => ?_)
            · skip
              exact Run.forget (ls' := [(7, 0), (8, 0), (40, 0), (76, 0), (0, a4), (5, 0), (5, 0)]) ⟨Or.inr rfl, Or.inr rfl, Or.inr rfl, Or.inr rfl, Or.inr rfl, Or.inl rfl, Or.inl rfl, trivial⟩ (hJ5 D12 h)
            · skip
              show Run Γ rg n Y_L_law 423 [(7, 0), (8, 0), (40, 0), (76, 0), (0, a4), (0, v23), (0, v25)] [] D12 Φ
              refine r_iconst d_L_law_423 ?_
              exact c_zret0 d_L_law_424 rfl (Or.inl rfl) h
        · skip
          show Run Γ rg n Y_L_law 406 [(7, 0), (8, 0), (40, 0), (76, 0), (0, a4), (0, v23), (0, v25)] [] D12 Φ
          refine r_iconst d_L_law_406 ?_
          exact c_zret0 d_L_law_407 rfl (Or.inl rfl) h
      refine c_sw1 (i := 4) (tgt := 428) d_L_law_39 (nz_w _) (by decide) (by decide) rfl (by decide) h (fun h => ?_) (fun g4 h => ?_)
      · skip
        show Run Γ rg (n + 1) Y_L_law 428 [(7, 0), (8, 0), (40, 0), (76, 0), (0, a4), (5, 0), (5, 0)] [] D Φ
        refine r_aload_n d_L_law_428 rfl (by decide) ?_
        refine r_aload_n d_L_law_429 rfl (by decide) ?_
        refine r_iload d_L_law_430 rfl ?_
        refine r_iconst d_L_law_432 ?_
        refine r_iadd d_L_law_433 ?_
        refine c_sld0 d_L_law_434 hL h (fun v26 h => ?_)
        refine r_aload_n d_L_law_435 rfl (by decide) ?_
        refine r_iload d_L_law_436 rfl ?_
        refine r_iconst d_L_law_438 ?_
        refine r_iadd d_L_law_439 ?_
        refine c_sld0 d_L_law_440 hL h (fun v27 h => ?_)
        show Run Γ rg (n + 1) Y_L_law 441 [(7, 0), (8, 0), (40, 0), (76, 0), (0, a4), (5, 0), (5, 0)] [(0, v27), (0, v26), (8, 0)] D Φ
        refine r_aload_n d_L_law_441 rfl (by decide) ?_
        refine c_callHi (as := [(8, 0), (0, v26), (0, v27), (76, 0)]) (rest := []) (ls' := [(8, 0), (0, v26), (0, v27), (76, 0), (5, 0)]) d_L_law_442 ck_RL_105 rfl rfl rfl (Nat.le_of_ble_eq_true rfl) (Nat.le_of_ble_eq_true rfl) (by decide) rfl rfl (fun Ψ hΨ => run_pE_find (κ := 0) R _ _ hΨ) h (fun v28 D14 h => ?_)
        show Run Γ rg n Y_L_law 445 [(7, 0), (8, 0), (40, 0), (76, 0), (0, a4), (5, 0), (5, 0)] [(0, v28)] D14 Φ
        refine r_istore d_L_law_445 (by decide) rfl ?_
        show Run Γ rg n Y_L_law 447 [(7, 0), (8, 0), (40, 0), (76, 0), (0, a4), (0, v28), (5, 0)] [] D14 Φ
        refine r_aload_n d_L_law_447 rfl (by decide) ?_
        refine r_aload_n d_L_law_448 rfl (by decide) ?_
        refine r_iload d_L_law_449 rfl ?_
        refine r_iconst d_L_law_451 ?_
        refine r_iadd d_L_law_452 ?_
        refine c_sld0 d_L_law_453 hL h (fun v29 h => ?_)
        refine r_aload_n d_L_law_454 rfl (by decide) ?_
        refine r_iload d_L_law_455 rfl ?_
        refine r_iconst d_L_law_457 ?_
        show Run Γ rg n Y_L_law 458 [(7, 0), (8, 0), (40, 0), (76, 0), (0, a4), (0, v28), (5, 0)] [(0, 2), (0, a4), (7, 0), (0, v29), (40, 0)] D14 Φ
        refine r_iadd d_L_law_458 ?_
        refine c_sld0 d_L_law_459 hL h (fun v30 h => ?_)
        refine c_callVi0 (t' := (some .int)) (a := 32) (z := 0) (as := [(0, v29), (0, v30)]) (rest := []) (ls' := [(40, 0), (0, v29), (0, v30), (5, 0), (5, 0)]) d_L_law_460 ck_RL_107 rfl sh_32 rfl (by decide) (R 32 rfl) rfl rfl (Nat.le_of_ble_eq_true rfl) (Nat.le_of_ble_eq_true rfl) (by decide) rfl rfl (fun _ => rfl) (fun κ' Ψ hΨ => run_pM_find (cov21 R) _ _ hΨ) h (fun v31 D15 h => ?_)
        show Run Γ rg n Y_L_law 463 [(7, 0), (8, 0), (40, 0), (76, 0), (0, a4), (0, v28), (5, 0)] [(0, v31)] D15 Φ
        refine r_istore d_L_law_463 (by decide) rfl ?_
        show Run Γ rg n Y_L_law 465 [(7, 0), (8, 0), (40, 0), (76, 0), (0, a4), (0, v28), (0, v31)] [] D15 Φ
        refine r_aload_n d_L_law_465 rfl (by decide) ?_
        refine c_callVPi (a := 32) (z := 0) (as := []) (rest := []) (ls' := [(40, 0)]) d_L_law_466 ck_RL_91 rfl sh_32 rfl (by decide) (R 32 rfl) rfl rfl (Nat.le_of_ble_eq_true rfl) (Nat.le_of_ble_eq_true rfl) (by decide) rfl rfl (fun Ψ hΨ => run_pM_thrown (cov21 R) rfl hΨ) ?_
        show Run Γ rg n Y_L_law 469 [(7, 0), (8, 0), (40, 0), (76, 0), (0, a4), (0, v28), (0, v31)] [(0, (pM_thrown D15))] D15 Φ
        refine r_iload d_L_law_469 rfl ?_
        refine c_icmp_eq (tgt := 476) d_L_law_471 (by decide) (nz_w _) (nz_w _) h (fun h => ?_) (fun h => ?_)
        · skip
          show Run Γ rg n Y_L_law 476 [(7, 0), (8, 0), (40, 0), (76, 0), (0, a4), (0, v28), (0, v31)] [] D15 Φ
          refine r_iload d_L_law_476 rfl ?_
          refine c_jn (fun J => ∀ (D16 : DD), WP (some .boolean) 0 Φ (J D16) → Run Γ rg n Y_L_law 493 [(7, 0), (8, 0), (40, 0), (76, 0), (0, a4), (5, 0), (5, 0)] [] D16 Φ) h ?_ (fun J6 hJ6 h => ?_)
          · intro D16 h
            show Run Γ rg n Y_L_law 493 [(7, 0), (8, 0), (40, 0), (76, 0), (0, a4), (5, 0), (5, 0)] [] D16 Φ
            refine r_goto (tgt := 1570) d_L_law_493 (by decide) ?_
            exact (hJ1 D16 h)
          refine c_if_ne (tgt := 493) d_L_law_478 (by decide) (nz_w _) h (fun h => ?_) (fun h => ?_)
          · skip
            exact Run.forget (ls' := [(7, 0), (8, 0), (40, 0), (76, 0), (0, a4), (5, 0), (5, 0)]) ⟨Or.inr rfl, Or.inr rfl, Or.inr rfl, Or.inr rfl, Or.inr rfl, Or.inl rfl, Or.inl rfl, trivial⟩ (hJ6 D15 h)
          · skip
            show Run Γ rg n Y_L_law 481 [(7, 0), (8, 0), (40, 0), (76, 0), (0, a4), (0, v28), (0, v31)] [] D15 Φ
            refine r_aload_n d_L_law_481 rfl (by decide) ?_
            refine r_iconst d_L_law_482 ?_
            refine c_lald0 (k := 0) d_L_law_483 sh_68 (by decide) (R 68 rfl) (by decide) rfl (by decide) ?_
            refine r_iload d_L_law_484 rfl ?_
            refine c_i2l d_L_law_486 (nz_w _) ?_
            refine c_lcmp d_L_law_487 ?_
            refine c_if_eq (tgt := 493) d_L_law_488 (by decide) (nz_c _ _) h (fun h => ?_) (fun h => ?_)
            · skip
              exact Run.forget (ls' := [(7, 0), (8, 0), (40, 0), (76, 0), (0, a4), (5, 0), (5, 0)]) ⟨Or.inr rfl, Or.inr rfl, Or.inr rfl, Or.inr rfl, Or.inr rfl, Or.inl rfl, Or.inl rfl, trivial⟩ (hJ6 D15 h)
            · skip
              show Run Γ rg n Y_L_law 491 [(7, 0), (8, 0), (40, 0), (76, 0), (0, a4), (0, v28), (0, v31)] [] D15 Φ
              refine r_iconst d_L_law_491 ?_
              exact c_zret0 d_L_law_492 rfl (Or.inl rfl) h
        · skip
          show Run Γ rg n Y_L_law 474 [(7, 0), (8, 0), (40, 0), (76, 0), (0, a4), (0, v28), (0, v31)] [] D15 Φ
          refine r_iconst d_L_law_474 ?_
          exact c_zret0 d_L_law_475 rfl (Or.inl rfl) h
      refine c_sw1 (i := 5) (tgt := 496) d_L_law_39 (nz_w _) (by decide) (by decide) rfl (by decide) h (fun h => ?_) (fun g5 h => ?_)
      · skip
        show Run Γ rg (n + 1) Y_L_law 496 [(7, 0), (8, 0), (40, 0), (76, 0), (0, a4), (5, 0), (5, 0)] [] D Φ
        refine r_aload_n d_L_law_496 rfl (by decide) ?_
        refine r_aload_n d_L_law_497 rfl (by decide) ?_
        refine r_iload d_L_law_498 rfl ?_
        refine r_iconst d_L_law_500 ?_
        refine r_iadd d_L_law_501 ?_
        refine c_sld0 d_L_law_502 hL h (fun v32 h => ?_)
        refine r_aload_n d_L_law_503 rfl (by decide) ?_
        refine r_iload d_L_law_504 rfl ?_
        refine r_iconst d_L_law_506 ?_
        refine r_iadd d_L_law_507 ?_
        refine c_sld0 d_L_law_508 hL h (fun v33 h => ?_)
        show Run Γ rg (n + 1) Y_L_law 509 [(7, 0), (8, 0), (40, 0), (76, 0), (0, a4), (5, 0), (5, 0)] [(0, v33), (0, v32), (8, 0)] D Φ
        refine r_aload_n d_L_law_509 rfl (by decide) ?_
        refine c_callHi (as := [(8, 0), (0, v32), (0, v33), (76, 0)]) (rest := []) (ls' := [(8, 0), (0, v32), (0, v33), (76, 0), (5, 0)]) d_L_law_510 ck_RL_108 rfl rfl rfl (Nat.le_of_ble_eq_true rfl) (Nat.le_of_ble_eq_true rfl) (by decide) rfl rfl (fun Ψ hΨ => run_pE_subkeyAt (κ := 0) R _ _ hΨ) h (fun v34 D17 h => ?_)
        show Run Γ rg n Y_L_law 513 [(7, 0), (8, 0), (40, 0), (76, 0), (0, a4), (5, 0), (5, 0)] [(0, v34)] D17 Φ
        refine r_istore d_L_law_513 (by decide) rfl ?_
        show Run Γ rg n Y_L_law 515 [(7, 0), (8, 0), (40, 0), (76, 0), (0, a4), (0, v34), (5, 0)] [] D17 Φ
        refine r_aload_n d_L_law_515 rfl (by decide) ?_
        refine r_aload_n d_L_law_516 rfl (by decide) ?_
        refine r_iload d_L_law_517 rfl ?_
        refine r_iconst d_L_law_519 ?_
        refine r_iadd d_L_law_520 ?_
        refine c_sld0 d_L_law_521 hL h (fun v35 h => ?_)
        refine r_aload_n d_L_law_522 rfl (by decide) ?_
        refine r_iload d_L_law_523 rfl ?_
        refine r_iconst d_L_law_525 ?_
        show Run Γ rg n Y_L_law 526 [(7, 0), (8, 0), (40, 0), (76, 0), (0, a4), (0, v34), (5, 0)] [(0, 2), (0, a4), (7, 0), (0, v35), (40, 0)] D17 Φ
        refine r_iadd d_L_law_526 ?_
        refine c_sld0 d_L_law_527 hL h (fun v36 h => ?_)
        refine c_callVi0 (t' := (some .int)) (a := 32) (z := 0) (as := [(0, v35), (0, v36)]) (rest := []) (ls' := [(40, 0), (0, v35), (0, v36), (5, 0)]) d_L_law_528 ck_RL_110 rfl sh_32 rfl (by decide) (R 32 rfl) rfl rfl (Nat.le_of_ble_eq_true rfl) (Nat.le_of_ble_eq_true rfl) (by decide) rfl rfl (fun _ => rfl) (fun κ' Ψ hΨ => run_pM_subkeyAt (cov21 R) _ _ hΨ) h (fun v37 D18 h => ?_)
        show Run Γ rg n Y_L_law 531 [(7, 0), (8, 0), (40, 0), (76, 0), (0, a4), (0, v34), (5, 0)] [(0, v37)] D18 Φ
        refine r_istore d_L_law_531 (by decide) rfl ?_
        show Run Γ rg n Y_L_law 533 [(7, 0), (8, 0), (40, 0), (76, 0), (0, a4), (0, v34), (0, v37)] [] D18 Φ
        refine r_aload_n d_L_law_533 rfl (by decide) ?_
        refine c_callVPi (a := 32) (z := 0) (as := []) (rest := []) (ls' := [(40, 0)]) d_L_law_534 ck_RL_91 rfl sh_32 rfl (by decide) (R 32 rfl) rfl rfl (Nat.le_of_ble_eq_true rfl) (Nat.le_of_ble_eq_true rfl) (by decide) rfl rfl (fun Ψ hΨ => run_pM_thrown (cov21 R) rfl hΨ) ?_
        show Run Γ rg n Y_L_law 537 [(7, 0), (8, 0), (40, 0), (76, 0), (0, a4), (0, v34), (0, v37)] [(0, (pM_thrown D18))] D18 Φ
        refine r_iload d_L_law_537 rfl ?_
        refine c_icmp_eq (tgt := 544) d_L_law_539 (by decide) (nz_w _) (nz_w _) h (fun h => ?_) (fun h => ?_)
        · skip
          show Run Γ rg n Y_L_law 544 [(7, 0), (8, 0), (40, 0), (76, 0), (0, a4), (0, v34), (0, v37)] [] D18 Φ
          refine r_iload d_L_law_544 rfl ?_
          refine c_jn (fun J => ∀ (D19 : DD), WP (some .boolean) 0 Φ (J D19) → Run Γ rg n Y_L_law 561 [(7, 0), (8, 0), (40, 0), (76, 0), (0, a4), (5, 0), (5, 0)] [] D19 Φ) h ?_ (fun J7 hJ7 h => ?_)
          · intro D19 h
            show Run Γ rg n Y_L_law 561 [(7, 0), (8, 0), (40, 0), (76, 0), (0, a4), (5, 0), (5, 0)] [] D19 Φ
            refine r_goto (tgt := 1570) d_L_law_561 (by decide) ?_
            exact (hJ1 D19 h)
          refine c_if_ne (tgt := 561) d_L_law_546 (by decide) (nz_w _) h (fun h => ?_) (fun h => ?_)
          · skip
            exact Run.forget (ls' := [(7, 0), (8, 0), (40, 0), (76, 0), (0, a4), (5, 0), (5, 0)]) ⟨Or.inr rfl, Or.inr rfl, Or.inr rfl, Or.inr rfl, Or.inr rfl, Or.inl rfl, Or.inl rfl, trivial⟩ (hJ7 D18 h)
          · skip
            show Run Γ rg n Y_L_law 549 [(7, 0), (8, 0), (40, 0), (76, 0), (0, a4), (0, v34), (0, v37)] [] D18 Φ
            refine r_aload_n d_L_law_549 rfl (by decide) ?_
            refine r_iconst d_L_law_550 ?_
            refine c_lald0 (k := 0) d_L_law_551 sh_68 (by decide) (R 68 rfl) (by decide) rfl (by decide) ?_
            refine r_iload d_L_law_552 rfl ?_
            refine c_i2l d_L_law_554 (nz_w _) ?_
            refine c_lcmp d_L_law_555 ?_
            refine c_if_eq (tgt := 561) d_L_law_556 (by decide) (nz_c _ _) h (fun h => ?_) (fun h => ?_)
            · skip
              exact Run.forget (ls' := [(7, 0), (8, 0), (40, 0), (76, 0), (0, a4), (5, 0), (5, 0)]) ⟨Or.inr rfl, Or.inr rfl, Or.inr rfl, Or.inr rfl, Or.inr rfl, Or.inl rfl, Or.inl rfl, trivial⟩ (hJ7 D18 h)
            · skip
              show Run Γ rg n Y_L_law 559 [(7, 0), (8, 0), (40, 0), (76, 0), (0, a4), (0, v34), (0, v37)] [] D18 Φ
              refine r_iconst d_L_law_559 ?_
              exact c_zret0 d_L_law_560 rfl (Or.inl rfl) h
        · skip
          show Run Γ rg n Y_L_law 542 [(7, 0), (8, 0), (40, 0), (76, 0), (0, a4), (0, v34), (0, v37)] [] D18 Φ
          refine r_iconst d_L_law_542 ?_
          exact c_zret0 d_L_law_543 rfl (Or.inl rfl) h
      refine c_sw1 (i := 6) (tgt := 564) d_L_law_39 (nz_w _) (by decide) (by decide) rfl (by decide) h (fun h => ?_) (fun g6 h => ?_)
      · skip
        show Run Γ rg (n + 1) Y_L_law 564 [(7, 0), (8, 0), (40, 0), (76, 0), (0, a4), (5, 0), (5, 0)] [] D Φ
        refine r_aload_n d_L_law_564 rfl (by decide) ?_
        refine r_aload_n d_L_law_565 rfl (by decide) ?_
        refine r_iload d_L_law_566 rfl ?_
        refine r_iconst d_L_law_568 ?_
        refine r_iadd d_L_law_569 ?_
        refine c_sld0 d_L_law_570 hL h (fun v38 h => ?_)
        refine r_aload_n d_L_law_571 rfl (by decide) ?_
        refine c_callHi (as := [(8, 0), (0, v38), (76, 0)]) (rest := []) (ls' := [(8, 0), (0, v38), (76, 0), (5, 0)]) d_L_law_572 ck_RL_111 rfl rfl rfl (Nat.le_of_ble_eq_true rfl) (Nat.le_of_ble_eq_true rfl) (by decide) rfl rfl (fun Ψ hΨ => run_pE_list (κ := 0) R _ hΨ) h (fun v39 D20 h => ?_)
        show Run Γ rg n Y_L_law 575 [(7, 0), (8, 0), (40, 0), (76, 0), (0, a4), (5, 0), (5, 0)] [(0, v39)] D20 Φ
        refine r_istore d_L_law_575 (by decide) rfl ?_
        show Run Γ rg n Y_L_law 577 [(7, 0), (8, 0), (40, 0), (76, 0), (0, a4), (0, v39), (5, 0)] [] D20 Φ
        refine r_aload_n d_L_law_577 rfl (by decide) ?_
        refine r_aload_n d_L_law_578 rfl (by decide) ?_
        show Run Γ rg n Y_L_law 579 [(7, 0), (8, 0), (40, 0), (76, 0), (0, a4), (0, v39), (5, 0)] [(7, 0), (40, 0)] D20 Φ
        refine r_iload d_L_law_579 rfl ?_
        refine r_iconst d_L_law_581 ?_
        refine r_iadd d_L_law_582 ?_
        refine c_sld0 d_L_law_583 hL h (fun v40 h => ?_)
        refine c_callVi0 (t' := (some .int)) (a := 32) (z := 0) (as := [(0, v40)]) (rest := []) (ls' := [(40, 0), (0, v40)]) d_L_law_584 ck_RL_113 rfl sh_32 rfl (by decide) (R 32 rfl) rfl rfl (Nat.le_of_ble_eq_true rfl) (Nat.le_of_ble_eq_true rfl) (by decide) rfl rfl (fun _ => rfl) (fun κ' Ψ hΨ => run_pM_list (cov21 R) _ hΨ) h (fun v41 D21 h => ?_)
        show Run Γ rg n Y_L_law 587 [(7, 0), (8, 0), (40, 0), (76, 0), (0, a4), (0, v39), (5, 0)] [(0, v41)] D21 Φ
        refine r_istore d_L_law_587 (by decide) rfl ?_
        show Run Γ rg n Y_L_law 589 [(7, 0), (8, 0), (40, 0), (76, 0), (0, a4), (0, v39), (0, v41)] [] D21 Φ
        refine r_aload_n d_L_law_589 rfl (by decide) ?_
        refine c_callVPi (a := 32) (z := 0) (as := []) (rest := []) (ls' := [(40, 0)]) d_L_law_590 ck_RL_91 rfl sh_32 rfl (by decide) (R 32 rfl) rfl rfl (Nat.le_of_ble_eq_true rfl) (Nat.le_of_ble_eq_true rfl) (by decide) rfl rfl (fun Ψ hΨ => run_pM_thrown (cov21 R) rfl hΨ) ?_
        show Run Γ rg n Y_L_law 593 [(7, 0), (8, 0), (40, 0), (76, 0), (0, a4), (0, v39), (0, v41)] [(0, (pM_thrown D21))] D21 Φ
        refine r_iload d_L_law_593 rfl ?_
        refine c_icmp_eq (tgt := 600) d_L_law_595 (by decide) (nz_w _) (nz_w _) h (fun h => ?_) (fun h => ?_)
        · skip
          show Run Γ rg n Y_L_law 600 [(7, 0), (8, 0), (40, 0), (76, 0), (0, a4), (0, v39), (0, v41)] [] D21 Φ
          refine r_iload d_L_law_600 rfl ?_
          refine c_jn (fun J => ∀ (D22 : DD), WP (some .boolean) 0 Φ (J D22) → Run Γ rg n Y_L_law 617 [(7, 0), (8, 0), (40, 0), (76, 0), (0, a4), (5, 0), (5, 0)] [] D22 Φ) h ?_ (fun J8 hJ8 h => ?_)
          · intro D22 h
            show Run Γ rg n Y_L_law 617 [(7, 0), (8, 0), (40, 0), (76, 0), (0, a4), (5, 0), (5, 0)] [] D22 Φ
            refine r_goto (tgt := 1570) d_L_law_617 (by decide) ?_
            exact (hJ1 D22 h)
          refine c_if_ne (tgt := 617) d_L_law_602 (by decide) (nz_w _) h (fun h => ?_) (fun h => ?_)
          · skip
            exact Run.forget (ls' := [(7, 0), (8, 0), (40, 0), (76, 0), (0, a4), (5, 0), (5, 0)]) ⟨Or.inr rfl, Or.inr rfl, Or.inr rfl, Or.inr rfl, Or.inr rfl, Or.inl rfl, Or.inl rfl, trivial⟩ (hJ8 D21 h)
          · skip
            show Run Γ rg n Y_L_law 605 [(7, 0), (8, 0), (40, 0), (76, 0), (0, a4), (0, v39), (0, v41)] [] D21 Φ
            refine r_aload_n d_L_law_605 rfl (by decide) ?_
            refine r_iconst d_L_law_606 ?_
            refine c_lald0 (k := 0) d_L_law_607 sh_68 (by decide) (R 68 rfl) (by decide) rfl (by decide) ?_
            refine r_iload d_L_law_608 rfl ?_
            refine c_i2l d_L_law_610 (nz_w _) ?_
            refine c_lcmp d_L_law_611 ?_
            refine c_if_eq (tgt := 617) d_L_law_612 (by decide) (nz_c _ _) h (fun h => ?_) (fun h => ?_)
            · skip
              exact Run.forget (ls' := [(7, 0), (8, 0), (40, 0), (76, 0), (0, a4), (5, 0), (5, 0)]) ⟨Or.inr rfl, Or.inr rfl, Or.inr rfl, Or.inr rfl, Or.inr rfl, Or.inl rfl, Or.inl rfl, trivial⟩ (hJ8 D21 h)
            · skip
              show Run Γ rg n Y_L_law 615 [(7, 0), (8, 0), (40, 0), (76, 0), (0, a4), (0, v39), (0, v41)] [] D21 Φ
              refine r_iconst d_L_law_615 ?_
              exact c_zret0 d_L_law_616 rfl (Or.inl rfl) h
        · skip
          show Run Γ rg n Y_L_law 598 [(7, 0), (8, 0), (40, 0), (76, 0), (0, a4), (0, v39), (0, v41)] [] D21 Φ
          refine r_iconst d_L_law_598 ?_
          exact c_zret0 d_L_law_599 rfl (Or.inl rfl) h
      refine c_sw1 (i := 7) (tgt := 620) d_L_law_39 (nz_w _) (by decide) (by decide) rfl (by decide) h (fun h => ?_) (fun g7 h => ?_)
      · skip
        show Run Γ rg (n + 1) Y_L_law 620 [(7, 0), (8, 0), (40, 0), (76, 0), (0, a4), (5, 0), (5, 0)] [] D Φ
        refine r_aload_n d_L_law_620 rfl (by decide) ?_
        refine r_aload_n d_L_law_621 rfl (by decide) ?_
        refine r_iload d_L_law_622 rfl ?_
        refine r_iconst d_L_law_624 ?_
        refine r_iadd d_L_law_625 ?_
        refine c_sld0 d_L_law_626 hL h (fun v42 h => ?_)
        refine r_aload_n d_L_law_627 rfl (by decide) ?_
        refine c_callHi (as := [(8, 0), (0, v42), (76, 0)]) (rest := []) (ls' := [(8, 0), (0, v42), (76, 0), (5, 0)]) d_L_law_628 ck_RL_114 rfl rfl rfl (Nat.le_of_ble_eq_true rfl) (Nat.le_of_ble_eq_true rfl) (by decide) rfl rfl (fun Ψ hΨ => run_pE_follow (κ := 0) R _ hΨ) h (fun v43 D23 h => ?_)
        show Run Γ rg n Y_L_law 631 [(7, 0), (8, 0), (40, 0), (76, 0), (0, a4), (5, 0), (5, 0)] [(0, v43)] D23 Φ
        refine r_istore d_L_law_631 (by decide) rfl ?_
        show Run Γ rg n Y_L_law 633 [(7, 0), (8, 0), (40, 0), (76, 0), (0, a4), (0, v43), (5, 0)] [] D23 Φ
        refine r_aload_n d_L_law_633 rfl (by decide) ?_
        refine r_aload_n d_L_law_634 rfl (by decide) ?_
        show Run Γ rg n Y_L_law 635 [(7, 0), (8, 0), (40, 0), (76, 0), (0, a4), (0, v43), (5, 0)] [(7, 0), (40, 0)] D23 Φ
        refine r_iload d_L_law_635 rfl ?_
        refine r_iconst d_L_law_637 ?_
        refine r_iadd d_L_law_638 ?_
        refine c_sld0 d_L_law_639 hL h (fun v44 h => ?_)
        refine c_callVi0 (t' := (some .int)) (a := 32) (z := 0) (as := [(0, v44)]) (rest := []) (ls' := [(40, 0), (0, v44), (5, 0), (5, 0)]) d_L_law_640 ck_RL_116 rfl sh_32 rfl (by decide) (R 32 rfl) rfl rfl (Nat.le_of_ble_eq_true rfl) (Nat.le_of_ble_eq_true rfl) (by decide) rfl rfl (fun _ => rfl) (fun κ' Ψ hΨ => run_pM_follow (cov21 R) _ hΨ) h (fun v45 D24 h => ?_)
        show Run Γ rg n Y_L_law 643 [(7, 0), (8, 0), (40, 0), (76, 0), (0, a4), (0, v43), (5, 0)] [(0, v45)] D24 Φ
        refine r_istore d_L_law_643 (by decide) rfl ?_
        show Run Γ rg n Y_L_law 645 [(7, 0), (8, 0), (40, 0), (76, 0), (0, a4), (0, v43), (0, v45)] [] D24 Φ
        refine r_aload_n d_L_law_645 rfl (by decide) ?_
        refine c_callVPi (a := 32) (z := 0) (as := []) (rest := []) (ls' := [(40, 0)]) d_L_law_646 ck_RL_91 rfl sh_32 rfl (by decide) (R 32 rfl) rfl rfl (Nat.le_of_ble_eq_true rfl) (Nat.le_of_ble_eq_true rfl) (by decide) rfl rfl (fun Ψ hΨ => run_pM_thrown (cov21 R) rfl hΨ) ?_
        show Run Γ rg n Y_L_law 649 [(7, 0), (8, 0), (40, 0), (76, 0), (0, a4), (0, v43), (0, v45)] [(0, (pM_thrown D24))] D24 Φ
        refine r_iload d_L_law_649 rfl ?_
        refine c_icmp_eq (tgt := 656) d_L_law_651 (by decide) (nz_w _) (nz_w _) h (fun h => ?_) (fun h => ?_)
        · skip
          show Run Γ rg n Y_L_law 656 [(7, 0), (8, 0), (40, 0), (76, 0), (0, a4), (0, v43), (0, v45)] [] D24 Φ
          refine r_iload d_L_law_656 rfl ?_
          refine c_jn (fun J => ∀ (D25 : DD), WP (some .boolean) 0 Φ (J D25) → Run Γ rg n Y_L_law 673 [(7, 0), (8, 0), (40, 0), (76, 0), (0, a4), (5, 0), (5, 0)] [] D25 Φ) h ?_ (fun J9 hJ9 h => ?_)
          · intro D25 h
            show Run Γ rg n Y_L_law 673 [(7, 0), (8, 0), (40, 0), (76, 0), (0, a4), (5, 0), (5, 0)] [] D25 Φ
            refine r_goto (tgt := 1570) d_L_law_673 (by decide) ?_
            exact (hJ1 D25 h)
          refine c_if_ne (tgt := 673) d_L_law_658 (by decide) (nz_w _) h (fun h => ?_) (fun h => ?_)
          · skip
            exact Run.forget (ls' := [(7, 0), (8, 0), (40, 0), (76, 0), (0, a4), (5, 0), (5, 0)]) ⟨Or.inr rfl, Or.inr rfl, Or.inr rfl, Or.inr rfl, Or.inr rfl, Or.inl rfl, Or.inl rfl, trivial⟩ (hJ9 D24 h)
          · skip
            show Run Γ rg n Y_L_law 661 [(7, 0), (8, 0), (40, 0), (76, 0), (0, a4), (0, v43), (0, v45)] [] D24 Φ
            refine r_aload_n d_L_law_661 rfl (by decide) ?_
            refine r_iconst d_L_law_662 ?_
            refine c_lald0 (k := 0) d_L_law_663 sh_68 (by decide) (R 68 rfl) (by decide) rfl (by decide) ?_
            refine r_iload d_L_law_664 rfl ?_
            refine c_i2l d_L_law_666 (nz_w _) ?_
            refine c_lcmp d_L_law_667 ?_
            refine c_if_eq (tgt := 673) d_L_law_668 (by decide) (nz_c _ _) h (fun h => ?_) (fun h => ?_)
            · skip
              exact Run.forget (ls' := [(7, 0), (8, 0), (40, 0), (76, 0), (0, a4), (5, 0), (5, 0)]) ⟨Or.inr rfl, Or.inr rfl, Or.inr rfl, Or.inr rfl, Or.inr rfl, Or.inl rfl, Or.inl rfl, trivial⟩ (hJ9 D24 h)
            · skip
              show Run Γ rg n Y_L_law 671 [(7, 0), (8, 0), (40, 0), (76, 0), (0, a4), (0, v43), (0, v45)] [] D24 Φ
              refine r_iconst d_L_law_671 ?_
              exact c_zret0 d_L_law_672 rfl (Or.inl rfl) h
        · skip
          show Run Γ rg n Y_L_law 654 [(7, 0), (8, 0), (40, 0), (76, 0), (0, a4), (0, v43), (0, v45)] [] D24 Φ
          refine r_iconst d_L_law_654 ?_
          exact c_zret0 d_L_law_655 rfl (Or.inl rfl) h
      refine c_sw1 (i := 8) (tgt := 676) d_L_law_39 (nz_w _) (by decide) (by decide) rfl (by decide) h (fun h => ?_) (fun g8 h => ?_)
      · skip
        show Run Γ rg (n + 1) Y_L_law 676 [(7, 0), (8, 0), (40, 0), (76, 0), (0, a4), (5, 0), (5, 0)] [] D Φ
        refine r_aload_n d_L_law_676 rfl (by decide) ?_
        refine r_aload_n d_L_law_677 rfl (by decide) ?_
        refine r_iload d_L_law_678 rfl ?_
        refine r_iconst d_L_law_680 ?_
        refine r_iadd d_L_law_681 ?_
        refine c_sld0 d_L_law_682 hL h (fun v46 h => ?_)
        refine r_aload_n d_L_law_683 rfl (by decide) ?_
        refine r_iload d_L_law_684 rfl ?_
        refine r_iconst d_L_law_686 ?_
        refine r_iadd d_L_law_687 ?_
        refine c_sld0 d_L_law_688 hL h (fun v47 h => ?_)
        show Run Γ rg (n + 1) Y_L_law 689 [(7, 0), (8, 0), (40, 0), (76, 0), (0, a4), (5, 0), (5, 0)] [(0, v47), (0, v46), (8, 0)] D Φ
        refine r_aload_n d_L_law_689 rfl (by decide) ?_
        refine r_iload d_L_law_690 rfl ?_
        refine r_iconst d_L_law_692 ?_
        refine r_iadd d_L_law_693 ?_
        refine c_sld0 d_L_law_694 hL h (fun v48 h => ?_)
        refine r_aload_n d_L_law_695 rfl (by decide) ?_
        refine r_iload d_L_law_696 rfl ?_
        refine r_iconst d_L_law_698 ?_
        refine r_iadd d_L_law_699 ?_
        refine c_sld0 d_L_law_700 hL h (fun v49 h => ?_)
        refine r_aload_n d_L_law_701 rfl (by decide) ?_
        refine c_callHi (as := [(8, 0), (0, v46), (0, v47), (0, v48), (0, v49), (76, 0)]) (rest := []) (ls' := [(8, 0), (0, v46), (0, v47), (0, v48), (0, v49), (76, 0), (5, 0)]) d_L_law_702 ck_RL_117 rfl rfl rfl (Nat.le_of_ble_eq_true rfl) (Nat.le_of_ble_eq_true rfl) (by decide) rfl rfl (fun Ψ hΨ => run_pE_setValue (κ := 0) R _ _ _ _ hΨ) h (fun v50 D26 h => ?_)
        show Run Γ rg n Y_L_law 705 [(7, 0), (8, 0), (40, 0), (76, 0), (0, a4), (5, 0), (5, 0)] [(0, v50)] D26 Φ
        show Run Γ rg n Y_L_law 705 [(7, 0), (8, 0), (40, 0), (76, 0), (0, a4), (5, 0), (5, 0)] [(0, v50)] D26 Φ
        refine r_istore d_L_law_705 (by decide) rfl ?_
        show Run Γ rg n Y_L_law 707 [(7, 0), (8, 0), (40, 0), (76, 0), (0, a4), (0, v50), (5, 0)] [] D26 Φ
        refine r_aload_n d_L_law_707 rfl (by decide) ?_
        refine r_aload_n d_L_law_708 rfl (by decide) ?_
        refine r_iload d_L_law_709 rfl ?_
        refine r_iconst d_L_law_711 ?_
        refine r_iadd d_L_law_712 ?_
        refine c_sld0 d_L_law_713 hL h (fun v51 h => ?_)
        refine r_aload_n d_L_law_714 rfl (by decide) ?_
        refine r_iload d_L_law_715 rfl ?_
        refine r_iconst d_L_law_717 ?_
        refine r_iadd d_L_law_718 ?_
        refine c_sld0 d_L_law_719 hL h (fun v52 h => ?_)
        show Run Γ rg n Y_L_law 720 [(7, 0), (8, 0), (40, 0), (76, 0), (0, a4), (0, v50), (5, 0)] [(0, v52), (0, v51), (40, 0)] D26 Φ
        refine r_aload_n d_L_law_720 rfl (by decide) ?_
        refine r_iload d_L_law_721 rfl ?_
        refine r_iconst d_L_law_723 ?_
        refine r_iadd d_L_law_724 ?_
        refine c_sld0 d_L_law_725 hL h (fun v53 h => ?_)
        refine r_aload_n d_L_law_726 rfl (by decide) ?_
        refine r_iload d_L_law_727 rfl ?_
        refine r_iconst d_L_law_729 ?_
        refine r_iadd d_L_law_730 ?_
        refine c_sld0 d_L_law_731 hL h (fun v54 h => ?_)
        refine c_callVi0 (t' := (some .int)) (a := 32) (z := 0) (as := [(0, v51), (0, v52), (0, v53), (0, v54)]) (rest := []) (ls' := [(40, 0), (0, v51), (0, v52), (0, v53), (0, v54), (5, 0), (5, 0), (5, 0), (5, 0), (5, 0), (5, 0)]) d_L_law_732 ck_RL_120 rfl sh_32 rfl (by decide) (R 32 rfl) rfl rfl (Nat.le_of_ble_eq_true rfl) (Nat.le_of_ble_eq_true rfl) (by decide) rfl rfl (fun _ => rfl) (fun κ' Ψ hΨ => run_pM_setValue (cov21 R) _ _ _ _ hΨ) h (fun v55 D27 h => ?_)
        show Run Γ rg n Y_L_law 735 [(7, 0), (8, 0), (40, 0), (76, 0), (0, a4), (0, v50), (5, 0)] [(0, v55)] D27 Φ
        refine r_istore d_L_law_735 (by decide) rfl ?_
        show Run Γ rg n Y_L_law 737 [(7, 0), (8, 0), (40, 0), (76, 0), (0, a4), (0, v50), (0, v55)] [] D27 Φ
        show Run Γ rg n Y_L_law 737 [(7, 0), (8, 0), (40, 0), (76, 0), (0, a4), (0, v50), (0, v55)] [] D27 Φ
        refine r_aload_n d_L_law_737 rfl (by decide) ?_
        refine c_callVPi (a := 32) (z := 0) (as := []) (rest := []) (ls' := [(40, 0)]) d_L_law_738 ck_RL_91 rfl sh_32 rfl (by decide) (R 32 rfl) rfl rfl (Nat.le_of_ble_eq_true rfl) (Nat.le_of_ble_eq_true rfl) (by decide) rfl rfl (fun Ψ hΨ => run_pM_thrown (cov21 R) rfl hΨ) ?_
        show Run Γ rg n Y_L_law 741 [(7, 0), (8, 0), (40, 0), (76, 0), (0, a4), (0, v50), (0, v55)] [(0, (pM_thrown D27))] D27 Φ
        refine r_iload d_L_law_741 rfl ?_
        refine c_icmp_eq (tgt := 748) d_L_law_743 (by decide) (nz_w _) (nz_w _) h (fun h => ?_) (fun h => ?_)
        · skip
          show Run Γ rg n Y_L_law 748 [(7, 0), (8, 0), (40, 0), (76, 0), (0, a4), (0, v50), (0, v55)] [] D27 Φ
          refine r_iload d_L_law_748 rfl ?_
          refine c_jn (fun J => ∀ (D28 : DD), WP (some .boolean) 0 Φ (J D28) → Run Γ rg n Y_L_law 765 [(7, 0), (8, 0), (40, 0), (76, 0), (0, a4), (5, 0), (5, 0)] [] D28 Φ) h ?_ (fun J10 hJ10 h => ?_)
          · intro D28 h
            show Run Γ rg n Y_L_law 765 [(7, 0), (8, 0), (40, 0), (76, 0), (0, a4), (5, 0), (5, 0)] [] D28 Φ
            refine r_goto (tgt := 1570) d_L_law_765 (by decide) ?_
            exact (hJ1 D28 h)
          refine c_if_ne (tgt := 765) d_L_law_750 (by decide) (nz_w _) h (fun h => ?_) (fun h => ?_)
          · skip
            exact Run.forget (ls' := [(7, 0), (8, 0), (40, 0), (76, 0), (0, a4), (5, 0), (5, 0)]) ⟨Or.inr rfl, Or.inr rfl, Or.inr rfl, Or.inr rfl, Or.inr rfl, Or.inl rfl, Or.inl rfl, trivial⟩ (hJ10 D27 h)
          · skip
            show Run Γ rg n Y_L_law 753 [(7, 0), (8, 0), (40, 0), (76, 0), (0, a4), (0, v50), (0, v55)] [] D27 Φ
            refine r_aload_n d_L_law_753 rfl (by decide) ?_
            refine r_iconst d_L_law_754 ?_
            refine c_lald0 (k := 0) d_L_law_755 sh_68 (by decide) (R 68 rfl) (by decide) rfl (by decide) ?_
            refine r_iload d_L_law_756 rfl ?_
            refine c_i2l d_L_law_758 (nz_w _) ?_
            refine c_lcmp d_L_law_759 ?_
            refine c_if_eq (tgt := 765) d_L_law_760 (by decide) (nz_c _ _) h (fun h => ?_) (fun h => ?_)
            · skip
              exact Run.forget (ls' := [(7, 0), (8, 0), (40, 0), (76, 0), (0, a4), (5, 0), (5, 0)]) ⟨Or.inr rfl, Or.inr rfl, Or.inr rfl, Or.inr rfl, Or.inr rfl, Or.inl rfl, Or.inl rfl, trivial⟩ (hJ10 D27 h)
            · skip
              show Run Γ rg n Y_L_law 763 [(7, 0), (8, 0), (40, 0), (76, 0), (0, a4), (0, v50), (0, v55)] [] D27 Φ
              refine r_iconst d_L_law_763 ?_
              exact c_zret0 d_L_law_764 rfl (Or.inl rfl) h
        · skip
          show Run Γ rg n Y_L_law 746 [(7, 0), (8, 0), (40, 0), (76, 0), (0, a4), (0, v50), (0, v55)] [] D27 Φ
          refine r_iconst d_L_law_746 ?_
          exact c_zret0 d_L_law_747 rfl (Or.inl rfl) h
      refine c_sw1 (i := 9) (tgt := 768) d_L_law_39 (nz_w _) (by decide) (by decide) rfl (by decide) h (fun h => ?_) (fun g9 h => ?_)
      · skip
        show Run Γ rg (n + 1) Y_L_law 768 [(7, 0), (8, 0), (40, 0), (76, 0), (0, a4), (5, 0), (5, 0)] [] D Φ
        refine r_aload_n d_L_law_768 rfl (by decide) ?_
        refine r_aload_n d_L_law_769 rfl (by decide) ?_
        refine r_iload d_L_law_770 rfl ?_
        refine r_iconst d_L_law_772 ?_
        refine r_iadd d_L_law_773 ?_
        refine c_sld0 d_L_law_774 hL h (fun v56 h => ?_)
        refine r_aload_n d_L_law_775 rfl (by decide) ?_
        refine r_iload d_L_law_776 rfl ?_
        refine r_iconst d_L_law_778 ?_
        refine r_iadd d_L_law_779 ?_
        refine c_sld0 d_L_law_780 hL h (fun v57 h => ?_)
        show Run Γ rg (n + 1) Y_L_law 781 [(7, 0), (8, 0), (40, 0), (76, 0), (0, a4), (5, 0), (5, 0)] [(0, v57), (0, v56), (8, 0)] D Φ
        refine r_aload_n d_L_law_781 rfl (by decide) ?_
        refine r_iload d_L_law_782 rfl ?_
        refine r_iconst d_L_law_784 ?_
        refine r_iadd d_L_law_785 ?_
        refine c_sld0 d_L_law_786 hL h (fun v58 h => ?_)
        refine r_aload_n d_L_law_787 rfl (by decide) ?_
        refine c_callHi (as := [(8, 0), (0, v56), (0, v57), (0, v58), (76, 0)]) (rest := []) (ls' := [(8, 0), (0, v56), (0, v57), (0, v58), (76, 0), (5, 0)]) d_L_law_788 ck_RL_121 rfl rfl rfl (Nat.le_of_ble_eq_true rfl) (Nat.le_of_ble_eq_true rfl) (by decide) rfl rfl (fun Ψ hΨ => run_pE_resize (κ := 0) R _ _ _ hΨ) h (fun v59 D29 h => ?_)
        show Run Γ rg n Y_L_law 791 [(7, 0), (8, 0), (40, 0), (76, 0), (0, a4), (5, 0), (5, 0)] [(0, v59)] D29 Φ
        refine r_istore d_L_law_791 (by decide) rfl ?_
        show Run Γ rg n Y_L_law 793 [(7, 0), (8, 0), (40, 0), (76, 0), (0, a4), (0, v59), (5, 0)] [] D29 Φ
        refine r_aload_n d_L_law_793 rfl (by decide) ?_
        refine r_aload_n d_L_law_794 rfl (by decide) ?_
        refine r_iload d_L_law_795 rfl ?_
        refine r_iconst d_L_law_797 ?_
        show Run Γ rg n Y_L_law 798 [(7, 0), (8, 0), (40, 0), (76, 0), (0, a4), (0, v59), (5, 0)] [(0, 1), (0, a4), (7, 0), (40, 0)] D29 Φ
        refine r_iadd d_L_law_798 ?_
        refine c_sld0 d_L_law_799 hL h (fun v60 h => ?_)
        refine r_aload_n d_L_law_800 rfl (by decide) ?_
        refine r_iload d_L_law_801 rfl ?_
        refine r_iconst d_L_law_803 ?_
        refine r_iadd d_L_law_804 ?_
        refine c_sld0 d_L_law_805 hL h (fun v61 h => ?_)
        refine r_aload_n d_L_law_806 rfl (by decide) ?_
        refine r_iload d_L_law_807 rfl ?_
        refine r_iconst d_L_law_809 ?_
        refine r_iadd d_L_law_810 ?_
        refine c_sld0 d_L_law_811 hL h (fun v62 h => ?_)
        show Run Γ rg n Y_L_law 812 [(7, 0), (8, 0), (40, 0), (76, 0), (0, a4), (0, v59), (5, 0)] [(0, v62), (0, v61), (0, v60), (40, 0)] D29 Φ
        refine c_callVi0 (t' := (some .int)) (a := 32) (z := 0) (as := [(0, v60), (0, v61), (0, v62)]) (rest := []) (ls' := [(40, 0), (0, v60), (0, v61), (0, v62), (5, 0), (5, 0), (5, 0), (5, 0), (5, 0)]) d_L_law_812 ck_RL_123 rfl sh_32 rfl (by decide) (R 32 rfl) rfl rfl (Nat.le_of_ble_eq_true rfl) (Nat.le_of_ble_eq_true rfl) (by decide) rfl rfl (fun _ => rfl) (fun κ' Ψ hΨ => run_pM_resize (cov21 R) _ _ _ hΨ) h (fun v63 D30 h => ?_)
        show Run Γ rg n Y_L_law 815 [(7, 0), (8, 0), (40, 0), (76, 0), (0, a4), (0, v59), (5, 0)] [(0, v63)] D30 Φ
        refine r_istore d_L_law_815 (by decide) rfl ?_
        show Run Γ rg n Y_L_law 817 [(7, 0), (8, 0), (40, 0), (76, 0), (0, a4), (0, v59), (0, v63)] [] D30 Φ
        refine r_aload_n d_L_law_817 rfl (by decide) ?_
        refine c_callVPi (a := 32) (z := 0) (as := []) (rest := []) (ls' := [(40, 0)]) d_L_law_818 ck_RL_91 rfl sh_32 rfl (by decide) (R 32 rfl) rfl rfl (Nat.le_of_ble_eq_true rfl) (Nat.le_of_ble_eq_true rfl) (by decide) rfl rfl (fun Ψ hΨ => run_pM_thrown (cov21 R) rfl hΨ) ?_
        show Run Γ rg n Y_L_law 821 [(7, 0), (8, 0), (40, 0), (76, 0), (0, a4), (0, v59), (0, v63)] [(0, (pM_thrown D30))] D30 Φ
        refine r_iload d_L_law_821 rfl ?_
        refine c_icmp_eq (tgt := 828) d_L_law_823 (by decide) (nz_w _) (nz_w _) h (fun h => ?_) (fun h => ?_)
        · skip
          show Run Γ rg n Y_L_law 828 [(7, 0), (8, 0), (40, 0), (76, 0), (0, a4), (0, v59), (0, v63)] [] D30 Φ
          refine r_iload d_L_law_828 rfl ?_
          refine c_jn (fun J => ∀ (D31 : DD), WP (some .boolean) 0 Φ (J D31) → Run Γ rg n Y_L_law 845 [(7, 0), (8, 0), (40, 0), (76, 0), (0, a4), (5, 0), (5, 0)] [] D31 Φ) h ?_ (fun J11 hJ11 h => ?_)
          · intro D31 h
            show Run Γ rg n Y_L_law 845 [(7, 0), (8, 0), (40, 0), (76, 0), (0, a4), (5, 0), (5, 0)] [] D31 Φ
            refine r_goto (tgt := 1570) d_L_law_845 (by decide) ?_
            exact (hJ1 D31 h)
          refine c_if_ne (tgt := 845) d_L_law_830 (by decide) (nz_w _) h (fun h => ?_) (fun h => ?_)
          · skip
            exact Run.forget (ls' := [(7, 0), (8, 0), (40, 0), (76, 0), (0, a4), (5, 0), (5, 0)]) ⟨Or.inr rfl, Or.inr rfl, Or.inr rfl, Or.inr rfl, Or.inr rfl, Or.inl rfl, Or.inl rfl, trivial⟩ (hJ11 D30 h)
          · skip
            show Run Γ rg n Y_L_law 833 [(7, 0), (8, 0), (40, 0), (76, 0), (0, a4), (0, v59), (0, v63)] [] D30 Φ
            refine r_aload_n d_L_law_833 rfl (by decide) ?_
            refine r_iconst d_L_law_834 ?_
            refine c_lald0 (k := 0) d_L_law_835 sh_68 (by decide) (R 68 rfl) (by decide) rfl (by decide) ?_
            refine r_iload d_L_law_836 rfl ?_
            refine c_i2l d_L_law_838 (nz_w _) ?_
            refine c_lcmp d_L_law_839 ?_
            refine c_if_eq (tgt := 845) d_L_law_840 (by decide) (nz_c _ _) h (fun h => ?_) (fun h => ?_)
            · skip
              exact Run.forget (ls' := [(7, 0), (8, 0), (40, 0), (76, 0), (0, a4), (5, 0), (5, 0)]) ⟨Or.inr rfl, Or.inr rfl, Or.inr rfl, Or.inr rfl, Or.inr rfl, Or.inl rfl, Or.inl rfl, trivial⟩ (hJ11 D30 h)
            · skip
              show Run Γ rg n Y_L_law 843 [(7, 0), (8, 0), (40, 0), (76, 0), (0, a4), (0, v59), (0, v63)] [] D30 Φ
              refine r_iconst d_L_law_843 ?_
              exact c_zret0 d_L_law_844 rfl (Or.inl rfl) h
        · skip
          show Run Γ rg n Y_L_law 826 [(7, 0), (8, 0), (40, 0), (76, 0), (0, a4), (0, v59), (0, v63)] [] D30 Φ
          refine r_iconst d_L_law_826 ?_
          exact c_zret0 d_L_law_827 rfl (Or.inl rfl) h
      refine c_sw1 (i := 10) (tgt := 848) d_L_law_39 (nz_w _) (by decide) (by decide) rfl (by decide) h (fun h => ?_) (fun g10 h => ?_)
      · skip
        show Run Γ rg (n + 1) Y_L_law 848 [(7, 0), (8, 0), (40, 0), (76, 0), (0, a4), (5, 0), (5, 0)] [] D Φ
        refine r_aload_n d_L_law_848 rfl (by decide) ?_
        refine r_aload_n d_L_law_849 rfl (by decide) ?_
        refine r_iload d_L_law_850 rfl ?_
        refine r_iconst d_L_law_852 ?_
        refine r_iadd d_L_law_853 ?_
        refine c_sld0 d_L_law_854 hL h (fun v64 h => ?_)
        refine r_aload_n d_L_law_855 rfl (by decide) ?_
        refine r_iload d_L_law_856 rfl ?_
        refine r_iconst d_L_law_858 ?_
        refine r_iadd d_L_law_859 ?_
        refine c_sld0 d_L_law_860 hL h (fun v65 h => ?_)
        show Run Γ rg (n + 1) Y_L_law 861 [(7, 0), (8, 0), (40, 0), (76, 0), (0, a4), (5, 0), (5, 0)] [(0, v65), (0, v64), (8, 0)] D Φ
        refine r_aload_n d_L_law_861 rfl (by decide) ?_
        refine c_callHi (as := [(8, 0), (0, v64), (0, v65), (76, 0)]) (rest := []) (ls' := [(8, 0), (0, v64), (0, v65), (76, 0), (5, 0)]) d_L_law_862 ck_RL_124 rfl rfl rfl (Nat.le_of_ble_eq_true rfl) (Nat.le_of_ble_eq_true rfl) (by decide) rfl rfl (fun Ψ hΨ => run_pE_dropValue (κ := 0) R _ _ hΨ) h (fun v66 D32 h => ?_)
        show Run Γ rg n Y_L_law 865 [(7, 0), (8, 0), (40, 0), (76, 0), (0, a4), (5, 0), (5, 0)] [(0, v66)] D32 Φ
        refine r_istore d_L_law_865 (by decide) rfl ?_
        show Run Γ rg n Y_L_law 867 [(7, 0), (8, 0), (40, 0), (76, 0), (0, a4), (0, v66), (5, 0)] [] D32 Φ
        refine r_aload_n d_L_law_867 rfl (by decide) ?_
        refine r_aload_n d_L_law_868 rfl (by decide) ?_
        refine r_iload d_L_law_869 rfl ?_
        refine r_iconst d_L_law_871 ?_
        refine r_iadd d_L_law_872 ?_
        refine c_sld0 d_L_law_873 hL h (fun v67 h => ?_)
        refine r_aload_n d_L_law_874 rfl (by decide) ?_
        refine r_iload d_L_law_875 rfl ?_
        refine r_iconst d_L_law_877 ?_
        show Run Γ rg n Y_L_law 878 [(7, 0), (8, 0), (40, 0), (76, 0), (0, a4), (0, v66), (5, 0)] [(0, 2), (0, a4), (7, 0), (0, v67), (40, 0)] D32 Φ
        refine r_iadd d_L_law_878 ?_
        refine c_sld0 d_L_law_879 hL h (fun v68 h => ?_)
        refine c_callVi0 (t' := (some .int)) (a := 32) (z := 0) (as := [(0, v67), (0, v68)]) (rest := []) (ls' := [(40, 0), (0, v67), (0, v68), (5, 0), (5, 0), (5, 0)]) d_L_law_880 ck_RL_126 rfl sh_32 rfl (by decide) (R 32 rfl) rfl rfl (Nat.le_of_ble_eq_true rfl) (Nat.le_of_ble_eq_true rfl) (by decide) rfl rfl (fun _ => rfl) (fun κ' Ψ hΨ => run_pM_dropValue (cov21 R) _ _ hΨ) h (fun v69 D33 h => ?_)
        show Run Γ rg n Y_L_law 883 [(7, 0), (8, 0), (40, 0), (76, 0), (0, a4), (0, v66), (5, 0)] [(0, v69)] D33 Φ
        refine r_istore d_L_law_883 (by decide) rfl ?_
        show Run Γ rg n Y_L_law 885 [(7, 0), (8, 0), (40, 0), (76, 0), (0, a4), (0, v66), (0, v69)] [] D33 Φ
        refine r_aload_n d_L_law_885 rfl (by decide) ?_
        refine c_callVPi (a := 32) (z := 0) (as := []) (rest := []) (ls' := [(40, 0)]) d_L_law_886 ck_RL_91 rfl sh_32 rfl (by decide) (R 32 rfl) rfl rfl (Nat.le_of_ble_eq_true rfl) (Nat.le_of_ble_eq_true rfl) (by decide) rfl rfl (fun Ψ hΨ => run_pM_thrown (cov21 R) rfl hΨ) ?_
        show Run Γ rg n Y_L_law 889 [(7, 0), (8, 0), (40, 0), (76, 0), (0, a4), (0, v66), (0, v69)] [(0, (pM_thrown D33))] D33 Φ
        refine r_iload d_L_law_889 rfl ?_
        refine c_icmp_eq (tgt := 896) d_L_law_891 (by decide) (nz_w _) (nz_w _) h (fun h => ?_) (fun h => ?_)
        · skip
          show Run Γ rg n Y_L_law 896 [(7, 0), (8, 0), (40, 0), (76, 0), (0, a4), (0, v66), (0, v69)] [] D33 Φ
          refine r_iload d_L_law_896 rfl ?_
          refine c_jn (fun J => ∀ (D34 : DD), WP (some .boolean) 0 Φ (J D34) → Run Γ rg n Y_L_law 913 [(7, 0), (8, 0), (40, 0), (76, 0), (0, a4), (5, 0), (5, 0)] [] D34 Φ) h ?_ (fun J12 hJ12 h => ?_)
          · intro D34 h
            show Run Γ rg n Y_L_law 913 [(7, 0), (8, 0), (40, 0), (76, 0), (0, a4), (5, 0), (5, 0)] [] D34 Φ
            refine r_goto (tgt := 1570) d_L_law_913 (by decide) ?_
            exact (hJ1 D34 h)
          refine c_if_ne (tgt := 913) d_L_law_898 (by decide) (nz_w _) h (fun h => ?_) (fun h => ?_)
          · skip
            exact Run.forget (ls' := [(7, 0), (8, 0), (40, 0), (76, 0), (0, a4), (5, 0), (5, 0)]) ⟨Or.inr rfl, Or.inr rfl, Or.inr rfl, Or.inr rfl, Or.inr rfl, Or.inl rfl, Or.inl rfl, trivial⟩ (hJ12 D33 h)
          · skip
            show Run Γ rg n Y_L_law 901 [(7, 0), (8, 0), (40, 0), (76, 0), (0, a4), (0, v66), (0, v69)] [] D33 Φ
            refine r_aload_n d_L_law_901 rfl (by decide) ?_
            refine r_iconst d_L_law_902 ?_
            refine c_lald0 (k := 0) d_L_law_903 sh_68 (by decide) (R 68 rfl) (by decide) rfl (by decide) ?_
            refine r_iload d_L_law_904 rfl ?_
            refine c_i2l d_L_law_906 (nz_w _) ?_
            refine c_lcmp d_L_law_907 ?_
            refine c_if_eq (tgt := 913) d_L_law_908 (by decide) (nz_c _ _) h (fun h => ?_) (fun h => ?_)
            · skip
              exact Run.forget (ls' := [(7, 0), (8, 0), (40, 0), (76, 0), (0, a4), (5, 0), (5, 0)]) ⟨Or.inr rfl, Or.inr rfl, Or.inr rfl, Or.inr rfl, Or.inr rfl, Or.inl rfl, Or.inl rfl, trivial⟩ (hJ12 D33 h)
            · skip
              show Run Γ rg n Y_L_law 911 [(7, 0), (8, 0), (40, 0), (76, 0), (0, a4), (0, v66), (0, v69)] [] D33 Φ
              refine r_iconst d_L_law_911 ?_
              exact c_zret0 d_L_law_912 rfl (Or.inl rfl) h
        · skip
          show Run Γ rg n Y_L_law 894 [(7, 0), (8, 0), (40, 0), (76, 0), (0, a4), (0, v66), (0, v69)] [] D33 Φ
          refine r_iconst d_L_law_894 ?_
          exact c_zret0 d_L_law_895 rfl (Or.inl rfl) h
      refine c_sw1 (i := 11) (tgt := 916) d_L_law_39 (nz_w _) (by decide) (by decide) rfl (by decide) h (fun h => ?_) (fun g11 h => ?_)
      · skip
        show Run Γ rg (n + 1) Y_L_law 916 [(7, 0), (8, 0), (40, 0), (76, 0), (0, a4), (5, 0), (5, 0)] [] D Φ
        refine r_aload_n d_L_law_916 rfl (by decide) ?_
        refine r_aload_n d_L_law_917 rfl (by decide) ?_
        refine r_iload d_L_law_918 rfl ?_
        refine r_iconst d_L_law_920 ?_
        refine r_iadd d_L_law_921 ?_
        refine c_sld0 d_L_law_922 hL h (fun v70 h => ?_)
        refine r_aload_n d_L_law_923 rfl (by decide) ?_
        refine r_iload d_L_law_924 rfl ?_
        refine r_iconst d_L_law_926 ?_
        refine r_iadd d_L_law_927 ?_
        refine c_sld0 d_L_law_928 hL h (fun v71 h => ?_)
        show Run Γ rg (n + 1) Y_L_law 929 [(7, 0), (8, 0), (40, 0), (76, 0), (0, a4), (5, 0), (5, 0)] [(0, v71), (0, v70), (8, 0)] D Φ
        refine r_aload_n d_L_law_929 rfl (by decide) ?_
        refine r_iload d_L_law_930 rfl ?_
        refine r_iconst d_L_law_932 ?_
        refine r_iadd d_L_law_933 ?_
        refine c_sld0 d_L_law_934 hL h (fun v72 h => ?_)
        refine r_aload_n d_L_law_935 rfl (by decide) ?_
        refine c_callHi (as := [(8, 0), (0, v70), (0, v71), (0, v72), (76, 0)]) (rest := []) (ls' := [(8, 0), (0, v70), (0, v71), (0, v72), (76, 0), (5, 0)]) d_L_law_936 ck_RL_127 rfl rfl rfl (Nat.le_of_ble_eq_true rfl) (Nat.le_of_ble_eq_true rfl) (by decide) rfl rfl (fun Ψ hΨ => run_pE_unit (κ := 0) R _ _ _ hΨ) h (fun v73 D35 h => ?_)
        show Run Γ rg n Y_L_law 939 [(7, 0), (8, 0), (40, 0), (76, 0), (0, a4), (5, 0), (5, 0)] [(0, v73)] D35 Φ
        refine r_istore d_L_law_939 (by decide) rfl ?_
        show Run Γ rg n Y_L_law 941 [(7, 0), (8, 0), (40, 0), (76, 0), (0, a4), (0, v73), (5, 0)] [] D35 Φ
        refine r_aload_n d_L_law_941 rfl (by decide) ?_
        refine r_aload_n d_L_law_942 rfl (by decide) ?_
        refine r_iload d_L_law_943 rfl ?_
        refine r_iconst d_L_law_945 ?_
        show Run Γ rg n Y_L_law 946 [(7, 0), (8, 0), (40, 0), (76, 0), (0, a4), (0, v73), (5, 0)] [(0, 1), (0, a4), (7, 0), (40, 0)] D35 Φ
        refine r_iadd d_L_law_946 ?_
        refine c_sld0 d_L_law_947 hL h (fun v74 h => ?_)
        refine r_aload_n d_L_law_948 rfl (by decide) ?_
        refine r_iload d_L_law_949 rfl ?_
        refine r_iconst d_L_law_951 ?_
        refine r_iadd d_L_law_952 ?_
        refine c_sld0 d_L_law_953 hL h (fun v75 h => ?_)
        refine r_aload_n d_L_law_954 rfl (by decide) ?_
        refine r_iload d_L_law_955 rfl ?_
        refine r_iconst d_L_law_957 ?_
        refine r_iadd d_L_law_958 ?_
        refine c_sld0 d_L_law_959 hL h (fun v76 h => ?_)
        show Run Γ rg n Y_L_law 960 [(7, 0), (8, 0), (40, 0), (76, 0), (0, a4), (0, v73), (5, 0)] [(0, v76), (0, v75), (0, v74), (40, 0)] D35 Φ
        refine c_callVi0 (t' := (some .int)) (a := 32) (z := 0) (as := [(0, v74), (0, v75), (0, v76)]) (rest := []) (ls' := [(40, 0), (0, v74), (0, v75), (0, v76), (5, 0), (5, 0)]) d_L_law_960 ck_RL_129 rfl sh_32 rfl (by decide) (R 32 rfl) rfl rfl (Nat.le_of_ble_eq_true rfl) (Nat.le_of_ble_eq_true rfl) (by decide) rfl rfl (fun _ => rfl) (fun κ' Ψ hΨ => run_pM_unit (cov21 R) _ _ _ hΨ) h (fun v77 D36 h => ?_)
        show Run Γ rg n Y_L_law 963 [(7, 0), (8, 0), (40, 0), (76, 0), (0, a4), (0, v73), (5, 0)] [(0, v77)] D36 Φ
        refine r_istore d_L_law_963 (by decide) rfl ?_
        show Run Γ rg n Y_L_law 965 [(7, 0), (8, 0), (40, 0), (76, 0), (0, a4), (0, v73), (0, v77)] [] D36 Φ
        refine r_aload_n d_L_law_965 rfl (by decide) ?_
        refine c_callVPi (a := 32) (z := 0) (as := []) (rest := []) (ls' := [(40, 0)]) d_L_law_966 ck_RL_91 rfl sh_32 rfl (by decide) (R 32 rfl) rfl rfl (Nat.le_of_ble_eq_true rfl) (Nat.le_of_ble_eq_true rfl) (by decide) rfl rfl (fun Ψ hΨ => run_pM_thrown (cov21 R) rfl hΨ) ?_
        show Run Γ rg n Y_L_law 969 [(7, 0), (8, 0), (40, 0), (76, 0), (0, a4), (0, v73), (0, v77)] [(0, (pM_thrown D36))] D36 Φ
        refine r_iload d_L_law_969 rfl ?_
        refine c_icmp_eq (tgt := 976) d_L_law_971 (by decide) (nz_w _) (nz_w _) h (fun h => ?_) (fun h => ?_)
        · skip
          show Run Γ rg n Y_L_law 976 [(7, 0), (8, 0), (40, 0), (76, 0), (0, a4), (0, v73), (0, v77)] [] D36 Φ
          refine r_iload d_L_law_976 rfl ?_
          refine c_jn (fun J => ∀ (D37 : DD), WP (some .boolean) 0 Φ (J D37) → Run Γ rg n Y_L_law 993 [(7, 0), (8, 0), (40, 0), (76, 0), (0, a4), (5, 0), (5, 0)] [] D37 Φ) h ?_ (fun J13 hJ13 h => ?_)
          · intro D37 h
            show Run Γ rg n Y_L_law 993 [(7, 0), (8, 0), (40, 0), (76, 0), (0, a4), (5, 0), (5, 0)] [] D37 Φ
            refine r_goto (tgt := 1570) d_L_law_993 (by decide) ?_
            exact (hJ1 D37 h)
          refine c_if_ne (tgt := 993) d_L_law_978 (by decide) (nz_w _) h (fun h => ?_) (fun h => ?_)
          · skip
            exact Run.forget (ls' := [(7, 0), (8, 0), (40, 0), (76, 0), (0, a4), (5, 0), (5, 0)]) ⟨Or.inr rfl, Or.inr rfl, Or.inr rfl, Or.inr rfl, Or.inr rfl, Or.inl rfl, Or.inl rfl, trivial⟩ (hJ13 D36 h)
          · skip
            show Run Γ rg n Y_L_law 981 [(7, 0), (8, 0), (40, 0), (76, 0), (0, a4), (0, v73), (0, v77)] [] D36 Φ
            refine r_aload_n d_L_law_981 rfl (by decide) ?_
            refine r_iconst d_L_law_982 ?_
            refine c_lald0 (k := 0) d_L_law_983 sh_68 (by decide) (R 68 rfl) (by decide) rfl (by decide) ?_
            refine r_iload d_L_law_984 rfl ?_
            refine c_i2l d_L_law_986 (nz_w _) ?_
            refine c_lcmp d_L_law_987 ?_
            refine c_if_eq (tgt := 993) d_L_law_988 (by decide) (nz_c _ _) h (fun h => ?_) (fun h => ?_)
            · skip
              exact Run.forget (ls' := [(7, 0), (8, 0), (40, 0), (76, 0), (0, a4), (5, 0), (5, 0)]) ⟨Or.inr rfl, Or.inr rfl, Or.inr rfl, Or.inr rfl, Or.inr rfl, Or.inl rfl, Or.inl rfl, trivial⟩ (hJ13 D36 h)
            · skip
              show Run Γ rg n Y_L_law 991 [(7, 0), (8, 0), (40, 0), (76, 0), (0, a4), (0, v73), (0, v77)] [] D36 Φ
              refine r_iconst d_L_law_991 ?_
              exact c_zret0 d_L_law_992 rfl (Or.inl rfl) h
        · skip
          show Run Γ rg n Y_L_law 974 [(7, 0), (8, 0), (40, 0), (76, 0), (0, a4), (0, v73), (0, v77)] [] D36 Φ
          refine r_iconst d_L_law_974 ?_
          exact c_zret0 d_L_law_975 rfl (Or.inl rfl) h
      refine c_sw1 (i := 12) (tgt := 996) d_L_law_39 (nz_w _) (by decide) (by decide) rfl (by decide) h (fun h => ?_) (fun g12 h => ?_)
      · skip
        show Run Γ rg (n + 1) Y_L_law 996 [(7, 0), (8, 0), (40, 0), (76, 0), (0, a4), (5, 0), (5, 0)] [] D Φ
        refine r_aload_n d_L_law_996 rfl (by decide) ?_
        refine r_aload_n d_L_law_997 rfl (by decide) ?_
        refine r_iload d_L_law_998 rfl ?_
        refine r_iconst d_L_law_1000 ?_
        refine r_iadd d_L_law_1001 ?_
        refine c_sld0 d_L_law_1002 hL h (fun v78 h => ?_)
        refine r_aload_n d_L_law_1003 rfl (by decide) ?_
        refine r_iload d_L_law_1004 rfl ?_
        refine r_iconst d_L_law_1006 ?_
        refine r_iadd d_L_law_1007 ?_
        refine c_sld0 d_L_law_1008 hL h (fun v79 h => ?_)
        show Run Γ rg (n + 1) Y_L_law 1009 [(7, 0), (8, 0), (40, 0), (76, 0), (0, a4), (5, 0), (5, 0)] [(0, v79), (0, v78), (8, 0)] D Φ
        refine r_aload_n d_L_law_1009 rfl (by decide) ?_
        refine c_callHi (as := [(8, 0), (0, v78), (0, v79), (76, 0)]) (rest := []) (ls' := [(8, 0), (0, v78), (0, v79), (76, 0), (5, 0)]) d_L_law_1010 ck_RL_130 rfl rfl rfl (Nat.le_of_ble_eq_true rfl) (Nat.le_of_ble_eq_true rfl) (by decide) rfl rfl (fun Ψ hΨ => run_pE_setRights (κ := 0) R _ _ hΨ) h (fun v80 D38 h => ?_)
        show Run Γ rg n Y_L_law 1013 [(7, 0), (8, 0), (40, 0), (76, 0), (0, a4), (5, 0), (5, 0)] [(0, v80)] D38 Φ
        refine r_istore d_L_law_1013 (by decide) rfl ?_
        show Run Γ rg n Y_L_law 1015 [(7, 0), (8, 0), (40, 0), (76, 0), (0, a4), (0, v80), (5, 0)] [] D38 Φ
        refine r_aload_n d_L_law_1015 rfl (by decide) ?_
        refine r_aload_n d_L_law_1016 rfl (by decide) ?_
        refine r_iload d_L_law_1017 rfl ?_
        refine r_iconst d_L_law_1019 ?_
        refine r_iadd d_L_law_1020 ?_
        refine c_sld0 d_L_law_1021 hL h (fun v81 h => ?_)
        refine r_aload_n d_L_law_1022 rfl (by decide) ?_
        refine r_iload d_L_law_1023 rfl ?_
        refine r_iconst d_L_law_1025 ?_
        show Run Γ rg n Y_L_law 1026 [(7, 0), (8, 0), (40, 0), (76, 0), (0, a4), (0, v80), (5, 0)] [(0, 2), (0, a4), (7, 0), (0, v81), (40, 0)] D38 Φ
        refine r_iadd d_L_law_1026 ?_
        refine c_sld0 d_L_law_1027 hL h (fun v82 h => ?_)
        refine c_callVi0 (t' := (some .int)) (a := 32) (z := 0) (as := [(0, v81), (0, v82)]) (rest := []) (ls' := [(40, 0), (0, v81), (0, v82), (5, 0), (5, 0)]) d_L_law_1028 ck_RL_132 rfl sh_32 rfl (by decide) (R 32 rfl) rfl rfl (Nat.le_of_ble_eq_true rfl) (Nat.le_of_ble_eq_true rfl) (by decide) rfl rfl (fun _ => rfl) (fun κ' Ψ hΨ => run_pM_setRights (cov21 R) _ _ hΨ) h (fun v83 D39 h => ?_)
        show Run Γ rg n Y_L_law 1031 [(7, 0), (8, 0), (40, 0), (76, 0), (0, a4), (0, v80), (5, 0)] [(0, v83)] D39 Φ
        refine r_istore d_L_law_1031 (by decide) rfl ?_
        show Run Γ rg n Y_L_law 1033 [(7, 0), (8, 0), (40, 0), (76, 0), (0, a4), (0, v80), (0, v83)] [] D39 Φ
        refine r_aload_n d_L_law_1033 rfl (by decide) ?_
        refine c_callVPi (a := 32) (z := 0) (as := []) (rest := []) (ls' := [(40, 0)]) d_L_law_1034 ck_RL_91 rfl sh_32 rfl (by decide) (R 32 rfl) rfl rfl (Nat.le_of_ble_eq_true rfl) (Nat.le_of_ble_eq_true rfl) (by decide) rfl rfl (fun Ψ hΨ => run_pM_thrown (cov21 R) rfl hΨ) ?_
        show Run Γ rg n Y_L_law 1037 [(7, 0), (8, 0), (40, 0), (76, 0), (0, a4), (0, v80), (0, v83)] [(0, (pM_thrown D39))] D39 Φ
        refine r_iload d_L_law_1037 rfl ?_
        refine c_icmp_eq (tgt := 1044) d_L_law_1039 (by decide) (nz_w _) (nz_w _) h (fun h => ?_) (fun h => ?_)
        · skip
          show Run Γ rg n Y_L_law 1044 [(7, 0), (8, 0), (40, 0), (76, 0), (0, a4), (0, v80), (0, v83)] [] D39 Φ
          refine r_iload d_L_law_1044 rfl ?_
          refine c_jn (fun J => ∀ (D40 : DD), WP (some .boolean) 0 Φ (J D40) → Run Γ rg n Y_L_law 1061 [(7, 0), (8, 0), (40, 0), (76, 0), (0, a4), (5, 0), (5, 0)] [] D40 Φ) h ?_ (fun J14 hJ14 h => ?_)
          · intro D40 h
            show Run Γ rg n Y_L_law 1061 [(7, 0), (8, 0), (40, 0), (76, 0), (0, a4), (5, 0), (5, 0)] [] D40 Φ
            refine r_goto (tgt := 1570) d_L_law_1061 (by decide) ?_
            exact (hJ1 D40 h)
          refine c_if_ne (tgt := 1061) d_L_law_1046 (by decide) (nz_w _) h (fun h => ?_) (fun h => ?_)
          · skip
            exact Run.forget (ls' := [(7, 0), (8, 0), (40, 0), (76, 0), (0, a4), (5, 0), (5, 0)]) ⟨Or.inr rfl, Or.inr rfl, Or.inr rfl, Or.inr rfl, Or.inr rfl, Or.inl rfl, Or.inl rfl, trivial⟩ (hJ14 D39 h)
          · skip
            show Run Γ rg n Y_L_law 1049 [(7, 0), (8, 0), (40, 0), (76, 0), (0, a4), (0, v80), (0, v83)] [] D39 Φ
            refine r_aload_n d_L_law_1049 rfl (by decide) ?_
            refine r_iconst d_L_law_1050 ?_
            refine c_lald0 (k := 0) d_L_law_1051 sh_68 (by decide) (R 68 rfl) (by decide) rfl (by decide) ?_
            refine r_iload d_L_law_1052 rfl ?_
            refine c_i2l d_L_law_1054 (nz_w _) ?_
            refine c_lcmp d_L_law_1055 ?_
            refine c_if_eq (tgt := 1061) d_L_law_1056 (by decide) (nz_c _ _) h (fun h => ?_) (fun h => ?_)
            · skip
              exact Run.forget (ls' := [(7, 0), (8, 0), (40, 0), (76, 0), (0, a4), (5, 0), (5, 0)]) ⟨Or.inr rfl, Or.inr rfl, Or.inr rfl, Or.inr rfl, Or.inr rfl, Or.inl rfl, Or.inl rfl, trivial⟩ (hJ14 D39 h)
            · skip
              show Run Γ rg n Y_L_law 1059 [(7, 0), (8, 0), (40, 0), (76, 0), (0, a4), (0, v80), (0, v83)] [] D39 Φ
              refine r_iconst d_L_law_1059 ?_
              exact c_zret0 d_L_law_1060 rfl (Or.inl rfl) h
        · skip
          show Run Γ rg n Y_L_law 1042 [(7, 0), (8, 0), (40, 0), (76, 0), (0, a4), (0, v80), (0, v83)] [] D39 Φ
          refine r_iconst d_L_law_1042 ?_
          exact c_zret0 d_L_law_1043 rfl (Or.inl rfl) h
      refine c_sw1 (i := 13) (tgt := 1064) d_L_law_39 (nz_w _) (by decide) (by decide) rfl (by decide) h (fun h => ?_) (fun g13 h => ?_)
      · skip
        show Run Γ rg (n + 1) Y_L_law 1064 [(7, 0), (8, 0), (40, 0), (76, 0), (0, a4), (5, 0), (5, 0)] [] D Φ
        refine r_aload_n d_L_law_1064 rfl (by decide) ?_
        refine r_aload_n d_L_law_1065 rfl (by decide) ?_
        refine r_iload d_L_law_1066 rfl ?_
        refine r_iconst d_L_law_1068 ?_
        refine r_iadd d_L_law_1069 ?_
        refine c_sld0 d_L_law_1070 hL h (fun v84 h => ?_)
        refine r_aload_n d_L_law_1071 rfl (by decide) ?_
        refine c_callHi (as := [(8, 0), (0, v84), (76, 0)]) (rest := []) (ls' := [(8, 0), (0, v84), (76, 0), (5, 0)]) d_L_law_1072 ck_RL_133 rfl rfl rfl (Nat.le_of_ble_eq_true rfl) (Nat.le_of_ble_eq_true rfl) (by decide) rfl rfl (fun Ψ hΨ => run_pE_sharers (κ := 0) R _ hΨ) h (fun v85 D41 h => ?_)
        show Run Γ rg n Y_L_law 1075 [(7, 0), (8, 0), (40, 0), (76, 0), (0, a4), (5, 0), (5, 0)] [(0, v85)] D41 Φ
        refine r_istore d_L_law_1075 (by decide) rfl ?_
        show Run Γ rg n Y_L_law 1077 [(7, 0), (8, 0), (40, 0), (76, 0), (0, a4), (0, v85), (5, 0)] [] D41 Φ
        refine r_aload_n d_L_law_1077 rfl (by decide) ?_
        refine r_aload_n d_L_law_1078 rfl (by decide) ?_
        show Run Γ rg n Y_L_law 1079 [(7, 0), (8, 0), (40, 0), (76, 0), (0, a4), (0, v85), (5, 0)] [(7, 0), (40, 0)] D41 Φ
        refine r_iload d_L_law_1079 rfl ?_
        refine r_iconst d_L_law_1081 ?_
        refine r_iadd d_L_law_1082 ?_
        refine c_sld0 d_L_law_1083 hL h (fun v86 h => ?_)
        refine c_callVi0 (t' := (some .int)) (a := 32) (z := 0) (as := [(0, v86)]) (rest := []) (ls' := [(40, 0), (0, v86)]) d_L_law_1084 ck_RL_135 rfl sh_32 rfl (by decide) (R 32 rfl) rfl rfl (Nat.le_of_ble_eq_true rfl) (Nat.le_of_ble_eq_true rfl) (by decide) rfl rfl (fun _ => rfl) (fun κ' Ψ hΨ => run_pM_sharers (cov21 R) _ hΨ) h (fun v87 D42 h => ?_)
        show Run Γ rg n Y_L_law 1087 [(7, 0), (8, 0), (40, 0), (76, 0), (0, a4), (0, v85), (5, 0)] [(0, v87)] D42 Φ
        refine r_istore d_L_law_1087 (by decide) rfl ?_
        show Run Γ rg n Y_L_law 1089 [(7, 0), (8, 0), (40, 0), (76, 0), (0, a4), (0, v85), (0, v87)] [] D42 Φ
        refine r_aload_n d_L_law_1089 rfl (by decide) ?_
        refine c_callVPi (a := 32) (z := 0) (as := []) (rest := []) (ls' := [(40, 0)]) d_L_law_1090 ck_RL_91 rfl sh_32 rfl (by decide) (R 32 rfl) rfl rfl (Nat.le_of_ble_eq_true rfl) (Nat.le_of_ble_eq_true rfl) (by decide) rfl rfl (fun Ψ hΨ => run_pM_thrown (cov21 R) rfl hΨ) ?_
        show Run Γ rg n Y_L_law 1093 [(7, 0), (8, 0), (40, 0), (76, 0), (0, a4), (0, v85), (0, v87)] [(0, (pM_thrown D42))] D42 Φ
        refine r_iload d_L_law_1093 rfl ?_
        refine c_icmp_eq (tgt := 1100) d_L_law_1095 (by decide) (nz_w _) (nz_w _) h (fun h => ?_) (fun h => ?_)
        · skip
          show Run Γ rg n Y_L_law 1100 [(7, 0), (8, 0), (40, 0), (76, 0), (0, a4), (0, v85), (0, v87)] [] D42 Φ
          refine r_iload d_L_law_1100 rfl ?_
          refine c_jn (fun J => ∀ (D43 : DD), WP (some .boolean) 0 Φ (J D43) → Run Γ rg n Y_L_law 1117 [(7, 0), (8, 0), (40, 0), (76, 0), (0, a4), (5, 0), (5, 0)] [] D43 Φ) h ?_ (fun J15 hJ15 h => ?_)
          · intro D43 h
            show Run Γ rg n Y_L_law 1117 [(7, 0), (8, 0), (40, 0), (76, 0), (0, a4), (5, 0), (5, 0)] [] D43 Φ
            refine r_goto (tgt := 1570) d_L_law_1117 (by decide) ?_
            exact (hJ1 D43 h)
          refine c_if_ne (tgt := 1117) d_L_law_1102 (by decide) (nz_w _) h (fun h => ?_) (fun h => ?_)
          · skip
            exact Run.forget (ls' := [(7, 0), (8, 0), (40, 0), (76, 0), (0, a4), (5, 0), (5, 0)]) ⟨Or.inr rfl, Or.inr rfl, Or.inr rfl, Or.inr rfl, Or.inr rfl, Or.inl rfl, Or.inl rfl, trivial⟩ (hJ15 D42 h)
          · skip
            show Run Γ rg n Y_L_law 1105 [(7, 0), (8, 0), (40, 0), (76, 0), (0, a4), (0, v85), (0, v87)] [] D42 Φ
            refine r_aload_n d_L_law_1105 rfl (by decide) ?_
            refine r_iconst d_L_law_1106 ?_
            refine c_lald0 (k := 0) d_L_law_1107 sh_68 (by decide) (R 68 rfl) (by decide) rfl (by decide) ?_
            refine r_iload d_L_law_1108 rfl ?_
            refine c_i2l d_L_law_1110 (nz_w _) ?_
            refine c_lcmp d_L_law_1111 ?_
            refine c_if_eq (tgt := 1117) d_L_law_1112 (by decide) (nz_c _ _) h (fun h => ?_) (fun h => ?_)
            · skip
              exact Run.forget (ls' := [(7, 0), (8, 0), (40, 0), (76, 0), (0, a4), (5, 0), (5, 0)]) ⟨Or.inr rfl, Or.inr rfl, Or.inr rfl, Or.inr rfl, Or.inr rfl, Or.inl rfl, Or.inl rfl, trivial⟩ (hJ15 D42 h)
            · skip
              show Run Γ rg n Y_L_law 1115 [(7, 0), (8, 0), (40, 0), (76, 0), (0, a4), (0, v85), (0, v87)] [] D42 Φ
              refine r_iconst d_L_law_1115 ?_
              exact c_zret0 d_L_law_1116 rfl (Or.inl rfl) h
        · skip
          show Run Γ rg n Y_L_law 1098 [(7, 0), (8, 0), (40, 0), (76, 0), (0, a4), (0, v85), (0, v87)] [] D42 Φ
          refine r_iconst d_L_law_1098 ?_
          exact c_zret0 d_L_law_1099 rfl (Or.inl rfl) h
      refine c_sw1 (i := 14) (tgt := 1120) d_L_law_39 (nz_w _) (by decide) (by decide) rfl (by decide) h (fun h => ?_) (fun g14 h => ?_)
      · skip
        show Run Γ rg (n + 1) Y_L_law 1120 [(7, 0), (8, 0), (40, 0), (76, 0), (0, a4), (5, 0), (5, 0)] [] D Φ
        refine r_aload_n d_L_law_1120 rfl (by decide) ?_
        refine c_callVPi (a := 0) (z := 0) (as := []) (rest := []) (ls' := [(8, 0)]) d_L_law_1121 ck_RL_136 rfl sh_0 rfl (by decide) (R 0 rfl) rfl rfl (Nat.le_of_ble_eq_true rfl) (Nat.le_of_ble_eq_true rfl) (by decide) rfl rfl (fun Ψ hΨ => run_pH_sectors (cov20 R) rfl hΨ) ?_
        show Run Γ rg (n + 1) Y_L_law 1124 [(7, 0), (8, 0), (40, 0), (76, 0), (0, a4), (5, 0), (5, 0)] [(0, (pH_sectors D))] D Φ
        refine r_aload_n d_L_law_1124 rfl (by decide) ?_
        refine c_callVi0 (t' := (some .int)) (a := 32) (z := 0) (as := []) (rest := [(0, (pH_sectors D))]) (ls' := [(40, 0)]) d_L_law_1125 ck_RL_139 rfl sh_32 rfl (by decide) (R 32 rfl) rfl rfl (Nat.le_of_ble_eq_true rfl) (Nat.le_of_ble_eq_true rfl) (by decide) rfl rfl (fun _ => rfl) (fun κ' Ψ hΨ => run_pM_sectors (cov21 R) hΨ) h (fun v88 D44 h => ?_)
        show Run Γ rg (n + 1) Y_L_law 1128 [(7, 0), (8, 0), (40, 0), (76, 0), (0, a4), (5, 0), (5, 0)] [(0, v88), (0, (pH_sectors D))] D44 Φ
        refine c_icmp_eq (tgt := 1570) d_L_law_1128 (by decide) (nz_w _) (nz_w _) h (fun h => ?_) (fun h => ?_)
        · skip
          refine Run.mono (κ' := n) (Nat.le_succ n) (fun _ _ h => h) ?_
          exact (hJ1 D44 h)
        · skip
          show Run Γ rg (n + 1) Y_L_law 1131 [(7, 0), (8, 0), (40, 0), (76, 0), (0, a4), (5, 0), (5, 0)] [] D44 Φ
          refine r_iconst d_L_law_1131 ?_
          exact c_zret0 d_L_law_1132 rfl (Or.inl rfl) h
      refine c_sw1 (i := 15) (tgt := 1133) d_L_law_39 (nz_w _) (by decide) (by decide) rfl (by decide) h (fun h => ?_) (fun g15 h => ?_)
      · skip
        show Run Γ rg (n + 1) Y_L_law 1133 [(7, 0), (8, 0), (40, 0), (76, 0), (0, a4), (5, 0), (5, 0)] [] D Φ
        refine r_aload_n d_L_law_1133 rfl (by decide) ?_
        refine r_aload_n d_L_law_1134 rfl (by decide) ?_
        refine r_iload d_L_law_1135 rfl ?_
        refine r_iconst d_L_law_1137 ?_
        refine r_iadd d_L_law_1138 ?_
        refine c_sld0 d_L_law_1139 hL h (fun v89 h => ?_)
        refine r_aload_n d_L_law_1140 rfl (by decide) ?_
        refine c_callHi (as := [(8, 0), (0, v89), (76, 0)]) (rest := []) (ls' := [(8, 0), (0, v89), (76, 0), (5, 0)]) d_L_law_1141 ck_RL_140 rfl rfl rfl (Nat.le_of_ble_eq_true rfl) (Nat.le_of_ble_eq_true rfl) (by decide) rfl rfl (fun Ψ hΨ => run_pE_cell (κ := 0) R _ hΨ) h (fun v90 D45 h => ?_)
        show Run Γ rg n Y_L_law 1144 [(7, 0), (8, 0), (40, 0), (76, 0), (0, a4), (5, 0), (5, 0)] [(0, v90)] D45 Φ
        refine r_istore d_L_law_1144 (by decide) rfl ?_
        show Run Γ rg n Y_L_law 1146 [(7, 0), (8, 0), (40, 0), (76, 0), (0, a4), (0, v90), (5, 0)] [] D45 Φ
        refine r_aload_n d_L_law_1146 rfl (by decide) ?_
        refine r_aload_n d_L_law_1147 rfl (by decide) ?_
        show Run Γ rg n Y_L_law 1148 [(7, 0), (8, 0), (40, 0), (76, 0), (0, a4), (0, v90), (5, 0)] [(7, 0), (40, 0)] D45 Φ
        refine r_iload d_L_law_1148 rfl ?_
        refine r_iconst d_L_law_1150 ?_
        refine r_iadd d_L_law_1151 ?_
        refine c_sld0 d_L_law_1152 hL h (fun v91 h => ?_)
        refine c_callVi0 (t' := (some .int)) (a := 32) (z := 0) (as := [(0, v91)]) (rest := []) (ls' := [(40, 0), (0, v91)]) d_L_law_1153 ck_RL_142 rfl sh_32 rfl (by decide) (R 32 rfl) rfl rfl (Nat.le_of_ble_eq_true rfl) (Nat.le_of_ble_eq_true rfl) (by decide) rfl rfl (fun _ => rfl) (fun κ' Ψ hΨ => run_pM_cell (cov21 R) _ hΨ) h (fun v92 D46 h => ?_)
        show Run Γ rg n Y_L_law 1156 [(7, 0), (8, 0), (40, 0), (76, 0), (0, a4), (0, v90), (5, 0)] [(0, v92)] D46 Φ
        refine r_istore d_L_law_1156 (by decide) rfl ?_
        show Run Γ rg n Y_L_law 1158 [(7, 0), (8, 0), (40, 0), (76, 0), (0, a4), (0, v90), (0, v92)] [] D46 Φ
        refine r_aload_n d_L_law_1158 rfl (by decide) ?_
        refine c_callVPi (a := 32) (z := 0) (as := []) (rest := []) (ls' := [(40, 0)]) d_L_law_1159 ck_RL_91 rfl sh_32 rfl (by decide) (R 32 rfl) rfl rfl (Nat.le_of_ble_eq_true rfl) (Nat.le_of_ble_eq_true rfl) (by decide) rfl rfl (fun Ψ hΨ => run_pM_thrown (cov21 R) rfl hΨ) ?_
        show Run Γ rg n Y_L_law 1162 [(7, 0), (8, 0), (40, 0), (76, 0), (0, a4), (0, v90), (0, v92)] [(0, (pM_thrown D46))] D46 Φ
        refine r_iload d_L_law_1162 rfl ?_
        refine c_icmp_eq (tgt := 1169) d_L_law_1164 (by decide) (nz_w _) (nz_w _) h (fun h => ?_) (fun h => ?_)
        · skip
          show Run Γ rg n Y_L_law 1169 [(7, 0), (8, 0), (40, 0), (76, 0), (0, a4), (0, v90), (0, v92)] [] D46 Φ
          refine r_iload d_L_law_1169 rfl ?_
          refine c_jn (fun J => ∀ (D47 : DD), WP (some .boolean) 0 Φ (J D47) → Run Γ rg n Y_L_law 1186 [(7, 0), (8, 0), (40, 0), (76, 0), (0, a4), (5, 0), (5, 0)] [] D47 Φ) h ?_ (fun J16 hJ16 h => ?_)
          · intro D47 h
            show Run Γ rg n Y_L_law 1186 [(7, 0), (8, 0), (40, 0), (76, 0), (0, a4), (5, 0), (5, 0)] [] D47 Φ
            refine r_goto (tgt := 1570) d_L_law_1186 (by decide) ?_
            exact (hJ1 D47 h)
          refine c_if_ne (tgt := 1186) d_L_law_1171 (by decide) (nz_w _) h (fun h => ?_) (fun h => ?_)
          · skip
            exact Run.forget (ls' := [(7, 0), (8, 0), (40, 0), (76, 0), (0, a4), (5, 0), (5, 0)]) ⟨Or.inr rfl, Or.inr rfl, Or.inr rfl, Or.inr rfl, Or.inr rfl, Or.inl rfl, Or.inl rfl, trivial⟩ (hJ16 D46 h)
          · skip
            show Run Γ rg n Y_L_law 1174 [(7, 0), (8, 0), (40, 0), (76, 0), (0, a4), (0, v90), (0, v92)] [] D46 Φ
            refine r_aload_n d_L_law_1174 rfl (by decide) ?_
            refine r_iconst d_L_law_1175 ?_
            refine c_lald0 (k := 0) d_L_law_1176 sh_68 (by decide) (R 68 rfl) (by decide) rfl (by decide) ?_
            refine r_iload d_L_law_1177 rfl ?_
            refine c_i2l d_L_law_1179 (nz_w _) ?_
            refine c_lcmp d_L_law_1180 ?_
            refine c_if_eq (tgt := 1186) d_L_law_1181 (by decide) (nz_c _ _) h (fun h => ?_) (fun h => ?_)
            · skip
              exact Run.forget (ls' := [(7, 0), (8, 0), (40, 0), (76, 0), (0, a4), (5, 0), (5, 0)]) ⟨Or.inr rfl, Or.inr rfl, Or.inr rfl, Or.inr rfl, Or.inr rfl, Or.inl rfl, Or.inl rfl, trivial⟩ (hJ16 D46 h)
            · skip
              show Run Γ rg n Y_L_law 1184 [(7, 0), (8, 0), (40, 0), (76, 0), (0, a4), (0, v90), (0, v92)] [] D46 Φ
              refine r_iconst d_L_law_1184 ?_
              exact c_zret0 d_L_law_1185 rfl (Or.inl rfl) h
        · skip
          show Run Γ rg n Y_L_law 1167 [(7, 0), (8, 0), (40, 0), (76, 0), (0, a4), (0, v90), (0, v92)] [] D46 Φ
          refine r_iconst d_L_law_1167 ?_
          exact c_zret0 d_L_law_1168 rfl (Or.inl rfl) h
      refine c_sw1 (i := 16) (tgt := 1189) d_L_law_39 (nz_w _) (by decide) (by decide) rfl (by decide) h (fun h => ?_) (fun g16 h => ?_)
      · skip
        show Run Γ rg (n + 1) Y_L_law 1189 [(7, 0), (8, 0), (40, 0), (76, 0), (0, a4), (5, 0), (5, 0)] [] D Φ
        refine r_aload_n d_L_law_1189 rfl (by decide) ?_
        refine r_aload_n d_L_law_1190 rfl (by decide) ?_
        refine r_iload d_L_law_1191 rfl ?_
        refine r_iconst d_L_law_1193 ?_
        refine r_iadd d_L_law_1194 ?_
        refine c_sld0 d_L_law_1195 hL h (fun v93 h => ?_)
        refine r_aload_n d_L_law_1196 rfl (by decide) ?_
        refine c_callHi (as := [(8, 0), (0, v93), (76, 0)]) (rest := []) (ls' := [(8, 0), (0, v93), (76, 0), (5, 0)]) d_L_law_1197 ck_RL_143 rfl rfl rfl (Nat.le_of_ble_eq_true rfl) (Nat.le_of_ble_eq_true rfl) (by decide) rfl rfl (fun Ψ hΨ => run_pE_place (κ := 0) R _ hΨ) h (fun v94 D48 h => ?_)
        show Run Γ rg n Y_L_law 1200 [(7, 0), (8, 0), (40, 0), (76, 0), (0, a4), (5, 0), (5, 0)] [(0, v94)] D48 Φ
        refine r_istore d_L_law_1200 (by decide) rfl ?_
        show Run Γ rg n Y_L_law 1202 [(7, 0), (8, 0), (40, 0), (76, 0), (0, a4), (0, v94), (5, 0)] [] D48 Φ
        refine r_aload_n d_L_law_1202 rfl (by decide) ?_
        refine r_aload_n d_L_law_1203 rfl (by decide) ?_
        show Run Γ rg n Y_L_law 1204 [(7, 0), (8, 0), (40, 0), (76, 0), (0, a4), (0, v94), (5, 0)] [(7, 0), (40, 0)] D48 Φ
        refine r_iload d_L_law_1204 rfl ?_
        refine r_iconst d_L_law_1206 ?_
        refine r_iadd d_L_law_1207 ?_
        refine c_sld0 d_L_law_1208 hL h (fun v95 h => ?_)
        refine c_callVi0 (t' := (some .int)) (a := 32) (z := 0) (as := [(0, v95)]) (rest := []) (ls' := [(40, 0), (0, v95)]) d_L_law_1209 ck_RL_145 rfl sh_32 rfl (by decide) (R 32 rfl) rfl rfl (Nat.le_of_ble_eq_true rfl) (Nat.le_of_ble_eq_true rfl) (by decide) rfl rfl (fun _ => rfl) (fun κ' Ψ hΨ => run_pM_place (cov21 R) _ hΨ) h (fun v96 D49 h => ?_)
        show Run Γ rg n Y_L_law 1212 [(7, 0), (8, 0), (40, 0), (76, 0), (0, a4), (0, v94), (5, 0)] [(0, v96)] D49 Φ
        refine r_istore d_L_law_1212 (by decide) rfl ?_
        show Run Γ rg n Y_L_law 1214 [(7, 0), (8, 0), (40, 0), (76, 0), (0, a4), (0, v94), (0, v96)] [] D49 Φ
        refine r_aload_n d_L_law_1214 rfl (by decide) ?_
        refine c_callVPi (a := 32) (z := 0) (as := []) (rest := []) (ls' := [(40, 0)]) d_L_law_1215 ck_RL_91 rfl sh_32 rfl (by decide) (R 32 rfl) rfl rfl (Nat.le_of_ble_eq_true rfl) (Nat.le_of_ble_eq_true rfl) (by decide) rfl rfl (fun Ψ hΨ => run_pM_thrown (cov21 R) rfl hΨ) ?_
        show Run Γ rg n Y_L_law 1218 [(7, 0), (8, 0), (40, 0), (76, 0), (0, a4), (0, v94), (0, v96)] [(0, (pM_thrown D49))] D49 Φ
        refine r_iload d_L_law_1218 rfl ?_
        refine c_icmp_eq (tgt := 1225) d_L_law_1220 (by decide) (nz_w _) (nz_w _) h (fun h => ?_) (fun h => ?_)
        · skip
          show Run Γ rg n Y_L_law 1225 [(7, 0), (8, 0), (40, 0), (76, 0), (0, a4), (0, v94), (0, v96)] [] D49 Φ
          refine r_iload d_L_law_1225 rfl ?_
          refine c_jn (fun J => ∀ (D50 : DD), WP (some .boolean) 0 Φ (J D50) → Run Γ rg n Y_L_law 1242 [(7, 0), (8, 0), (40, 0), (76, 0), (0, a4), (5, 0), (5, 0)] [] D50 Φ) h ?_ (fun J17 hJ17 h => ?_)
          · intro D50 h
            show Run Γ rg n Y_L_law 1242 [(7, 0), (8, 0), (40, 0), (76, 0), (0, a4), (5, 0), (5, 0)] [] D50 Φ
            refine r_goto (tgt := 1570) d_L_law_1242 (by decide) ?_
            exact (hJ1 D50 h)
          refine c_if_ne (tgt := 1242) d_L_law_1227 (by decide) (nz_w _) h (fun h => ?_) (fun h => ?_)
          · skip
            exact Run.forget (ls' := [(7, 0), (8, 0), (40, 0), (76, 0), (0, a4), (5, 0), (5, 0)]) ⟨Or.inr rfl, Or.inr rfl, Or.inr rfl, Or.inr rfl, Or.inr rfl, Or.inl rfl, Or.inl rfl, trivial⟩ (hJ17 D49 h)
          · skip
            show Run Γ rg n Y_L_law 1230 [(7, 0), (8, 0), (40, 0), (76, 0), (0, a4), (0, v94), (0, v96)] [] D49 Φ
            refine r_aload_n d_L_law_1230 rfl (by decide) ?_
            refine r_iconst d_L_law_1231 ?_
            refine c_lald0 (k := 0) d_L_law_1232 sh_68 (by decide) (R 68 rfl) (by decide) rfl (by decide) ?_
            refine r_iload d_L_law_1233 rfl ?_
            refine c_i2l d_L_law_1235 (nz_w _) ?_
            refine c_lcmp d_L_law_1236 ?_
            refine c_if_eq (tgt := 1242) d_L_law_1237 (by decide) (nz_c _ _) h (fun h => ?_) (fun h => ?_)
            · skip
              exact Run.forget (ls' := [(7, 0), (8, 0), (40, 0), (76, 0), (0, a4), (5, 0), (5, 0)]) ⟨Or.inr rfl, Or.inr rfl, Or.inr rfl, Or.inr rfl, Or.inr rfl, Or.inl rfl, Or.inl rfl, trivial⟩ (hJ17 D49 h)
            · skip
              show Run Γ rg n Y_L_law 1240 [(7, 0), (8, 0), (40, 0), (76, 0), (0, a4), (0, v94), (0, v96)] [] D49 Φ
              refine r_iconst d_L_law_1240 ?_
              exact c_zret0 d_L_law_1241 rfl (Or.inl rfl) h
        · skip
          show Run Γ rg n Y_L_law 1223 [(7, 0), (8, 0), (40, 0), (76, 0), (0, a4), (0, v94), (0, v96)] [] D49 Φ
          refine r_iconst d_L_law_1223 ?_
          exact c_zret0 d_L_law_1224 rfl (Or.inl rfl) h
      refine c_sw1 (i := 17) (tgt := 1245) d_L_law_39 (nz_w _) (by decide) (by decide) rfl (by decide) h (fun h => ?_) (fun g17 h => ?_)
      · skip
        show Run Γ rg (n + 1) Y_L_law 1245 [(7, 0), (8, 0), (40, 0), (76, 0), (0, a4), (5, 0), (5, 0)] [] D Φ
        refine r_aload_n d_L_law_1245 rfl (by decide) ?_
        refine c_callVi0 (t' := (some .int)) (a := 0) (z := 0) (as := []) (rest := []) (ls' := [(8, 0)]) d_L_law_1246 ck_RL_146 rfl sh_0 rfl (by decide) (R 0 rfl) rfl rfl (Nat.le_of_ble_eq_true rfl) (Nat.le_of_ble_eq_true rfl) (by decide) rfl rfl (fun _ => rfl) (fun κ' Ψ hΨ => run_pH_used (cov20 R) hΨ) h (fun v97 D51 h => ?_)
        show Run Γ rg (n + 1) Y_L_law 1249 [(7, 0), (8, 0), (40, 0), (76, 0), (0, a4), (5, 0), (5, 0)] [(0, v97)] D51 Φ
        refine r_aload_n d_L_law_1249 rfl (by decide) ?_
        refine c_callVi0 (t' := (some .int)) (a := 32) (z := 0) (as := []) (rest := [(0, v97)]) (ls' := [(40, 0), (5, 0), (5, 0)]) d_L_law_1250 ck_RL_149 rfl sh_32 rfl (by decide) (R 32 rfl) rfl rfl (Nat.le_of_ble_eq_true rfl) (Nat.le_of_ble_eq_true rfl) (by decide) rfl rfl (fun _ => rfl) (fun κ' Ψ hΨ => run_pM_used (cov21 R) hΨ) h (fun v98 D52 h => ?_)
        show Run Γ rg (n + 1) Y_L_law 1253 [(7, 0), (8, 0), (40, 0), (76, 0), (0, a4), (5, 0), (5, 0)] [(0, v98), (0, v97)] D52 Φ
        refine c_icmp_eq (tgt := 1570) d_L_law_1253 (by decide) (nz_w _) (nz_w _) h (fun h => ?_) (fun h => ?_)
        · skip
          refine Run.mono (κ' := n) (Nat.le_succ n) (fun _ _ h => h) ?_
          exact (hJ1 D52 h)
        · skip
          show Run Γ rg (n + 1) Y_L_law 1256 [(7, 0), (8, 0), (40, 0), (76, 0), (0, a4), (5, 0), (5, 0)] [] D52 Φ
          refine r_iconst d_L_law_1256 ?_
          exact c_zret0 d_L_law_1257 rfl (Or.inl rfl) h
      refine c_sw1 (i := 18) (tgt := 1258) d_L_law_39 (nz_w _) (by decide) (by decide) rfl (by decide) h (fun h => ?_) (fun g18 h => ?_)
      · skip
        show Run Γ rg (n + 1) Y_L_law 1258 [(7, 0), (8, 0), (40, 0), (76, 0), (0, a4), (5, 0), (5, 0)] [] D Φ
        refine r_aload_n d_L_law_1258 rfl (by decide) ?_
        refine c_callVi0 (t' := (some .int)) (a := 0) (z := 0) (as := []) (rest := []) (ls' := [(8, 0), (5, 0), (5, 0), (5, 0), (5, 0)]) d_L_law_1259 ck_RL_150 rfl sh_0 rfl (by decide) (R 0 rfl) rfl rfl (Nat.le_of_ble_eq_true rfl) (Nat.le_of_ble_eq_true rfl) (by decide) rfl rfl (fun _ => rfl) (fun κ' Ψ hΨ => run_pH_usedByTree (cov20 R) hΨ) h (fun v99 D53 h => ?_)
        show Run Γ rg (n + 1) Y_L_law 1262 [(7, 0), (8, 0), (40, 0), (76, 0), (0, a4), (5, 0), (5, 0)] [(0, v99)] D53 Φ
        refine r_aload_n d_L_law_1262 rfl (by decide) ?_
        refine c_callVi0 (t' := (some .int)) (a := 32) (z := 0) (as := []) (rest := [(0, v99)]) (ls' := [(40, 0), (5, 0), (5, 0), (5, 0)]) d_L_law_1263 ck_RL_153 rfl sh_32 rfl (by decide) (R 32 rfl) rfl rfl (Nat.le_of_ble_eq_true rfl) (Nat.le_of_ble_eq_true rfl) (by decide) rfl rfl (fun _ => rfl) (fun κ' Ψ hΨ => run_pM_usedByTree (cov21 R) hΨ) h (fun v100 D54 h => ?_)
        show Run Γ rg (n + 1) Y_L_law 1266 [(7, 0), (8, 0), (40, 0), (76, 0), (0, a4), (5, 0), (5, 0)] [(0, v100), (0, v99)] D54 Φ
        refine c_icmp_eq (tgt := 1570) d_L_law_1266 (by decide) (nz_w _) (nz_w _) h (fun h => ?_) (fun h => ?_)
        · skip
          refine Run.mono (κ' := n) (Nat.le_succ n) (fun _ _ h => h) ?_
          exact (hJ1 D54 h)
        · skip
          show Run Γ rg (n + 1) Y_L_law 1269 [(7, 0), (8, 0), (40, 0), (76, 0), (0, a4), (5, 0), (5, 0)] [] D54 Φ
          refine r_iconst d_L_law_1269 ?_
          exact c_zret0 d_L_law_1270 rfl (Or.inl rfl) h
      refine c_sw1 (i := 19) (tgt := 1271) d_L_law_39 (nz_w _) (by decide) (by decide) rfl (by decide) h (fun h => ?_) (fun g19 h => ?_)
      · skip
        show Run Γ rg (n + 1) Y_L_law 1271 [(7, 0), (8, 0), (40, 0), (76, 0), (0, a4), (5, 0), (5, 0)] [] D Φ
        refine r_aload_n d_L_law_1271 rfl (by decide) ?_
        refine r_aload_n d_L_law_1272 rfl (by decide) ?_
        refine r_iload d_L_law_1273 rfl ?_
        refine r_iconst d_L_law_1275 ?_
        refine r_iadd d_L_law_1276 ?_
        refine c_sld0 d_L_law_1277 hL h (fun v101 h => ?_)
        refine r_aload_n d_L_law_1278 rfl (by decide) ?_
        refine r_iload d_L_law_1279 rfl ?_
        refine r_iconst d_L_law_1281 ?_
        refine r_iadd d_L_law_1282 ?_
        refine c_sld0 d_L_law_1283 hL h (fun v102 h => ?_)
        show Run Γ rg (n + 1) Y_L_law 1284 [(7, 0), (8, 0), (40, 0), (76, 0), (0, a4), (5, 0), (5, 0)] [(0, v102), (0, v101), (8, 0)] D Φ
        refine r_aload_n d_L_law_1284 rfl (by decide) ?_
        refine r_iload d_L_law_1285 rfl ?_
        refine r_iconst d_L_law_1287 ?_
        refine r_iadd d_L_law_1288 ?_
        refine c_sld0 d_L_law_1289 hL h (fun v103 h => ?_)
        refine c_jn (fun J => ∀ (x1 : Int) (D55 : DD), WP (some .boolean) 0 Φ (J x1 D55) → Run Γ rg (n + 1) Y_L_law 1298 [(7, 0), (8, 0), (40, 0), (76, 0), (0, a4), (5, 0), (5, 0)] [(0, x1), (0, v102), (0, v101), (8, 0)] D55 Φ) h ?_ (fun J18 hJ18 h => ?_)
        · intro x1 D55 h
          show Run Γ rg (n + 1) Y_L_law 1298 [(7, 0), (8, 0), (40, 0), (76, 0), (0, a4), (5, 0), (5, 0)] [(0, x1), (0, v102), (0, v101), (8, 0)] D55 Φ
          refine r_aload_n d_L_law_1298 rfl (by decide) ?_
          refine c_callHi (as := [(8, 0), (0, v101), (0, v102), (0, x1), (76, 0)]) (rest := []) (ls' := [(8, 0), (0, v101), (0, v102), (0, x1), (76, 0), (5, 0)]) d_L_law_1299 ck_RL_154 rfl rfl rfl (Nat.le_of_ble_eq_true rfl) (Nat.le_of_ble_eq_true rfl) (by decide) rfl rfl (fun Ψ hΨ => run_pE_watch (κ := 0) R _ _ _ hΨ) h (fun v104 D56 h => ?_)
          show Run Γ rg n Y_L_law 1302 [(7, 0), (8, 0), (40, 0), (76, 0), (0, a4), (5, 0), (5, 0)] [(0, v104)] D56 Φ
          refine r_istore d_L_law_1302 (by decide) rfl ?_
          show Run Γ rg n Y_L_law 1304 [(7, 0), (8, 0), (40, 0), (76, 0), (0, a4), (0, v104), (5, 0)] [] D56 Φ
          refine r_aload_n d_L_law_1304 rfl (by decide) ?_
          refine r_aload_n d_L_law_1305 rfl (by decide) ?_
          refine r_iload d_L_law_1306 rfl ?_
          refine r_iconst d_L_law_1308 ?_
          refine r_iadd d_L_law_1309 ?_
          refine c_sld0 d_L_law_1310 hL h (fun v105 h => ?_)
          refine r_aload_n d_L_law_1311 rfl (by decide) ?_
          refine r_iload d_L_law_1312 rfl ?_
          show Run Γ rg n Y_L_law 1314 [(7, 0), (8, 0), (40, 0), (76, 0), (0, a4), (0, v104), (5, 0)] [(0, a4), (7, 0), (0, v105), (40, 0)] D56 Φ
          refine r_iconst d_L_law_1314 ?_
          refine r_iadd d_L_law_1315 ?_
          refine c_sld0 d_L_law_1316 hL h (fun v106 h => ?_)
          refine r_aload_n d_L_law_1317 rfl (by decide) ?_
          refine r_iload d_L_law_1318 rfl ?_
          refine r_iconst d_L_law_1320 ?_
          refine r_iadd d_L_law_1321 ?_
          refine c_sld0 d_L_law_1322 hL h (fun v107 h => ?_)
          refine c_jn (fun J => ∀ (x2 : Int) (D57 : DD), WP (some .boolean) 0 Φ (J x2 D57) → Run Γ rg n Y_L_law 1331 [(7, 0), (8, 0), (40, 0), (76, 0), (0, a4), (0, v104), (5, 0)] [(0, x2), (0, v106), (0, v105), (40, 0)] D57 Φ) h ?_ (fun J19 hJ19 h => ?_)
          · intro x2 D57 h
            show Run Γ rg n Y_L_law 1331 [(7, 0), (8, 0), (40, 0), (76, 0), (0, a4), (0, v104), (5, 0)] [(0, x2), (0, v106), (0, v105), (40, 0)] D57 Φ
            refine c_callVi0 (t' := (some .boolean)) (a := 32) (z := 0) (as := [(0, v105), (0, v106), (0, x2)]) (rest := []) (ls' := [(40, 0), (0, v105), (0, v106), (0, x2), (5, 0), (5, 0)]) d_L_law_1331 ck_RL_157 rfl sh_32 rfl (by decide) (R 32 rfl) rfl rfl (Nat.le_of_ble_eq_true rfl) (Nat.le_of_ble_eq_true rfl) (by decide) rfl rfl (fun _ => rfl) (fun κ' Ψ hΨ => run_pM_watch (cov21 R) _ _ _ hΨ) h (fun v108 D58 h => ?_)
            show Run Γ rg n Y_L_law 1334 [(7, 0), (8, 0), (40, 0), (76, 0), (0, a4), (0, v104), (5, 0)] [(0, v108)] D58 Φ
            refine r_istore d_L_law_1334 (by decide) rfl ?_
            show Run Γ rg n Y_L_law 1336 [(7, 0), (8, 0), (40, 0), (76, 0), (0, a4), (0, v104), (0, v108)] [] D58 Φ
            refine r_aload_n d_L_law_1336 rfl (by decide) ?_
            refine c_callVPi (a := 32) (z := 0) (as := []) (rest := []) (ls' := [(40, 0)]) d_L_law_1337 ck_RL_91 rfl sh_32 rfl (by decide) (R 32 rfl) rfl rfl (Nat.le_of_ble_eq_true rfl) (Nat.le_of_ble_eq_true rfl) (by decide) rfl rfl (fun Ψ hΨ => run_pM_thrown (cov21 R) rfl hΨ) ?_
            show Run Γ rg n Y_L_law 1340 [(7, 0), (8, 0), (40, 0), (76, 0), (0, a4), (0, v104), (0, v108)] [(0, (pM_thrown D58))] D58 Φ
            refine r_iload d_L_law_1340 rfl ?_
            refine c_icmp_eq (tgt := 1347) d_L_law_1342 (by decide) (nz_w _) (nz_w _) h (fun h => ?_) (fun h => ?_)
            · skip
              show Run Γ rg n Y_L_law 1347 [(7, 0), (8, 0), (40, 0), (76, 0), (0, a4), (0, v104), (0, v108)] [] D58 Φ
              refine r_iload d_L_law_1347 rfl ?_
              refine c_jn (fun J => ∀ (D59 : DD), WP (some .boolean) 0 Φ (J D59) → Run Γ rg n Y_L_law 1371 [(7, 0), (8, 0), (40, 0), (76, 0), (0, a4), (5, 0), (5, 0)] [] D59 Φ) h ?_ (fun J20 hJ20 h => ?_)
              · intro D59 h
                show Run Γ rg n Y_L_law 1371 [(7, 0), (8, 0), (40, 0), (76, 0), (0, a4), (5, 0), (5, 0)] [] D59 Φ
                refine r_goto (tgt := 1570) d_L_law_1371 (by decide) ?_
                exact (hJ1 D59 h)
              refine c_if_ne (tgt := 1371) d_L_law_1349 (by decide) (nz_w _) h (fun h => ?_) (fun h => ?_)
              · skip
                exact Run.forget (ls' := [(7, 0), (8, 0), (40, 0), (76, 0), (0, a4), (5, 0), (5, 0)]) ⟨Or.inr rfl, Or.inr rfl, Or.inr rfl, Or.inr rfl, Or.inr rfl, Or.inl rfl, Or.inl rfl, trivial⟩ (hJ20 D58 h)
              · skip
                show Run Γ rg n Y_L_law 1352 [(7, 0), (8, 0), (40, 0), (76, 0), (0, a4), (0, v104), (0, v108)] [] D58 Φ
                refine r_aload_n d_L_law_1352 rfl (by decide) ?_
                refine r_iconst d_L_law_1353 ?_
                refine c_lald0 (k := 0) d_L_law_1354 sh_68 (by decide) (R 68 rfl) (by decide) rfl (by decide) ?_
                refine r_iload d_L_law_1355 rfl ?_
                refine c_jn (fun J => ∀ (x3 : Int) (D60 : DD), WP (some .boolean) 0 Φ (J x3 D60) → Run Γ rg n Y_L_law 1365 [(7, 0), (8, 0), (40, 0), (76, 0), (0, a4), (5, 0), (5, 0)] [(1, x3), (1, (D58 68 0))] D60 Φ) h ?_ (fun J21 hJ21 h => ?_)
                · intro x3 D60 h
                  show Run Γ rg n Y_L_law 1365 [(7, 0), (8, 0), (40, 0), (76, 0), (0, a4), (5, 0), (5, 0)] [(1, x3), (1, (D58 68 0))] D60 Φ
                  refine c_lcmp d_L_law_1365 ?_
                  refine c_if_eq (tgt := 1371) d_L_law_1366 (by decide) (nz_c _ _) h (fun h => ?_) (fun h => ?_)
                  · skip
                    exact (hJ20 D60 h)
                  · skip
                    show Run Γ rg n Y_L_law 1369 [(7, 0), (8, 0), (40, 0), (76, 0), (0, a4), (5, 0), (5, 0)] [] D60 Φ
                    refine r_iconst d_L_law_1369 ?_
                    exact c_zret0 d_L_law_1370 rfl (Or.inl rfl) h
                refine c_if_eq (tgt := 1364) d_L_law_1357 (by decide) (nz_w _) h (fun h => ?_) (fun h => ?_)
                · skip
                  show Run Γ rg n Y_L_law 1364 [(7, 0), (8, 0), (40, 0), (76, 0), (0, a4), (0, v104), (0, v108)] [(1, (D58 68 0))] D58 Φ
                  refine c_lconst d_L_law_1364 rfl ?_
                  exact Run.forget (ls' := [(7, 0), (8, 0), (40, 0), (76, 0), (0, a4), (5, 0), (5, 0)]) ⟨Or.inr rfl, Or.inr rfl, Or.inr rfl, Or.inr rfl, Or.inr rfl, Or.inl rfl, Or.inl rfl, trivial⟩ (hJ21 0 D58 h)
                · skip
                  show Run Γ rg n Y_L_law 1360 [(7, 0), (8, 0), (40, 0), (76, 0), (0, a4), (0, v104), (0, v108)] [(1, (D58 68 0))] D58 Φ
                  refine c_lconst d_L_law_1360 rfl ?_
                  refine r_goto (tgt := 1365) d_L_law_1361 (by decide) ?_
                  exact Run.forget (ls' := [(7, 0), (8, 0), (40, 0), (76, 0), (0, a4), (5, 0), (5, 0)]) ⟨Or.inr rfl, Or.inr rfl, Or.inr rfl, Or.inr rfl, Or.inr rfl, Or.inl rfl, Or.inl rfl, trivial⟩ (hJ21 1 D58 h)
            · skip
              show Run Γ rg n Y_L_law 1345 [(7, 0), (8, 0), (40, 0), (76, 0), (0, a4), (0, v104), (0, v108)] [] D58 Φ
              refine r_iconst d_L_law_1345 ?_
              exact c_zret0 d_L_law_1346 rfl (Or.inl rfl) h
          refine c_if_eq (tgt := 1330) d_L_law_1323 (by decide) (nz_w _) h (fun h => ?_) (fun h => ?_)
          · skip
            show Run Γ rg n Y_L_law 1330 [(7, 0), (8, 0), (40, 0), (76, 0), (0, a4), (0, v104), (5, 0)] [(0, v106), (0, v105), (40, 0)] D56 Φ
            refine r_iconst d_L_law_1330 ?_
            exact (hJ19 0 D56 h)
          · skip
            show Run Γ rg n Y_L_law 1326 [(7, 0), (8, 0), (40, 0), (76, 0), (0, a4), (0, v104), (5, 0)] [(0, v106), (0, v105), (40, 0)] D56 Φ
            refine r_iconst d_L_law_1326 ?_
            refine r_goto (tgt := 1331) d_L_law_1327 (by decide) ?_
            exact (hJ19 1 D56 h)
        refine c_if_eq (tgt := 1297) d_L_law_1290 (by decide) (nz_w _) h (fun h => ?_) (fun h => ?_)
        · skip
          show Run Γ rg (n + 1) Y_L_law 1297 [(7, 0), (8, 0), (40, 0), (76, 0), (0, a4), (5, 0), (5, 0)] [(0, v102), (0, v101), (8, 0)] D Φ
          refine r_iconst d_L_law_1297 ?_
          exact (hJ18 0 D h)
        · skip
          show Run Γ rg (n + 1) Y_L_law 1293 [(7, 0), (8, 0), (40, 0), (76, 0), (0, a4), (5, 0), (5, 0)] [(0, v102), (0, v101), (8, 0)] D Φ
          refine r_iconst d_L_law_1293 ?_
          refine r_goto (tgt := 1298) d_L_law_1294 (by decide) ?_
          exact (hJ18 1 D h)
      refine c_sw1 (i := 20) (tgt := 1374) d_L_law_39 (nz_w _) (by decide) (by decide) rfl (by decide) h (fun h => ?_) (fun g20 h => ?_)
      · skip
        show Run Γ rg (n + 1) Y_L_law 1374 [(7, 0), (8, 0), (40, 0), (76, 0), (0, a4), (5, 0), (5, 0)] [] D Φ
        refine r_aload_n d_L_law_1374 rfl (by decide) ?_
        refine c_callVi0 (t' := (some .int)) (a := 0) (z := 0) (as := []) (rest := []) (ls' := [(8, 0), (5, 0)]) d_L_law_1375 ck_RL_158 rfl sh_0 rfl (by decide) (R 0 rfl) rfl rfl (Nat.le_of_ble_eq_true rfl) (Nat.le_of_ble_eq_true rfl) (by decide) rfl rfl (fun _ => rfl) (fun κ' Ψ hΨ => run_pH_takeNotice (cov20 R) hΨ) h (fun v109 D61 h => ?_)
        show Run Γ rg (n + 1) Y_L_law 1378 [(7, 0), (8, 0), (40, 0), (76, 0), (0, a4), (5, 0), (5, 0)] [(0, v109)] D61 Φ
        refine r_aload_n d_L_law_1378 rfl (by decide) ?_
        refine c_callVi0 (t' := (some .int)) (a := 32) (z := 0) (as := []) (rest := [(0, v109)]) (ls' := [(40, 0), (5, 0), (5, 0)]) d_L_law_1379 ck_RL_161 rfl sh_32 rfl (by decide) (R 32 rfl) rfl rfl (Nat.le_of_ble_eq_true rfl) (Nat.le_of_ble_eq_true rfl) (by decide) rfl rfl (fun _ => rfl) (fun κ' Ψ hΨ => run_pM_takeNotice (cov21 R) hΨ) h (fun v110 D62 h => ?_)
        show Run Γ rg (n + 1) Y_L_law 1382 [(7, 0), (8, 0), (40, 0), (76, 0), (0, a4), (5, 0), (5, 0)] [(0, v110), (0, v109)] D62 Φ
        refine c_icmp_eq (tgt := 1570) d_L_law_1382 (by decide) (nz_w _) (nz_w _) h (fun h => ?_) (fun h => ?_)
        · skip
          refine Run.mono (κ' := n) (Nat.le_succ n) (fun _ _ h => h) ?_
          exact (hJ1 D62 h)
        · skip
          show Run Γ rg (n + 1) Y_L_law 1385 [(7, 0), (8, 0), (40, 0), (76, 0), (0, a4), (5, 0), (5, 0)] [] D62 Φ
          refine r_iconst d_L_law_1385 ?_
          exact c_zret0 d_L_law_1386 rfl (Or.inl rfl) h
      refine c_sw1 (i := 21) (tgt := 1387) d_L_law_39 (nz_w _) (by decide) (by decide) rfl (by decide) h (fun h => ?_) (fun g21 h => ?_)
      · skip
        show Run Γ rg (n + 1) Y_L_law 1387 [(7, 0), (8, 0), (40, 0), (76, 0), (0, a4), (5, 0), (5, 0)] [] D Φ
        refine r_aload_n d_L_law_1387 rfl (by decide) ?_
        refine c_callVPj (a := 0) (z := 0) (as := []) (rest := []) (ls' := [(8, 0)]) d_L_law_1388 ck_RL_162 rfl sh_0 rfl (by decide) (R 0 rfl) rfl rfl (Nat.le_of_ble_eq_true rfl) (Nat.le_of_ble_eq_true rfl) (by decide) rfl rfl (fun Ψ hΨ => run_pH_dirty (cov20 R) rfl hΨ) ?_
        show Run Γ rg (n + 1) Y_L_law 1391 [(7, 0), (8, 0), (40, 0), (76, 0), (0, a4), (5, 0), (5, 0)] [(1, (pH_dirty D))] D Φ
        refine r_aload_n d_L_law_1391 rfl (by decide) ?_
        refine c_callVj0 (a := 32) (z := 0) (as := []) (rest := [(1, (pH_dirty D))]) (ls' := [(40, 0), (5, 0), (5, 0), (5, 0)]) d_L_law_1392 ck_RL_166 rfl sh_32 rfl (by decide) (R 32 rfl) rfl rfl (Nat.le_of_ble_eq_true rfl) (Nat.le_of_ble_eq_true rfl) (by decide) rfl rfl (fun κ' Ψ hΨ => run_pM_dirty (cov21 R) hΨ) h (fun v111 D63 h => ?_)
        show Run Γ rg (n + 1) Y_L_law 1395 [(7, 0), (8, 0), (40, 0), (76, 0), (0, a4), (5, 0), (5, 0)] [(1, v111), (1, (pH_dirty D))] D63 Φ
        refine c_lcmp d_L_law_1395 ?_
        refine c_if_eq (tgt := 1570) d_L_law_1396 (by decide) (nz_c _ _) h (fun h => ?_) (fun h => ?_)
        · skip
          refine Run.mono (κ' := n) (Nat.le_succ n) (fun _ _ h => h) ?_
          exact (hJ1 D63 h)
        · skip
          show Run Γ rg (n + 1) Y_L_law 1399 [(7, 0), (8, 0), (40, 0), (76, 0), (0, a4), (5, 0), (5, 0)] [] D63 Φ
          refine r_iconst d_L_law_1399 ?_
          exact c_zret0 d_L_law_1400 rfl (Or.inl rfl) h
      refine c_sw1 (i := 22) (tgt := 1401) d_L_law_39 (nz_w _) (by decide) (by decide) rfl (by decide) h (fun h => ?_) (fun g22 h => ?_)
      · skip
        show Run Γ rg (n + 1) Y_L_law 1401 [(7, 0), (8, 0), (40, 0), (76, 0), (0, a4), (5, 0), (5, 0)] [] D Φ
        refine r_aload_n d_L_law_1401 rfl (by decide) ?_
        refine r_aload_n d_L_law_1402 rfl (by decide) ?_
        refine c_callHi (as := [(8, 0), (76, 0)]) (rest := []) (ls' := [(8, 0), (76, 0), (5, 0)]) d_L_law_1403 ck_RL_167 rfl rfl rfl (Nat.le_of_ble_eq_true rfl) (Nat.le_of_ble_eq_true rfl) (by decide) rfl rfl (fun Ψ hΨ => run_pE_flush (κ := 0) R hΨ) h (fun v112 D64 h => ?_)
        show Run Γ rg n Y_L_law 1406 [(7, 0), (8, 0), (40, 0), (76, 0), (0, a4), (5, 0), (5, 0)] [(0, v112)] D64 Φ
        refine r_istore d_L_law_1406 (by decide) rfl ?_
        show Run Γ rg n Y_L_law 1408 [(7, 0), (8, 0), (40, 0), (76, 0), (0, a4), (0, v112), (5, 0)] [] D64 Φ
        refine r_aload_n d_L_law_1408 rfl (by decide) ?_
        refine c_callVi0 (t' := (some .int)) (a := 32) (z := 0) (as := []) (rest := []) (ls' := [(40, 0)]) d_L_law_1409 ck_RL_170 rfl sh_32 rfl (by decide) (R 32 rfl) rfl rfl (Nat.le_of_ble_eq_true rfl) (Nat.le_of_ble_eq_true rfl) (by decide) rfl rfl (fun _ => rfl) (fun κ' Ψ hΨ => run_pM_flush (cov21 R) hΨ) h (fun v113 D65 h => ?_)
        show Run Γ rg n Y_L_law 1412 [(7, 0), (8, 0), (40, 0), (76, 0), (0, a4), (0, v112), (5, 0)] [(0, v113)] D65 Φ
        refine r_istore d_L_law_1412 (by decide) rfl ?_
        show Run Γ rg n Y_L_law 1414 [(7, 0), (8, 0), (40, 0), (76, 0), (0, a4), (0, v112), (0, v113)] [] D65 Φ
        refine r_aload_n d_L_law_1414 rfl (by decide) ?_
        refine c_callVPi (a := 32) (z := 0) (as := []) (rest := []) (ls' := [(40, 0)]) d_L_law_1415 ck_RL_91 rfl sh_32 rfl (by decide) (R 32 rfl) rfl rfl (Nat.le_of_ble_eq_true rfl) (Nat.le_of_ble_eq_true rfl) (by decide) rfl rfl (fun Ψ hΨ => run_pM_thrown (cov21 R) rfl hΨ) ?_
        show Run Γ rg n Y_L_law 1418 [(7, 0), (8, 0), (40, 0), (76, 0), (0, a4), (0, v112), (0, v113)] [(0, (pM_thrown D65))] D65 Φ
        refine r_iload d_L_law_1418 rfl ?_
        refine c_icmp_eq (tgt := 1425) d_L_law_1420 (by decide) (nz_w _) (nz_w _) h (fun h => ?_) (fun h => ?_)
        · skip
          show Run Γ rg n Y_L_law 1425 [(7, 0), (8, 0), (40, 0), (76, 0), (0, a4), (0, v112), (0, v113)] [] D65 Φ
          refine r_iload d_L_law_1425 rfl ?_
          refine c_jn (fun J => ∀ (D66 : DD), WP (some .boolean) 0 Φ (J D66) → Run Γ rg n Y_L_law 1442 [(7, 0), (8, 0), (40, 0), (76, 0), (0, a4), (5, 0), (5, 0)] [] D66 Φ) h ?_ (fun J22 hJ22 h => ?_)
          · intro D66 h
            show Run Γ rg n Y_L_law 1442 [(7, 0), (8, 0), (40, 0), (76, 0), (0, a4), (5, 0), (5, 0)] [] D66 Φ
            refine r_goto (tgt := 1570) d_L_law_1442 (by decide) ?_
            exact (hJ1 D66 h)
          refine c_if_ne (tgt := 1442) d_L_law_1427 (by decide) (nz_w _) h (fun h => ?_) (fun h => ?_)
          · skip
            exact Run.forget (ls' := [(7, 0), (8, 0), (40, 0), (76, 0), (0, a4), (5, 0), (5, 0)]) ⟨Or.inr rfl, Or.inr rfl, Or.inr rfl, Or.inr rfl, Or.inr rfl, Or.inl rfl, Or.inl rfl, trivial⟩ (hJ22 D65 h)
          · skip
            show Run Γ rg n Y_L_law 1430 [(7, 0), (8, 0), (40, 0), (76, 0), (0, a4), (0, v112), (0, v113)] [] D65 Φ
            refine r_aload_n d_L_law_1430 rfl (by decide) ?_
            refine r_iconst d_L_law_1431 ?_
            refine c_lald0 (k := 0) d_L_law_1432 sh_68 (by decide) (R 68 rfl) (by decide) rfl (by decide) ?_
            refine r_iload d_L_law_1433 rfl ?_
            refine c_i2l d_L_law_1435 (nz_w _) ?_
            refine c_lcmp d_L_law_1436 ?_
            refine c_if_eq (tgt := 1442) d_L_law_1437 (by decide) (nz_c _ _) h (fun h => ?_) (fun h => ?_)
            · skip
              exact Run.forget (ls' := [(7, 0), (8, 0), (40, 0), (76, 0), (0, a4), (5, 0), (5, 0)]) ⟨Or.inr rfl, Or.inr rfl, Or.inr rfl, Or.inr rfl, Or.inr rfl, Or.inl rfl, Or.inl rfl, trivial⟩ (hJ22 D65 h)
            · skip
              show Run Γ rg n Y_L_law 1440 [(7, 0), (8, 0), (40, 0), (76, 0), (0, a4), (0, v112), (0, v113)] [] D65 Φ
              refine r_iconst d_L_law_1440 ?_
              exact c_zret0 d_L_law_1441 rfl (Or.inl rfl) h
        · skip
          show Run Γ rg n Y_L_law 1423 [(7, 0), (8, 0), (40, 0), (76, 0), (0, a4), (0, v112), (0, v113)] [] D65 Φ
          refine r_iconst d_L_law_1423 ?_
          exact c_zret0 d_L_law_1424 rfl (Or.inl rfl) h
      refine c_sw1 (i := 23) (tgt := 1445) d_L_law_39 (nz_w _) (by decide) (by decide) rfl (by decide) h (fun h => ?_) (fun g23 h => ?_)
      · skip
        show Run Γ rg (n + 1) Y_L_law 1445 [(7, 0), (8, 0), (40, 0), (76, 0), (0, a4), (5, 0), (5, 0)] [] D Φ
        refine r_aload_n d_L_law_1445 rfl (by decide) ?_
        refine r_aload_n d_L_law_1446 rfl (by decide) ?_
        refine r_iload d_L_law_1447 rfl ?_
        refine r_iconst d_L_law_1449 ?_
        refine r_iadd d_L_law_1450 ?_
        refine c_sld0 d_L_law_1451 hL h (fun v114 h => ?_)
        refine r_aload_n d_L_law_1452 rfl (by decide) ?_
        refine c_callHi (as := [(8, 0), (0, v114), (76, 0)]) (rest := []) (ls' := [(8, 0), (0, v114), (76, 0), (5, 0)]) d_L_law_1453 ck_RL_171 rfl rfl rfl (Nat.le_of_ble_eq_true rfl) (Nat.le_of_ble_eq_true rfl) (by decide) rfl rfl (fun Ψ hΨ => run_pE_write (κ := 0) R _ hΨ) h (fun v115 D67 h => ?_)
        show Run Γ rg n Y_L_law 1456 [(7, 0), (8, 0), (40, 0), (76, 0), (0, a4), (5, 0), (5, 0)] [(0, v115)] D67 Φ
        refine r_istore d_L_law_1456 (by decide) rfl ?_
        show Run Γ rg n Y_L_law 1458 [(7, 0), (8, 0), (40, 0), (76, 0), (0, a4), (0, v115), (5, 0)] [] D67 Φ
        refine r_aload_n d_L_law_1458 rfl (by decide) ?_
        refine r_aload_n d_L_law_1459 rfl (by decide) ?_
        show Run Γ rg n Y_L_law 1460 [(7, 0), (8, 0), (40, 0), (76, 0), (0, a4), (0, v115), (5, 0)] [(7, 0), (40, 0)] D67 Φ
        refine r_iload d_L_law_1460 rfl ?_
        refine r_iconst d_L_law_1462 ?_
        refine r_iadd d_L_law_1463 ?_
        refine c_sld0 d_L_law_1464 hL h (fun v116 h => ?_)
        refine c_callVi0 (t' := (some .int)) (a := 32) (z := 0) (as := [(0, v116)]) (rest := []) (ls' := [(40, 0), (0, v116), (5, 0)]) d_L_law_1465 ck_RL_173 rfl sh_32 rfl (by decide) (R 32 rfl) rfl rfl (Nat.le_of_ble_eq_true rfl) (Nat.le_of_ble_eq_true rfl) (by decide) rfl rfl (fun _ => rfl) (fun κ' Ψ hΨ => run_pM_write (cov21 R) _ hΨ) h (fun v117 D68 h => ?_)
        show Run Γ rg n Y_L_law 1468 [(7, 0), (8, 0), (40, 0), (76, 0), (0, a4), (0, v115), (5, 0)] [(0, v117)] D68 Φ
        refine r_istore d_L_law_1468 (by decide) rfl ?_
        show Run Γ rg n Y_L_law 1470 [(7, 0), (8, 0), (40, 0), (76, 0), (0, a4), (0, v115), (0, v117)] [] D68 Φ
        refine r_aload_n d_L_law_1470 rfl (by decide) ?_
        refine c_callVPi (a := 32) (z := 0) (as := []) (rest := []) (ls' := [(40, 0)]) d_L_law_1471 ck_RL_91 rfl sh_32 rfl (by decide) (R 32 rfl) rfl rfl (Nat.le_of_ble_eq_true rfl) (Nat.le_of_ble_eq_true rfl) (by decide) rfl rfl (fun Ψ hΨ => run_pM_thrown (cov21 R) rfl hΨ) ?_
        show Run Γ rg n Y_L_law 1474 [(7, 0), (8, 0), (40, 0), (76, 0), (0, a4), (0, v115), (0, v117)] [(0, (pM_thrown D68))] D68 Φ
        refine r_iload d_L_law_1474 rfl ?_
        refine c_icmp_eq (tgt := 1481) d_L_law_1476 (by decide) (nz_w _) (nz_w _) h (fun h => ?_) (fun h => ?_)
        · skip
          show Run Γ rg n Y_L_law 1481 [(7, 0), (8, 0), (40, 0), (76, 0), (0, a4), (0, v115), (0, v117)] [] D68 Φ
          refine r_iload d_L_law_1481 rfl ?_
          refine c_jn (fun J => ∀ (D69 : DD), WP (some .boolean) 0 Φ (J D69) → Run Γ rg n Y_L_law 1498 [(7, 0), (8, 0), (40, 0), (76, 0), (0, a4), (5, 0), (5, 0)] [] D69 Φ) h ?_ (fun J23 hJ23 h => ?_)
          · intro D69 h
            show Run Γ rg n Y_L_law 1498 [(7, 0), (8, 0), (40, 0), (76, 0), (0, a4), (5, 0), (5, 0)] [] D69 Φ
            refine r_goto (tgt := 1570) d_L_law_1498 (by decide) ?_
            exact (hJ1 D69 h)
          refine c_if_ne (tgt := 1498) d_L_law_1483 (by decide) (nz_w _) h (fun h => ?_) (fun h => ?_)
          · skip
            exact Run.forget (ls' := [(7, 0), (8, 0), (40, 0), (76, 0), (0, a4), (5, 0), (5, 0)]) ⟨Or.inr rfl, Or.inr rfl, Or.inr rfl, Or.inr rfl, Or.inr rfl, Or.inl rfl, Or.inl rfl, trivial⟩ (hJ23 D68 h)
          · skip
            show Run Γ rg n Y_L_law 1486 [(7, 0), (8, 0), (40, 0), (76, 0), (0, a4), (0, v115), (0, v117)] [] D68 Φ
            refine r_aload_n d_L_law_1486 rfl (by decide) ?_
            refine r_iconst d_L_law_1487 ?_
            refine c_lald0 (k := 0) d_L_law_1488 sh_68 (by decide) (R 68 rfl) (by decide) rfl (by decide) ?_
            refine r_iload d_L_law_1489 rfl ?_
            refine c_i2l d_L_law_1491 (nz_w _) ?_
            refine c_lcmp d_L_law_1492 ?_
            refine c_if_eq (tgt := 1498) d_L_law_1493 (by decide) (nz_c _ _) h (fun h => ?_) (fun h => ?_)
            · skip
              exact Run.forget (ls' := [(7, 0), (8, 0), (40, 0), (76, 0), (0, a4), (5, 0), (5, 0)]) ⟨Or.inr rfl, Or.inr rfl, Or.inr rfl, Or.inr rfl, Or.inr rfl, Or.inl rfl, Or.inl rfl, trivial⟩ (hJ23 D68 h)
            · skip
              show Run Γ rg n Y_L_law 1496 [(7, 0), (8, 0), (40, 0), (76, 0), (0, a4), (0, v115), (0, v117)] [] D68 Φ
              refine r_iconst d_L_law_1496 ?_
              exact c_zret0 d_L_law_1497 rfl (Or.inl rfl) h
        · skip
          show Run Γ rg n Y_L_law 1479 [(7, 0), (8, 0), (40, 0), (76, 0), (0, a4), (0, v115), (0, v117)] [] D68 Φ
          refine r_iconst d_L_law_1479 ?_
          exact c_zret0 d_L_law_1480 rfl (Or.inl rfl) h
      refine c_sw1 (i := 24) (tgt := 1501) d_L_law_39 (nz_w _) (by decide) (by decide) rfl (by decide) h (fun h => ?_) (fun g24 h => ?_)
      · skip
        show Run Γ rg (n + 1) Y_L_law 1501 [(7, 0), (8, 0), (40, 0), (76, 0), (0, a4), (5, 0), (5, 0)] [] D Φ
        refine r_aload_n d_L_law_1501 rfl (by decide) ?_
        refine r_aload_n d_L_law_1502 rfl (by decide) ?_
        refine r_iload d_L_law_1503 rfl ?_
        refine r_iconst d_L_law_1505 ?_
        refine r_iadd d_L_law_1506 ?_
        refine c_sld0 d_L_law_1507 hL h (fun v118 h => ?_)
        refine r_aload_n d_L_law_1508 rfl (by decide) ?_
        refine c_callHi (as := [(8, 0), (0, v118), (76, 0)]) (rest := []) (ls' := [(8, 0), (0, v118), (76, 0), (5, 0)]) d_L_law_1509 ck_RL_174 rfl rfl rfl (Nat.le_of_ble_eq_true rfl) (Nat.le_of_ble_eq_true rfl) (by decide) rfl rfl (fun Ψ hΨ => run_pE_log (κ := 0) R _ hΨ) h (fun v119 D70 h => ?_)
        show Run Γ rg n Y_L_law 1512 [(7, 0), (8, 0), (40, 0), (76, 0), (0, a4), (5, 0), (5, 0)] [(0, v119)] D70 Φ
        refine r_istore d_L_law_1512 (by decide) rfl ?_
        show Run Γ rg n Y_L_law 1514 [(7, 0), (8, 0), (40, 0), (76, 0), (0, a4), (0, v119), (5, 0)] [] D70 Φ
        refine r_aload_n d_L_law_1514 rfl (by decide) ?_
        refine r_aload_n d_L_law_1515 rfl (by decide) ?_
        show Run Γ rg n Y_L_law 1516 [(7, 0), (8, 0), (40, 0), (76, 0), (0, a4), (0, v119), (5, 0)] [(7, 0), (40, 0)] D70 Φ
        refine r_iload d_L_law_1516 rfl ?_
        refine r_iconst d_L_law_1518 ?_
        refine r_iadd d_L_law_1519 ?_
        refine c_sld0 d_L_law_1520 hL h (fun v120 h => ?_)
        refine c_callVi0 (t' := (some .int)) (a := 32) (z := 0) (as := [(0, v120)]) (rest := []) (ls' := [(40, 0), (0, v120)]) d_L_law_1521 ck_RL_176 rfl sh_32 rfl (by decide) (R 32 rfl) rfl rfl (Nat.le_of_ble_eq_true rfl) (Nat.le_of_ble_eq_true rfl) (by decide) rfl rfl (fun _ => rfl) (fun κ' Ψ hΨ => run_pM_log (cov21 R) _ hΨ) h (fun v121 D71 h => ?_)
        show Run Γ rg n Y_L_law 1524 [(7, 0), (8, 0), (40, 0), (76, 0), (0, a4), (0, v119), (5, 0)] [(0, v121)] D71 Φ
        refine r_istore d_L_law_1524 (by decide) rfl ?_
        show Run Γ rg n Y_L_law 1526 [(7, 0), (8, 0), (40, 0), (76, 0), (0, a4), (0, v119), (0, v121)] [] D71 Φ
        refine r_aload_n d_L_law_1526 rfl (by decide) ?_
        refine c_callVPi (a := 32) (z := 0) (as := []) (rest := []) (ls' := [(40, 0)]) d_L_law_1527 ck_RL_91 rfl sh_32 rfl (by decide) (R 32 rfl) rfl rfl (Nat.le_of_ble_eq_true rfl) (Nat.le_of_ble_eq_true rfl) (by decide) rfl rfl (fun Ψ hΨ => run_pM_thrown (cov21 R) rfl hΨ) ?_
        show Run Γ rg n Y_L_law 1530 [(7, 0), (8, 0), (40, 0), (76, 0), (0, a4), (0, v119), (0, v121)] [(0, (pM_thrown D71))] D71 Φ
        refine r_iload d_L_law_1530 rfl ?_
        refine c_icmp_eq (tgt := 1537) d_L_law_1532 (by decide) (nz_w _) (nz_w _) h (fun h => ?_) (fun h => ?_)
        · skip
          show Run Γ rg n Y_L_law 1537 [(7, 0), (8, 0), (40, 0), (76, 0), (0, a4), (0, v119), (0, v121)] [] D71 Φ
          refine r_iload d_L_law_1537 rfl ?_
          refine c_jn (fun J => ∀ (D72 : DD), WP (some .boolean) 0 Φ (J D72) → Run Γ rg n Y_L_law 1554 [(7, 0), (8, 0), (40, 0), (76, 0), (0, a4), (5, 0), (5, 0)] [] D72 Φ) h ?_ (fun J24 hJ24 h => ?_)
          · intro D72 h
            show Run Γ rg n Y_L_law 1554 [(7, 0), (8, 0), (40, 0), (76, 0), (0, a4), (5, 0), (5, 0)] [] D72 Φ
            refine r_goto (tgt := 1570) d_L_law_1554 (by decide) ?_
            exact (hJ1 D72 h)
          refine c_if_ne (tgt := 1554) d_L_law_1539 (by decide) (nz_w _) h (fun h => ?_) (fun h => ?_)
          · skip
            exact Run.forget (ls' := [(7, 0), (8, 0), (40, 0), (76, 0), (0, a4), (5, 0), (5, 0)]) ⟨Or.inr rfl, Or.inr rfl, Or.inr rfl, Or.inr rfl, Or.inr rfl, Or.inl rfl, Or.inl rfl, trivial⟩ (hJ24 D71 h)
          · skip
            show Run Γ rg n Y_L_law 1542 [(7, 0), (8, 0), (40, 0), (76, 0), (0, a4), (0, v119), (0, v121)] [] D71 Φ
            refine r_aload_n d_L_law_1542 rfl (by decide) ?_
            refine r_iconst d_L_law_1543 ?_
            refine c_lald0 (k := 0) d_L_law_1544 sh_68 (by decide) (R 68 rfl) (by decide) rfl (by decide) ?_
            refine r_iload d_L_law_1545 rfl ?_
            refine c_i2l d_L_law_1547 (nz_w _) ?_
            refine c_lcmp d_L_law_1548 ?_
            refine c_if_eq (tgt := 1554) d_L_law_1549 (by decide) (nz_c _ _) h (fun h => ?_) (fun h => ?_)
            · skip
              exact Run.forget (ls' := [(7, 0), (8, 0), (40, 0), (76, 0), (0, a4), (5, 0), (5, 0)]) ⟨Or.inr rfl, Or.inr rfl, Or.inr rfl, Or.inr rfl, Or.inr rfl, Or.inl rfl, Or.inl rfl, trivial⟩ (hJ24 D71 h)
            · skip
              show Run Γ rg n Y_L_law 1552 [(7, 0), (8, 0), (40, 0), (76, 0), (0, a4), (0, v119), (0, v121)] [] D71 Φ
              refine r_iconst d_L_law_1552 ?_
              exact c_zret0 d_L_law_1553 rfl (Or.inl rfl) h
        · skip
          show Run Γ rg n Y_L_law 1535 [(7, 0), (8, 0), (40, 0), (76, 0), (0, a4), (0, v119), (0, v121)] [] D71 Φ
          refine r_iconst d_L_law_1535 ?_
          exact c_zret0 d_L_law_1536 rfl (Or.inl rfl) h
      refine c_sw1 (i := 25) (tgt := 1557) d_L_law_39 (nz_w _) (by decide) (by decide) rfl (by decide) h (fun h => ?_) (fun g25 h => ?_)
      · skip
        show Run Γ rg (n + 1) Y_L_law 1557 [(7, 0), (8, 0), (40, 0), (76, 0), (0, a4), (5, 0), (5, 0)] [] D Φ
        refine r_aload_n d_L_law_1557 rfl (by decide) ?_
        refine c_callVi0 (t' := (some .int)) (a := 0) (z := 0) (as := []) (rest := []) (ls' := [(8, 0)]) d_L_law_1558 ck_RL_177 rfl sh_0 rfl (by decide) (R 0 rfl) rfl rfl (Nat.le_of_ble_eq_true rfl) (Nat.le_of_ble_eq_true rfl) (by decide) rfl rfl (fun _ => rfl) (fun κ' Ψ hΨ => run_pH_crash (cov20 R) hΨ) h (fun v122 D73 h => ?_)
        show Run Γ rg (n + 1) Y_L_law 1561 [(7, 0), (8, 0), (40, 0), (76, 0), (0, a4), (5, 0), (5, 0)] [(0, v122)] D73 Φ
        refine r_aload_n d_L_law_1561 rfl (by decide) ?_
        refine c_callVi0 (t' := (some .int)) (a := 32) (z := 0) (as := []) (rest := [(0, v122)]) (ls' := [(40, 0), (5, 0)]) d_L_law_1562 ck_RL_180 rfl sh_32 rfl (by decide) (R 32 rfl) rfl rfl (Nat.le_of_ble_eq_true rfl) (Nat.le_of_ble_eq_true rfl) (by decide) rfl rfl (fun _ => rfl) (fun κ' Ψ hΨ => run_pM_crash (cov21 R) hΨ) h (fun v123 D74 h => ?_)
        show Run Γ rg (n + 1) Y_L_law 1565 [(7, 0), (8, 0), (40, 0), (76, 0), (0, a4), (5, 0), (5, 0)] [(0, v123), (0, v122)] D74 Φ
        refine c_icmp_eq (tgt := 1570) d_L_law_1565 (by decide) (nz_w _) (nz_w _) h (fun h => ?_) (fun h => ?_)
        · skip
          refine Run.mono (κ' := n) (Nat.le_succ n) (fun _ _ h => h) ?_
          exact (hJ1 D74 h)
        · skip
          show Run Γ rg (n + 1) Y_L_law 1568 [(7, 0), (8, 0), (40, 0), (76, 0), (0, a4), (5, 0), (5, 0)] [] D74 Φ
          refine r_iconst d_L_law_1568 ?_
          exact c_zret0 d_L_law_1569 rfl (Or.inl rfl) h
      refine c_sw0 (tgt := 1570) d_L_law_39 (nz_w _) (by omega) (by decide) ?_
      refine Run.mono (κ' := n) (Nat.le_succ n) (fun _ _ h => h) ?_
      exact (hJ1 D h)
