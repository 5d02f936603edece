/-! the law's own methods, read -/
def pE_part (X : Nat → Int32) (L : Nat) (p1 : Int) (p2 : Int) (D : DD) : Res :=
  jnR (fun (x1 : Int) (D1 : DD) =>
      remR (w32 (iandZ x1 2147483647)) (w32 p2) fun v1 =>
      okR v1 D1) fun J1 =>
  if (w32 p1) < (w32 (L : Int)) then (
    rdX X L p1 D fun v2 =>
    J1 v2 D
  ) else (
    J1 ((557 * p1) + ((409 * p1) * p1)) D
  )
def pE_key (p1 : Int) (p2 : Int) (p3 : Int) (p4 : Int) : Int :=
  (1 + (2 * ((w32 p1) + (64 * ((w32 p2) + (10000 * (((w32 p3) + 1) + (64 * (w32 p4)))))))))
def pE_parent (p1 : Int) (D : DD) : Res :=
  rdA 60 32 p1 D fun v1 =>
  okR (Int.tmod (w64 (Int.tdiv (w64 v1) 2)) 64) D
def pE_name (p1 : Int) (D : DD) : Res :=
  rdA 60 32 p1 D fun v1 =>
  okR (Int.tmod (w64 (Int.tdiv (w64 v1) 128)) 10000) D
def pE_rights (p1 : Int) (D : DD) : Res :=
  rdA 60 32 p1 D fun v1 =>
  okR (Int.tdiv (w64 v1) 81920000) D
def pE_isKey (p1 : Int) (D : DD) : Res :=
  if (w32 p1) < 0 then (
    okR 0 D
  ) else (
    if (w32 p1) < 60 then (
      rdA 60 32 p1 D fun v1 =>
      if 0 < (lcmZ (w64 v1) (w64 0)) then (
        okR 1 D
      ) else (
        okR 0 D
      )
    ) else (
      okR 0 D
    )
  )
def pE_values_5 (a2 : Int) : Nat → Int → Int → DD → Res
  | 0, _, _, _ => none
  | n + 1, a3, a4, D =>
    if (w32 a4) < (w32 (D 41 1)) then (
      rdA 40 35 a4 D fun v1 =>
      jnR (fun (x1 : Int) (D1 : DD) =>
          ltR (a3 + x1) fun x2 =>
          pE_values_5 a2 n x2 (a4 + 1) D1) fun J1 =>
      if (lcmZ (w64 (Int.tmod (w64 v1) 64)) (w64 (w32 a2))) = 0 then (
        J1 1 D
      ) else (
        J1 0 D
      )
    ) else (
      okR a3 D
    )
def pE_values (p1 : Int) (D : DD) : Res :=
  pE_values_5 p1 64 0 0 D
def pE_size (p1 : Int) : Int :=
  if (w32 p1) < 2 then (
    3
  ) else (
    ((3 + p1) + (2 * (Int.tdiv (w32 (p1 + 7)) 8)))
  )
def pE_asks (p1 : Int) (p2 : Int) (p3 : Int) (p4 : Int) (D : DD) : Res :=
  if (w32 p1) = 0 then (
    ctc (pH_find p2 p3 D) (fun v9 D17 =>
        okR v9 D17) fun n D18 =>
    if n = 0 then (
      okR (-300) D18
    ) else (
    if n = 1 then (
      okR (-200) D18
    ) else (
    none))
  ) else (
    if (w32 p1) = 1 then (
      ctc (pH_subkeyAt p2 p3 D) (fun v8 D15 =>
          okR v8 D15) fun n D16 =>
      if n = 0 then (
        okR (-300) D16
      ) else (
      if n = 1 then (
        okR (-200) D16
      ) else (
      none))
    ) else (
      if (w32 p1) = 2 then (
        ctc (pH_list p2 D) (fun v7 D13 =>
            okR v7 D13) fun n D14 =>
        if n = 0 then (
          okR (-300) D14
        ) else (
        if n = 1 then (
          okR (-200) D14
        ) else (
        none))
      ) else (
        if (w32 p1) = 3 then (
          ctc (pH_follow p2 D) (fun v6 D11 =>
              okR v6 D11) fun n D12 =>
          if n = 0 then (
            okR (-300) D12
          ) else (
          if n = 1 then (
            okR (-200) D12
          ) else (
          none))
        ) else (
          if (w32 p1) = 4 then (
            ctc (pH_unit p2 p3 p4 D) (fun v5 D9 =>
                okR v5 D9) fun n D10 =>
            if n = 0 then (
              okR (-300) D10
            ) else (
            if n = 1 then (
              okR (-200) D10
            ) else (
            none))
          ) else (
            if (w32 p1) = 5 then (
              ctc (pH_sharers p2 D) (fun v4 D7 =>
                  okR v4 D7) fun n D8 =>
              if n = 0 then (
                okR (-300) D8
              ) else (
              if n = 1 then (
                okR (-200) D8
              ) else (
              none))
            ) else (
              if (w32 p1) = 6 then (
                ctc (pH_cell p2 D) (fun v3 D5 =>
                    okR v3 D5) fun n D6 =>
                if n = 0 then (
                  okR (-300) D6
                ) else (
                if n = 1 then (
                  okR (-200) D6
                ) else (
                none))
              ) else (
                if (w32 p1) = 7 then (
                  ctc (pH_place p2 D) (fun v2 D3 =>
                      okR v2 D3) fun n D4 =>
                  if n = 0 then (
                    okR (-300) D4
                  ) else (
                  if n = 1 then (
                    okR (-200) D4
                  ) else (
                  none))
                ) else (
                  ctc (pH_log p2 D) (fun v1 D1 =>
                      okR v1 D1) fun n D2 =>
                  if n = 0 then (
                    okR (-300) D2
                  ) else (
                  if n = 1 then (
                    okR (-200) D2
                  ) else (
                  none))
                )
              )
            )
          )
        )
      )
    )
  )
def pE_file_72 (a2 : Int) : Nat → Int → Int → Int → Int → Int → DD → (Int → Int → Int → Int → DD → Res) → Res
  | 0, _, _, _, _, _, _, _ => none
  | n + 1, a3, a4, a5, a7, a8, D, K =>
    if (w32 a3) < (w32 a2) then (
      if (w32 a8) = 0 then (
        K a3 a4 a5 a8 D
      ) else (
        bnd (pH_cell a3 D) fun v1 D1 =>
        jnR (fun (x1 : Int) (D2 : DD) =>
            jnR (fun (x2 : Int) (D3 : DD) =>
                jnR (fun (x3 : Int) (D4 : DD) =>
                    jnR (fun (x4 : Int) (D5 : DD) =>
                        ltR (a4 + x4) fun x5 =>
                        ltR ((31 * a5) + (w32 v1)) fun x6 =>
                        jnR (fun (x7 : Int) (D6 : DD) =>
                            ltR (a3 + x3) fun x8 =>
                            pE_file_72 a2 n x8 x5 x6 x1 x7 D6 K) fun J5 =>
                        jnR (fun (D7 : DD) =>
                            J5 0 D7) fun J6 =>
                        if (w32 x2) = 0 then (
                          J6 D5
                        ) else (
                          jnR (fun (D8 : DD) =>
                              jnR (fun (D9 : DD) =>
                                  J5 1 D9) fun J8 =>
                              if (w32 x1) = 0 then (
                                if (w32 x3) = 2 then (
                                  J8 D8
                                ) else (
                                  if (w32 x3) = 3 then (
                                    J8 D8
                                  ) else (
                                    if 3 < (w32 x3) then (
                                      if (w32 x3) < 11 then (
                                        J8 D8
                                      ) else (
                                        J6 D8
                                      )
                                    ) else (
                                      J6 D8
                                    )
                                  )
                                )
                              ) else (
                                J8 D8
                              )) fun J7 =>
                          if (w32 x3) = 1 then (
                            J7 D5
                          ) else (
                            bnd (pH_cell (a3 + 1) D5) fun v2 D10 =>
                            if (w32 v2) = 0 then (
                              J7 D10
                            ) else (
                              J6 D10
                            )
                          )
                        )) fun J4 =>
                    if (w32 x1) = 0 then (
                      J4 x3 D4
                    ) else (
                      J4 0 D4
                    )) fun J3 =>
                if (w32 x1) = 0 then (
                  J3 v1 D3
                ) else (
                  J3 (-v1) D3
                )) fun J2 =>
            jnR (fun (D11 : DD) =>
                J2 0 D11) fun J9 =>
            if (w32 v1) = 0 then (
              J9 D2
            ) else (
              jnR (fun (D12 : DD) =>
                  J2 1 D12) fun J10 =>
              if (w32 x1) = 0 then (
                J10 D2
              ) else (
                if (w32 a7) = 0 then (
                  J10 D2
                ) else (
                  J9 D2
                )
              )
            )) fun J1 =>
        if (w32 v1) < 0 then (
          J1 1 D1
        ) else (
          J1 0 D1
        )
      )
    ) else (
      K a3 a4 a5 a8 D
    )
def pE_file (D : DD) : Res :=
  ltR (16 * (pH_sectors D)) fun x1 =>
  ltR (7 + (w32 (pH_sectors D))) fun x2 =>
  bnd (pE_asks 6 x1 0 0 D) fun v1 D1 =>
  jnR (fun (x3 : Int) (D2 : DD) =>
      pE_file_72 x1 64 4 0 x2 0 x3 D2 fun x4 x5 x6 x7 D3 =>
        jnR (fun (x8 : Int) (D4 : DD) =>
            gD (up2 D4 41 12 x8) fun D5 =>
            okR x6 D5) fun J2 =>
        jnR (fun (D6 : DD) =>
            J2 0 D6) fun J3 =>
        if (w32 x7) = 0 then (
          J3 D3
        ) else (
          if (w32 x4) = (w32 x1) then (
            bnd (pH_used D3) fun v2 D7 =>
            if (w32 x5) = (w32 v2) then (
              bnd (pH_usedByTree D7) fun v3 D8 =>
              if (w32 x5) = (w32 v3) then (
                J2 1 D8
              ) else (
                J3 D8
              )
            ) else (
              J3 D7
            )
          ) else (
            J3 D3
          )
        )) fun J1 =>
  jnR (fun (D9 : DD) =>
      J1 0 D9) fun J4 =>
  if (w32 v1) = (-300) then (
    bnd (pE_asks 6 (-1) 0 0 D1) fun v4 D10 =>
    if (w32 v4) = (-300) then (
      bnd (pH_cell 0 D10) fun v5 D11 =>
      if (w32 v5) = 0 then (
        J1 1 D11
      ) else (
        J4 D11
      )
    ) else (
      J4 D10
    )
  ) else (
    J4 D1
  )
def pE_isFile (D : DD) : Res :=
  bnd (pE_file D) fun v1 D1 =>
  if (w32 (D1 41 12)) = 1 then (
    okR 1 D1
  ) else (
    okR 0 D1
  )
def pE_isTree_132 (a8 : Int) : Nat → Int → Int → DD → (Int → DD → Res) → Res
  | 0, _, _, _, _ => none
  | n + 1, a10, a11, D, K =>
    if (w32 a11) < 60 then (
      rdA 60 32 a11 D fun v1 =>
      jnR (fun (x1 : Int) (D1 : DD) =>
          ltR (a10 + x1) fun x2 =>
          pE_isTree_132 a8 n x2 (a11 + 1) D1 K) fun J1 =>
      jnR (fun (D2 : DD) =>
          J1 0 D2) fun J2 =>
      if 0 < (lcmZ (w64 v1) (w64 0)) then (
        bnd (pE_parent a11 D) fun v2 D3 =>
        if (w32 v2) = (w32 a8) then (
          J1 1 D3
        ) else (
          J2 D3
        )
      ) else (
        J2 D
      )
    ) else (
      K a10 D
    )
def pE_isTree_317 (a8 : Int) (a10 : Int) : Nat → Int → Int → Int → DD → (Int → DD → Res) → Res
  | 0, _, _, _, _, _ => none
  | n + 1, a7, a13, a14, D, K =>
    if (w32 a14) < (w32 a10) then (
      if (w32 a7) = 0 then (
        K a7 D
      ) else (
        bnd (pH_subkeyAt a8 a14 D) fun v1 D1 =>
        bnd (pE_isKey v1 D1) fun v2 D2 =>
        jnR (fun (x1 : Int) (D3 : DD) =>
            jnR (fun (x2 : Int) (D4 : DD) =>
                jnR (fun (x3 : Int) (D5 : DD) =>
                    pE_isTree_317 a8 a10 n x3 x2 (a14 + 1) D5 K) fun J3 =>
                jnR (fun (D6 : DD) =>
                    J3 0 D6) fun J4 =>
                if (w32 x1) = 0 then (
                  J4 D4
                ) else (
                  if (w32 a13) < (w32 x2) then (
                    J3 1 D4
                  ) else (
                    J4 D4
                  )
                )) fun J2 =>
            if (w32 x1) = 0 then (
              J2 0 D3
            ) else (
              bnd (pE_name v1 D3) fun v3 D7 =>
              bnd (pE_name v1 D7) fun v4 D8 =>
              J2 ((10000 * (Int.tmod (w32 (7 * v3)) 64)) + v4) D8
            )) fun J1 =>
        jnR (fun (D9 : DD) =>
            J1 0 D9) fun J5 =>
        if (w32 v2) = 0 then (
          J5 D2
        ) else (
          bnd (pE_parent v1 D2) fun v5 D10 =>
          if (w32 v5) = (w32 a8) then (
            bnd (pE_name v1 D10) fun v6 D11 =>
            bnd (pH_find a8 v6 D11) fun v7 D12 =>
            if (w32 v7) = (w32 v1) then (
              J1 1 D12
            ) else (
              J5 D12
            )
          ) else (
            J5 D10
          )
        )
      )
    ) else (
      K a7 D
    )
def pE_isTree_76 : Nat → Int → Int → Int → DD → (Int → Int → DD → Res) → Res
  | 0, _, _, _, _, _ => none
  | n + 1, a6, a7, a8, D, K =>
    if (w32 a8) < 60 then (
      if (w32 a7) = 0 then (
        K a6 a7 D
      ) else (
        bnd (pE_asks 2 a8 0 0 D) fun v1 D1 =>
        rdA 60 32 a8 D1 fun v2 =>
        jnR (fun (x1 : Int) (x2 : Int) (D2 : DD) =>
            pE_isTree_76 n x1 x2 (a8 + 1) D2 K) fun J1 =>
        if (lcmZ (w64 v2) (w64 0)) = 0 then (
          jnR (fun (x10 : Int) (D13 : DD) =>
              J1 a6 x10 D13) fun J6 =>
          if (w32 v1) = (-300) then (
            J6 1 D1
          ) else (
            J6 0 D1
          )
        ) else (
          pE_isTree_132 a8 64 0 1 D1 fun x3 D3 =>
            ltR (Int.tmod (w32 v1) 10) fun x4 =>
            jnR (fun (x5 : Int) (D4 : DD) =>
                bnd (pE_values a8 D4) fun v3 D5 =>
                jnR (fun (x6 : Int) (D6 : DD) =>
                    jnR (fun (x7 : Int) (D7 : DD) =>
                        ltR (a6 + (((6 + (5 * x4)) + x6) + x7)) fun x8 =>
                        pE_isTree_317 a8 x3 64 x5 (-1) 0 D7 fun x9 D8 =>
                          J1 x8 x9 D8) fun J4 =>
                    if (w32 v3) = 0 then (
                      J4 0 D6
                    ) else (
                      if (lcmZ (w64 (landZ (lshrZ (D6 43 0) a8) 1)) (w64 1)) = 0 then (
                        J4 9 D6
                      ) else (
                        J4 5 D6
                      )
                    )) fun J3 =>
                if 1 < (w32 x4) then (
                  J3 9 D5
                ) else (
                  J3 0 D5
                )) fun J2 =>
            jnR (fun (D9 : DD) =>
                J2 0 D9) fun J5 =>
            if (w32 (Int.tdiv (w32 v1) 10)) = (w32 x3) then (
              if (w32 (4 * x4)) < (w32 x3) then (
                J5 D3
              ) else (
                if (w32 x3) < (w32 x4) then (
                  J5 D3
                ) else (
                  bnd (pH_place a8 D3) fun v4 D10 =>
                  bnd (pH_cell v4 D10) fun v5 D11 =>
                  if (w32 v5) = 6 then (
                    bnd (pE_asks 1 a8 x3 0 D11) fun v6 D12 =>
                    if (w32 v6) = (-300) then (
                      J2 1 D12
                    ) else (
                      J5 D12
                    )
                  ) else (
                    J5 D11
                  )
                )
              )
            ) else (
              J5 D3
            )
        )
      )
    ) else (
      K a6 a7 D
    )
def pE_isTree_481 (a8 : Int) : Nat → Int → Int → DD → (Int → DD → Res) → Res
  | 0, _, _, _, _ => none
  | n + 1, a9, a10, D, K =>
    if (w32 a10) < (w32 a8) then (
      jnR (fun (x1 : Int) (D1 : DD) =>
          pE_isTree_481 a8 n x1 (a10 + 1) D1 K) fun J1 =>
      jnR (fun (D2 : DD) =>
          J1 0 D2) fun J2 =>
      if (w32 a9) = 0 then (
        J2 D
      ) else (
        rdA 60 32 a10 D fun v1 =>
        jnR (fun (D3 : DD) =>
            J1 1 D3) fun J3 =>
        if (lcmZ (w64 v1) (w64 0)) = 0 then (
          J3 D
        ) else (
          bnd (pE_rights a10 D) fun v2 D4 =>
          bnd (pE_rights a8 D4) fun v3 D5 =>
          if (w32 v2) = (w32 v3) then (
            J2 D5
          ) else (
            J3 D5
          )
        )
      )
    ) else (
      K a9 D
    )
def pE_isTree_455 : Nat → Int → Int → DD → (Int → DD → Res) → Res
  | 0, _, _, _, _ => none
  | n + 1, a6, a8, D, K =>
    if (w32 a8) < 60 then (
      rdA 60 32 a8 D fun v1 =>
      jnR (fun (x1 : Int) (D1 : DD) =>
          pE_isTree_481 a8 64 x1 0 D1 fun x2 D2 =>
            jnR (fun (x3 : Int) (D3 : DD) =>
                ltR (a6 + x3) fun x4 =>
                pE_isTree_455 n x4 (a8 + 1) D3 K) fun J2 =>
            if (w32 x2) = 0 then (
              J2 0 D2
            ) else (
              J2 2 D2
            )) fun J1 =>
      if 0 < (lcmZ (w64 v1) (w64 0)) then (
        J1 1 D
      ) else (
        J1 0 D
      )
    ) else (
      K a6 D
    )
def pE_isTree_554 : Nat → Int → Int → Int → DD → (Int → Int → DD → Res) → Res
  | 0, _, _, _, _, _ => none
  | n + 1, a6, a7, a8, D, K =>
    if (w32 a8) < (w32 (D 41 1)) then (
      if (w32 a7) = 0 then (
        K a6 a7 D
      ) else (
        rdA 40 35 a8 D fun v1 =>
        ltR (Int.tmod (w64 v1) 64) fun x1 =>
        rdA 40 35 a8 D fun v2 =>
        ltR (Int.tmod (w64 (Int.tdiv (w64 v2) 64)) 100) fun x2 =>
        rdA 40 35 a8 D fun v3 =>
        ltR (Int.tdiv (w64 v3) 6400) fun x3 =>
        ltR (a6 + (pE_size x3)) fun x4 =>
        jnR (fun (x5 : Int) (D1 : DD) =>
            pE_isTree_554 n x4 x5 (a8 + 1) D1 K) fun J1 =>
        jnR (fun (D2 : DD) =>
            J1 0 D2) fun J2 =>
        jnR (fun (D3 : DD) =>
            bnd (pE_asks 4 x1 x2 x3 D3) fun v4 D4 =>
            if (w32 v4) = (-300) then (
              J1 1 D4
            ) else (
              J2 D4
            )) fun J3 =>
        if (w32 x3) = 0 then (
          J3 D
        ) else (
          bnd (pH_unit x1 x2 (x3 - 1) D) fun v5 D5 =>
          rdA 40 38 a8 D5 fun v6 =>
          if (w32 v5) = (w32 ((31 * v6) + (17 * (x3 - 1)))) then (
            J3 D5
          ) else (
            J2 D5
          )
        )
      )
    ) else (
      K a6 a7 D
    )
def pE_isTree (D : DD) : Res :=
  bnd (pE_asks 2 (D 41 0) 0 0 D) fun v1 D1 =>
  jnR (fun (x1 : Int) (D2 : DD) =>
      pE_isTree_76 64 0 x1 0 D2 fun x2 x3 D3 =>
        pE_isTree_455 64 x2 0 D3 fun x4 D4 =>
          pE_isTree_554 64 x4 x3 0 D4 fun x5 x6 D5 =>
            if (w32 x6) = 0 then (
              okR 0 D5
            ) else (
              bnd (pH_used D5) fun v2 D6 =>
              if (w32 x5) = (w32 v2) then (
                okR 1 D6
              ) else (
                okR 0 D6
              )
            )) fun J1 =>
  jnR (fun (D7 : DD) =>
      J1 0 D7) fun J2 =>
  if (w32 v1) = (-300) then (
    bnd (pE_asks 3 (-1) 0 0 D1) fun v3 D8 =>
    if (w32 v3) = (-300) then (
      bnd (pE_asks 7 80 0 0 D8) fun v4 D9 =>
      if (w32 v4) = (-300) then (
        bnd (pE_asks 0 0 10000 0 D9) fun v5 D10 =>
        if (w32 v5) = (-200) then (
          J1 1 D10
        ) else (
          J2 D10
        )
      ) else (
        J2 D9
      )
    ) else (
      J2 D8
    )
  ) else (
    J2 D1
  )
def pE_copies_3 : Nat → Int → DD → (DD → Res) → Res
  | 0, _, _, _ => none
  | n + 1, a6, D, K =>
    if (w32 a6) < 60 then (
      rdA 60 34 a6 D fun v1 =>
      wrA 60 32 a6 v1 D fun D1 =>
      pE_copies_3 n (a6 + 1) D1 K
    ) else (
      K D
    )
def pE_copies_29 : Nat → Int → DD → Res
  | 0, _, _ => none
  | n + 1, a6, D =>
    if (w32 a6) < 40 then (
      rdA 40 37 a6 D fun v1 =>
      wrA 40 35 a6 v1 D fun D1 =>
      rdA 40 40 a6 D1 fun v2 =>
      wrA 40 38 a6 v2 D1 fun D2 =>
      pE_copies_29 n (a6 + 1) D2
    ) else (
      okR 0 D
    )
def pE_copies (D : DD) : Res :=
  pE_copies_3 64 0 D fun D1 =>
    pE_copies_29 64 0 D1
