/-! the reference: its methods, read -/
noncomputable section
def pM_thrown (D : DD) : Int :=
  (D 32 42)
def pM_isIn (p1 : Int) (p2 : Int) (p3 : Int) : Int :=
  if (w32 p1) < (w32 p2) then (
    0
  ) else (
    if (w32 p3) < (w32 p1) then (
      0
    ) else (
      1
    )
  )
theorem pM_isIn_b (p1 : Int) (p2 : Int) (p3 : Int) : pM_isIn p1 p2 p3 = 0 ∨ pM_isIn p1 p2 p3 = 1 := by
  unfold pM_isIn
  try unfold jnR
  try unfold ltR
  try dsimp only
  repeat' split
  all_goals first | exact Or.inl rfl | exact Or.inr rfl
def pM_isKey (p1 : Int) (D : DD) : Res :=
  if (pM_isIn p1 0 79) = 0 then (
    okR 0 D
  ) else (
    rdA 240 36 p1 D fun v1 =>
    if (w32 v1) = 0 then (
      okR 0 D
    ) else (
      okR 1 D
    )
  )
def pM_fails (p1 : Int) (D : DD) : Res :=
  gD (up2 D 32 42 p1) fun D1 =>
  if 0 < (w32 p1) then (
    okR 1 D1
  ) else (
    okR 0 D1
  )
def pM_writes_28 (a1 : Int) (a2 : Int) : Nat → Int → DD → Res
  | 0, _, _ => none
  | n + 1, a3, D =>
    if (w32 a3) < (w32 (a1 + a2)) then (
      wrZ 64 58 (Int.tdiv (w32 a3) 16) 1 D fun D1 =>
      pM_writes_28 a1 a2 n (a3 + 1) D1
    ) else (
      okR 0 D
    )
def pM_writes (p1 : Int) (D : DD) : Res :=
  rdA 3072 33 p1 D fun v1 =>
  jnR (fun (x1 : Int) (D1 : DD) =>
      pM_writes_28 p1 x1 fu p1 D1) fun J1 =>
  if (w32 v1) < 0 then (
    rdA 3072 33 p1 D fun v3 =>
    J1 (-v3) D
  ) else (
    rdA 3072 33 p1 D fun v2 =>
    J1 v2 D
  )
def pM_writesGot_2 : Nat → Int → DD → Res
  | 0, _, _ => none
  | n + 1, a1, D =>
    if (w32 a1) < (w32 (D 32 37)) then (
      rdA 8 66 a1 D fun v1 =>
      bnd (pM_writes v1 D) fun _ D1 =>
      pM_writesGot_2 n (a1 + 1) D1
    ) else (
      okR 0 D
    )
def pM_writesGot (D : DD) : Res :=
  pM_writesGot_2 fu 0 D
def pM_start_5 (a1 : Int) (a2 : Int) : Nat → Int → Int → DD → Res
  | 0, _, _, _ => none
  | n + 1, a3, a4, D =>
    if (w32 a4) < (w32 a2) then (
      rdA 1920 45 ((8 * a1) + a4) D fun v1 =>
      ltR (a3 + v1) fun x1 =>
      pM_start_5 a1 a2 n x1 (a4 + 1) D
    ) else (
      okR a3 D
    )
def pM_start (p1 : Int) (p2 : Int) (D : DD) : Res :=
  pM_start_5 p1 p2 fu 0 0 D
def pM_rank (p1 : Int) : Int :=
  ((10000 * (Int.tmod (w32 (7 * p1)) 64)) + p1)
def pM_leafFor_5 (a1 : Int) (a2 : Int) : Nat → Int → Int → DD → Res
  | 0, _, _, _ => none
  | n + 1, a3, a4, D =>
    rdA 240 42 a1 D fun v1 =>
    if (w32 a4) < (w32 v1) then (
      bnd (pM_start a1 a4 D) fun v2 D1 =>
      rdA 7680 47 ((32 * a1) + v2) D1 fun v3 =>
      jnR (fun (x1 : Int) (D2 : DD) =>
          pM_leafFor_5 a1 a2 n x1 (a4 + 1) D2) fun J1 =>
      if (w32 (pM_rank v3)) < (w32 (pM_rank a2)) then (
        J1 a4 D1
      ) else (
        J1 a3 D1
      )
    ) else (
      okR a3 D
    )
def pM_leafFor (p1 : Int) (p2 : Int) (D : DD) : Res :=
  pM_leafFor_5 p1 p2 fu 0 0 D
def pM_isSplit (p1 : Int) (p2 : Int) (D : DD) : Res :=
  rdA 240 42 p1 D fun v1 =>
  if 0 < (w32 v1) then (
    bnd (pM_leafFor p1 p2 D) fun v2 D1 =>
    rdA 1920 45 ((8 * p1) + v2) D1 fun v3 =>
    if (w32 v3) = 4 then (
      okR 1 D1
    ) else (
      okR 0 D1
    )
  ) else (
    okR 0 D
  )
def pM_enters_88 (a1 : Int) (a3 : Int) (a9 : Int) : Nat → Int → DD → (Int → DD → Res) → Res
  | 0, _, _, _ => none
  | n + 1, a8, D, K =>
    if (w32 a8) < (w32 a9) then (
      rdA 7680 47 ((32 * a1) + a8) D fun v1 =>
      if (w32 (pM_rank v1)) < (w32 (pM_rank a3)) then (
        pM_enters_88 a1 a3 a9 n (a8 + 1) D K
      ) else (
        K a8 D
      )
    ) else (
      K a8 D
    )
def pM_entries (p1 : Int) (D : DD) : Res :=
  rdA 240 42 p1 D fun v1 =>
  bnd (pM_start p1 v1 D) fun v2 D1 =>
  okR v2 D1
def pM_enters_130 (a1 : Int) (a8 : Int) : Nat → Int → DD → (DD → Res) → Res
  | 0, _, _, _ => none
  | n + 1, a10, D, K =>
    if (w32 a8) < (w32 a10) then (
      rdA 7680 46 (((32 * a1) + a10) - 1) D fun v1 =>
      wrA 7680 46 ((32 * a1) + a10) v1 D fun D1 =>
      rdA 7680 47 (((32 * a1) + a10) - 1) D1 fun v2 =>
      wrA 7680 47 ((32 * a1) + a10) v2 D1 fun D2 =>
      pM_enters_130 a1 a8 n (a10 + (-1)) D2 K
    ) else (
      K D
    )
def pM_enters_292 (a1 : Int) (a6 : Int) : Nat → Int → DD → (DD → Res) → Res
  | 0, _, _, _ => none
  | n + 1, a10, D, K =>
    if (w32 (a6 + 1)) < (w32 a10) then (
      rdA 1920 44 (((8 * a1) + a10) - 1) D fun v1 =>
      wrA 1920 44 ((8 * a1) + a10) v1 D fun D1 =>
      rdA 1920 45 (((8 * a1) + a10) - 1) D1 fun v2 =>
      wrA 1920 45 ((8 * a1) + a10) v2 D1 fun D2 =>
      pM_enters_292 a1 a6 n (a10 + (-1)) D2 K
    ) else (
      K D
    )
def pM_enters (p1 : Int) (p2 : Int) (p3 : Int) (p4 : Int) (D : DD) : Res :=
  bnd (pM_leafFor p1 p3 D) fun v1 D1 =>
  bnd (pM_isSplit p1 p3 D1) fun v2 D2 =>
  rdA 240 42 p1 D2 fun v3 =>
  jnR (fun (D3 : DD) =>
      bnd (pM_start p1 v1 D3) fun v4 D4 =>
      rdA 1920 45 ((8 * p1) + v1) D4 fun v5 =>
      ltR (v4 + v5) fun x1 =>
      pM_enters_88 p1 p3 x1 fu v4 D4 fun x2 D5 =>
        bnd (pM_entries p1 D5) fun v6 D6 =>
        pM_enters_130 p1 x2 fu v6 D6 fun D7 =>
          wrA 7680 46 ((32 * p1) + x2) p2 D7 fun D8 =>
          wrA 7680 47 ((32 * p1) + x2) p3 D8 fun D9 =>
          rdA 1920 45 ((8 * p1) + v1) D9 fun v7 =>
          wrA 1920 45 ((8 * p1) + v1) (v7 + 1) D9 fun D10 =>
          rdA 1920 44 ((8 * p1) + v1) D10 fun v8 =>
          bnd (pM_writes v8 D10) fun _ D11 =>
          jnR (fun (D12 : DD) =>
              rdA 240 40 p1 D12 fun v9 =>
              bnd (pM_writes v9 D12) fun _ D13 =>
              okR 0 D13) fun J2 =>
          if (w32 v2) = 0 then (
            J2 D11
          ) else (
            rdA 240 42 p1 D11 fun v10 =>
            jnR (fun (x3 : Int) (D14 : DD) =>
                rdA 240 42 p1 D14 fun v11 =>
                pM_enters_292 p1 v1 fu v11 D14 fun D15 =>
                  rdA 8 66 x3 D15 fun v12 =>
                  wrA 1920 44 (((8 * p1) + v1) + 1) v12 D15 fun D16 =>
                  wrA 1920 45 (((8 * p1) + v1) + 1) 2 D16 fun D17 =>
                  wrA 1920 45 ((8 * p1) + v1) 3 D17 fun D18 =>
                  rdA 240 42 p1 D18 fun v13 =>
                  wrA 240 42 p1 (v13 + 1) D18 fun D19 =>
                  rdA 240 43 p1 D19 fun v14 =>
                  bnd (pM_writes v14 D19) fun _ D20 =>
                  J2 D20) fun J3 =>
            if (w32 v10) = 1 then (
              rdA 8 66 p4 D11 fun v15 =>
              wrA 240 43 p1 v15 D11 fun D21 =>
              J3 (p4 + 1) D21
            ) else (
              J3 p4 D11
            )
          )) fun J1 =>
  if (w32 v3) = 0 then (
    wrA 240 42 p1 1 D2 fun D22 =>
    rdA 8 66 p4 D22 fun v16 =>
    wrA 1920 44 (8 * p1) v16 D22 fun D23 =>
    wrA 1920 45 (8 * p1) 0 D23 fun D24 =>
    J1 D24
  ) else (
    J1 D2
  )
def pM_tells (p1 : Int) (p2 : Int) (D : DD) : Res :=
  rdA 80 59 p1 D fun v1 =>
  if (w32 (iandZ v1 p2)) = 0 then (
    okR 0 D
  ) else (
    rdA 80 61 p1 D fun v2 =>
    if (w32 v2) = 0 then (
      wrZ 80 61 p1 1 D fun D1 =>
      wrA 80 62 (D1 32 29) p1 D1 fun D2 =>
      wrA 80 63 (D2 32 29) p2 D2 fun D3 =>
      gD (up2 D3 32 29 ((D3 32 29) + 1)) fun D4 =>
      okR 0 D4
    ) else (
      okR 0 D
    )
  )
def pM_changes_13 (a2 : Int) : Nat → Int → DD → Res
  | 0, _, _ => none
  | n + 1, a3, D =>
    if (w32 a3) = (-1) then (
      okR 0 D
    ) else (
      rdA 80 60 a3 D fun v1 =>
      jnR (fun (D1 : DD) =>
          rdA 240 37 a3 D1 fun v2 =>
          pM_changes_13 a2 n v2 D1) fun J1 =>
      if (w32 v1) = 0 then (
        J1 D
      ) else (
        bnd (pM_tells a3 a2 D) fun _ D2 =>
        J1 D2
      )
    )
def pM_changes (p1 : Int) (p2 : Int) (D : DD) : Res :=
  bnd (pM_tells p1 p2 D) fun _ D1 =>
  rdA 240 37 p1 D1 fun v1 =>
  pM_changes_13 p2 fu v1 D1
def pM_makes (p1 : Int) (p2 : Int) (p3 : Int) (D : DD) : Res :=
  ltR (D 35 0) fun x1 =>
  bnd (pM_writesGot D) fun _ D1 =>
  gD (up2 D1 35 0 ((D1 35 0) + 1)) fun D2 =>
  wrZ 240 36 x1 1 D2 fun D3 =>
  wrA 240 37 x1 p1 D3 fun D4 =>
  wrA 240 38 x1 p2 D4 fun D5 =>
  wrA 240 39 x1 p3 D5 fun D6 =>
  wrA 240 40 x1 (D6 66 0) D6 fun D7 =>
  rdA 240 41 p1 D7 fun v1 =>
  wrA 240 41 x1 v1 D7 fun D8 =>
  wrA 240 42 x1 0 D8 fun D9 =>
  wrA 240 43 x1 (-1) D9 fun D10 =>
  wrA 240 48 x1 0 D10 fun D11 =>
  wrA 240 49 x1 (-1) D11 fun D12 =>
  bnd (pM_enters p1 x1 p2 1 D12) fun _ D13 =>
  rdA 240 41 p1 D13 fun v2 =>
  rdA 768 57 v2 D13 fun v3 =>
  wrA 768 57 v2 (v3 + 1) D13 fun D14 =>
  rdA 240 41 p1 D14 fun v4 =>
  rdA 768 56 v4 D14 fun v5 =>
  bnd (pM_writes v5 D14) fun _ D15 =>
  bnd (pM_changes p1 1 D15) fun _ D16 =>
  okR x1 D16
def pM_isName (p1 : Int) : Int :=
  (pM_isIn p1 0 9999)
theorem pM_isName_b (p1 : Int) : pM_isName p1 = 0 ∨ pM_isName p1 = 1 := by
  unfold pM_isName
  try unfold jnR
  try unfold ltR
  try dsimp only
  repeat' split
  all_goals first | exact Or.inl rfl | exact Or.inr rfl | exact (pM_isIn_b p1 0 9999)
def pM_entryOf_5 (a1 : Int) (a2 : Int) : Nat → Int → Int → DD → Res
  | 0, _, _, _ => none
  | n + 1, a3, a4, D =>
    bnd (pM_entries a1 D) fun v1 D1 =>
    if (w32 a4) < (w32 v1) then (
      rdA 7680 47 ((32 * a1) + a4) D1 fun v2 =>
      jnR (fun (x1 : Int) (D2 : DD) =>
          pM_entryOf_5 a1 a2 n x1 (a4 + 1) D2) fun J1 =>
      if (w32 v2) = (w32 a2) then (
        J1 a4 D1
      ) else (
        J1 a3 D1
      )
    ) else (
      okR a3 D1
    )
def pM_entryOf (p1 : Int) (p2 : Int) (D : DD) : Res :=
  pM_entryOf_5 p1 p2 fu (-1) 0 D
def pM_isFull (p1 : Int) (p2 : Int) (D : DD) : Res :=
  bnd (pM_isSplit p1 p2 D) fun v1 D1 =>
  if (w32 v1) = 0 then (
    okR 0 D1
  ) else (
    rdA 240 42 p1 D1 fun v2 =>
    if (w32 v2) = 8 then (
      okR 1 D1
    ) else (
      okR 0 D1
    )
  )
def pM_wants (p1 : Int) (D : DD) : Res :=
  wrA 8 65 (D 32 37) p1 D fun D1 =>
  gD (up2 D1 32 37 ((D1 32 37) + 1)) fun D2 =>
  okR 0 D2
def pM_wantsEntry (p1 : Int) (p2 : Int) (D : DD) : Res :=
  rdA 240 42 p1 D fun v1 =>
  if (w32 v1) = 0 then (
    bnd (pM_wants 5 D) fun _ D5 =>
    okR 0 D5
  ) else (
    bnd (pM_isSplit p1 p2 D) fun v2 D1 =>
    if (w32 v2) = 0 then (
      okR 0 D1
    ) else (
      rdA 240 42 p1 D1 fun v3 =>
      jnR (fun (D2 : DD) =>
          bnd (pM_wants 5 D2) fun _ D3 =>
          okR 0 D3) fun J1 =>
      if (w32 v3) = 1 then (
        bnd (pM_wants 9 D1) fun _ D4 =>
        J1 D4
      ) else (
        J1 D1
      )
    )
  )
def pM_gets_9 : Nat → Int → DD → (DD → Res) → Res
  | 0, _, _, _ => none
  | n + 1, a2, D, K =>
    if (w32 a2) < 1024 then (
      rdA 3072 33 a2 D fun v1 =>
      wrA 1024 67 a2 v1 D fun D1 =>
      pM_gets_9 n (a2 + 1) D1 K
    ) else (
      K D
    )
def pM_units (D : DD) : Int :=
  (16 * (D 34 0))
def pM_freeFor_2 (a1 : Int) : Nat → Int → DD → Res
  | 0, _, _ => none
  | n + 1, a2, D =>
    if (w32 a2) < (w32 (pM_units D)) then (
      rdA 3072 33 a2 D fun v1 =>
      if (w32 (-a1)) < (w32 v1) then (
        pM_freeFor_2 a1 n (a2 + 1) D
      ) else (
        okR a2 D
      )
    ) else (
      okR (-1) D
    )
def pM_freeFor (p1 : Int) (D : DD) : Res :=
  pM_freeFor_2 p1 fu 0 D
def pM_freeAhead_4 (a1 : Int) : Nat → Int → Int → DD → Res
  | 0, _, _, _ => none
  | n + 1, a2, a3, D =>
    if (w32 a3) < (w32 a1) then (
      rdA 3072 33 a3 D fun v1 =>
      jnR (fun (x1 : Int) (D1 : DD) =>
          pM_freeAhead_4 a1 n x1 (a3 + 1) D1) fun J1 =>
      jnR (fun (D2 : DD) =>
          J1 a2 D2) fun J2 =>
      if (w32 v1) < 0 then (
        rdA 3072 33 a3 D fun v2 =>
        if (w32 (a3 - v2)) = (w32 a1) then (
          J1 a3 D
        ) else (
          J2 D
        )
      ) else (
        J2 D
      )
    ) else (
      okR a2 D
    )
def pM_freeAhead (p1 : Int) (D : DD) : Res :=
  pM_freeAhead_4 p1 fu (-1) 0 D
def pM_grows (D : DD) : Res :=
  ltR (pM_units D) fun x1 =>
  bnd (pM_freeAhead x1 D) fun v1 D1 =>
  gD (up2 D1 34 0 ((D1 34 0) + 1)) fun D2 =>
  if (w32 v1) = (-1) then (
    wrA 3072 33 x1 (-16) D2 fun D4 =>
    okR 0 D4
  ) else (
    rdA 3072 33 v1 D2 fun v2 =>
    wrA 3072 33 v1 (v2 - 16) D2 fun D3 =>
    okR 0 D3
  )
def pM_takes_6 (a1 : Int) : Nat → Int → DD → (Int → DD → Res) → Res
  | 0, _, _, _ => none
  | n + 1, a2, D, K =>
    if (w32 a2) = (-1) then (
      if (w32 (D 34 0)) < 64 then (
        bnd (pM_grows D) fun _ D1 =>
        bnd (pM_freeFor a1 D1) fun v1 D2 =>
        pM_takes_6 a1 n v1 D2 K
      ) else (
        K a2 D
      )
    ) else (
      K a2 D
    )
def pM_takes (p1 : Int) (D : DD) : Res :=
  bnd (pM_freeFor p1 D) fun v1 D1 =>
  pM_takes_6 p1 fu v1 D1 fun x1 D2 =>
    if (w32 x1) = (-1) then (
      okR x1 D2
    ) else (
      rdA 3072 33 x1 D2 fun v2 =>
      ltR ((-v2) - p1) fun x2 =>
      wrA 3072 33 x1 p1 D2 fun D3 =>
      if 0 < (w32 x2) then (
        wrA 3072 33 (x1 + p1) (-x2) D3 fun D4 =>
        okR x1 D4
      ) else (
        okR x1 D3
      )
    )
def pM_gets_38 : Nat → Int → Int → DD → (Int → DD → Res) → Res
  | 0, _, _, _, _ => none
  | n + 1, a2, a3, D, K =>
    if (w32 a3) < (w32 (D 32 37)) then (
      if (w32 a2) = 0 then (
        K a2 D
      ) else (
        rdA 8 65 a3 D fun v1 =>
        bnd (pM_takes v1 D) fun v2 D1 =>
        wrA 8 66 a3 v2 D1 fun D2 =>
        rdA 8 66 a3 D2 fun v3 =>
        jnR (fun (x1 : Int) (D3 : DD) =>
            pM_gets_38 n x1 (a3 + 1) D3 K) fun J1 =>
        if (w32 v3) = (-1) then (
          J1 0 D2
        ) else (
          J1 1 D2
        )
      )
    ) else (
      K a2 D
    )
def pM_gets_101 (a2 : Int) : Nat → Int → DD → Res
  | 0, _, _ => none
  | n + 1, a3, D =>
    if (w32 a3) < 1024 then (
      rdA 1024 67 a3 D fun v1 =>
      wrA 3072 33 a3 v1 D fun D1 =>
      pM_gets_101 a2 n (a3 + 1) D1
    ) else (
      okZ a2 D
    )
def pM_gets (D : DD) : Res :=
  ltR (D 34 0) fun x1 =>
  pM_gets_9 fu 0 D fun D1 =>
    pM_gets_38 fu 1 0 D1 fun x2 D2 =>
      if (w32 x2) = 0 then (
        gD (up2 D2 34 0 x1) fun D3 =>
        pM_gets_101 x2 fu 0 D3
      ) else (
        okZ x2 D2
      )
def pM_cannotMake (p1 : Int) (p2 : Int) (D : DD) : Res :=
  rdA 240 39 p1 D fun v1 =>
  if (w32 v1) = (-1) then (
    bnd (pM_entryOf p1 p2 D) fun v2 D1 =>
    if (w32 v2) = (-1) then (
      bnd (pM_isFull p1 p2 D1) fun v3 D2 =>
      if (w32 v3) = 0 then (
        if (w32 (D2 35 0)) = 80 then (
          okR 1 D2
        ) else (
          gD (up2 D2 32 37 0) fun D3 =>
          bnd (pM_wants 6 D3) fun _ D4 =>
          bnd (pM_wantsEntry p1 p2 D4) fun _ D5 =>
          bnd (pM_gets D5) fun v4 D6 =>
          if (w32 v4) = 0 then (
            okR 1 D6
          ) else (
            okR 0 D6
          )
        )
      ) else (
        okR 1 D2
      )
    ) else (
      okR 1 D1
    )
  ) else (
    okR 1 D
  )
def pM_make (p1 : Int) (p2 : Int) (D : DD) : Res :=
  bnd (pM_isKey p1 D) fun v1 D1 =>
  jnR (fun (x1 : Int) (D2 : DD) =>
      bnd (pM_fails x1 D2) fun v2 D3 =>
      if (w32 v2) = 0 then (
        bnd (pM_makes p1 p2 (-1) D3) fun v3 D4 =>
        okR v3 D4
      ) else (
        okR 0 D3
      )) fun J1 =>
  if (w32 v1) = 0 then (
    J1 1 D1
  ) else (
    if (pM_isName p2) = 0 then (
      J1 2 D1
    ) else (
      bnd (pM_cannotMake p1 p2 D1) fun v4 D5 =>
      if (w32 v4) = 0 then (
        J1 0 D5
      ) else (
        J1 3 D5
      )
    )
  )
def pM_makeLink (p1 : Int) (p2 : Int) (p3 : Int) (D : DD) : Res :=
  bnd (pM_isKey p1 D) fun v1 D1 =>
  jnR (fun (x1 : Int) (D2 : DD) =>
      jnR (fun (x2 : Int) (D3 : DD) =>
          bnd (pM_fails x2 D3) fun v2 D4 =>
          if (w32 v2) = 0 then (
            bnd (pM_makes p1 p2 p3 D4) fun v3 D5 =>
            okR v3 D5
          ) else (
            okR 0 D4
          )) fun J2 =>
      if (w32 x1) = 0 then (
        J2 1 D2
      ) else (
        if (pM_isName p2) = 0 then (
          J2 2 D2
        ) else (
          bnd (pM_cannotMake p1 p2 D2) fun v4 D6 =>
          if (w32 v4) = 0 then (
            J2 0 D6
          ) else (
            J2 3 D6
          )
        )
      )) fun J1 =>
  jnR (fun (D7 : DD) =>
      J1 0 D7) fun J3 =>
  if (w32 v1) = 0 then (
    J3 D1
  ) else (
    bnd (pM_isKey p3 D1) fun v5 D8 =>
    if (w32 v5) = 0 then (
      J3 D8
    ) else (
      J1 1 D8
    )
  )
def pM_goes_10 (a1 : Int) (a3 : Int) : Nat → Int → DD → (Int → DD → Res) → Res
  | 0, _, _, _ => none
  | n + 1, a4, D, K =>
    bnd (pM_start a1 (a4 + 1) D) fun v1 D1 =>
    if (w32 a3) < (w32 v1) then (
      K a4 D1
    ) else (
      pM_goes_10 a1 a3 n (a4 + 1) D1 K
    )
def pM_goes_41 (a1 : Int) (a5 : Int) : Nat → Int → DD → (DD → Res) → Res
  | 0, _, _, _ => none
  | n + 1, a6, D, K =>
    if (w32 a6) < (w32 a5) then (
      rdA 7680 46 (((32 * a1) + a6) + 1) D fun v1 =>
      wrA 7680 46 ((32 * a1) + a6) v1 D fun D1 =>
      rdA 7680 47 (((32 * a1) + a6) + 1) D1 fun v2 =>
      wrA 7680 47 ((32 * a1) + a6) v2 D1 fun D2 =>
      pM_goes_41 a1 a5 n (a6 + 1) D2 K
    ) else (
      K D
    )
def pM_gives (p1 : Int) (D : DD) : Res :=
  bnd (pM_writes p1 D) fun _ D1 =>
  rdA 3072 33 p1 D1 fun v1 =>
  gD (up2 D1 32 41 ((D1 32 41) + v1)) fun D2 =>
  rdA 3072 33 p1 D2 fun v2 =>
  ltR (p1 + v2) fun x1 =>
  wrA 3072 33 p1 (-v2) D2 fun D3 =>
  jnR (fun (D4 : DD) =>
      bnd (pM_freeAhead p1 D4) fun v3 D5 =>
      if (w32 v3) = (-1) then (
        okR 0 D5
      ) else (
        rdA 3072 33 v3 D5 fun v4 =>
        rdA 3072 33 p1 D5 fun v5 =>
        wrA 3072 33 v3 (v4 + v5) D5 fun D6 =>
        wrA 3072 33 p1 0 D6 fun D7 =>
        okR 0 D7
      )) fun J1 =>
  if (w32 x1) < (w32 (pM_units D3)) then (
    rdA 3072 33 x1 D3 fun v6 =>
    if (w32 v6) < 0 then (
      rdA 3072 33 p1 D3 fun v7 =>
      rdA 3072 33 x1 D3 fun v8 =>
      wrA 3072 33 p1 (v7 + v8) D3 fun D8 =>
      wrA 3072 33 x1 0 D8 fun D9 =>
      J1 D9
    ) else (
      J1 D3
    )
  ) else (
    J1 D3
  )
def pM_goes_183 (a1 : Int) : Nat → Int → DD → (DD → Res) → Res
  | 0, _, _, _ => none
  | n + 1, a6, D, K =>
    rdA 240 42 a1 D fun v1 =>
    if (w32 a6) < (w32 v1) then (
      rdA 1920 44 (((8 * a1) + a6) + 1) D fun v2 =>
      wrA 1920 44 ((8 * a1) + a6) v2 D fun D1 =>
      rdA 1920 45 (((8 * a1) + a6) + 1) D1 fun v3 =>
      wrA 1920 45 ((8 * a1) + a6) v3 D1 fun D2 =>
      pM_goes_183 a1 n (a6 + 1) D2 K
    ) else (
      K D
    )
def pM_goes (p1 : Int) (p2 : Int) (D : DD) : Res :=
  bnd (pM_entryOf p1 p2 D) fun v1 D1 =>
  pM_goes_10 p1 v1 fu 0 D1 fun x1 D2 =>
    bnd (pM_entries p1 D2) fun v2 D3 =>
    ltR (v2 - 1) fun x2 =>
    pM_goes_41 p1 x2 fu v1 D3 fun D4 =>
      rdA 1920 45 ((8 * p1) + x1) D4 fun v3 =>
      wrA 1920 45 ((8 * p1) + x1) (v3 - 1) D4 fun D5 =>
      rdA 1920 44 ((8 * p1) + x1) D5 fun v4 =>
      bnd (pM_writes v4 D5) fun _ D6 =>
      rdA 1920 45 ((8 * p1) + x1) D6 fun v5 =>
      jnR (fun (D7 : DD) =>
          rdA 240 40 p1 D7 fun v6 =>
          bnd (pM_writes v6 D7) fun _ D8 =>
          okR 0 D8) fun J1 =>
      if (w32 v5) = 0 then (
        rdA 1920 44 ((8 * p1) + x1) D6 fun v7 =>
        bnd (pM_gives v7 D6) fun _ D9 =>
        rdA 240 42 p1 D9 fun v8 =>
        wrA 240 42 p1 (v8 - 1) D9 fun D10 =>
        pM_goes_183 p1 fu x1 D10 fun D11 =>
          rdA 240 42 p1 D11 fun v9 =>
          jnR (fun (D12 : DD) =>
              rdA 240 42 p1 D12 fun v10 =>
              if (w32 v10) = 1 then (
                rdA 240 43 p1 D12 fun v11 =>
                bnd (pM_gives v11 D12) fun _ D13 =>
                wrA 240 43 p1 (-1) D13 fun D14 =>
                J1 D14
              ) else (
                J1 D12
              )) fun J2 =>
          if 0 < (w32 v9) then (
            rdA 240 43 p1 D11 fun v12 =>
            bnd (pM_writes v12 D11) fun _ D15 =>
            J2 D15
          ) else (
            J2 D11
          )
      ) else (
        J1 D6
      )
def pM_cannotRename (p1 : Int) (p2 : Int) (D : DD) : Res :=
  if (w32 p1) = 0 then (
    okR 1 D
  ) else (
    rdA 240 37 p1 D fun v1 =>
    bnd (pM_entryOf v1 p2 D) fun v2 D1 =>
    if (w32 v2) = (-1) then (
      rdA 240 37 p1 D1 fun v3 =>
      bnd (pM_isFull v3 p2 D1) fun v4 D2 =>
      if (w32 v4) = 0 then (
        gD (up2 D2 32 37 0) fun D3 =>
        rdA 240 37 p1 D3 fun v5 =>
        bnd (pM_wantsEntry v5 p2 D3) fun _ D4 =>
        bnd (pM_gets D4) fun v6 D5 =>
        if (w32 v6) = 0 then (
          okR 1 D5
        ) else (
          okR 0 D5
        )
      ) else (
        okR 1 D2
      )
    ) else (
      okR 1 D1
    )
  )
def pM_rename (p1 : Int) (p2 : Int) (D : DD) : Res :=
  bnd (pM_isKey p1 D) fun v1 D1 =>
  jnR (fun (x1 : Int) (D2 : DD) =>
      bnd (pM_fails x1 D2) fun v2 D3 =>
      if (w32 v2) = 0 then (
        rdA 240 38 p1 D3 fun v3 =>
        bnd (pM_writesGot D3) fun _ D4 =>
        rdA 240 37 p1 D4 fun v4 =>
        bnd (pM_enters v4 p1 p2 0 D4) fun _ D5 =>
        rdA 240 37 p1 D5 fun v5 =>
        bnd (pM_goes v5 v3 D5) fun _ D6 =>
        wrA 240 38 p1 p2 D6 fun D7 =>
        rdA 240 40 p1 D7 fun v6 =>
        bnd (pM_writes v6 D7) fun _ D8 =>
        rdA 240 37 p1 D8 fun v7 =>
        bnd (pM_changes v7 1 D8) fun _ D9 =>
        okR v3 D9
      ) else (
        okR 0 D3
      )) fun J1 =>
  if (w32 v1) = 0 then (
    J1 1 D1
  ) else (
    if (pM_isName p2) = 0 then (
      J1 2 D1
    ) else (
      bnd (pM_cannotRename p1 p2 D1) fun v8 D10 =>
      if (w32 v8) = 0 then (
        J1 0 D10
      ) else (
        J1 3 D10
      )
    )
  )
def pM_piecesFor (p1 : Int) : Int :=
  if (w32 p1) < 2 then (
    0
  ) else (
    (Int.tdiv (w32 ((p1 + 8) - 1)) 8)
  )
def pM_givesPieces_2 (a1 : Int) : Nat → Int → DD → Res
  | 0, _, _ => none
  | n + 1, a3, D =>
    rdA 1920 53 a1 D fun v1 =>
    if (w32 a3) < (w32 (pM_piecesFor v1)) then (
      rdA 7680 55 ((4 * a1) + a3) D fun v2 =>
      bnd (pM_gives v2 D) fun _ D1 =>
      pM_givesPieces_2 a1 n (a3 + 1) D1
    ) else (
      okR 0 D
    )
def pM_givesPieces (p1 : Int) (p2 : Int) (D : DD) : Res :=
  pM_givesPieces_2 p1 fu p2 D
def pM_delete_48 (a1 : Int) : Nat → Int → DD → (DD → Res) → Res
  | 0, _, _, _ => none
  | n + 1, a3, D, K =>
    rdA 240 48 a1 D fun v1 =>
    if (w32 a3) < (w32 v1) then (
      bnd (pM_givesPieces ((8 * a1) + a3) 0 D) fun _ D1 =>
      rdA 1920 54 ((8 * a1) + a3) D1 fun v2 =>
      bnd (pM_gives v2 D1) fun _ D2 =>
      pM_delete_48 a1 n (a3 + 1) D2 K
    ) else (
      K D
    )
def pM_leavesRights (p1 : Int) (D : DD) : Res :=
  rdA 768 57 p1 D fun v1 =>
  wrA 768 57 p1 (v1 - 1) D fun D1 =>
  rdA 768 56 p1 D1 fun v2 =>
  bnd (pM_writes v2 D1) fun _ D2 =>
  rdA 768 57 p1 D2 fun v3 =>
  if (w32 v3) = 0 then (
    rdA 768 56 p1 D2 fun v4 =>
    bnd (pM_gives v4 D2) fun _ D3 =>
    wrA 768 56 p1 (-1) D3 fun D4 =>
    okR 0 D4
  ) else (
    okR 0 D2
  )
def pM_forgets_25 (a1 : Int) : Nat → Int → Int → DD → (Int → DD → Res) → Res
  | 0, _, _, _, _ => none
  | n + 1, a2, a3, D, K =>
    if (w32 a3) < (w32 (D 32 29)) then (
      rdA 80 62 a3 D fun v1 =>
      wrA 80 62 a2 v1 D fun D1 =>
      rdA 80 63 a3 D1 fun v2 =>
      wrA 80 63 a2 v2 D1 fun D2 =>
      rdA 80 62 a3 D2 fun v3 =>
      jnR (fun (x1 : Int) (D3 : DD) =>
          ltR (a2 + x1) fun x2 =>
          pM_forgets_25 a1 n x2 (a3 + 1) D3 K) fun J1 =>
      if (w32 v3) = (w32 a1) then (
        J1 0 D2
      ) else (
        J1 1 D2
      )
    ) else (
      K a2 D
    )
def pM_forgets (p1 : Int) (D : DD) : Res :=
  wrA 80 59 p1 0 D fun D1 =>
  wrZ 80 60 p1 0 D1 fun D2 =>
  wrZ 80 61 p1 0 D2 fun D3 =>
  pM_forgets_25 p1 fu 0 0 D3 fun x1 D4 =>
    gD (up2 D4 32 29 x1) fun D5 =>
    okR 0 D5
def pM_delete (p1 : Int) (D : DD) : Res :=
  bnd (pM_isKey p1 D) fun v1 D1 =>
  jnR (fun (x1 : Int) (D2 : DD) =>
      bnd (pM_fails x1 D2) fun v2 D3 =>
      if (w32 v2) = 0 then (
        gD (up2 D3 32 41 0) fun D4 =>
        pM_delete_48 p1 fu 0 D4 fun D5 =>
          rdA 240 49 p1 D5 fun v3 =>
          jnR (fun (D6 : DD) =>
              rdA 240 40 p1 D6 fun v4 =>
              bnd (pM_gives v4 D6) fun _ D7 =>
              rdA 240 41 p1 D7 fun v5 =>
              bnd (pM_leavesRights v5 D7) fun _ D8 =>
              rdA 240 37 p1 D8 fun v6 =>
              rdA 240 38 p1 D8 fun v7 =>
              bnd (pM_goes v6 v7 D8) fun _ D9 =>
              wrZ 240 36 p1 0 D9 fun D10 =>
              bnd (pM_forgets p1 D10) fun _ D11 =>
              rdA 240 37 p1 D11 fun v8 =>
              bnd (pM_changes v8 1 D11) fun _ D12 =>
              okR (D12 32 41) D12) fun J2 =>
          if (w32 v3) = (-1) then (
            J2 D5
          ) else (
            rdA 240 49 p1 D5 fun v9 =>
            bnd (pM_gives v9 D5) fun _ D13 =>
            J2 D13
          )
      ) else (
        okR 0 D3
      )) fun J1 =>
  if (w32 v1) = 0 then (
    J1 1 D1
  ) else (
    jnR (fun (D14 : DD) =>
        J1 2 D14) fun J3 =>
    if (w32 p1) = 0 then (
      J3 D1
    ) else (
      rdA 240 42 p1 D1 fun v10 =>
      if 0 < (w32 v10) then (
        J3 D1
      ) else (
        J1 0 D1
      )
    )
  )
def pM_find (p1 : Int) (p2 : Int) (D : DD) : Res :=
  bnd (pM_isKey p1 D) fun v1 D1 =>
  jnR (fun (x1 : Int) (D2 : DD) =>
      bnd (pM_fails x1 D2) fun v2 D3 =>
      if (w32 v2) = 0 then (
        bnd (pM_entryOf p1 p2 D3) fun v3 D4 =>
        if (w32 v3) = (-1) then (
          okR (-1) D4
        ) else (
          rdA 7680 46 ((32 * p1) + v3) D4 fun v4 =>
          okR v4 D4
        )
      ) else (
        okR 0 D3
      )) fun J1 =>
  if (w32 v1) = 0 then (
    J1 1 D1
  ) else (
    if (pM_isName p2) = 0 then (
      J1 2 D1
    ) else (
      J1 0 D1
    )
  )
def pM_subkeyAt (p1 : Int) (p2 : Int) (D : DD) : Res :=
  bnd (pM_isKey p1 D) fun v1 D1 =>
  jnR (fun (x1 : Int) (D2 : DD) =>
      jnR (fun (x2 : Int) (D3 : DD) =>
          bnd (pM_fails x2 D3) fun v2 D4 =>
          if (w32 v2) = 0 then (
            rdA 7680 46 ((32 * p1) + p2) D4 fun v3 =>
            okR v3 D4
          ) else (
            okR 0 D4
          )) fun J2 =>
      if (w32 x1) = 0 then (
        J2 1 D2
      ) else (
        J2 0 D2
      )) fun J1 =>
  jnR (fun (D5 : DD) =>
      J1 0 D5) fun J3 =>
  if (w32 v1) = 0 then (
    J3 D1
  ) else (
    bnd (pM_entries p1 D1) fun v4 D6 =>
    if (pM_isIn p2 0 (v4 - 1)) = 0 then (
      J3 D6
    ) else (
      J1 1 D6
    )
  )
def pM_list (p1 : Int) (D : DD) : Res :=
  bnd (pM_isKey p1 D) fun v1 D1 =>
  jnR (fun (x1 : Int) (D2 : DD) =>
      bnd (pM_fails x1 D2) fun v2 D3 =>
      if (w32 v2) = 0 then (
        bnd (pM_entries p1 D3) fun v3 D4 =>
        rdA 240 42 p1 D4 fun v4 =>
        okR ((10 * v3) + v4) D4
      ) else (
        okR 0 D3
      )) fun J1 =>
  if (w32 v1) = 0 then (
    J1 1 D1
  ) else (
    J1 0 D1
  )
def pM_follow_26 : Nat → Int → Int → DD → Res
  | 0, _, _, _ => none
  | n + 1, a2, a3, D =>
    if (w32 a2) = (-1) then (
      okR a2 D
    ) else (
      rdA 240 39 a2 D fun v1 =>
      if (w32 v1) = (-1) then (
        okR a2 D
      ) else (
        jnR (fun (x1 : Int) (D1 : DD) =>
            pM_follow_26 n x1 (a3 + 1) D1) fun J1 =>
        jnR (fun (D2 : DD) =>
            J1 (-1) D2) fun J2 =>
        if 4 < (w32 (a3 + 1)) then (
          J2 D
        ) else (
          rdA 240 39 a2 D fun v2 =>
          rdA 240 36 v2 D fun v3 =>
          if (w32 v3) = 0 then (
            J2 D
          ) else (
            rdA 240 39 a2 D fun v4 =>
            J1 v4 D
          )
        )
      )
    )
def pM_follow (p1 : Int) (D : DD) : Res :=
  bnd (pM_isKey p1 D) fun v1 D1 =>
  jnR (fun (x1 : Int) (D2 : DD) =>
      bnd (pM_fails x1 D2) fun v2 D3 =>
      if (w32 v2) = 0 then (
        pM_follow_26 fu p1 0 D3
      ) else (
        okR 0 D3
      )) fun J1 =>
  if (w32 v1) = 0 then (
    J1 1 D1
  ) else (
    J1 0 D1
  )
def pM_valueOf_8 (a1 : Int) (a2 : Int) : Nat → Int → Int → DD → Res
  | 0, _, _, _ => none
  | n + 1, a3, a4, D =>
    rdA 240 48 a1 D fun v1 =>
    if (w32 a4) < (w32 ((8 * a1) + v1)) then (
      rdA 1920 51 a4 D fun v2 =>
      jnR (fun (x1 : Int) (D1 : DD) =>
          pM_valueOf_8 a1 a2 n x1 (a4 + 1) D1) fun J1 =>
      if (w32 v2) = (w32 a2) then (
        J1 a4 D
      ) else (
        J1 a3 D
      )
    ) else (
      okR a3 D
    )
def pM_valueOf (p1 : Int) (p2 : Int) (D : DD) : Res :=
  ltR (8 * p1) fun x1 =>
  pM_valueOf_8 p1 p2 fu (-1) x1 D
def pM_setValue_231 (a7 : Int) (a8 : Int) : Nat → Int → DD → (DD → Res) → Res
  | 0, _, _, _ => none
  | n + 1, a10, D, K =>
    if (w32 a10) < (w32 a8) then (
      rdA 8 66 a10 D fun v1 =>
      wrA 7680 55 ((4 * a7) + a10) v1 D fun D1 =>
      pM_setValue_231 a7 a8 n (a10 + 1) D1 K
    ) else (
      K D
    )
def pM_listFor (p1 : Int) (D : DD) : Res :=
  rdA 240 49 p1 D fun v1 =>
  if (w32 v1) = (-1) then (
    okR 5 D
  ) else (
    rdA 240 48 p1 D fun v2 =>
    if (w32 v2) = 4 then (
      rdA 240 50 p1 D fun v3 =>
      if (w32 v3) = 5 then (
        okR 9 D
      ) else (
        okR 0 D
      )
    ) else (
      okR 0 D
    )
  )
def pM_unitsIn (p1 : Int) (p2 : Int) : Int :=
  ltR (p1 - (8 * p2)) fun x1 =>
  if 8 < (w32 x1) then (
    8
  ) else (
    x1
  )
def pM_cannotSet_45 (a3 : Int) : Nat → Int → DD → (DD → Res) → Res
  | 0, _, _, _ => none
  | n + 1, a5, D, K =>
    if (w32 a5) < (w32 (pM_piecesFor a3)) then (
      bnd (pM_wants ((pM_unitsIn a3 a5) + 2) D) fun _ D1 =>
      pM_cannotSet_45 a3 n (a5 + 1) D1 K
    ) else (
      K D
    )
def pM_cannotSet (p1 : Int) (p2 : Int) (p3 : Int) (D : DD) : Res :=
  bnd (pM_valueOf p1 p2 D) fun v1 D1 =>
  rdA 240 39 p1 D1 fun v2 =>
  if (w32 v2) = (-1) then (
    jnR (fun (D2 : DD) =>
        gD (up2 D2 32 37 0) fun D3 =>
        pM_cannotSet_45 p3 fu 0 D3 fun D4 =>
          jnR (fun (D5 : DD) =>
              jnR (fun (D6 : DD) =>
                  bnd (pM_gets D6) fun v3 D7 =>
                  if (w32 v3) = 0 then (
                    okR 1 D7
                  ) else (
                    okR 0 D7
                  )) fun J3 =>
              if (w32 v1) = (-1) then (
                bnd (pM_listFor p1 D5) fun v4 D8 =>
                if 0 < (w32 v4) then (
                  bnd (pM_listFor p1 D8) fun v5 D9 =>
                  bnd (pM_wants v5 D9) fun _ D10 =>
                  J3 D10
                ) else (
                  J3 D8
                )
              ) else (
                J3 D5
              )) fun J2 =>
          if (w32 v1) = (-1) then (
            bnd (pM_wants 3 D4) fun _ D11 =>
            J2 D11
          ) else (
            J2 D4
          )) fun J1 =>
    if (w32 v1) = (-1) then (
      rdA 240 48 p1 D1 fun v6 =>
      if (w32 v6) = 8 then (
        okR 1 D1
      ) else (
        J1 D1
      )
    ) else (
      J1 D1
    )
  ) else (
    okR 1 D1
  )
def pM_setValue (p1 : Int) (p2 : Int) (p3 : Int) (p4 : Int) (D : DD) : Res :=
  bnd (pM_isKey p1 D) fun v1 D1 =>
  jnR (fun (x1 : Int) (D2 : DD) =>
      jnR (fun (x2 : Int) (D3 : DD) =>
          bnd (pM_fails x2 D3) fun v2 D4 =>
          if (w32 v2) = 0 then (
            bnd (pM_writesGot D4) fun _ D5 =>
            bnd (pM_valueOf p1 p2 D5) fun v3 D6 =>
            ltR (pM_piecesFor p3) fun x3 =>
            jnR (fun (x4 : Int) (x5 : Int) (D7 : DD) =>
                bnd (pM_givesPieces x4 0 D7) fun _ D8 =>
                jnR (fun (D9 : DD) =>
                    pM_setValue_231 x4 x3 fu 0 D9 fun D10 =>
                      wrA 1920 53 x4 p3 D10 fun D11 =>
                      wrA 1920 52 x4 p4 D11 fun D12 =>
                      rdA 1920 54 x4 D12 fun v4 =>
                      bnd (pM_writes v4 D12) fun _ D13 =>
                      rdA 240 40 p1 D13 fun v5 =>
                      bnd (pM_writes v5 D13) fun _ D14 =>
                      bnd (pM_changes p1 2 D14) fun _ D15 =>
                      rdA 240 48 p1 D15 fun v6 =>
                      okR v6 D15) fun J4 =>
                if (w32 x5) = (-1) then (
                  J4 D8
                ) else (
                  bnd (pM_gives x5 D8) fun _ D16 =>
                  J4 D16
                )) fun J3 =>
            if (w32 v3) = (-1) then (
              rdA 240 48 p1 D6 fun v7 =>
              ltR ((8 * p1) + v7) fun x6 =>
              wrA 1920 51 x6 p2 D6 fun D17 =>
              rdA 8 66 x3 D17 fun v8 =>
              wrA 1920 54 x6 v8 D17 fun D18 =>
              wrA 1920 53 x6 0 D18 fun D19 =>
              bnd (pM_listFor p1 D19) fun v9 D20 =>
              jnR (fun (x7 : Int) (D21 : DD) =>
                  rdA 240 48 p1 D21 fun v10 =>
                  wrA 240 48 p1 (v10 + 1) D21 fun D22 =>
                  rdA 240 49 p1 D22 fun v11 =>
                  bnd (pM_writes v11 D22) fun _ D23 =>
                  J3 x6 x7 D23) fun J5 =>
              if 0 < (w32 v9) then (
                rdA 240 49 p1 D20 fun v12 =>
                rdA 8 66 (x3 + 1) D20 fun v13 =>
                wrA 240 49 p1 v13 D20 fun D24 =>
                wrA 240 50 p1 v9 D24 fun D25 =>
                J5 v12 D25
              ) else (
                J5 (-1) D20
              )
            ) else (
              J3 v3 (-1) D6
            )
          ) else (
            okR 0 D4
          )) fun J2 =>
      if (w32 v1) = 0 then (
        J2 1 D2
      ) else (
        if (w32 x1) = 0 then (
          J2 2 D2
        ) else (
          bnd (pM_cannotSet p1 p2 p3 D2) fun v14 D26 =>
          if (w32 v14) = 0 then (
            J2 0 D26
          ) else (
            J2 3 D26
          )
        )
      )) fun J1 =>
  jnR (fun (D27 : DD) =>
      J1 0 D27) fun J6 =>
  if (pM_isIn p2 0 99) = 0 then (
    J6 D1
  ) else (
    if (pM_isIn p3 0 30) = 0 then (
      J6 D1
    ) else (
      J1 1 D1
    )
  )
def pM_stays_2 (a0 : Int) (a1 : Int) : Nat → Int → DD → Res
  | 0, _, _ => none
  | n + 1, a2, D =>
    if (w32 a2) < (w32 (pM_piecesFor a0)) then (
      if (w32 a2) < (w32 (pM_piecesFor a1)) then (
        if (w32 (pM_unitsIn a0 a2)) = (w32 (pM_unitsIn a1 a2)) then (
          pM_stays_2 a0 a1 n (a2 + 1) D
        ) else (
          okR a2 D
        )
      ) else (
        okR a2 D
      )
    ) else (
      okR a2 D
    )
def pM_stays (p1 : Int) (p2 : Int) (D : DD) : Res :=
  pM_stays_2 p1 p2 fu 0 D
def pM_resize_122 (a3 : Int) (a5 : Int) (a7 : Int) : Nat → Int → DD → (DD → Res) → Res
  | 0, _, _, _ => none
  | n + 1, a8, D, K =>
    if (w32 a8) < (w32 (pM_piecesFor a3)) then (
      rdA 8 66 (a8 - a7) D fun v1 =>
      wrA 7680 55 ((4 * a5) + a8) v1 D fun D1 =>
      pM_resize_122 a3 a5 a7 n (a8 + 1) D1 K
    ) else (
      K D
    )
def pM_cannotResize_16 (a2 : Int) : Nat → Int → DD → (DD → Res) → Res
  | 0, _, _, _ => none
  | n + 1, a3, D, K =>
    if (w32 a3) < (w32 (pM_piecesFor a2)) then (
      bnd (pM_wants ((pM_unitsIn a2 a3) + 2) D) fun _ D1 =>
      pM_cannotResize_16 a2 n (a3 + 1) D1 K
    ) else (
      K D
    )
def pM_cannotResize (p1 : Int) (p2 : Int) (D : DD) : Res :=
  gD (up2 D 32 37 0) fun D1 =>
  rdA 1920 53 p1 D1 fun v1 =>
  bnd (pM_stays v1 p2 D1) fun v2 D2 =>
  pM_cannotResize_16 p2 fu v2 D2 fun D3 =>
    bnd (pM_gets D3) fun v3 D4 =>
    if (w32 v3) = 0 then (
      okR 1 D4
    ) else (
      okR 0 D4
    )
def pM_resize (p1 : Int) (p2 : Int) (p3 : Int) (D : DD) : Res :=
  bnd (pM_isKey p1 D) fun v1 D1 =>
  jnR (fun (x1 : Int) (D2 : DD) =>
      jnR (fun (x2 : Int) (D3 : DD) =>
          jnR (fun (x3 : Int) (D4 : DD) =>
              bnd (pM_fails x3 D4) fun v2 D5 =>
              if (w32 v2) = 0 then (
                rdA 1920 53 x2 D5 fun v3 =>
                bnd (pM_stays v3 p3 D5) fun v4 D6 =>
                bnd (pM_writesGot D6) fun _ D7 =>
                bnd (pM_givesPieces x2 v4 D7) fun _ D8 =>
                pM_resize_122 p3 x2 v4 fu v4 D8 fun D9 =>
                  wrA 1920 53 x2 p3 D9 fun D10 =>
                  rdA 1920 54 x2 D10 fun v5 =>
                  bnd (pM_writes v5 D10) fun _ D11 =>
                  rdA 240 40 p1 D11 fun v6 =>
                  bnd (pM_writes v6 D11) fun _ D12 =>
                  bnd (pM_changes p1 2 D12) fun _ D13 =>
                  okR v3 D13
              ) else (
                okR 0 D5
              )) fun J3 =>
          if (w32 x1) = 0 then (
            J3 1 D3
          ) else (
            if (pM_isIn p3 0 30) = 0 then (
              J3 2 D3
            ) else (
              bnd (pM_cannotResize x2 p3 D3) fun v7 D14 =>
              if (w32 v7) = 0 then (
                J3 0 D14
              ) else (
                J3 3 D14
              )
            )
          )) fun J2 =>
      if (w32 x1) = 0 then (
        J2 0 D2
      ) else (
        bnd (pM_valueOf p1 p2 D2) fun v8 D15 =>
        J2 v8 D15
      )) fun J1 =>
  jnR (fun (D16 : DD) =>
      J1 0 D16) fun J4 =>
  if (w32 v1) = 0 then (
    J4 D1
  ) else (
    bnd (pM_valueOf p1 p2 D1) fun v9 D17 =>
    if (w32 v9) = (-1) then (
      J4 D17
    ) else (
      J1 1 D17
    )
  )
def pM_moves_50 (a1 : Int) (a2 : Int) : Nat → Int → DD → Res
  | 0, _, _ => none
  | n + 1, a3, D =>
    if (w32 a3) < 4 then (
      rdA 7680 55 ((4 * a2) + a3) D fun v1 =>
      wrA 7680 55 ((4 * a1) + a3) v1 D fun D1 =>
      pM_moves_50 a1 a2 n (a3 + 1) D1
    ) else (
      okR 0 D
    )
def pM_moves (p1 : Int) (p2 : Int) (D : DD) : Res :=
  rdA 1920 51 p2 D fun v1 =>
  wrA 1920 51 p1 v1 D fun D1 =>
  rdA 1920 54 p2 D1 fun v2 =>
  wrA 1920 54 p1 v2 D1 fun D2 =>
  rdA 1920 53 p2 D2 fun v3 =>
  wrA 1920 53 p1 v3 D2 fun D3 =>
  rdA 1920 52 p2 D3 fun v4 =>
  wrA 1920 52 p1 v4 D3 fun D4 =>
  pM_moves_50 p1 p2 fu 0 D4
def pM_dropValue_87 (a1 : Int) : Nat → Int → DD → (DD → Res) → Res
  | 0, _, _, _ => none
  | n + 1, a5, D, K =>
    rdA 240 48 a1 D fun v1 =>
    if (w32 a5) < (w32 ((8 * a1) + v1)) then (
      bnd (pM_moves a5 (a5 + 1) D) fun _ D1 =>
      pM_dropValue_87 a1 n (a5 + 1) D1 K
    ) else (
      K D
    )
def pM_dropValue (p1 : Int) (p2 : Int) (D : DD) : Res :=
  bnd (pM_isKey p1 D) fun v1 D1 =>
  jnR (fun (x1 : Int) (D2 : DD) =>
      jnR (fun (x2 : Int) (D3 : DD) =>
          bnd (pM_fails x2 D3) fun v2 D4 =>
          if (w32 v2) = 0 then (
            bnd (pM_valueOf p1 p2 D4) fun v3 D5 =>
            gD (up2 D5 32 41 0) fun D6 =>
            bnd (pM_givesPieces v3 0 D6) fun _ D7 =>
            rdA 1920 54 v3 D7 fun v4 =>
            bnd (pM_gives v4 D7) fun _ D8 =>
            rdA 240 48 p1 D8 fun v5 =>
            wrA 240 48 p1 (v5 - 1) D8 fun D9 =>
            pM_dropValue_87 p1 fu v3 D9 fun D10 =>
              rdA 240 49 p1 D10 fun v6 =>
              bnd (pM_writes v6 D10) fun _ D11 =>
              rdA 240 48 p1 D11 fun v7 =>
              jnR (fun (D12 : DD) =>
                  rdA 240 40 p1 D12 fun v8 =>
                  bnd (pM_writes v8 D12) fun _ D13 =>
                  bnd (pM_changes p1 2 D13) fun _ D14 =>
                  okR (D14 32 41) D14) fun J3 =>
              if (w32 v7) = 0 then (
                rdA 240 49 p1 D11 fun v9 =>
                bnd (pM_gives v9 D11) fun _ D15 =>
                wrA 240 49 p1 (-1) D15 fun D16 =>
                J3 D16
              ) else (
                J3 D11
              )
          ) else (
            okR 0 D4
          )) fun J2 =>
      if (w32 x1) = 0 then (
        J2 1 D2
      ) else (
        J2 0 D2
      )) fun J1 =>
  jnR (fun (D17 : DD) =>
      J1 0 D17) fun J4 =>
  if (w32 v1) = 0 then (
    J4 D1
  ) else (
    bnd (pM_valueOf p1 p2 D1) fun v10 D18 =>
    if (w32 v10) = (-1) then (
      J4 D18
    ) else (
      J1 1 D18
    )
  )
def pM_unit (p1 : Int) (p2 : Int) (p3 : Int) (D : DD) : Res :=
  bnd (pM_isKey p1 D) fun v1 D1 =>
  jnR (fun (x1 : Int) (D2 : DD) =>
      jnR (fun (x2 : Int) (D3 : DD) =>
          jnR (fun (x3 : Int) (D4 : DD) =>
              bnd (pM_fails x3 D4) fun v2 D5 =>
              if (w32 v2) = 0 then (
                rdA 1920 52 x2 D5 fun v3 =>
                okR ((31 * v3) + (17 * p3)) D5
              ) else (
                okR 0 D5
              )) fun J3 =>
          jnR (fun (D6 : DD) =>
              J3 1 D6) fun J4 =>
          if (w32 x1) = 0 then (
            J4 D3
          ) else (
            rdA 1920 53 x2 D3 fun v4 =>
            if (pM_isIn p3 0 (v4 - 1)) = 0 then (
              J4 D3
            ) else (
              J3 0 D3
            )
          )) fun J2 =>
      if (w32 x1) = 0 then (
        J2 0 D2
      ) else (
        bnd (pM_valueOf p1 p2 D2) fun v5 D7 =>
        J2 v5 D7
      )) fun J1 =>
  jnR (fun (D8 : DD) =>
      J1 0 D8) fun J5 =>
  if (w32 v1) = 0 then (
    J5 D1
  ) else (
    bnd (pM_valueOf p1 p2 D1) fun v6 D9 =>
    if (w32 v6) = (-1) then (
      J5 D9
    ) else (
      J1 1 D9
    )
  )
def pM_cannotHave (p1 : Int) (D : DD) : Res :=
  gD (up2 D 32 37 0) fun D1 =>
  rdA 768 57 p1 D1 fun v1 =>
  jnR (fun (D2 : DD) =>
      bnd (pM_gets D2) fun v2 D3 =>
      if (w32 v2) = 0 then (
        okR 1 D3
      ) else (
        okR 0 D3
      )) fun J1 =>
  if (w32 v1) = 0 then (
    bnd (pM_wants 2 D1) fun _ D4 =>
    J1 D4
  ) else (
    J1 D1
  )
def pM_setRights (p1 : Int) (p2 : Int) (D : DD) : Res :=
  bnd (pM_isKey p1 D) fun v1 D1 =>
  jnR (fun (x1 : Int) (D2 : DD) =>
      bnd (pM_fails x1 D2) fun v2 D3 =>
      if (w32 v2) = 0 then (
        rdA 240 41 p1 D3 fun v3 =>
        if (w32 v3) = (w32 p2) then (
          okR v3 D3
        ) else (
          bnd (pM_writesGot D3) fun _ D4 =>
          jnR (fun (D5 : DD) =>
              rdA 768 57 p2 D5 fun v4 =>
              wrA 768 57 p2 (v4 + 1) D5 fun D6 =>
              rdA 768 56 p2 D6 fun v5 =>
              bnd (pM_writes v5 D6) fun _ D7 =>
              bnd (pM_leavesRights v3 D7) fun _ D8 =>
              wrA 240 41 p1 p2 D8 fun D9 =>
              rdA 240 40 p1 D9 fun v6 =>
              bnd (pM_writes v6 D9) fun _ D10 =>
              bnd (pM_changes p1 4 D10) fun _ D11 =>
              okR v3 D11) fun J2 =>
          if 0 < (w32 (D4 32 37)) then (
            wrA 768 56 p2 (D4 66 0) D4 fun D12 =>
            J2 D12
          ) else (
            J2 D4
          )
        )
      ) else (
        okR 0 D3
      )) fun J1 =>
  if (w32 v1) = 0 then (
    J1 1 D1
  ) else (
    if (pM_isIn p2 0 255) = 0 then (
      J1 2 D1
    ) else (
      bnd (pM_cannotHave p2 D1) fun v7 D13 =>
      if (w32 v7) = 0 then (
        J1 0 D13
      ) else (
        J1 3 D13
      )
    )
  )
def pM_sharers (p1 : Int) (D : DD) : Res :=
  jnR (fun (x1 : Int) (D1 : DD) =>
      bnd (pM_fails x1 D1) fun v1 D2 =>
      if (w32 v1) = 0 then (
        rdA 768 57 p1 D2 fun v2 =>
        okR v2 D2
      ) else (
        okR 0 D2
      )) fun J1 =>
  if (pM_isIn p1 0 255) = 0 then (
    J1 1 D
  ) else (
    J1 0 D
  )
def pM_sectors (D : DD) : Res :=
  gD (up2 D 32 42 0) fun D1 =>
  okR (D1 34 0) D1
def pM_cell (p1 : Int) (D : DD) : Res :=
  jnR (fun (x1 : Int) (D1 : DD) =>
      bnd (pM_fails x1 D1) fun v1 D2 =>
      if (w32 v1) = 0 then (
        rdA 3072 33 p1 D2 fun v2 =>
        okR v2 D2
      ) else (
        okR 0 D2
      )) fun J1 =>
  if (pM_isIn p1 0 ((pM_units D) - 1)) = 0 then (
    J1 1 D
  ) else (
    J1 0 D
  )
def pM_place (p1 : Int) (D : DD) : Res :=
  bnd (pM_isKey p1 D) fun v1 D1 =>
  jnR (fun (x1 : Int) (D2 : DD) =>
      bnd (pM_fails x1 D2) fun v2 D3 =>
      if (w32 v2) = 0 then (
        rdA 240 40 p1 D3 fun v3 =>
        okR v3 D3
      ) else (
        okR 0 D3
      )) fun J1 =>
  if (w32 v1) = 0 then (
    J1 1 D1
  ) else (
    J1 0 D1
  )
def pM_used_9 : Nat → Int → Int → DD → Res
  | 0, _, _, _ => none
  | n + 1, a1, a2, D =>
    if (w32 a2) < (w32 (pM_units D)) then (
      rdA 3072 33 a2 D fun v1 =>
      jnR (fun (x1 : Int) (D1 : DD) =>
          ltR (a1 + x1) fun x2 =>
          pM_used_9 n x2 (a2 + 1) D1) fun J1 =>
      if 0 < (w32 v1) then (
        rdA 3072 33 a2 D fun v2 =>
        J1 v2 D
      ) else (
        J1 0 D
      )
    ) else (
      okR a1 D
    )
def pM_used (D : DD) : Res :=
  gD (up2 D 32 42 0) fun D1 =>
  pM_used_9 fu 0 0 D1
def pM_usedByTree_9 : Nat → Int → Int → DD → (Int → DD → Res) → Res
  | 0, _, _, _, _ => none
  | n + 1, a1, a2, D, K =>
    if (w32 a2) < 256 then (
      rdA 768 57 a2 D fun v1 =>
      jnR (fun (x1 : Int) (D1 : DD) =>
          ltR (a1 + x1) fun x2 =>
          pM_usedByTree_9 n x2 (a2 + 1) D1 K) fun J1 =>
      if 0 < (w32 v1) then (
        J1 2 D
      ) else (
        J1 0 D
      )
    ) else (
      K a1 D
    )
def pM_usedByTree_112 (a2 : Int) : Nat → Int → Int → DD → (Int → DD → Res) → Res
  | 0, _, _, _, _ => none
  | n + 1, a1, a3, D, K =>
    rdA 240 48 a2 D fun v1 =>
    if (w32 a3) < (w32 ((8 * a2) + v1)) then (
      rdA 1920 53 a3 D fun v2 =>
      jnR (fun (x1 : Int) (D1 : DD) =>
          ltR (a1 + (3 + x1)) fun x2 =>
          pM_usedByTree_112 a2 n x2 (a3 + 1) D1 K) fun J1 =>
      if 1 < (w32 v2) then (
        rdA 1920 53 a3 D fun v3 =>
        rdA 1920 53 a3 D fun v4 =>
        J1 (v3 + (2 * (pM_piecesFor v4))) D
      ) else (
        J1 0 D
      )
    ) else (
      K a1 D
    )
def pM_usedByTree_41 : Nat → Int → Int → DD → Res
  | 0, _, _, _ => none
  | n + 1, a1, a2, D =>
    if (w32 a2) < 80 then (
      rdA 240 36 a2 D fun v1 =>
      jnR (fun (x1 : Int) (D1 : DD) =>
          pM_usedByTree_41 n x1 (a2 + 1) D1) fun J1 =>
      if (w32 v1) = 0 then (
        J1 a1 D
      ) else (
        rdA 240 42 a2 D fun v2 =>
        rdA 240 42 a2 D fun v3 =>
        jnR (fun (x2 : Int) (D2 : DD) =>
            rdA 240 48 a2 D2 fun v4 =>
            jnR (fun (x3 : Int) (D3 : DD) =>
                ltR (a1 + (((6 + (5 * v2)) + x2) + x3)) fun x4 =>
                ltR (8 * a2) fun x5 =>
                pM_usedByTree_112 a2 fu x4 x5 D3 fun x6 D4 =>
                  J1 x6 D4) fun J3 =>
            if 0 < (w32 v4) then (
              rdA 240 50 a2 D2 fun v5 =>
              J3 v5 D2
            ) else (
              J3 0 D2
            )) fun J2 =>
        if 1 < (w32 v3) then (
          J2 9 D
        ) else (
          J2 0 D
        )
      )
    ) else (
      okR a1 D
    )
def pM_usedByTree (D : DD) : Res :=
  gD (up2 D 32 42 0) fun D1 =>
  pM_usedByTree_9 fu 0 0 D1 fun x1 D2 =>
    pM_usedByTree_41 fu x1 0 D2
def pM_watch (p1 : Int) (p2 : Int) (p3 : Int) (D : DD) : Res :=
  bnd (pM_isKey p1 D) fun v1 D1 =>
  jnR (fun (x1 : Int) (D2 : DD) =>
      bnd (pM_fails x1 D2) fun v2 D3 =>
      if (w32 v2) = 0 then (
        rdA 80 59 p1 D3 fun v3 =>
        jnR (fun (x2 : Int) (D4 : DD) =>
            bnd (pM_forgets p1 D4) fun _ D5 =>
            wrA 80 59 p1 p2 D5 fun D6 =>
            wrZ 80 60 p1 p3 D6 fun D7 =>
            if (w32 x2) = 0 then (
              okR 1 D7
            ) else (
              okR 0 D7
            )) fun J2 =>
        if 0 < (w32 v3) then (
          J2 1 D3
        ) else (
          J2 0 D3
        )
      ) else (
        okR 0 D3
      )) fun J1 =>
  if (w32 v1) = 0 then (
    J1 1 D1
  ) else (
    if (pM_isIn p2 1 7) = 0 then (
      J1 2 D1
    ) else (
      J1 0 D1
    )
  )
def pM_takeNotice_43 (a1 : Int) : Nat → Int → DD → Res
  | 0, _, _ => none
  | n + 1, a2, D =>
    if (w32 a2) < (w32 (D 32 29)) then (
      rdA 80 62 (a2 + 1) D fun v1 =>
      wrA 80 62 a2 v1 D fun D1 =>
      rdA 80 63 (a2 + 1) D1 fun v2 =>
      wrA 80 63 a2 v2 D1 fun D2 =>
      pM_takeNotice_43 a1 n (a2 + 1) D2
    ) else (
      okR a1 D
    )
def pM_takeNotice (D : DD) : Res :=
  gD (up2 D 32 42 0) fun D1 =>
  if (w32 (D1 32 29)) = 0 then (
    okR (-1) D1
  ) else (
    ltR ((10 * (D1 62 0)) + (D1 63 0)) fun x1 =>
    gD (up2 D1 32 29 ((D1 32 29) - 1)) fun D2 =>
    pM_takeNotice_43 x1 fu 0 D2
  )
def pM_dirty_9 : Nat → Int → Int → DD → Res
  | 0, _, _, _ => none
  | n + 1, a1, a3, D =>
    if (w32 a3) < 64 then (
      rdA 64 58 a3 D fun v1 =>
      jnR (fun (x1 : Int) (D1 : DD) =>
          ltR (lorZ a1 x1) fun x2 =>
          pM_dirty_9 n x2 (a3 + 1) D1) fun J1 =>
      if (w32 v1) = 0 then (
        J1 0 D
      ) else (
        J1 (lshlZ 1 a3) D
      )
    ) else (
      okR a1 D
    )
def pM_dirty (D : DD) : Res :=
  gD (up2 D 32 42 0) fun D1 =>
  ltR 0 fun x1 =>
  pM_dirty_9 fu x1 0 D1
def pM_dirtyOnes_4 : Nat → Int → Int → DD → Res
  | 0, _, _, _ => none
  | n + 1, a1, a2, D =>
    if (w32 a2) < 64 then (
      rdA 64 58 a2 D fun v1 =>
      jnR (fun (x1 : Int) (D1 : DD) =>
          ltR (a1 + x1) fun x2 =>
          pM_dirtyOnes_4 n x2 (a2 + 1) D1) fun J1 =>
      if (w32 v1) = 0 then (
        J1 0 D
      ) else (
        J1 1 D
      )
    ) else (
      okR a1 D
    )
def pM_dirtyOnes (D : DD) : Res :=
  pM_dirtyOnes_4 fu 0 0 D
def pM_cleans_2 : Nat → Int → DD → Res
  | 0, _, _ => none
  | n + 1, a1, D =>
    if (w32 a1) < 64 then (
      wrZ 64 58 a1 0 D fun D1 =>
      pM_cleans_2 n (a1 + 1) D1
    ) else (
      okR 0 D
    )
def pM_cleans (D : DD) : Res :=
  pM_cleans_2 fu 0 D
def pM_copies_34 (a1 : Int) (a2 : Int) : Nat → Int → DD → (DD → Res) → Res
  | 0, _, _, _ => none
  | n + 1, a3, D, K =>
    if (w32 a3) < 80 then (
      rdA 240 36 ((80 * a1) + a3) D fun v1 =>
      wrZ 240 36 ((80 * a2) + a3) v1 D fun D1 =>
      pM_copies_34 a1 a2 n (a3 + 1) D1 K
    ) else (
      K D
    )
def pM_copies (p1 : Int) (p2 : Int) (D : DD) : Res :=
  bnd (rowF 3072 33 p1 p2 1024 D) fun _ D1 =>
  bnd (rowF 3 34 p1 p2 1 D1) fun _ D2 =>
  bnd (rowF 3 35 p1 p2 1 D2) fun _ D3 =>
  pM_copies_34 p1 p2 fu 0 D3 fun D4 =>
    bnd (rowF 240 37 p1 p2 80 D4) fun _ D5 =>
    bnd (rowF 240 38 p1 p2 80 D5) fun _ D6 =>
    bnd (rowF 240 39 p1 p2 80 D6) fun _ D7 =>
    bnd (rowF 240 40 p1 p2 80 D7) fun _ D8 =>
    bnd (rowF 240 41 p1 p2 80 D8) fun _ D9 =>
    bnd (rowF 240 42 p1 p2 80 D9) fun _ D10 =>
    bnd (rowF 240 43 p1 p2 80 D10) fun _ D11 =>
    bnd (rowF 1920 44 p1 p2 640 D11) fun _ D12 =>
    bnd (rowF 1920 45 p1 p2 640 D12) fun _ D13 =>
    bnd (rowF 7680 46 p1 p2 2560 D13) fun _ D14 =>
    bnd (rowF 7680 47 p1 p2 2560 D14) fun _ D15 =>
    bnd (rowF 240 48 p1 p2 80 D15) fun _ D16 =>
    bnd (rowF 240 49 p1 p2 80 D16) fun _ D17 =>
    bnd (rowF 240 50 p1 p2 80 D17) fun _ D18 =>
    bnd (rowF 1920 51 p1 p2 640 D18) fun _ D19 =>
    bnd (rowF 1920 52 p1 p2 640 D19) fun _ D20 =>
    bnd (rowF 1920 53 p1 p2 640 D20) fun _ D21 =>
    bnd (rowF 1920 54 p1 p2 640 D21) fun _ D22 =>
    bnd (rowF 7680 55 p1 p2 2560 D22) fun _ D23 =>
    bnd (rowF 768 56 p1 p2 256 D23) fun _ D24 =>
    bnd (rowF 768 57 p1 p2 256 D24) fun _ D25 =>
    okR 0 D25
def pM_flush (D : DD) : Res :=
  jnR (fun (x1 : Int) (D1 : DD) =>
      bnd (pM_fails x1 D1) fun v1 D2 =>
      if (w32 v1) = 0 then (
        gD (up2 D2 32 32 1) fun D3 =>
        gD (up2 D3 32 34 0) fun D4 =>
        bnd (pM_dirtyOnes D4) fun v2 D5 =>
        gD (up2 D5 32 35 v2) fun D6 =>
        bnd (pM_cleans D6) fun _ D7 =>
        bnd (pM_copies 0 1 D7) fun _ D8 =>
        okR ((2 * (D8 32 35)) + 4) D8
      ) else (
        okR 0 D2
      )) fun J1 =>
  jnR (fun (D9 : DD) =>
      J1 1 D9) fun J2 =>
  if (w32 (D 32 32)) = 0 then (
    bnd (pM_dirtyOnes D) fun v3 D10 =>
    if (w32 v3) = 0 then (
      J2 D10
    ) else (
      J1 0 D10
    )
  ) else (
    J2 D
  )
def pM_ends (D : DD) : Res :=
  gD (up2 D 32 32 0) fun D1 =>
  gD (up2 D1 32 33 ((D1 32 33) + 1)) fun D2 =>
  bnd (pM_copies 1 2 D2) fun _ D3 =>
  okR 0 D3
def pM_write (p1 : Int) (D : DD) : Res :=
  jnR (fun (x1 : Int) (D1 : DD) =>
      bnd (pM_fails x1 D1) fun v1 D2 =>
      if (w32 v1) = 0 then (
        ltR ((2 * (D2 32 35)) + 4) fun x2 =>
        jnR (fun (x3 : Int) (D3 : DD) =>
            gD (up2 D3 32 34 x3) fun D4 =>
            jnR (fun (x4 : Int) (D5 : DD) =>
                wrA 2 64 (Int.tmod (w32 ((D4 32 33) + 1)) 2) x4 D5 fun D6 =>
                jnR (fun (D7 : DD) =>
                    okR (x2 - (D7 32 34)) D7) fun J4 =>
                if (w32 (D6 32 34)) = (w32 x2) then (
                  bnd (pM_ends D6) fun _ D8 =>
                  J4 D8
                ) else (
                  J4 D6
                )) fun J3 =>
            if (w32 (D4 32 34)) < (w32 ((D4 32 35) + 2)) then (
              J3 0 D4
            ) else (
              J3 ((D4 32 33) + 1) D4
            )) fun J2 =>
        if (w32 ((D2 32 34) + p1)) < (w32 x2) then (
          J2 ((D2 32 34) + p1) D2
        ) else (
          J2 x2 D2
        )
      ) else (
        okR 0 D2
      )) fun J1 =>
  if (pM_isIn p1 1 200) = 0 then (
    J1 1 D
  ) else (
    if (w32 (D 32 32)) = 0 then (
      J1 2 D
    ) else (
      J1 0 D
    )
  )
def pM_log (p1 : Int) (D : DD) : Res :=
  jnR (fun (x1 : Int) (D1 : DD) =>
      bnd (pM_fails x1 D1) fun v1 D2 =>
      if (w32 v1) = 0 then (
        rdA 2 64 p1 D2 fun v2 =>
        okR v2 D2
      ) else (
        okR 0 D2
      )) fun J1 =>
  if (pM_isIn p1 0 1) = 0 then (
    J1 1 D
  ) else (
    J1 0 D
  )
def pM_crash_51 : Nat → Int → DD → (DD → Res) → Res
  | 0, _, _, _ => none
  | n + 1, a1, D, K =>
    if (w32 a1) < 80 then (
      wrA 80 59 a1 0 D fun D1 =>
      wrZ 80 60 a1 0 D1 fun D2 =>
      wrZ 80 61 a1 0 D2 fun D3 =>
      pM_crash_51 n (a1 + 1) D3 K
    ) else (
      K D
    )
def pM_crash (D : DD) : Res :=
  gD (up2 D 32 42 0) fun D1 =>
  jnR (fun (D2 : DD) =>
      gD (up2 D2 32 32 0) fun D3 =>
      bnd (pM_copies 2 0 D3) fun _ D4 =>
      bnd (pM_cleans D4) fun _ D5 =>
      gD (up2 D5 32 29 0) fun D6 =>
      pM_crash_51 fu 0 D6 fun D7 =>
        okR (D7 32 33) D7) fun J1 =>
  if (w32 (D1 32 32)) = 0 then (
    J1 D1
  ) else (
    if (w32 (D1 32 34)) < (w32 ((D1 32 35) + 2)) then (
      J1 D1
    ) else (
      bnd (pM_ends D1) fun _ D8 =>
      J1 D8
    )
  )
end
