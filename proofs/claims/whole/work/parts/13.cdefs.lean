/-! the class: its methods, read as functions of numbers and cells (by program out of the bytecode) -/
noncomputable section
def pI_placeOfKey (p1 : Int) (D : DD) : Int :=
  (rd 80 5 p1 D)
def pH_hasKey (p1 : Int) (D : DD) : Int :=
  if (w32 (pI_placeOfKey p1 D)) = 0 then (
    0
  ) else (
    1
  )
theorem pH_hasKey_b (p1 : Int) (D : DD) : pH_hasKey p1 D = 0 ∨ pH_hasKey p1 D = 1 := by
  unfold pH_hasKey
  try unfold jnR
  try unfold ltR
  try dsimp only
  repeat' split
  all_goals first | exact Or.inl rfl | exact Or.inr rfl
def pH_requireKey (p1 : Int) (D : DD) : Res :=
  if (pH_hasKey p1 D) = 0 then (
    erR 0 D
  ) else (
    okR 0 D
  )
def pH_requireName (p1 : Int) (D : DD) : Res :=
  jnR (fun (D1 : DD) =>
      erR 1 D1) fun J1 =>
  if (w32 p1) < 0 then (
    J1 D
  ) else (
    if 9999 < (w32 p1) then (
      J1 D
    ) else (
      okR 0 D
    )
  )
def pL_rankOf (p1 : Int) : Int :=
  (((Int.tmod (w32 (7 * p1)) 64) * 10000) + p1)
def pL_entryOf (p1 : Int) (p2 : Int) : Int :=
  (((pL_rankOf p2) * 80) + p1)
def pI_unitAt (p1 : Int) (D : DD) : Int :=
  (rd 1024 4 p1 D)
def pH_isLink (p1 : Int) (D : DD) : Int :=
  if (pH_hasKey p1 D) = 0 then (
    0
  ) else (
    if (w32 (pI_unitAt ((pI_placeOfKey p1 D) + 5) D)) = (-1) then (
      0
    ) else (
      1
    )
  )
theorem pH_isLink_b (p1 : Int) (D : DD) : pH_isLink p1 D = 0 ∨ pH_isLink p1 D = 1 := by
  unfold pH_isLink
  try unfold jnR
  try unfold ltR
  try dsimp only
  repeat' split
  all_goals first | exact Or.inl rfl | exact Or.inr rfl
def pH_requireNoLink (p1 : Int) (D : DD) : Res :=
  if (pH_isLink p1 D) = 0 then (
    okR 0 D
  ) else (
    erR 2 D
  )
def pL_isIndex (p1 : Int) (D : DD) : Int :=
  if (w32 (rd 1024 3 p1 D)) = 9 then (
    1
  ) else (
    0
  )
theorem pL_isIndex_b (p1 : Int) (D : DD) : pL_isIndex p1 D = 0 ∨ pL_isIndex p1 D = 1 := by
  unfold pL_isIndex
  try unfold jnR
  try unfold ltR
  try dsimp only
  repeat' split
  all_goals first | exact Or.inl rfl | exact Or.inr rfl
def pI_itemCount (p1 : Int) (D : DD) : Int :=
  (rd 1024 4 p1 D)
def pL_leafCount (p1 : Int) (D : DD) : Int :=
  ltR (pI_unitAt (p1 + 2) D) fun x1 =>
  if (w32 x1) = 0 then (
    0
  ) else (
    if (pL_isIndex x1 D) = 0 then (
      1
    ) else (
      (pI_itemCount x1 D)
    )
  )
def pI_item (p1 : Int) (p2 : Int) (D : DD) : Int :=
  (rd 1024 4 ((p1 + 1) + p2) D)
def pL_leafNumbered (p1 : Int) (p2 : Int) (D : DD) : Int :=
  ltR (pI_unitAt (p1 + 2) D) fun x1 =>
  if (pL_isIndex x1 D) = 0 then (
    x1
  ) else (
    (pI_item x1 p2 D)
  )
def pL_keyInLeaf_12 (a1 : Int) (a2 : Int) (a3 : Int) : Nat → Int → DD → (Int → DD → Res) → Res
  | 0, _, _, _ => none
  | n + 1, a4, D, K =>
    if (w32 a4) < (w32 a3) then (
      ltR (pI_item a1 a4 D) fun x1 =>
      if (w32 (Int.tdiv (w32 x1) 80)) = (w32 (pL_rankOf a2)) then (
        K x1 D
      ) else (
        pL_keyInLeaf_12 a1 a2 a3 n (a4 + 1) D K
      )
    ) else (
      okR (-1) D
    )
def pL_keyInLeaf (p1 : Int) (p2 : Int) (D : DD) : Res :=
  ltR (pI_itemCount p1 D) fun x1 =>
  pL_keyInLeaf_12 p1 p2 x1 fu 0 D fun x2 D1 =>
    okR (Int.tmod (w32 x2) 80) D1
def pL_subkeyNamed_9 (a1 : Int) (a2 : Int) (a3 : Int) : Nat → Int → DD → Res
  | 0, _, _ => none
  | n + 1, a4, D =>
    if (w32 a4) < (w32 a3) then (
      bnd (pL_keyInLeaf (pL_leafNumbered a1 a4 D) a2 D) fun v1 D1 =>
      if (w32 v1) = (-1) then (
        pL_subkeyNamed_9 a1 a2 a3 n (a4 + 1) D1
      ) else (
        okR v1 D1
      )
    ) else (
      okR (-1) D
    )
def pL_subkeyNamed (p1 : Int) (p2 : Int) (D : DD) : Res :=
  ltR (pL_leafCount p1 D) fun x1 =>
  pL_subkeyNamed_9 p1 p2 x1 fu 0 D
def pH_requireNameFree (p1 : Int) (p2 : Int) (D : DD) : Res :=
  bnd (pL_subkeyNamed p1 p2 D) fun v1 D1 =>
  if (w32 v1) = (-1) then (
    okR 0 D1
  ) else (
    erR 2 D1
  )
def pC_wantNothing (D : DD) : DD :=
  gD (up2 D 7 4 0) fun D1 =>
  D1
def pC_want (p1 : Int) (D : DD) : DD :=
  gD (sto 6 8 (D 7 4) p1 D) fun D1 =>
  gD (up2 D1 7 4 ((D1 7 4) + 1)) fun D2 =>
  D2
def pL_leafNumberFor_12 (a1 : Int) (a2 : Int) (a3 : Int) : Nat → Int → Int → DD → Res
  | 0, _, _, _ => none
  | n + 1, a4, a5, D =>
    if (w32 a5) < (w32 a3) then (
      jnR (fun (x1 : Int) (D1 : DD) =>
          pL_leafNumberFor_12 a1 a2 a3 n x1 (a5 + 1) D1) fun J1 =>
      if (w32 a2) < (w32 (pI_item (pL_leafNumbered a1 a5 D) 0 D)) then (
        J1 a4 D
      ) else (
        J1 a5 D
      )
    ) else (
      okR a4 D
    )
def pL_leafNumberFor (p1 : Int) (p2 : Int) (D : DD) : Res :=
  ltR (pL_leafCount p1 D) fun x1 =>
  pL_leafNumberFor_12 p1 p2 x1 fu 0 1 D
def pL_wantFor (p1 : Int) (p2 : Int) (D : DD) : Res :=
  ltR (pL_leafCount p1 D) fun x1 =>
  bnd (pL_leafNumberFor p1 p2 D) fun v1 D1 =>
  ltR (pL_leafNumbered p1 v1 D1) fun x2 =>
  jnR (fun (D2 : DD) =>
      jnR (fun (D3 : DD) =>
          gD (pC_want 5 D3) fun D4 =>
          if (w32 x1) < 8 then (
            okR 1 D4
          ) else (
            okR 0 D4
          )) fun J2 =>
      if (w32 x1) = 1 then (
        gD (pC_want 9 D2) fun D5 =>
        J2 D5
      ) else (
        J2 D2
      )) fun J1 =>
  if 0 < (w32 x1) then (
    if (w32 (pI_itemCount x2 D1)) < 4 then (
      okR 1 D1
    ) else (
      J1 D1
    )
  ) else (
    J1 D1
  )
def pH_requireListNotFull (p1 : Int) (D : DD) : Res :=
  if (w32 p1) = 0 then (
    erR 2 D
  ) else (
    okR 0 D
  )
def pI_end (D : DD) : Int :=
  ((D 2 4) * 16)
def pC_firstFreeFor_10 (a1 : Int) (a2 : Int) : Nat → Int → DD → Res
  | 0, _, _ => none
  | n + 1, a3, D =>
    if (w32 a3) < (w32 a2) then (
      ltR (rd 1024 3 a3 D) fun x1 =>
      if (w32 (-x1)) < (w32 a1) then (
        ltR (a3 + (zmax 1 (zabs x1))) fun x2 =>
        pC_firstFreeFor_10 a1 a2 n x2 D
      ) else (
        okR a3 D
      )
    ) else (
      okR 0 D
    )
def pC_firstFreeFor (p1 : Int) (D : DD) : Res :=
  ltR (pI_end D) fun x1 =>
  pC_firstFreeFor_10 p1 x1 fu 4 D
def pC_cellAhead_4 : Nat → Int → DD → Res
  | 0, _, _ => none
  | n + 1, a2, D =>
    if (w32 a2) < 4 then (
      okR 0 D
    ) else (
      if (w32 (rd 1024 3 a2 D)) = 0 then (
        pC_cellAhead_4 n (a2 + (-1)) D
      ) else (
        okR a2 D
      )
    )
def pC_cellAhead (p1 : Int) (D : DD) : Res :=
  ltR (p1 - 1) fun x1 =>
  pC_cellAhead_4 fu x1 D
def pC_addSector (D : DD) : Res :=
  ltR (pI_end D) fun x1 =>
  bnd (pC_cellAhead x1 D) fun v1 D1 =>
  jnR (fun (x2 : Int) (D2 : DD) =>
      gD (sto 1024 3 x2 ((x2 - x1) - 16) D2) fun D3 =>
      gD (up2 D3 2 4 ((D3 2 4) + 1)) fun D4 =>
      okR 0 D4) fun J1 =>
  if (w32 (rd 1024 3 v1 D1)) < 0 then (
    J1 v1 D1
  ) else (
    J1 x1 D1
  )
def pC_getCell_14 (a1 : Int) : Nat → Int → Int → DD → (Int → DD → Res) → Res
  | 0, _, _, _, _ => none
  | n + 1, a2, a3, D, K =>
    if (w32 a3) < 64 then (
      if (w32 a2) = 0 then (
        bnd (pC_addSector D) fun _ D1 =>
        bnd (pC_firstFreeFor a1 D1) fun v1 D2 =>
        pC_getCell_14 a1 n v1 (a3 + 1) D2 K
      ) else (
        K a2 D
      )
    ) else (
      K a2 D
    )
def pC_getCell (p1 : Int) (D : DD) : Res :=
  bnd (pC_firstFreeFor p1 D) fun v1 D1 =>
  ltR (D1 2 4) fun x1 =>
  pC_getCell_14 p1 fu v1 x1 D1 fun x2 D2 =>
    if (w32 x2) = 0 then (
      okR x2 D2
    ) else (
      ltR ((rd 1024 3 x2 D2) + p1) fun x3 =>
      jnR (fun (D3 : DD) =>
          gD (sto 1024 3 x2 p1 D3) fun D4 =>
          okR x2 D4) fun J1 =>
      if (w32 x3) < 0 then (
        gD (sto 1024 3 (x2 + p1) x3 D2) fun D5 =>
        J1 D5
      ) else (
        J1 D2
      )
    )
def pC_getAllWanted_31 : Nat → Int → DD → (DD → Res) → (DD → Res) → Res
  | 0, _, _, _, _ => none
  | n + 1, a2, D, K1, K2 =>
    if (w32 a2) < (w32 (D 7 4)) then (
      bnd (pC_getCell (rd 6 8 a2 D) D) fun v1 D1 =>
      if (w32 v1) = 0 then (
        K2 D1
      ) else (
        gD (sto 6 9 a2 v1 D1) fun D2 =>
        pC_getAllWanted_31 n (a2 + 1) D2 K1 K2
      )
    ) else (
      K1 D
    )
def pC_markWritten_24 (a2 : Int) : Nat → Int → DD → Res
  | 0, _, _ => none
  | n + 1, a3, D =>
    if (w32 a2) < (w32 a3) then (
      okR 0 D
    ) else (
      gD (up2 D 7 5 (lorZ (D 7 5) (lshlZ 1 a3))) fun D1 =>
      pC_markWritten_24 a2 n (a3 + 1) D1
    )
def pC_markWritten (p1 : Int) (D : DD) : Res :=
  ltR (Int.tdiv (w32 ((p1 + (rd 1024 3 p1 D)) - 1)) 16) fun x1 =>
  ltR (Int.tdiv (w32 p1) 16) fun x2 =>
  pC_markWritten_24 x1 fu x2 D
def pC_getAllWanted_104 : Nat → Int → DD → Res
  | 0, _, _ => none
  | n + 1, a2, D =>
    if (w32 a2) < (w32 (D 7 4)) then (
      bnd (pC_markWritten (rd 6 9 a2 D) D) fun _ D1 =>
      pC_getAllWanted_104 n (a2 + 1) D1
    ) else (
      okR 1 D
    )
def pC_getAllWanted (D : DD) : Res :=
  ltR (D 2 4) fun x1 =>
  gD (cpy2 D 3 10 1024) fun D1 =>
  pC_getAllWanted_31 fu 0 D1
    (fun D2 =>
      pC_getAllWanted_104 fu 0 D2)
    (fun D3 =>
      gD (up2 D3 2 4 x1) fun D4 =>
      gD (cpy2 D4 10 3 1024) fun D5 =>
      okR 0 D5)
def pH_requireRoom (p1 : Int) (D : DD) : Res :=
  if (w32 p1) = 0 then (
    erR 2 D
  ) else (
    okR 0 D
  )
def pC_got (p1 : Int) (D : DD) : Int :=
  (rd 6 9 p1 D)
def pI_putUnit (p1 : Int) (p2 : Int) (D : DD) : DD :=
  gD (sto 1024 4 p1 p2 D) fun D1 =>
  D1
def pI_setPlaceOfKey (p1 : Int) (p2 : Int) (D : DD) : DD :=
  gD (sto 80 5 p1 p2 D) fun D1 =>
  D1
def pH_enterKey (p1 : Int) (p2 : Int) (p3 : Int) (p4 : Int) (D : DD) : DD :=
  gD (pI_putUnit (p1 + 0) p2 D) fun D1 =>
  gD (pI_putUnit (p1 + 1) p3 D1) fun D2 =>
  gD (pI_putUnit (p1 + 2) 0 D2) fun D3 =>
  gD (pI_putUnit (p1 + 3) 0 D3) fun D4 =>
  gD (pI_putUnit (p1 + 4) 0 D4) fun D5 =>
  gD (pI_putUnit (p1 + 5) p4 D5) fun D6 =>
  gD (pI_setPlaceOfKey (D6 2 5) p1 D6) fun D7 =>
  gD (up2 D7 2 5 ((D7 2 5) + 1)) fun D8 =>
  D8
def pI_placeOfRights (p1 : Int) (D : DD) : Int :=
  (rd 256 6 p1 D)
def pS_changeCount (p1 : Int) (p2 : Int) (D : DD) : Res :=
  ltR (pI_placeOfRights p1 D) fun x1 =>
  gD (pI_putUnit x1 ((pI_unitAt x1 D) + p2) D) fun D1 =>
  bnd (pC_markWritten x1 D1) fun _ D2 =>
  okR 0 D2
def pI_insertItem_11 (a1 : Int) (a2 : Int) : Nat → Int → DD → (DD → Res) → Res
  | 0, _, _, _ => none
  | n + 1, a5, D, K =>
    if (w32 a2) < (w32 a5) then (
      gD (sto 1024 4 ((a1 + 1) + a5) (pI_item a1 (a5 - 1) D) D) fun D1 =>
      pI_insertItem_11 a1 a2 n (a5 + (-1)) D1 K
    ) else (
      K D
    )
def pI_insertItem (p1 : Int) (p2 : Int) (p3 : Int) (D : DD) : Res :=
  ltR (pI_itemCount p1 D) fun x1 =>
  pI_insertItem_11 p1 p2 fu x1 D fun D1 =>
    gD (sto 1024 4 ((p1 + 1) + p2) p3 D1) fun D2 =>
    gD (sto 1024 4 p1 (x1 + 1) D2) fun D3 =>
    okR 0 D3
def pL_insertLeafBehind (p1 : Int) (p2 : Int) (p3 : Int) (D : DD) : Res :=
  ltR (pI_unitAt (p1 + 2) D) fun x1 =>
  jnR (fun (x2 : Int) (x3 : Int) (D1 : DD) =>
      ltR (pC_got x3 D1) fun x4 =>
      bnd (pI_insertItem x2 (p2 + 1) x4 D1) fun _ D2 =>
      bnd (pC_markWritten x2 D2) fun _ D3 =>
      okR x4 D3) fun J1 =>
  if (pL_isIndex x1 D) = 0 then (
    ltR (pC_got p3 D) fun x5 =>
    gD (pI_putUnit x5 0 D) fun D4 =>
    bnd (pI_insertItem x5 0 x1 D4) fun _ D5 =>
    gD (pI_putUnit (p1 + 2) x5 D5) fun D6 =>
    J1 x5 (p3 + 1) D6
  ) else (
    J1 x1 p3 D
  )
def pL_entriesAhead_15 (a1 : Int) (a2 : Int) (a3 : Int) : Nat → Int → Int → DD → Res
  | 0, _, _, _ => none
  | n + 1, a4, a5, D =>
    if (w32 a5) < (w32 a3) then (
      jnR (fun (x1 : Int) (D1 : DD) =>
          pL_entriesAhead_15 a1 a2 a3 n x1 (a5 + 1) D1) fun J1 =>
      if (w32 (pI_item a1 a5 D)) < (w32 a2) then (
        J1 (a4 + 1) D
      ) else (
        J1 a4 D
      )
    ) else (
      okR a4 D
    )
def pL_entriesAhead (p1 : Int) (p2 : Int) (D : DD) : Res :=
  ltR (pI_itemCount p1 D) fun x1 =>
  pL_entriesAhead_15 p1 p2 x1 fu 0 0 D
def pI_moveItems_22 (a1 : Int) (a2 : Int) (a3 : Int) (a4 : Int) : Nat → Int → DD → (DD → Res) → Res
  | 0, _, _, _ => none
  | n + 1, a5, D, K =>
    if (w32 a5) < (w32 a4) then (
      gD (sto 1024 4 (((a3 + 1) + a5) - a2) (pI_item a1 a5 D) D) fun D1 =>
      pI_moveItems_22 a1 a2 a3 a4 n (a5 + 1) D1 K
    ) else (
      K D
    )
def pI_moveItems (p1 : Int) (p2 : Int) (p3 : Int) (D : DD) : Res :=
  ltR (pI_itemCount p1 D) fun x1 =>
  gD (sto 1024 4 p3 (x1 - p2) D) fun D1 =>
  pI_moveItems_22 p1 p2 p3 x1 fu p2 D1 fun D2 =>
    gD (sto 1024 4 p1 p2 D2) fun D3 =>
    okR 0 D3
def pL_splitLeaf (p1 : Int) (p2 : Int) (p3 : Int) (D : DD) : Res :=
  bnd (pL_entriesAhead p1 p3 D) fun v1 D1 =>
  if (w32 v1) < 3 then (
    bnd (pI_moveItems p1 2 p2 D1) fun _ D4 =>
    bnd (pI_insertItem p1 v1 p3 D4) fun _ D5 =>
    okR 0 D5
  ) else (
    bnd (pI_moveItems p1 3 p2 D1) fun _ D2 =>
    bnd (pI_insertItem p2 (v1 - 3) p3 D2) fun _ D3 =>
    okR 0 D3
  )
def pL_putIn (p1 : Int) (p2 : Int) (p3 : Int) (D : DD) : Res :=
  bnd (pC_markWritten p1 D) fun _ D1 =>
  if (w32 (pL_leafCount p1 D1)) = 0 then (
    ltR (pC_got p3 D1) fun x2 =>
    gD (pI_putUnit x2 0 D1) fun D8 =>
    bnd (pI_insertItem x2 0 p2 D8) fun _ D9 =>
    gD (pI_putUnit (p1 + 2) x2 D9) fun D10 =>
    okR 0 D10
  ) else (
    bnd (pL_leafNumberFor p1 p2 D1) fun v1 D2 =>
    ltR (pL_leafNumbered p1 v1 D2) fun x1 =>
    bnd (pC_markWritten x1 D2) fun _ D3 =>
    if (w32 (pI_itemCount x1 D3)) < 4 then (
      bnd (pL_entriesAhead x1 p2 D3) fun v3 D6 =>
      bnd (pI_insertItem x1 v3 p2 D6) fun _ D7 =>
      okR 0 D7
    ) else (
      bnd (pL_insertLeafBehind p1 v1 p3 D3) fun v2 D4 =>
      bnd (pL_splitLeaf x1 v2 p2 D4) fun _ D5 =>
      okR 0 D5
    )
  )
def pW_tell (p1 : Int) (p2 : Int) (p3 : Int) (D : DD) : DD :=
  jnR (fun (x1 : Int) (D1 : DD) =>
      if (w32 x1) = 0 then (
        D1
      ) else (
        if (w32 (rd 80 18 p1 D1)) = 0 then (
          gD (up2 D1 15 4 ((D1 15 4) + 1)) fun D2 =>
          gD (sto 80 18 p1 p2 D2) fun D3 =>
          gD (sto 80 19 p1 (D3 15 4) D3) fun D4 =>
          D4
        ) else (
          D1
        )
      )) fun J1 =>
  jnR (fun (D5 : DD) =>
      J1 0 D5) fun J2 =>
  if (w32 (iandZ (rd 80 16 p1 D) p2)) = 0 then (
    J2 D
  ) else (
    jnR (fun (D6 : DD) =>
        J1 1 D6) fun J3 =>
    if (w32 (rd 80 17 p1 D)) = 0 then (
      if (w32 p3) = 0 then (
        J3 D
      ) else (
        J2 D
      )
    ) else (
      J3 D
    )
  )
def pH_tellUpwards_31 (a2 : Int) : Nat → Int → Int → DD → Res
  | 0, _, _, _ => none
  | n + 1, a3, a4, D =>
    if (w32 a4) < 80 then (
      if (w32 a3) = (-1) then (
        okR 0 D
      ) else (
        gD (pW_tell a3 a2 1 D) fun D1 =>
        ltR (pI_unitAt ((pI_placeOfKey a3 D1) + 1) D1) fun x1 =>
        pH_tellUpwards_31 a2 n x1 (a4 + 1) D1
      )
    ) else (
      okR 0 D
    )
def pH_tellUpwards (p1 : Int) (p2 : Int) (D : DD) : Res :=
  gD (pW_tell p1 p2 0 D) fun D1 =>
  ltR (pI_unitAt ((pI_placeOfKey p1 D1) + 1) D1) fun x1 =>
  pH_tellUpwards_31 p2 fu x1 0 D1
def pH_makeSubkey (p1 : Int) (p2 : Int) (p3 : Int) (D : DD) : Res :=
  ltR (pI_placeOfKey p1 D) fun x1 =>
  ltR (D 2 5) fun x2 =>
  ltR (pL_entryOf x2 p2) fun x3 =>
  bnd (pH_requireNoLink p1 D) fun _ D1 =>
  bnd (pH_requireNameFree x1 p2 D1) fun _ D2 =>
  if (w32 x2) < 80 then (
    gD (pC_wantNothing D2) fun D3 =>
    gD (pC_want 6 D3) fun D4 =>
    bnd (pL_wantFor x1 x3 D4) fun v1 D5 =>
    bnd (pH_requireListNotFull v1 D5) fun _ D6 =>
    bnd (pC_getAllWanted D6) fun v2 D7 =>
    bnd (pH_requireRoom v2 D7) fun _ D8 =>
    ltR (pC_got 0 D8) fun x4 =>
    ltR (pI_unitAt (x1 + 4) D8) fun x5 =>
    gD (pH_enterKey x4 p2 p1 p3 D8) fun D9 =>
    gD (pI_putUnit (x4 + 4) x5 D9) fun D10 =>
    bnd (pS_changeCount x5 1 D10) fun _ D11 =>
    bnd (pL_putIn x1 x3 1 D11) fun _ D12 =>
    bnd (pH_tellUpwards p1 1 D12) fun _ D13 =>
    okR x2 D13
  ) else (
    erR 2 D2
  )
def pH_make (p1 : Int) (p2 : Int) (D : DD) : Res :=
  bnd (pH_requireKey p1 D) fun _ D1 =>
  bnd (pH_requireName p2 D1) fun _ D2 =>
  bnd (pH_makeSubkey p1 p2 (-1) D2) fun v1 D3 =>
  okR v1 D3
def pH_makeLink (p1 : Int) (p2 : Int) (p3 : Int) (D : DD) : Res :=
  bnd (pH_requireKey p1 D) fun _ D1 =>
  bnd (pH_requireKey p3 D1) fun _ D2 =>
  bnd (pH_requireName p2 D2) fun _ D3 =>
  bnd (pH_makeSubkey p1 p2 p3 D3) fun v1 D4 =>
  okR v1 D4
def pH_requireNotRoot (p1 : Int) (D : DD) : Res :=
  if (w32 p1) = 0 then (
    erR 2 D
  ) else (
    okR 0 D
  )
def pI_removeItem_11 (a1 : Int) (a3 : Int) : Nat → Int → DD → (DD → Res) → Res
  | 0, _, _, _ => none
  | n + 1, a4, D, K =>
    if (w32 a4) < (w32 a3) then (
      gD (sto 1024 4 ((a1 + 1) + a4) (pI_item a1 (a4 + 1) D) D) fun D1 =>
      pI_removeItem_11 a1 a3 n (a4 + 1) D1 K
    ) else (
      K D
    )
def pI_removeItem (p1 : Int) (p2 : Int) (D : DD) : Res :=
  ltR ((pI_itemCount p1 D) - 1) fun x1 =>
  pI_removeItem_11 p1 x1 fu p2 D fun D1 =>
    gD (sto 1024 4 p1 x1 D1) fun D2 =>
    okR 0 D2
def pC_giveBack (p1 : Int) (D : DD) : Res :=
  bnd (pC_markWritten p1 D) fun _ D1 =>
  ltR (rd 1024 3 p1 D1) fun x1 =>
  ltR (p1 + x1) fun x2 =>
  jnR (fun (x3 : Int) (D2 : DD) =>
      bnd (pC_cellAhead p1 D2) fun v1 D3 =>
      jnR (fun (x4 : Int) (x5 : Int) (D4 : DD) =>
          gD (sto 1024 3 x4 (-x5) D4) fun D5 =>
          okR x1 D5) fun J2 =>
      if (w32 (rd 1024 3 v1 D3)) < 0 then (
        ltR (x3 - (rd 1024 3 v1 D3)) fun x6 =>
        gD (sto 1024 3 p1 0 D3) fun D6 =>
        J2 v1 x6 D6
      ) else (
        J2 p1 x3 D3
      )) fun J1 =>
  if (w32 (rd 1024 3 x2 D1)) < 0 then (
    ltR (x1 - (rd 1024 3 x2 D1)) fun x7 =>
    gD (sto 1024 3 x2 0 D1) fun D7 =>
    J1 x7 D7
  ) else (
    J1 x1 D1
  )
def pL_removeLeaf (p1 : Int) (p2 : Int) (D : DD) : Res :=
  ltR (pI_unitAt (p1 + 2) D) fun x1 =>
  if (pL_isIndex x1 D) = 0 then (
    gD (pI_putUnit (p1 + 2) 0 D) fun D5 =>
    okR 0 D5
  ) else (
    bnd (pI_removeItem x1 p2 D) fun _ D1 =>
    bnd (pC_markWritten x1 D1) fun _ D2 =>
    if 1 < (w32 (pI_itemCount x1 D2)) then (
      okR 0 D2
    ) else (
      gD (pI_putUnit (p1 + 2) (pI_item x1 0 D2) D2) fun D3 =>
      bnd (pC_giveBack x1 D3) fun v1 D4 =>
      okR v1 D4
    )
  )
def pL_takeOut (p1 : Int) (p2 : Int) (D : DD) : Res :=
  bnd (pC_markWritten p1 D) fun _ D1 =>
  bnd (pL_leafNumberFor p1 p2 D1) fun v1 D2 =>
  ltR (pL_leafNumbered p1 v1 D2) fun x1 =>
  bnd (pC_markWritten x1 D2) fun _ D3 =>
  bnd (pL_entriesAhead x1 p2 D3) fun v2 D4 =>
  bnd (pI_removeItem x1 v2 D4) fun _ D5 =>
  if 0 < (w32 (pI_itemCount x1 D5)) then (
    okR 0 D5
  ) else (
    bnd (pC_giveBack x1 D5) fun v3 D6 =>
    bnd (pL_removeLeaf p1 v1 D6) fun v4 D7 =>
    okR (v3 + v4) D7
  )
def pH_rename (p1 : Int) (p2 : Int) (D : DD) : Res :=
  bnd (pH_requireKey p1 D) fun _ D1 =>
  bnd (pH_requireName p2 D1) fun _ D2 =>
  bnd (pH_requireNotRoot p1 D2) fun _ D3 =>
  ltR (pI_placeOfKey p1 D3) fun x1 =>
  ltR (pI_unitAt (x1 + 1) D3) fun x2 =>
  ltR (pI_placeOfKey x2 D3) fun x3 =>
  ltR (pI_unitAt (x1 + 0) D3) fun x4 =>
  bnd (pH_requireNameFree x3 p2 D3) fun _ D4 =>
  gD (pC_wantNothing D4) fun D5 =>
  bnd (pL_wantFor x3 (pL_entryOf p1 p2) D5) fun v1 D6 =>
  bnd (pH_requireListNotFull v1 D6) fun _ D7 =>
  bnd (pC_getAllWanted D7) fun v2 D8 =>
  bnd (pH_requireRoom v2 D8) fun _ D9 =>
  bnd (pL_putIn x3 (pL_entryOf p1 p2) 0 D9) fun _ D10 =>
  bnd (pL_takeOut x3 (pL_entryOf p1 x4) D10) fun v3 D11 =>
  gD (pI_putUnit (x1 + 0) p2 D11) fun D12 =>
  bnd (pC_markWritten x1 D12) fun _ D13 =>
  bnd (pH_tellUpwards x2 1 D13) fun _ D14 =>
  okR x4 D14
def pH_requireNoSubkeys (p1 : Int) (D : DD) : Res :=
  if (w32 (pL_leafCount p1 D)) = 0 then (
    okR 0 D
  ) else (
    erR 2 D
  )
def pV_valueCount (p1 : Int) (D : DD) : Int :=
  ltR (pI_unitAt (p1 + 3) D) fun x1 =>
  if (w32 x1) = 0 then (
    0
  ) else (
    (pI_itemCount x1 D)
  )
def pV_cellNumbered (p1 : Int) (p2 : Int) (D : DD) : Int :=
  (pI_item (pI_unitAt (p1 + 3) D) p2 D)
def pV_giveBackPieces_7 : Nat → Int → Int → Int → DD → Res
  | 0, _, _, _, _ => none
  | n + 1, a2, a3, a4, D =>
    if (w32 a4) < 4 then (
      if (w32 a3) = 0 then (
        okR a2 D
      ) else (
        ltR (pI_unitAt a3 D) fun x1 =>
        bnd (pC_giveBack a3 D) fun v1 D1 =>
        ltR (a2 + v1) fun x2 =>
        pV_giveBackPieces_7 n x2 x1 (a4 + 1) D1
      )
    ) else (
      okR a2 D
    )
def pV_giveBackPieces (p1 : Int) (D : DD) : Res :=
  pV_giveBackPieces_7 fu 0 p1 0 D
def pV_giveBackValue (p1 : Int) (D : DD) : Res :=
  bnd (pV_giveBackPieces (pI_unitAt (p1 + 2) D) D) fun v1 D1 =>
  bnd (pC_giveBack p1 D1) fun v2 D2 =>
  okR (v1 + v2) D2
def pV_dropAll_11 (a1 : Int) (a2 : Int) : Nat → Int → Int → DD → (Int → DD → Res) → Res
  | 0, _, _, _, _ => none
  | n + 1, a3, a4, D, K =>
    if (w32 a4) < (w32 a2) then (
      bnd (pV_giveBackValue (pV_cellNumbered a1 a4 D) D) fun v1 D1 =>
      ltR (a3 + v1) fun x1 =>
      pV_dropAll_11 a1 a2 n x1 (a4 + 1) D1 K
    ) else (
      K a3 D
    )
def pV_giveBackList (p1 : Int) (D : DD) : Res :=
  ltR (pI_unitAt (p1 + 3) D) fun x1 =>
  gD (pI_putUnit (p1 + 3) 0 D) fun D1 =>
  bnd (pC_giveBack x1 D1) fun v1 D2 =>
  okR v1 D2
def pV_dropAll (p1 : Int) (D : DD) : Res :=
  ltR (pV_valueCount p1 D) fun x1 =>
  pV_dropAll_11 p1 x1 fu 0 0 D fun x2 D1 =>
    jnR (fun (x3 : Int) (D2 : DD) =>
        okR (x2 + x3) D2) fun J1 =>
    if (w32 x1) = 0 then (
      J1 0 D1
    ) else (
      bnd (pV_giveBackList p1 D1) fun v1 D3 =>
      J1 v1 D3
    )
def pS_keysWith (p1 : Int) (D : DD) : Int :=
  ltR (pI_placeOfRights p1 D) fun x1 =>
  if (w32 x1) = 0 then (
    0
  ) else (
    (pI_unitAt x1 D)
  )
def pI_setPlaceOfRights (p1 : Int) (p2 : Int) (D : DD) : DD :=
  gD (sto 256 6 p1 p2 D) fun D1 =>
  D1
def pS_leave (p1 : Int) (D : DD) : Res :=
  bnd (pS_changeCount p1 (-1) D) fun _ D1 =>
  if 0 < (w32 (pS_keysWith p1 D1)) then (
    okR 0 D1
  ) else (
    ltR (pI_placeOfRights p1 D1) fun x1 =>
    gD (pI_setPlaceOfRights p1 0 D1) fun D2 =>
    bnd (pC_giveBack x1 D2) fun v1 D3 =>
    okR v1 D3
  )
def pW_start (p1 : Int) (p2 : Int) (p3 : Int) (D : DD) : DD :=
  gD (sto 80 16 p1 p2 D) fun D1 =>
  jnR (fun (x1 : Int) (D2 : DD) =>
      gD (sto 80 17 p1 x1 D2) fun D3 =>
      gD (sto 80 18 p1 0 D3) fun D4 =>
      gD (sto 80 19 p1 0 D4) fun D5 =>
      D5) fun J1 =>
  if (w32 p3) = 0 then (
    J1 0 D1
  ) else (
    J1 1 D1
  )
def pW_end (p1 : Int) (D : DD) : DD :=
  gD (pW_start p1 0 0 D) fun D1 =>
  D1
def pH_delete (p1 : Int) (D : DD) : Res :=
  bnd (pH_requireKey p1 D) fun _ D1 =>
  bnd (pH_requireNotRoot p1 D1) fun _ D2 =>
  ltR (pI_placeOfKey p1 D2) fun x1 =>
  bnd (pH_requireNoSubkeys x1 D2) fun _ D3 =>
  ltR (pI_unitAt (x1 + 1) D3) fun x2 =>
  ltR (pL_entryOf p1 (pI_unitAt (x1 + 0) D3)) fun x3 =>
  ltR (pI_unitAt (x1 + 4) D3) fun x4 =>
  bnd (pV_dropAll x1 D3) fun v1 D4 =>
  bnd (pC_giveBack x1 D4) fun v2 D5 =>
  ltR (v1 + v2) fun x5 =>
  gD (pI_setPlaceOfKey p1 0 D5) fun D6 =>
  bnd (pS_leave x4 D6) fun v3 D7 =>
  ltR (x5 + v3) fun x6 =>
  bnd (pL_takeOut (pI_placeOfKey x2 D7) x3 D7) fun v4 D8 =>
  ltR (x6 + v4) fun x7 =>
  gD (pW_end p1 D8) fun D9 =>
  bnd (pH_tellUpwards x2 1 D9) fun _ D10 =>
  okR x7 D10
def pH_find (p1 : Int) (p2 : Int) (D : DD) : Res :=
  bnd (pH_requireKey p1 D) fun _ D1 =>
  bnd (pH_requireName p2 D1) fun _ D2 =>
  bnd (pL_subkeyNamed (pI_placeOfKey p1 D2) p2 D2) fun v1 D3 =>
  okR v1 D3
def pL_entryCount_11 (a1 : Int) (a2 : Int) : Nat → Int → Int → DD → Res
  | 0, _, _, _ => none
  | n + 1, a3, a4, D =>
    if (w32 a4) < (w32 a2) then (
      ltR (a3 + (pI_itemCount (pL_leafNumbered a1 a4 D) D)) fun x1 =>
      pL_entryCount_11 a1 a2 n x1 (a4 + 1) D
    ) else (
      okR a3 D
    )
def pL_entryCount (p1 : Int) (D : DD) : Res :=
  ltR (pL_leafCount p1 D) fun x1 =>
  pL_entryCount_11 p1 x1 fu 0 0 D
def pL_subkeyNumbered_12 (a1 : Int) (a3 : Int) : Nat → Int → Int → DD → (Int → Int → DD → Res) → Res
  | 0, _, _, _, _ => none
  | n + 1, a4, a5, D, K =>
    if (w32 a5) < (w32 a3) then (
      ltR (pL_leafNumbered a1 a5 D) fun x1 =>
      if (w32 a4) < (w32 (pI_itemCount x1 D)) then (
        K a4 x1 D
      ) else (
        ltR (a4 - (pI_itemCount x1 D)) fun x2 =>
        pL_subkeyNumbered_12 a1 a3 n x2 (a5 + 1) D K
      )
    ) else (
      okR (-1) D
    )
def pL_subkeyNumbered (p1 : Int) (p2 : Int) (D : DD) : Res :=
  ltR (pL_leafCount p1 D) fun x1 =>
  pL_subkeyNumbered_12 p1 x1 fu p2 0 D fun x2 x3 D1 =>
    okR (Int.tmod (w32 (pI_item x3 x2 D1)) 80) D1
def pH_subkeyAt (p1 : Int) (p2 : Int) (D : DD) : Res :=
  bnd (pH_requireKey p1 D) fun _ D1 =>
  ltR (pI_placeOfKey p1 D1) fun x1 =>
  jnR (fun (D2 : DD) =>
      erR 0 D2) fun J1 =>
  if (w32 p2) < 0 then (
    J1 D1
  ) else (
    bnd (pL_entryCount x1 D1) fun v1 D3 =>
    if (w32 p2) < (w32 v1) then (
      bnd (pL_subkeyNumbered x1 p2 D3) fun v2 D4 =>
      okR v2 D4
    ) else (
      J1 D3
    )
  )
def pH_list (p1 : Int) (D : DD) : Res :=
  bnd (pH_requireKey p1 D) fun _ D1 =>
  ltR (pI_placeOfKey p1 D1) fun x1 =>
  bnd (pL_entryCount x1 D1) fun v1 D2 =>
  okR ((10 * v1) + (pL_leafCount x1 D2)) D2
def pH_follow_9 : Nat → Int → Int → DD → (Int → DD → Res) → Res
  | 0, _, _, _, _ => none
  | n + 1, a2, a3, D, K =>
    if (w32 a3) < 4 then (
      if (pH_isLink a2 D) = 0 then (
        K a2 D
      ) else (
        ltR (pI_unitAt ((pI_placeOfKey a2 D) + 5) D) fun x1 =>
        pH_follow_9 n x1 (a3 + 1) D K
      )
    ) else (
      K a2 D
    )
def pH_follow (p1 : Int) (D : DD) : Res :=
  bnd (pH_requireKey p1 D) fun _ D1 =>
  pH_follow_9 fu p1 0 D1 fun x1 D2 =>
    if (pH_hasKey x1 D2) = 0 then (
      okR (-1) D2
    ) else (
      if (pH_isLink x1 D2) = 0 then (
        okR x1 D2
      ) else (
        okR (-1) D2
      )
    )
def pH_requireValueName (p1 : Int) (D : DD) : Res :=
  jnR (fun (D1 : DD) =>
      erR 1 D1) fun J1 =>
  if (w32 p1) < 0 then (
    J1 D
  ) else (
    if 99 < (w32 p1) then (
      J1 D
    ) else (
      okR 0 D
    )
  )
def pH_requireLength (p1 : Int) (D : DD) : Res :=
  jnR (fun (D1 : DD) =>
      erR 1 D1) fun J1 =>
  if (w32 p1) < 0 then (
    J1 D
  ) else (
    if 30 < (w32 p1) then (
      J1 D
    ) else (
      okR 0 D
    )
  )
def pV_cellNamed_9 (a1 : Int) (a2 : Int) (a3 : Int) : Nat → Int → DD → Res
  | 0, _, _ => none
  | n + 1, a4, D =>
    if (w32 a4) < (w32 a3) then (
      ltR (pV_cellNumbered a1 a4 D) fun x1 =>
      if (w32 (Int.tdiv (w32 (pI_unitAt (x1 + 0) D)) 31)) = (w32 a2) then (
        okR x1 D
      ) else (
        pV_cellNamed_9 a1 a2 a3 n (a4 + 1) D
      )
    ) else (
      okR 0 D
    )
def pV_cellNamed (p1 : Int) (p2 : Int) (D : DD) : Res :=
  ltR (pV_valueCount p1 D) fun x1 =>
  pV_cellNamed_9 p1 p2 x1 fu 0 D
def pV_canHold (p1 : Int) (p2 : Int) (D : DD) : Res :=
  if (w32 (pV_valueCount p1 D)) < 8 then (
    okR 1 D
  ) else (
    bnd (pV_cellNamed p1 p2 D) fun v1 D1 =>
    if (w32 v1) = 0 then (
      okR 0 D1
    ) else (
      okR 1 D1
    )
  )
def pV_pieceCount (p1 : Int) : Int :=
  if 1 < (w32 p1) then (
    (Int.tdiv (w32 ((p1 + 8) - 1)) 8)
  ) else (
    0
  )
def pV_unitsInPiece (p1 : Int) (p2 : Int) : Int :=
  (zmin 8 (p1 - (8 * p2)))
def pV_wantPieces_8 (a1 : Int) (a3 : Int) : Nat → Int → DD → Res
  | 0, _, _ => none
  | n + 1, a4, D =>
    if (w32 a4) < (w32 a3) then (
      gD (pC_want (2 + (pV_unitsInPiece a1 a4)) D) fun D1 =>
      pV_wantPieces_8 a1 a3 n (a4 + 1) D1
    ) else (
      okR 0 D
    )
def pV_wantPieces (p1 : Int) (p2 : Int) (D : DD) : Res :=
  ltR (pV_pieceCount p1) fun x1 =>
  pV_wantPieces_8 p1 x1 fu p2 D
def pV_putHead (p1 : Int) (p2 : Int) (p3 : Int) (D : DD) : DD :=
  gD (pI_putUnit (p1 + 0) ((p2 * 31) + p3) D) fun D1 =>
  D1
def pV_chainPieces_5 (a2 : Int) : Nat → Int → Int → DD → (Int → DD → Res) → Res
  | 0, _, _, _, _ => none
  | n + 1, a3, a4, D, K =>
    if (w32 a4) < (w32 a2) then (
      gD (pI_putUnit a3 (pC_got a4 D) D) fun D1 =>
      ltR (pC_got a4 D1) fun x1 =>
      pV_chainPieces_5 a2 n x1 (a4 + 1) D1 K
    ) else (
      K a3 D
    )
def pV_chainPieces (p1 : Int) (p2 : Int) (D : DD) : Res :=
  pV_chainPieces_5 p2 fu p1 0 D fun x1 D1 =>
    gD (pI_putUnit x1 0 D1) fun D2 =>
    okR 0 D2
def pI_sizeAt (p1 : Int) (D : DD) : Int :=
  (rd 1024 3 p1 D)
def pV_needsListForOneMore (p1 : Int) (D : DD) : Int :=
  ltR (pI_unitAt (p1 + 3) D) fun x1 =>
  if (w32 x1) = 0 then (
    1
  ) else (
    if (w32 (1 + (pI_itemCount x1 D))) = (w32 (pI_sizeAt x1 D)) then (
      1
    ) else (
      0
    )
  )
theorem pV_needsListForOneMore_b (p1 : Int) (D : DD) : pV_needsListForOneMore p1 D = 0 ∨ pV_needsListForOneMore p1 D = 1 := by
  unfold pV_needsListForOneMore
  try unfold jnR
  try unfold ltR
  try dsimp only
  repeat' split
  all_goals first | exact Or.inl rfl | exact Or.inr rfl
def pV_addToList (p1 : Int) (p2 : Int) (p3 : Int) (D : DD) : Res :=
  ltR (pI_unitAt (p1 + 3) D) fun x1 =>
  jnR (fun (x2 : Int) (D1 : DD) =>
      bnd (pI_insertItem x2 (pI_itemCount x2 D1) p2 D1) fun _ D2 =>
      bnd (pC_markWritten x2 D2) fun _ D3 =>
      okR 0 D3) fun J1 =>
  if (pV_needsListForOneMore p1 D) = 0 then (
    J1 x1 D
  ) else (
    gD (pI_putUnit p3 0 D) fun D4 =>
    jnR (fun (D5 : DD) =>
        gD (pI_putUnit (p1 + 3) p3 D5) fun D6 =>
        J1 p3 D6) fun J2 =>
    if (w32 x1) = 0 then (
      J2 D4
    ) else (
      bnd (pI_moveItems x1 0 p3 D4) fun _ D7 =>
      bnd (pC_giveBack x1 D7) fun v1 D8 =>
      J2 D8
    )
  )
def pV_wantListForOneMore (p1 : Int) (D : DD) : DD :=
  if (pV_needsListForOneMore p1 D) = 0 then (
    D
  ) else (
    jnR (fun (x1 : Int) (D1 : DD) =>
        gD (pC_want x1 D1) fun D2 =>
        D2) fun J1 =>
    if (w32 (pV_valueCount p1 D)) = 0 then (
      J1 5 D
    ) else (
      J1 9 D
    )
  )
def pV_assign (p1 : Int) (p2 : Int) (p3 : Int) (p4 : Int) (D : DD) : Res :=
  bnd (pV_cellNamed p1 p2 D) fun v1 D1 =>
  jnR (fun (x1 : Int) (D2 : DD) =>
      ltR (pV_pieceCount p3) fun x2 =>
      gD (pC_wantNothing D2) fun D3 =>
      bnd (pV_wantPieces p3 0 D3) fun _ D4 =>
      jnR (fun (D5 : DD) =>
          bnd (pC_getAllWanted D5) fun v2 D6 =>
          if (w32 v2) = 0 then (
            okR 0 D6
          ) else (
            jnR (fun (x3 : Int) (x4 : Int) (D7 : DD) =>
                gD (pV_putHead x3 p2 p3 D7) fun D8 =>
                gD (pI_putUnit (x3 + 1) p4 D8) fun D9 =>
                bnd (pV_chainPieces (x3 + 2) x2 D9) fun _ D10 =>
                bnd (pV_giveBackPieces x4 D10) fun v3 D11 =>
                bnd (pC_markWritten x3 D11) fun _ D12 =>
                bnd (pC_markWritten p1 D12) fun _ D13 =>
                okR 1 D13) fun J3 =>
            if (w32 x1) = 0 then (
              ltR (pI_unitAt (v1 + 2) D6) fun x5 =>
              J3 v1 x5 D6
            ) else (
              ltR (pC_got x2 D6) fun x6 =>
              bnd (pV_addToList p1 x6 (pC_got (x2 + 1) D6) D6) fun _ D14 =>
              J3 x6 0 D14
            )
          )) fun J2 =>
      if (w32 x1) = 0 then (
        J2 D4
      ) else (
        gD (pC_want 3 D4) fun D15 =>
        gD (pV_wantListForOneMore p1 D15) fun D16 =>
        J2 D16
      )) fun J1 =>
  if (w32 v1) = 0 then (
    J1 1 D1
  ) else (
    J1 0 D1
  )
def pH_setValue (p1 : Int) (p2 : Int) (p3 : Int) (p4 : Int) (D : DD) : Res :=
  bnd (pH_requireKey p1 D) fun _ D1 =>
  bnd (pH_requireValueName p2 D1) fun _ D2 =>
  bnd (pH_requireLength p3 D2) fun _ D3 =>
  bnd (pH_requireNoLink p1 D3) fun _ D4 =>
  ltR (pI_placeOfKey p1 D4) fun x1 =>
  bnd (pV_canHold x1 p2 D4) fun v1 D5 =>
  if (w32 v1) = 0 then (
    erR 2 D5
  ) else (
    bnd (pV_assign x1 p2 p3 p4 D5) fun v2 D6 =>
    bnd (pH_requireRoom v2 D6) fun _ D7 =>
    bnd (pH_tellUpwards p1 2 D7) fun _ D8 =>
    okR (pV_valueCount x1 D8) D8
  )
def pH_requireValue (p1 : Int) (D : DD) : Res :=
  if (w32 p1) = 0 then (
    erR 0 D
  ) else (
    okR 0 D
  )
def pV_lengthOf (p1 : Int) (D : DD) : Int :=
  (Int.tmod (w32 (pI_unitAt (p1 + 0) D)) 31)
def pV_piecesAlike_14 (a0 : Int) (a1 : Int) (a2 : Int) : Nat → Int → DD → Res
  | 0, _, _ => none
  | n + 1, a3, D =>
    if (w32 a3) < (w32 a2) then (
      if (w32 (pV_unitsInPiece a0 a3)) = (w32 (pV_unitsInPiece a1 a3)) then (
        pV_piecesAlike_14 a0 a1 a2 n (a3 + 1) D
      ) else (
        okR a3 D
      )
    ) else (
      okR a2 D
    )
def pV_piecesAlike (p1 : Int) (p2 : Int) (D : DD) : Res :=
  ltR (zmin (pV_pieceCount p1) (pV_pieceCount p2)) fun x1 =>
  pV_piecesAlike_14 p1 p2 x1 fu 0 D
def pV_changeLength_45 (a4 : Int) : Nat → Int → Int → DD → (Int → DD → Res) → Res
  | 0, _, _, _, _ => none
  | n + 1, a5, a6, D, K =>
    if (w32 a6) < (w32 a4) then (
      ltR (pI_unitAt a5 D) fun x1 =>
      pV_changeLength_45 a4 n x1 (a6 + 1) D K
    ) else (
      K a5 D
    )
def pV_changeLength (p1 : Int) (p2 : Int) (p3 : Int) (D : DD) : Res :=
  bnd (pV_piecesAlike (pV_lengthOf p2 D) p3 D) fun v1 D1 =>
  gD (pC_wantNothing D1) fun D2 =>
  bnd (pV_wantPieces p3 v1 D2) fun _ D3 =>
  bnd (pC_getAllWanted D3) fun v2 D4 =>
  if (w32 v2) = 0 then (
    okR 0 D4
  ) else (
    ltR (p2 + 2) fun x1 =>
    pV_changeLength_45 v1 fu x1 0 D4 fun x2 D5 =>
      ltR (pI_unitAt x2 D5) fun x3 =>
      bnd (pV_chainPieces x2 ((pV_pieceCount p3) - v1) D5) fun _ D6 =>
      bnd (pV_giveBackPieces x3 D6) fun v3 D7 =>
      gD (pV_putHead p2 (Int.tdiv (w32 (pI_unitAt (p2 + 0) D7)) 31) p3 D7) fun D8 =>
      bnd (pC_markWritten p2 D8) fun _ D9 =>
      bnd (pC_markWritten p1 D9) fun _ D10 =>
      okR 1 D10
  )
def pH_resize (p1 : Int) (p2 : Int) (p3 : Int) (D : DD) : Res :=
  bnd (pH_requireKey p1 D) fun _ D1 =>
  ltR (pI_placeOfKey p1 D1) fun x1 =>
  bnd (pV_cellNamed x1 p2 D1) fun v1 D2 =>
  bnd (pH_requireValue v1 D2) fun _ D3 =>
  bnd (pH_requireLength p3 D3) fun _ D4 =>
  ltR (pV_lengthOf v1 D4) fun x2 =>
  bnd (pV_changeLength x1 v1 p3 D4) fun v2 D5 =>
  bnd (pH_requireRoom v2 D5) fun _ D6 =>
  bnd (pH_tellUpwards p1 2 D6) fun _ D7 =>
  okR x2 D7
def pI_numberOfItem_9 (a1 : Int) (a2 : Int) (a3 : Int) : Nat → Int → DD → Res
  | 0, _, _ => none
  | n + 1, a4, D =>
    if (w32 a4) < (w32 a3) then (
      if (w32 (pI_item a1 a4 D)) = (w32 a2) then (
        okR a4 D
      ) else (
        pI_numberOfItem_9 a1 a2 a3 n (a4 + 1) D
      )
    ) else (
      okR (-1) D
    )
def pI_numberOfItem (p1 : Int) (p2 : Int) (D : DD) : Res :=
  ltR (pI_itemCount p1 D) fun x1 =>
  pI_numberOfItem_9 p1 p2 x1 fu 0 D
def pV_drop (p1 : Int) (p2 : Int) (D : DD) : Res :=
  ltR (pI_unitAt (p1 + 3) D) fun x1 =>
  bnd (pV_giveBackValue p2 D) fun v1 D1 =>
  bnd (pI_numberOfItem x1 p2 D1) fun v2 D2 =>
  bnd (pI_removeItem x1 v2 D2) fun _ D3 =>
  bnd (pC_markWritten x1 D3) fun _ D4 =>
  bnd (pC_markWritten p1 D4) fun _ D5 =>
  jnR (fun (x2 : Int) (D6 : DD) =>
      okR (v1 + x2) D6) fun J1 =>
  if 0 < (w32 (pI_itemCount x1 D5)) then (
    J1 0 D5
  ) else (
    bnd (pV_giveBackList p1 D5) fun v3 D7 =>
    J1 v3 D7
  )
def pH_dropValue (p1 : Int) (p2 : Int) (D : DD) : Res :=
  bnd (pH_requireKey p1 D) fun _ D1 =>
  ltR (pI_placeOfKey p1 D1) fun x1 =>
  bnd (pV_cellNamed x1 p2 D1) fun v1 D2 =>
  bnd (pH_requireValue v1 D2) fun _ D3 =>
  bnd (pV_drop x1 v1 D3) fun v2 D4 =>
  bnd (pH_tellUpwards p1 2 D4) fun _ D5 =>
  okR v2 D5
def pV_seedOf (p1 : Int) (D : DD) : Int :=
  (pI_unitAt (p1 + 1) D)
def pH_unit (p1 : Int) (p2 : Int) (p3 : Int) (D : DD) : Res :=
  bnd (pH_requireKey p1 D) fun _ D1 =>
  bnd (pV_cellNamed (pI_placeOfKey p1 D1) p2 D1) fun v1 D2 =>
  bnd (pH_requireValue v1 D2) fun _ D3 =>
  jnR (fun (D4 : DD) =>
      erR 0 D4) fun J1 =>
  if (w32 p3) < 0 then (
    J1 D3
  ) else (
    if (w32 p3) < (w32 (pV_lengthOf v1 D3)) then (
      okR ((31 * (pV_seedOf v1 D3)) + (17 * p3)) D3
    ) else (
      J1 D3
    )
  )
def pH_requireRights (p1 : Int) (D : DD) : Res :=
  jnR (fun (D1 : DD) =>
      erR 1 D1) fun J1 =>
  if (w32 p1) < 0 then (
    J1 D
  ) else (
    if 255 < (w32 p1) then (
      J1 D
    ) else (
      okR 0 D
    )
  )
def pS_join (p1 : Int) (D : DD) : Res :=
  jnR (fun (D1 : DD) =>
      bnd (pS_changeCount p1 1 D1) fun _ D2 =>
      okR 1 D2) fun J1 =>
  if (w32 (pI_placeOfRights p1 D)) = 0 then (
    gD (pC_wantNothing D) fun D3 =>
    gD (pC_want 2 D3) fun D4 =>
    bnd (pC_getAllWanted D4) fun v1 D5 =>
    if (w32 v1) = 0 then (
      okR 0 D5
    ) else (
      gD (pI_setPlaceOfRights p1 (pC_got 0 D5) D5) fun D6 =>
      gD (pI_putUnit (pC_got 0 D6) 0 D6) fun D7 =>
      J1 D7
    )
  ) else (
    J1 D
  )
def pH_setRights (p1 : Int) (p2 : Int) (D : DD) : Res :=
  bnd (pH_requireKey p1 D) fun _ D1 =>
  bnd (pH_requireRights p2 D1) fun _ D2 =>
  ltR (pI_placeOfKey p1 D2) fun x1 =>
  ltR (pI_unitAt (x1 + 4) D2) fun x2 =>
  if (w32 p2) = (w32 x2) then (
    okR x2 D2
  ) else (
    bnd (pS_join p2 D2) fun v1 D3 =>
    bnd (pH_requireRoom v1 D3) fun _ D4 =>
    bnd (pS_leave x2 D4) fun v2 D5 =>
    gD (pI_putUnit (x1 + 4) p2 D5) fun D6 =>
    bnd (pC_markWritten x1 D6) fun _ D7 =>
    bnd (pH_tellUpwards p1 4 D7) fun _ D8 =>
    okR x2 D8
  )
def pH_sharers (p1 : Int) (D : DD) : Res :=
  bnd (pH_requireRights p1 D) fun _ D1 =>
  okR (pS_keysWith p1 D1) D1
def pH_sectors (D : DD) : Int :=
  (D 2 4)
def pH_cell (p1 : Int) (D : DD) : Res :=
  jnR (fun (D1 : DD) =>
      erR 0 D1) fun J1 =>
  if (w32 p1) < 0 then (
    J1 D
  ) else (
    if (w32 p1) < (w32 (pI_end D)) then (
      okR (pI_sizeAt p1 D) D
    ) else (
      J1 D
    )
  )
def pH_place (p1 : Int) (D : DD) : Res :=
  bnd (pH_requireKey p1 D) fun _ D1 =>
  okR (pI_placeOfKey p1 D1) D1
def pC_unitsInUse_12 (a2 : Int) : Nat → Int → Int → DD → Res
  | 0, _, _, _ => none
  | n + 1, a1, a3, D =>
    if (w32 a3) < (w32 a2) then (
      ltR (rd 1024 3 a3 D) fun x1 =>
      ltR (a1 + (zmax 0 x1)) fun x2 =>
      ltR (a3 + (zmax 1 (zabs x1))) fun x3 =>
      pC_unitsInUse_12 a2 n x2 x3 D
    ) else (
      okR a1 D
    )
def pC_unitsInUse (D : DD) : Res :=
  ltR (pI_end D) fun x1 =>
  pC_unitsInUse_12 x1 fu 0 4 D
def pH_used (D : DD) : Res :=
  bnd (pC_unitsInUse D) fun v1 D1 =>
  okR v1 D1
def pJ_fill_5 (a1 : Int) (a3 : Int) : Nat → Int → DD → Res
  | 0, _, _ => none
  | n + 1, a2, D =>
    if (w32 a2) < (w32 a3) then (
      wrA 256 14 a2 a1 D fun D1 =>
      pJ_fill_5 a1 a3 n (a2 + 1) D1
    ) else (
      okR 0 D
    )
def pJ_fill (p1 : Int) (D : DD) : Res :=
  pJ_fill_5 p1 256 fu 0 D
def pS_startCounting (D : DD) : Res :=
  bnd (pJ_fill 0 D) fun _ D1 =>
  okR 0 D1
def pL_unitsOf_39 (a1 : Int) (a3 : Int) : Nat → Int → Int → DD → Res
  | 0, _, _, _ => none
  | n + 1, a4, a5, D =>
    if (w32 a5) < (w32 a3) then (
      ltR (a4 + (pI_sizeAt (pL_leafNumbered a1 a5 D) D)) fun x1 =>
      pL_unitsOf_39 a1 a3 n x1 (a5 + 1) D
    ) else (
      okR a4 D
    )
def pL_unitsOf (p1 : Int) (D : DD) : Res :=
  ltR (pI_unitAt (p1 + 2) D) fun x1 =>
  ltR (pL_leafCount p1 D) fun x2 =>
  jnR (fun (x3 : Int) (D1 : DD) =>
      pL_unitsOf_39 p1 x2 fu x3 0 D1) fun J1 =>
  if 1 < (w32 x2) then (
    J1 (pI_sizeAt x1 D) D
  ) else (
    J1 0 D
  )
def pV_unitsOf_78 : Nat → Int → Int → Int → DD → (Int → DD → Res) → Res
  | 0, _, _, _, _, _ => none
  | n + 1, a3, a6, a7, D, K =>
    if (w32 a7) < 4 then (
      if (w32 a6) = 0 then (
        K a3 D
      ) else (
        ltR (a3 + (pI_sizeAt a6 D)) fun x1 =>
        ltR (pI_unitAt a6 D) fun x2 =>
        pV_unitsOf_78 n x1 x2 (a7 + 1) D K
      )
    ) else (
      K a3 D
    )
def pV_unitsOf_35 (a1 : Int) (a2 : Int) : Nat → Int → Int → DD → Res
  | 0, _, _, _ => none
  | n + 1, a3, a4, D =>
    if (w32 a4) < (w32 a2) then (
      ltR (pV_cellNumbered a1 a4 D) fun x1 =>
      ltR (a3 + (pI_sizeAt x1 D)) fun x2 =>
      ltR (pI_unitAt (x1 + 2) D) fun x3 =>
      pV_unitsOf_78 fu x2 x3 0 D fun x4 D1 =>
        pV_unitsOf_35 a1 a2 n x4 (a4 + 1) D1
    ) else (
      okR a3 D
    )
def pV_unitsOf (p1 : Int) (D : DD) : Res :=
  ltR (pV_valueCount p1 D) fun x1 =>
  jnR (fun (x2 : Int) (D1 : DD) =>
      pV_unitsOf_35 p1 x1 fu x2 0 D1) fun J1 =>
  if (w32 x1) = 0 then (
    J1 0 D
  ) else (
    J1 (pI_sizeAt (pI_unitAt (p1 + 3) D) D) D
  )
def pS_unitsNotYetCounted (p1 : Int) (D : DD) : Res :=
  jnR (fun (x1 : Int) (D1 : DD) =>
      gD (sto 256 14 p1 1 D1) fun D2 =>
      okR x1 D2) fun J1 =>
  if (w32 (rd 256 14 p1 D)) = 0 then (
    J1 (pI_sizeAt (pI_placeOfRights p1 D) D) D
  ) else (
    J1 0 D
  )
def pH_addSubkeysToWalk_12 (a1 : Int) (a2 : Int) (a3 : Int) : Nat → Int → DD → (DD → Res) → Res
  | 0, _, _, _ => none
  | n + 1, a4, D, K =>
    if (w32 a4) < (w32 a3) then (
      bnd (pL_subkeyNumbered a1 a4 D) fun v1 D1 =>
      gD (sto 80 1 (a2 + a4) v1 D1) fun D2 =>
      pH_addSubkeysToWalk_12 a1 a2 a3 n (a4 + 1) D2 K
    ) else (
      K D
    )
def pH_addSubkeysToWalk (p1 : Int) (p2 : Int) (D : DD) : Res :=
  bnd (pL_entryCount p1 D) fun v1 D1 =>
  pH_addSubkeysToWalk_12 p1 p2 v1 fu 0 D1 fun D2 =>
    okR (p2 + v1) D2
def pH_usedByTree_22 : Nat → Int → Int → Int → DD → Res
  | 0, _, _, _, _ => none
  | n + 1, a1, a2, a3, D =>
    if (w32 a3) < (w32 a1) then (
      if (w32 a3) < 80 then (
        ltR (pI_placeOfKey (rd 80 1 a3 D) D) fun x1 =>
        ltR (a2 + (pI_sizeAt x1 D)) fun x2 =>
        bnd (pL_unitsOf x1 D) fun v1 D1 =>
        ltR (x2 + v1) fun x3 =>
        bnd (pV_unitsOf x1 D1) fun v2 D2 =>
        ltR (x3 + v2) fun x4 =>
        bnd (pS_unitsNotYetCounted (pI_unitAt (x1 + 4) D2) D2) fun v3 D3 =>
        ltR (x4 + v3) fun x5 =>
        bnd (pH_addSubkeysToWalk x1 a1 D3) fun v4 D4 =>
        pH_usedByTree_22 n v4 x5 (a3 + 1) D4
      ) else (
        okR a2 D
      )
    ) else (
      okR a2 D
    )
def pH_usedByTree (D : DD) : Res :=
  bnd (pS_startCounting D) fun _ D1 =>
  gD (sto 80 1 0 0 D1) fun D2 =>
  pH_usedByTree_22 fu 1 0 0 D2
def pW_isWatched (p1 : Int) (D : DD) : Int :=
  if (w32 (rd 80 16 p1 D)) = 0 then (
    0
  ) else (
    1
  )
theorem pW_isWatched_b (p1 : Int) (D : DD) : pW_isWatched p1 D = 0 ∨ pW_isWatched p1 D = 1 := by
  unfold pW_isWatched
  try unfold jnR
  try unfold ltR
  try dsimp only
  repeat' split
  all_goals first | exact Or.inl rfl | exact Or.inr rfl
def pH_watch (p1 : Int) (p2 : Int) (p3 : Int) (D : DD) : Res :=
  bnd (pH_requireKey p1 D) fun _ D1 =>
  jnR (fun (D2 : DD) =>
      erR 1 D2) fun J1 =>
  if (w32 p2) < 1 then (
    J1 D1
  ) else (
    if 7 < (w32 p2) then (
      J1 D1
    ) else (
      jnR (fun (x1 : Int) (D3 : DD) =>
          gD (pW_start p1 p2 p3 D3) fun D4 =>
          okZ x1 D4) fun J2 =>
      if (pW_isWatched p1 D1) = 0 then (
        J2 1 D1
      ) else (
        J2 0 D1
      )
    )
  )
def pW_keyToldFirst_4 : Nat → Int → Int → DD → Res
  | 0, _, _, _ => none
  | n + 1, a1, a2, D =>
    if (w32 a2) < 80 then (
      ltR (rd 80 19 a2 D) fun x1 =>
      jnR (fun (x2 : Int) (D1 : DD) =>
          pW_keyToldFirst_4 n x2 (a2 + 1) D1) fun J1 =>
      if (w32 x1) = 0 then (
        J1 a1 D
      ) else (
        jnR (fun (D2 : DD) =>
            J1 a2 D2) fun J2 =>
        if (w32 a1) = (-1) then (
          J2 D
        ) else (
          if (w32 x1) < (w32 (rd 80 19 a1 D)) then (
            J2 D
          ) else (
            J1 a1 D
          )
        )
      )
    ) else (
      okR a1 D
    )
def pW_keyToldFirst (D : DD) : Res :=
  pW_keyToldFirst_4 fu (-1) 0 D
def pW_takeKindTold (p1 : Int) (D : DD) : Res :=
  gD (sto 80 19 p1 0 D) fun D1 =>
  okR (rd 80 18 p1 D1) D1
def pH_takeNotice (D : DD) : Res :=
  bnd (pW_keyToldFirst D) fun v1 D1 =>
  if (w32 v1) = (-1) then (
    okR (-1) D1
  ) else (
    bnd (pW_takeKindTold v1 D1) fun v2 D2 =>
    okR ((10 * v1) + v2) D2
  )
def pH_dirty (D : DD) : Int :=
  (D 7 5)
def pJ_bitCount (p1 : Int) : Int :=
  ltR (p1 - (landZ (lushrZ p1 1) 6148914691236517205)) fun x1 =>
  ltR ((landZ x1 3689348814741910323) + (landZ (lushrZ x1 2) 3689348814741910323)) fun x2 =>
  ltR (landZ (x2 + (lushrZ x2 4)) 1085102592571150095) fun x3 =>
  ltR (x3 + (lushrZ x3 8)) fun x4 =>
  ltR (x4 + (lushrZ x4 16)) fun x5 =>
  ltR (x5 + (lushrZ x5 32)) fun x6 =>
  (iandZ x6 127)
def pI_copyFrom_26_2 (D : DD) : DD :=
  gD (cpy2 D 3 27 1024) fun D1 =>
  gD (cpy2 D1 4 28 1024) fun D2 =>
  gD (cpy2 D2 5 29 80) fun D3 =>
  gD (cpy2 D3 6 30 256) fun D4 =>
  gD (up2 D4 26 4 (D4 2 4)) fun D5 =>
  gD (up2 D5 26 5 (D5 2 5)) fun D6 =>
  D6
def pF_begin (p1 : Int) (D : DD) : DD :=
  gD (pI_copyFrom_26_2 D) fun D1 =>
  gD (up2 D1 20 3 p1) fun D2 =>
  gD (up2 D2 20 4 0) fun D3 =>
  gD (up2 D3 20 6 1) fun D4 =>
  D4
def pC_forgetDirty (D : DD) : DD :=
  gD (up2 D 7 5 0) fun D1 =>
  D1
def pF_writesLeft (D : DD) : Int :=
  (((2 * (D 20 3)) + 4) - (D 20 4))
def pH_flush (D : DD) : Res :=
  if (w32 (D 20 6)) = 0 then (
    if (lcmZ (w64 (D 7 5)) (w64 0)) = 0 then (
      erR 2 D
    ) else (
      gD (pF_begin (pJ_bitCount (D 7 5)) D) fun D1 =>
      gD (pC_forgetDirty D1) fun D2 =>
      okR (pF_writesLeft D2) D2
    )
  ) else (
    erR 2 D
  )
def pF_isSealed (D : DD) : Int :=
  if (w32 (D 20 4)) < (w32 ((D 20 3) + 2)) then (
    0
  ) else (
    1
  )
theorem pF_isSealed_b (D : DD) : pF_isSealed D = 0 ∨ pF_isSealed D = 1 := by
  unfold pF_isSealed
  try unfold jnR
  try unfold ltR
  try dsimp only
  repeat' split
  all_goals first | exact Or.inl rfl | exact Or.inr rfl
def pI_copyFrom_21_26 (D : DD) : DD :=
  gD (cpy2 D 27 22 1024) fun D1 =>
  gD (cpy2 D1 28 23 1024) fun D2 =>
  gD (cpy2 D2 29 24 80) fun D3 =>
  gD (cpy2 D3 30 25 256) fun D4 =>
  gD (up2 D4 21 4 (D4 26 4)) fun D5 =>
  gD (up2 D5 21 5 (D5 26 5)) fun D6 =>
  D6
def pF_endWhole (D : DD) : DD :=
  gD (pI_copyFrom_21_26 D) fun D1 =>
  gD (up2 D1 20 5 ((D1 20 5) + 1)) fun D2 =>
  gD (up2 D2 20 6 0) fun D3 =>
  D3
def pF_advance (p1 : Int) (D : DD) : DD :=
  gD (up2 D 20 4 ((D 20 4) + (zmin p1 (pF_writesLeft D)))) fun D1 =>
  ltR ((D1 20 5) + 1) fun x1 =>
  jnR (fun (x2 : Int) (D2 : DD) =>
      gD (sto 2 31 (Int.tmod (w32 x1) 2) x2 D2) fun D3 =>
      if (w32 (pF_writesLeft D3)) = 0 then (
        gD (pF_endWhole D3) fun D4 =>
        D4
      ) else (
        D3
      )) fun J1 =>
  if (pF_isSealed D1) = 0 then (
    J1 0 D1
  ) else (
    J1 x1 D1
  )
def pH_write (p1 : Int) (D : DD) : Res :=
  jnR (fun (D1 : DD) =>
      erR 1 D1) fun J1 =>
  if (w32 p1) < 1 then (
    J1 D
  ) else (
    if 200 < (w32 p1) then (
      J1 D
    ) else (
      if (w32 (D 20 6)) = 0 then (
        erR 2 D
      ) else (
        gD (pF_advance p1 D) fun D2 =>
        okR (pF_writesLeft D2) D2
      )
    )
  )
def pF_heldByLog (p1 : Int) (D : DD) : Int :=
  (rd 2 31 p1 D)
def pH_log (p1 : Int) (D : DD) : Res :=
  jnR (fun (D1 : DD) =>
      erR 1 D1) fun J1 =>
  if (w32 p1) < 0 then (
    J1 D
  ) else (
    if 1 < (w32 p1) then (
      J1 D
    ) else (
      okR (pF_heldByLog p1 D) D
    )
  )
def pF_breakOff (D : DD) : DD :=
  jnR (fun (D1 : DD) =>
      gD (up2 D1 20 6 0) fun D2 =>
      D2) fun J1 =>
  if (w32 (D 20 6)) = 0 then (
    J1 D
  ) else (
    if (pF_isSealed D) = 0 then (
      J1 D
    ) else (
      gD (pF_endWhole D) fun D3 =>
      J1 D3
    )
  )
def pI_copyFrom_2_21 (D : DD) : DD :=
  gD (cpy2 D 22 3 1024) fun D1 =>
  gD (cpy2 D1 23 4 1024) fun D2 =>
  gD (cpy2 D2 24 5 80) fun D3 =>
  gD (cpy2 D3 25 6 256) fun D4 =>
  gD (up2 D4 2 4 (D4 21 4)) fun D5 =>
  gD (up2 D5 2 5 (D5 21 5)) fun D6 =>
  D6
def pF_restoreWhole (D : DD) : DD :=
  gD (pI_copyFrom_2_21 D) fun D1 =>
  D1
def pW_endAll_2 : Nat → Int → DD → Res
  | 0, _, _ => none
  | n + 1, a1, D =>
    if (w32 a1) < 80 then (
      gD (pW_end a1 D) fun D1 =>
      pW_endAll_2 n (a1 + 1) D1
    ) else (
      okR 0 D
    )
def pW_endAll (D : DD) : Res :=
  pW_endAll_2 fu 0 D
def pH_crash (D : DD) : Res :=
  gD (pF_breakOff D) fun D1 =>
  gD (pF_restoreWhole D1) fun D2 =>
  gD (pC_forgetDirty D2) fun D3 =>
  bnd (pW_endAll D3) fun _ D4 =>
  okR (D4 20 5) D4
end
