/-! the class: its methods, read as functions of numbers and cells (by program out of the bytecode) -/
def pI_placeOfKey (p1 : Int) (D : DD) : Int :=
  (rd 80 5 p1 D)
def pH_hasKey (p1 : Int) (D : DD) : Int :=
  if (w32 (pI_placeOfKey p1 D)) = 0 then (
    0
  ) else (
    1
  )
theorem pH_hasKey_b (p1 : Int) (D : DD) : pH_hasKey p1 D = 0 ∨ pH_hasKey p1 D = 1 := by
  unfold pH_hasKey
  try unfold jnR
  try unfold ltR
  try dsimp only
  repeat' split
  all_goals first | exact Or.inl rfl | exact Or.inr rfl
def pH_requireKey (p1 : Int) (D : DD) : Res :=
  if (pH_hasKey p1 D) = 0 then (
    erR 0 D
  ) else (
    okR 0 D
  )
def pI_unitAt (p1 : Int) (D : DD) : Int :=
  (rd 1024 4 p1 D)
def pL_isIndex (p1 : Int) (D : DD) : Int :=
  if (w32 (rd 1024 3 p1 D)) = 9 then (
    1
  ) else (
    0
  )
theorem pL_isIndex_b (p1 : Int) (D : DD) : pL_isIndex p1 D = 0 ∨ pL_isIndex p1 D = 1 := by
  unfold pL_isIndex
  try unfold jnR
  try unfold ltR
  try dsimp only
  repeat' split
  all_goals first | exact Or.inl rfl | exact Or.inr rfl
def pI_itemCount (p1 : Int) (D : DD) : Int :=
  (rd 1024 4 p1 D)
def pL_leafCount (p1 : Int) (D : DD) : Int :=
  ltR (pI_unitAt (p1 + 2) D) fun x1 =>
  if (w32 x1) = 0 then (
    0
  ) else (
    if (pL_isIndex x1 D) = 0 then (
      1
    ) else (
      (pI_itemCount x1 D)
    )
  )
def pI_item (p1 : Int) (p2 : Int) (D : DD) : Int :=
  (rd 1024 4 ((p1 + 1) + p2) D)
def pL_leafNumbered (p1 : Int) (p2 : Int) (D : DD) : Int :=
  ltR (pI_unitAt (p1 + 2) D) fun x1 =>
  if (pL_isIndex x1 D) = 0 then (
    x1
  ) else (
    (pI_item x1 p2 D)
  )
def pL_entryCount_11 (a1 : Int) (a2 : Int) : Nat → Int → Int → DD → Res
  | 0, _, _, _ => none
  | n + 1, a3, a4, D =>
    if (w32 a4) < (w32 a2) then (
      ltR (a3 + (pI_itemCount (pL_leafNumbered a1 a4 D) D)) fun x1 =>
      pL_entryCount_11 a1 a2 n x1 (a4 + 1) D
    ) else (
      okR a3 D
    )
def pL_entryCount (p1 : Int) (D : DD) : Res :=
  ltR (pL_leafCount p1 D) fun x1 =>
  pL_entryCount_11 p1 x1 fu 0 0 D
def pH_list (p1 : Int) (D : DD) : Res :=
  bnd (pH_requireKey p1 D) fun _ D1 =>
  ltR (pI_placeOfKey p1 D1) fun x1 =>
  bnd (pL_entryCount x1 D1) fun v1 D2 =>
  okR ((10 * v1) + (pL_leafCount x1 D2)) D2
def pH_requireName (p1 : Int) (D : DD) : Res :=
  jnR (fun (D1 : DD) =>
      erR 1 D1) fun J1 =>
  if (w32 p1) < 0 then (
    J1 D
  ) else (
    if 9999 < (w32 p1) then (
      J1 D
    ) else (
      okR 0 D
    )
  )
def pL_rankOf (p1 : Int) : Int :=
  (((Int.tmod (w32 (7 * p1)) 64) * 10000) + p1)
def pL_keyInLeaf_12 (a1 : Int) (a2 : Int) (a3 : Int) : Nat → Int → DD → (Int → DD → Res) → Res
  | 0, _, _, _ => none
  | n + 1, a4, D, K =>
    if (w32 a4) < (w32 a3) then (
      ltR (pI_item a1 a4 D) fun x1 =>
      if (w32 (Int.tdiv (w32 x1) 80)) = (w32 (pL_rankOf a2)) then (
        K x1 D
      ) else (
        pL_keyInLeaf_12 a1 a2 a3 n (a4 + 1) D K
      )
    ) else (
      okR (-1) D
    )
def pL_keyInLeaf (p1 : Int) (p2 : Int) (D : DD) : Res :=
  ltR (pI_itemCount p1 D) fun x1 =>
  pL_keyInLeaf_12 p1 p2 x1 fu 0 D fun x2 D1 =>
    okR (Int.tmod (w32 x2) 80) D1
def pL_subkeyNamed_9 (a1 : Int) (a2 : Int) (a3 : Int) : Nat → Int → DD → Res
  | 0, _, _ => none
  | n + 1, a4, D =>
    if (w32 a4) < (w32 a3) then (
      bnd (pL_keyInLeaf (pL_leafNumbered a1 a4 D) a2 D) fun v1 D1 =>
      if (w32 v1) = (-1) then (
        pL_subkeyNamed_9 a1 a2 a3 n (a4 + 1) D1
      ) else (
        okR v1 D1
      )
    ) else (
      okR (-1) D
    )
def pL_subkeyNamed (p1 : Int) (p2 : Int) (D : DD) : Res :=
  ltR (pL_leafCount p1 D) fun x1 =>
  pL_subkeyNamed_9 p1 p2 x1 fu 0 D
def pH_find (p1 : Int) (p2 : Int) (D : DD) : Res :=
  bnd (pH_requireKey p1 D) fun _ D1 =>
  bnd (pH_requireName p2 D1) fun _ D2 =>
  bnd (pL_subkeyNamed (pI_placeOfKey p1 D2) p2 D2) fun v1 D3 =>
  okR v1 D3
def pH_isLink (p1 : Int) (D : DD) : Int :=
  if (pH_hasKey p1 D) = 0 then (
    0
  ) else (
    if (w32 (pI_unitAt ((pI_placeOfKey p1 D) + 5) D)) = (-1) then (
      0
    ) else (
      1
    )
  )
theorem pH_isLink_b (p1 : Int) (D : DD) : pH_isLink p1 D = 0 ∨ pH_isLink p1 D = 1 := by
  unfold pH_isLink
  try unfold jnR
  try unfold ltR
  try dsimp only
  repeat' split
  all_goals first | exact Or.inl rfl | exact Or.inr rfl
def pH_follow_9 : Nat → Int → Int → DD → (Int → DD → Res) → Res
  | 0, _, _, _, _ => none
  | n + 1, a2, a3, D, K =>
    if (w32 a3) < 4 then (
      if (pH_isLink a2 D) = 0 then (
        K a2 D
      ) else (
        ltR (pI_unitAt ((pI_placeOfKey a2 D) + 5) D) fun x1 =>
        pH_follow_9 n x1 (a3 + 1) D K
      )
    ) else (
      K a2 D
    )
def pH_follow (p1 : Int) (D : DD) : Res :=
  bnd (pH_requireKey p1 D) fun _ D1 =>
  pH_follow_9 fu p1 0 D1 fun x1 D2 =>
    if (pH_hasKey x1 D2) = 0 then (
      okR (-1) D2
    ) else (
      if (pH_isLink x1 D2) = 0 then (
        okR x1 D2
      ) else (
        okR (-1) D2
      )
    )
def pH_place (p1 : Int) (D : DD) : Res :=
  bnd (pH_requireKey p1 D) fun _ D1 =>
  okR (pI_placeOfKey p1 D1) D1
def pL_subkeyNumbered_12 (a1 : Int) (a3 : Int) : Nat → Int → Int → DD → (Int → Int → DD → Res) → Res
  | 0, _, _, _, _ => none
  | n + 1, a4, a5, D, K =>
    if (w32 a5) < (w32 a3) then (
      ltR (pL_leafNumbered a1 a5 D) fun x1 =>
      if (w32 a4) < (w32 (pI_itemCount x1 D)) then (
        K a4 x1 D
      ) else (
        ltR (a4 - (pI_itemCount x1 D)) fun x2 =>
        pL_subkeyNumbered_12 a1 a3 n x2 (a5 + 1) D K
      )
    ) else (
      okR (-1) D
    )
def pL_subkeyNumbered (p1 : Int) (p2 : Int) (D : DD) : Res :=
  ltR (pL_leafCount p1 D) fun x1 =>
  pL_subkeyNumbered_12 p1 x1 fu p2 0 D fun x2 x3 D1 =>
    okR (Int.tmod (w32 (pI_item x3 x2 D1)) 80) D1
def pH_subkeyAt (p1 : Int) (p2 : Int) (D : DD) : Res :=
  bnd (pH_requireKey p1 D) fun _ D1 =>
  ltR (pI_placeOfKey p1 D1) fun x1 =>
  jnR (fun (D2 : DD) =>
      erR 0 D2) fun J1 =>
  if (w32 p2) < 0 then (
    J1 D1
  ) else (
    bnd (pL_entryCount x1 D1) fun v1 D3 =>
    if (w32 p2) < (w32 v1) then (
      bnd (pL_subkeyNumbered x1 p2 D3) fun v2 D4 =>
      okR v2 D4
    ) else (
      J1 D3
    )
  )
def pI_end (D : DD) : Int :=
  ((D 2 4) * 16)
def pI_sizeAt (p1 : Int) (D : DD) : Int :=
  (rd 1024 3 p1 D)
def pH_cell (p1 : Int) (D : DD) : Res :=
  jnR (fun (D1 : DD) =>
      erR 0 D1) fun J1 =>
  if (w32 p1) < 0 then (
    J1 D
  ) else (
    if (w32 p1) < (w32 (pI_end D)) then (
      okR (pI_sizeAt p1 D) D
    ) else (
      J1 D
    )
  )
def pH_sectors (D : DD) : Int :=
  (D 2 4)
def pC_unitsInUse_12 (a2 : Int) : Nat → Int → Int → DD → Res
  | 0, _, _, _ => none
  | n + 1, a1, a3, D =>
    if (w32 a3) < (w32 a2) then (
      ltR (rd 1024 3 a3 D) fun x1 =>
      ltR (a1 + (zmax 0 x1)) fun x2 =>
      ltR (a3 + (zmax 1 (zabs x1))) fun x3 =>
      pC_unitsInUse_12 a2 n x2 x3 D
    ) else (
      okR a1 D
    )
def pC_unitsInUse (D : DD) : Res :=
  ltR (pI_end D) fun x1 =>
  pC_unitsInUse_12 x1 fu 0 4 D
def pH_used (D : DD) : Res :=
  bnd (pC_unitsInUse D) fun v1 D1 =>
  okR v1 D1
def pS_startCounting (D : DD) : Res :=
  bnd (filR 0 D) fun _ D1 =>
  okR 0 D1
def pL_unitsOf_39 (a1 : Int) (a3 : Int) : Nat → Int → Int → DD → Res
  | 0, _, _, _ => none
  | n + 1, a4, a5, D =>
    if (w32 a5) < (w32 a3) then (
      ltR (a4 + (pI_sizeAt (pL_leafNumbered a1 a5 D) D)) fun x1 =>
      pL_unitsOf_39 a1 a3 n x1 (a5 + 1) D
    ) else (
      okR a4 D
    )
def pL_unitsOf (p1 : Int) (D : DD) : Res :=
  ltR (pI_unitAt (p1 + 2) D) fun x1 =>
  ltR (pL_leafCount p1 D) fun x2 =>
  jnR (fun (x3 : Int) (D1 : DD) =>
      pL_unitsOf_39 p1 x2 fu x3 0 D1) fun J1 =>
  if 1 < (w32 x2) then (
    J1 (pI_sizeAt x1 D) D
  ) else (
    J1 0 D
  )
def pV_valueCount (p1 : Int) (D : DD) : Int :=
  ltR (pI_unitAt (p1 + 3) D) fun x1 =>
  if (w32 x1) = 0 then (
    0
  ) else (
    (pI_itemCount x1 D)
  )
def pV_cellNumbered (p1 : Int) (p2 : Int) (D : DD) : Int :=
  (pI_item (pI_unitAt (p1 + 3) D) p2 D)
def pV_unitsOf_78 : Nat → Int → Int → Int → DD → (Int → DD → Res) → Res
  | 0, _, _, _, _, _ => none
  | n + 1, a3, a6, a7, D, K =>
    if (w32 a7) < 4 then (
      if (w32 a6) = 0 then (
        K a3 D
      ) else (
        ltR (a3 + (pI_sizeAt a6 D)) fun x1 =>
        ltR (pI_unitAt a6 D) fun x2 =>
        pV_unitsOf_78 n x1 x2 (a7 + 1) D K
      )
    ) else (
      K a3 D
    )
def pV_unitsOf_35 (a1 : Int) (a2 : Int) : Nat → Int → Int → DD → Res
  | 0, _, _, _ => none
  | n + 1, a3, a4, D =>
    if (w32 a4) < (w32 a2) then (
      ltR (pV_cellNumbered a1 a4 D) fun x1 =>
      ltR (a3 + (pI_sizeAt x1 D)) fun x2 =>
      ltR (pI_unitAt (x1 + 2) D) fun x3 =>
      pV_unitsOf_78 fu x2 x3 0 D fun x4 D1 =>
        pV_unitsOf_35 a1 a2 n x4 (a4 + 1) D1
    ) else (
      okR a3 D
    )
def pV_unitsOf (p1 : Int) (D : DD) : Res :=
  ltR (pV_valueCount p1 D) fun x1 =>
  jnR (fun (x2 : Int) (D1 : DD) =>
      pV_unitsOf_35 p1 x1 fu x2 0 D1) fun J1 =>
  if (w32 x1) = 0 then (
    J1 0 D
  ) else (
    J1 (pI_sizeAt (pI_unitAt (p1 + 3) D) D) D
  )
def pI_placeOfRights (p1 : Int) (D : DD) : Int :=
  (rd 256 6 p1 D)
def pS_unitsNotYetCounted (p1 : Int) (D : DD) : Res :=
  jnR (fun (x1 : Int) (D1 : DD) =>
      gD (sto 256 14 p1 1 D1) fun D2 =>
      okR x1 D2) fun J1 =>
  if (w32 (rd 256 14 p1 D)) = 0 then (
    J1 (pI_sizeAt (pI_placeOfRights p1 D) D) D
  ) else (
    J1 0 D
  )
def pH_addSubkeysToWalk_12 (a1 : Int) (a2 : Int) (a3 : Int) : Nat → Int → DD → (DD → Res) → Res
  | 0, _, _, _ => none
  | n + 1, a4, D, K =>
    if (w32 a4) < (w32 a3) then (
      bnd (pL_subkeyNumbered a1 a4 D) fun v1 D1 =>
      gD (sto 80 1 (a2 + a4) v1 D1) fun D2 =>
      pH_addSubkeysToWalk_12 a1 a2 a3 n (a4 + 1) D2 K
    ) else (
      K D
    )
def pH_addSubkeysToWalk (p1 : Int) (p2 : Int) (D : DD) : Res :=
  bnd (pL_entryCount p1 D) fun v1 D1 =>
  pH_addSubkeysToWalk_12 p1 p2 v1 fu 0 D1 fun D2 =>
    okR (p2 + v1) D2
def pH_usedByTree_22 : Nat → Int → Int → Int → DD → Res
  | 0, _, _, _, _ => none
  | n + 1, a1, a2, a3, D =>
    if (w32 a3) < (w32 a1) then (
      if (w32 a3) < 80 then (
        ltR (pI_placeOfKey (rd 80 1 a3 D) D) fun x1 =>
        ltR (a2 + (pI_sizeAt x1 D)) fun x2 =>
        bnd (pL_unitsOf x1 D) fun v1 D1 =>
        ltR (x2 + v1) fun x3 =>
        bnd (pV_unitsOf x1 D1) fun v2 D2 =>
        ltR (x3 + v2) fun x4 =>
        bnd (pS_unitsNotYetCounted (pI_unitAt (x1 + 4) D2) D2) fun v3 D3 =>
        ltR (x4 + v3) fun x5 =>
        bnd (pH_addSubkeysToWalk x1 a1 D3) fun v4 D4 =>
        pH_usedByTree_22 n v4 x5 (a3 + 1) D4
      ) else (
        okR a2 D
      )
    ) else (
      okR a2 D
    )
def pH_usedByTree (D : DD) : Res :=
  bnd (pS_startCounting D) fun _ D1 =>
  gD (sto 80 1 0 0 D1) fun D2 =>
  pH_usedByTree_22 fu 1 0 0 D2
def pV_cellNamed_9 (a1 : Int) (a2 : Int) (a3 : Int) : Nat → Int → DD → Res
  | 0, _, _ => none
  | n + 1, a4, D =>
    if (w32 a4) < (w32 a3) then (
      ltR (pV_cellNumbered a1 a4 D) fun x1 =>
      if (w32 (Int.tdiv (w32 (pI_unitAt (x1 + 0) D)) 31)) = (w32 a2) then (
        okR x1 D
      ) else (
        pV_cellNamed_9 a1 a2 a3 n (a4 + 1) D
      )
    ) else (
      okR 0 D
    )
def pV_cellNamed (p1 : Int) (p2 : Int) (D : DD) : Res :=
  ltR (pV_valueCount p1 D) fun x1 =>
  pV_cellNamed_9 p1 p2 x1 fu 0 D
def pH_requireValue (p1 : Int) (D : DD) : Res :=
  if (w32 p1) = 0 then (
    erR 0 D
  ) else (
    okR 0 D
  )
def pV_lengthOf (p1 : Int) (D : DD) : Int :=
  (Int.tmod (w32 (pI_unitAt (p1 + 0) D)) 31)
def pV_seedOf (p1 : Int) (D : DD) : Int :=
  (pI_unitAt (p1 + 1) D)
def pH_unit (p1 : Int) (p2 : Int) (p3 : Int) (D : DD) : Res :=
  bnd (pH_requireKey p1 D) fun _ D1 =>
  bnd (pV_cellNamed (pI_placeOfKey p1 D1) p2 D1) fun v1 D2 =>
  bnd (pH_requireValue v1 D2) fun _ D3 =>
  jnR (fun (D4 : DD) =>
      erR 0 D4) fun J1 =>
  if (w32 p3) < 0 then (
    J1 D3
  ) else (
    if (w32 p3) < (w32 (pV_lengthOf v1 D3)) then (
      okR ((31 * (pV_seedOf v1 D3)) + (17 * p3)) D3
    ) else (
      J1 D3
    )
  )
def pH_requireRights (p1 : Int) (D : DD) : Res :=
  jnR (fun (D1 : DD) =>
      erR 1 D1) fun J1 =>
  if (w32 p1) < 0 then (
    J1 D
  ) else (
    if 255 < (w32 p1) then (
      J1 D
    ) else (
      okR 0 D
    )
  )
def pS_keysWith (p1 : Int) (D : DD) : Int :=
  ltR (pI_placeOfRights p1 D) fun x1 =>
  if (w32 x1) = 0 then (
    0
  ) else (
    (pI_unitAt x1 D)
  )
def pH_sharers (p1 : Int) (D : DD) : Res :=
  bnd (pH_requireRights p1 D) fun _ D1 =>
  okR (pS_keysWith p1 D1) D1
def pF_heldByLog (p1 : Int) (D : DD) : Int :=
  (rd 2 31 p1 D)
def pH_log (p1 : Int) (D : DD) : Res :=
  jnR (fun (D1 : DD) =>
      erR 1 D1) fun J1 =>
  if (w32 p1) < 0 then (
    J1 D
  ) else (
    if 1 < (w32 p1) then (
      J1 D
    ) else (
      okR (pF_heldByLog p1 D) D
    )
  )
def pH_dirty (D : DD) : Int :=
  (D 7 5)
def pW_keyToldFirst_4 : Nat → Int → Int → DD → Res
  | 0, _, _, _ => none
  | n + 1, a1, a2, D =>
    if (w32 a2) < 80 then (
      ltR (rd 80 19 a2 D) fun x1 =>
      jnR (fun (x2 : Int) (D1 : DD) =>
          pW_keyToldFirst_4 n x2 (a2 + 1) D1) fun J1 =>
      if (w32 x1) = 0 then (
        J1 a1 D
      ) else (
        jnR (fun (D2 : DD) =>
            J1 a2 D2) fun J2 =>
        if (w32 a1) = (-1) then (
          J2 D
        ) else (
          if (w32 x1) < (w32 (rd 80 19 a1 D)) then (
            J2 D
          ) else (
            J1 a1 D
          )
        )
      )
    ) else (
      okR a1 D
    )
def pW_keyToldFirst (D : DD) : Res :=
  pW_keyToldFirst_4 fu (-1) 0 D
def pW_takeKindTold (p1 : Int) (D : DD) : Res :=
  gD (sto 80 19 p1 0 D) fun D1 =>
  okR (rd 80 18 p1 D1) D1
def pH_takeNotice (D : DD) : Res :=
  bnd (pW_keyToldFirst D) fun v1 D1 =>
  if (w32 v1) = (-1) then (
    okR (-1) D1
  ) else (
    bnd (pW_takeKindTold v1 D1) fun v2 D2 =>
    okR ((10 * v1) + v2) D2
  )
def pF_isSealed (D : DD) : Int :=
  if (w32 (D 20 4)) < (w32 ((D 20 3) + 2)) then (
    0
  ) else (
    1
  )
theorem pF_isSealed_b (D : DD) : pF_isSealed D = 0 ∨ pF_isSealed D = 1 := by
  unfold pF_isSealed
  try unfold jnR
  try unfold ltR
  try dsimp only
  repeat' split
  all_goals first | exact Or.inl rfl | exact Or.inr rfl
def pI_copyFrom_21_26 (D : DD) : DD :=
  gD (cpy2 D 27 22 1024) fun D1 =>
  gD (cpy2 D1 28 23 1024) fun D2 =>
  gD (cpy2 D2 29 24 80) fun D3 =>
  gD (cpy2 D3 30 25 256) fun D4 =>
  gD (up2 D4 21 4 (D4 26 4)) fun D5 =>
  gD (up2 D5 21 5 (D5 26 5)) fun D6 =>
  D6
def pF_endWhole (D : DD) : DD :=
  gD (pI_copyFrom_21_26 D) fun D1 =>
  gD (up2 D1 20 5 ((D1 20 5) + 1)) fun D2 =>
  gD (up2 D2 20 6 0) fun D3 =>
  D3
def pF_breakOff (D : DD) : DD :=
  jnR (fun (D1 : DD) =>
      gD (up2 D1 20 6 0) fun D2 =>
      D2) fun J1 =>
  if (w32 (D 20 6)) = 0 then (
    J1 D
  ) else (
    if (pF_isSealed D) = 0 then (
      J1 D
    ) else (
      gD (pF_endWhole D) fun D3 =>
      J1 D3
    )
  )
def pI_copyFrom_2_21 (D : DD) : DD :=
  gD (cpy2 D 22 3 1024) fun D1 =>
  gD (cpy2 D1 23 4 1024) fun D2 =>
  gD (cpy2 D2 24 5 80) fun D3 =>
  gD (cpy2 D3 25 6 256) fun D4 =>
  gD (up2 D4 2 4 (D4 21 4)) fun D5 =>
  gD (up2 D5 2 5 (D5 21 5)) fun D6 =>
  D6
def pF_restoreWhole (D : DD) : DD :=
  gD (pI_copyFrom_2_21 D) fun D1 =>
  D1
def pC_forgetDirty (D : DD) : DD :=
  gD (up2 D 7 5 0) fun D1 =>
  D1
def pW_start (p1 : Int) (p2 : Int) (p3 : Int) (D : DD) : DD :=
  gD (sto 80 16 p1 p2 D) fun D1 =>
  jnR (fun (x1 : Int) (D2 : DD) =>
      gD (sto 80 17 p1 x1 D2) fun D3 =>
      gD (sto 80 18 p1 0 D3) fun D4 =>
      gD (sto 80 19 p1 0 D4) fun D5 =>
      D5) fun J1 =>
  if (w32 p3) = 0 then (
    J1 0 D1
  ) else (
    J1 1 D1
  )
def pW_end (p1 : Int) (D : DD) : DD :=
  gD (pW_start p1 0 0 D) fun D1 =>
  D1
def pW_endAll_2 : Nat → Int → DD → Res
  | 0, _, _ => none
  | n + 1, a1, D =>
    if (w32 a1) < 80 then (
      gD (pW_end a1 D) fun D1 =>
      pW_endAll_2 n (a1 + 1) D1
    ) else (
      okR 0 D
    )
def pW_endAll (D : DD) : Res :=
  pW_endAll_2 fu 0 D
def pH_crash (D : DD) : Res :=
  gD (pF_breakOff D) fun D1 =>
  gD (pF_restoreWhole D1) fun D2 =>
  gD (pC_forgetDirty D2) fun D3 =>
  bnd (pW_endAll D3) fun _ D4 =>
  okR (D4 20 5) D4
