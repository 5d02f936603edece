/-! the class's constructor, step by step -/
theorem fu_s : ∃ n, fu = n + 50 := ⟨fu - 50, by have := fu_gt (x := 50) (by decide); omega⟩
def C0 : DD := img (img (img Dz 2) 21) 26
def C1 : DD := up2 (up2 (up2 C0 7 4 0) 8 0 6) 7 4 1
def CA : DD := cpy2 C1 3 10 1024
def CB : DD := up2 (up2 CA 3 10 (-6)) 3 4 6
def CC : DD := up2 CB 9 0 4
def CD : DD := up2 CC 7 5 (lorZ (CC 7 5) (lshlZ 1 0))
def CE : DD := up2 (up2 (up2 (up2 (up2 (up2 (up2 (up2 CD 4 4 0) 4 5 (-1)) 4 6 0) 4 7 0) 4 8 0) 4 9 (-1)) 5 0 4) 2 5 1
def CF : DD := up2 (up2 (up2 CE 7 4 0) 8 0 2) 7 4 1
def CG : DD := cpy2 CF 3 10 1024
def CH : DD := up2 (up2 CG 3 12 (-4)) 3 10 2
def CI : DD := up2 CH 9 0 10
def CJ : DD := up2 CI 7 5 (lorZ (CI 7 5) (lshlZ 1 0))
def CL : DD := up2 (up2 CJ 6 0 10) 4 10 0
def CM : DD := up2 CL 4 10 1
def CN : DD := up2 CM 7 5 (lorZ (CM 7 5) (lshlZ 1 0))
def CO : DD := up2 CN 7 5 0
theorem e_want : pC_want 6 (pC_wantNothing C0) = C1 := rfl
theorem e_ff1 : pC_firstFreeFor 6 CA = okR 4 CA := by
  obtain ⟨n, hn⟩ := fu_s
  unfold pC_firstFreeFor
  rw [hn]
  rfl
theorem e_gc1 : pC_getCell 6 CA = okR 4 CB := by
  obtain ⟨n, hn⟩ := fu_s
  unfold pC_getCell
  rw [e_ff1, hn]
  rfl
theorem e_mk1 : pC_markWritten 4 CC = okR 0 CD := by
  obtain ⟨n, hn⟩ := fu_s
  unfold pC_markWritten
  rw [hn]
  rfl
theorem e_ga1 : pC_getAllWanted C1 = okR 1 CD := by
  obtain ⟨n, hn⟩ := fu_s
  have h1 : pC_getCell (rd 6 8 0 CA) CA = okR 4 CB := e_gc1
  have h2 : pC_markWritten (rd 6 9 0 CC) CC = okR 0 CD := e_mk1
  unfold pC_getAllWanted
  rw [hn]
  show pC_getAllWanted_31 (n + 49 + 1) 0 CA (fun D2 => pC_getAllWanted_104 (n + 50) 0 D2) _ = _
  rw [pC_getAllWanted_31, if_pos (by decide +kernel), h1]
  show pC_getAllWanted_31 (n + 48 + 1) (0 + 1) CC (fun D2 => pC_getAllWanted_104 (n + 50) 0 D2) (fun D3 => gD (up2 D3 2 4 (C1 2 4)) fun D4 => gD (cpy2 D4 10 3 1024) fun D5 => okR 0 D5) = _
  rw [pC_getAllWanted_31, if_neg (by decide +kernel)]
  show pC_getAllWanted_104 (n + 49 + 1) 0 CC = _
  rw [pC_getAllWanted_104, if_pos (by decide +kernel), h2]
  show pC_getAllWanted_104 (n + 48 + 1) (0 + 1) CD = _
  rw [pC_getAllWanted_104, if_neg (by decide +kernel)]
theorem e_en : pH_enterKey (pC_got 0 CD) 0 (-1) (-1) CD = CE := rfl
theorem e_ff2 : pC_firstFreeFor 2 CG = okR 10 CG := by
  obtain ⟨n, hn⟩ := fu_s
  unfold pC_firstFreeFor
  rw [hn]
  rfl
theorem e_gc2 : pC_getCell 2 CG = okR 10 CH := by
  obtain ⟨n, hn⟩ := fu_s
  unfold pC_getCell
  rw [e_ff2, hn]
  rfl
theorem e_mk2 : pC_markWritten 10 CI = okR 0 CJ := by
  obtain ⟨n, hn⟩ := fu_s
  unfold pC_markWritten
  rw [hn]
  rfl
theorem e_ga2 : pC_getAllWanted CF = okR 1 CJ := by
  obtain ⟨n, hn⟩ := fu_s
  have h1 : pC_getCell (rd 6 8 0 CG) CG = okR 10 CH := e_gc2
  have h2 : pC_markWritten (rd 6 9 0 CI) CI = okR 0 CJ := e_mk2
  unfold pC_getAllWanted
  rw [hn]
  show pC_getAllWanted_31 (n + 49 + 1) 0 CG (fun D2 => pC_getAllWanted_104 (n + 50) 0 D2) _ = _
  rw [pC_getAllWanted_31, if_pos (by decide +kernel), h1]
  show pC_getAllWanted_31 (n + 48 + 1) (0 + 1) CI (fun D2 => pC_getAllWanted_104 (n + 50) 0 D2) (fun D3 => gD (up2 D3 2 4 (CF 2 4)) fun D4 => gD (cpy2 D4 10 3 1024) fun D5 => okR 0 D5) = _
  rw [pC_getAllWanted_31, if_neg (by decide +kernel)]
  show pC_getAllWanted_104 (n + 49 + 1) 0 CI = _
  rw [pC_getAllWanted_104, if_pos (by decide +kernel), h2]
  show pC_getAllWanted_104 (n + 48 + 1) (0 + 1) CJ = _
  rw [pC_getAllWanted_104, if_neg (by decide +kernel)]
theorem e_mk3 : pC_markWritten 10 CM = okR 0 CN := by
  obtain ⟨n, hn⟩ := fu_s
  unfold pC_markWritten
  rw [hn]
  rfl
theorem e_cc : pS_changeCount 0 1 CL = okR 0 CN := by
  show bnd (pC_markWritten 10 CM) (fun _ D2 => okR 0 D2) = _
  rw [e_mk3]
  rfl
theorem e_join : pS_join 0 CE = okR 1 CN := by
  show bnd (pC_getAllWanted CF) (fun v1 D5 => if (w32 v1) = 0 then okR 0 D5 else
      gD (pI_setPlaceOfRights 0 (pC_got 0 D5) D5) fun D6 =>
      gD (pI_putUnit (pC_got 0 D6) 0 D6) fun D7 =>
      bnd (pS_changeCount 0 1 D7) fun _ D2 => okR 1 D2) = _
  rw [e_ga2]
  show bnd (pS_changeCount 0 1 CL) (fun _ D2 => okR 1 D2) = _
  rw [e_cc]
  rfl
def CP : DD := pF_keepAsWhole CO
theorem e_ini : pH_ini C0 = okR 0 CP := by
  show bnd (pC_getAllWanted C1) (fun v1 D3 =>
    gD (pH_enterKey (pC_got 0 D3) 0 (-1) (-1) D3) fun D4 =>
    bnd (pS_join 0 D4) fun v2 D5 =>
    gD (pC_forgetDirty D5) fun D6 =>
    gD (pF_keepAsWhole D6) fun D7 =>
    okR 0 D7) = _
  rw [e_ga1]
  show bnd (pS_join 0 CE) (fun v2 D5 =>
    gD (pC_forgetDirty D5) fun D6 =>
    gD (pF_keepAsWhole D6) fun D7 =>
    okR 0 D7) = _
  rw [e_join]
  rfl
