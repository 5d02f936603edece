/-! the law's first steps over the script of the printed start -/
def Dz : DD := fun _ _ => 0
def scr : List Int32 := [(-49), (-12), 25, 62, 99, 136, 173, (-41), (-4), 33, 70, 107, 144, 181, (-33), 4, 41, 78, 115, 152, 189, (-25), 12, 49, 86, 123, 160, (-54), (-17), 20, 57, 94, 131, 168, (-46), (-9), 28, 65, 102, 139, 176, (-38), (-1), 36, 73, 110, 147, 184, (-30), 7, 44, 81, 118, 155, (-59), (-22), 15, 52, 89, 126, 163, (-51), (-14), 23, 60, 97, 134, 171, (-43), (-6), 31, 68, 105, 142, 179, (-35), 2, 39, 76, 113, 150, 187, (-27), 10, 47, 84, 121, 158, (-56), (-19), 18, 55, 92, 129, 166, (-48), (-11), 26, 63, 100]
def XS : Nat → Int32 := fun j => scr.getD j 0
def rD (r : Res) : DD := match r with
  | some (_, D) => D
  | none => fun _ _ => 0
def ckv (r : Res) (v : Int) : Bool := match r with
  | some (.inl w, _) => decide (w = v)
  | _ => false
theorem ckv_ok {r : Res} {v : Int} (h : ckv r v = true) : r = some (.inl v, rD r) := by
  unfold ckv at h
  split at h
  · rw [of_decide_eq_true h]; rfl
  · cases h
def LE1 : DD := rD (pH_ini (img (img (img Dz 2) 21) 26))
def LE2 : DD := fun x => if x < 32 then LE1 x else fun _ => 0
def LE3 : DD := up2 LE2 99 0 46
def LE4 : DD := up2 LE3 32 0 1
def LE5 : DD := up2 LE4 34 0 1
def LE6 : DD := up2 LE5 41 0 1
def LE7 : DD := up2 LE6 41 4 1
def LE8 : DD := up2 LE7 41 6 (-1)
def LE9 : DD := rD (pE_file LE8)
def LE10 : DD := up2 LE9 42 1 244152
def LE11 : DD := rD (pE_isTree LE10)
def LE12 : DD := rD (pH_takeNotice LE11)
def LE13 : DD := rD (pE_part XS 100 0 40 LE12)
def LE14 : DD := rD (pE_part XS 100 1 6000 LE13)
def LE15 : DD := rD (pE_part XS 100 2 7000 LE14)
def LE16 : DD := rD (pE_part XS 100 3 8000 LE15)
def LE17 : DD := rD (pE_copies LE16)
def LE18 : DD := up2 LE17 41 0 1
def LE19 : DD := up2 LE18 41 1 0
def LE20 : DD := up2 LE19 41 6 (-1)
def LE21 : DD := up2 LE20 41 9 0
def LE22 : DD := up2 LE21 43 0 0
def LE23 : DD := up2 LE22 43 3 0
def LE24 : DD := up2 LE23 44 0 0
def LE25 : DD := up2 LE24 44 1 0
def LE26 : DD := up2 LE25 44 2 0
def LE27 : DD := up2 LE26 44 3 0
def LE28 : DD := up2 LE27 44 4 0
def LE29 : DD := up2 LE28 44 5 0
def LE30 : DD := up2 LE29 44 6 0
def LE31 : DD := up2 LE30 44 7 0
def LE32 : DD := up2 LE31 44 8 0
def LE33 : DD := up2 LE32 44 9 0
def LE34 : DD := up2 LE33 44 10 0
def LE35 : DD := up2 LE34 44 11 0
def LE36 : DD := up2 LE35 44 12 0
def LE37 : DD := up2 LE36 44 13 0
def LE38 : DD := up2 LE37 44 14 0
def LE39 : DD := up2 LE38 44 15 0
def LE40 : DD := up2 LE39 44 16 0
def LE41 : DD := up2 LE40 44 17 0
def LE42 : DD := up2 LE41 44 18 0
def LE43 : DD := up2 LE42 44 19 0
def LE44 : DD := up2 LE43 44 20 0
def LE45 : DD := up2 LE44 44 21 0
def LE46 : DD := up2 LE45 44 22 0
def LE47 : DD := up2 LE46 44 23 0
def LE48 : DD := up2 LE47 44 24 0
def LE49 : DD := up2 LE48 44 25 0
def LE50 : DD := up2 LE49 44 26 0
def LE51 : DD := up2 LE50 44 27 0
def LE52 : DD := up2 LE51 44 28 0
def LE53 : DD := up2 LE52 44 29 0
def LE54 : DD := up2 LE53 44 30 0
def LE55 : DD := up2 LE54 44 31 0
def LE56 : DD := up2 LE55 44 32 0
def LE57 : DD := up2 LE56 44 33 0
def LE58 : DD := up2 LE57 44 34 0
def LE59 : DD := up2 LE58 44 35 0
def LE60 : DD := up2 LE59 44 36 0
def LE61 : DD := up2 LE60 44 37 0
def LE62 : DD := up2 LE61 44 38 0
def LE63 : DD := up2 LE62 44 39 0
def LE64 : DD := up2 LE63 44 40 0
def LE65 : DD := up2 LE64 44 41 0
def LE66 : DD := up2 LE65 44 42 0
def LE67 : DD := up2 LE66 44 43 0
def LE68 : DD := up2 LE67 44 44 0
def LE69 : DD := up2 LE68 44 45 0
def LE70 : DD := up2 LE69 44 46 0
def LE71 : DD := up2 LE70 44 47 0
def LE72 : DD := up2 LE71 44 48 0
def LE73 : DD := up2 LE72 44 49 0
def LE74 : DD := up2 LE73 44 50 0
def LE75 : DD := up2 LE74 44 51 0
def LE76 : DD := up2 LE75 44 52 0
def LE77 : DD := up2 LE76 44 53 0
def LE78 : DD := up2 LE77 44 54 0
def LE79 : DD := up2 LE78 44 55 0
def LE80 : DD := up2 LE79 44 56 0
def LE81 : DD := up2 LE80 44 57 0
def LE82 : DD := up2 LE81 44 58 0
def LE83 : DD := up2 LE82 44 59 0
def LE84 : DD := rD (pH_crash LE83)
def LE85 : DD := rD (pE_file LE84)
def LE86 : DD := rD (pE_isFile LE85)
def LE87 : DD := rD (pE_isTree LE86)
