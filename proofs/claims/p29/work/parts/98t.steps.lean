/-! the law's first steps over the script [30, 0, 0, 0] -/
def Dz : DD := fun _ _ => 0
def XS : Nat → Int32 := fun j => if j = 0 then 30 else 0
def rD (r : Res) : DD := match r with
  | some (_, D) => D
  | none => fun _ _ => 0
def ckv (r : Res) (v : Int) : Bool := match r with
  | some (.inl w, _) => decide (w = v)
  | _ => false
theorem ckv_ok {r : Res} {v : Int} (h : ckv r v = true) : r = some (.inl v, rD r) := by
  unfold ckv at h
  split at h
  · rw [of_decide_eq_true h]; rfl
  · cases h
def LE1 : DD := rD (pH_ini (img (img (img Dz 2) 21) 26))
def LE2 : DD := fun x => if x < 32 then LE1 x else fun _ => 0
def LE3 : DD := up2 LE2 99 0 46
def LE4 : DD := up2 LE3 32 0 1
def LE5 : DD := up2 LE4 34 0 1
def LE6 : DD := up2 LE5 41 0 1
def LE7 : DD := up2 LE6 41 4 1
def LE8 : DD := up2 LE7 41 6 (-1)
def LE9 : DD := rD (pE_file LE8)
def LE10 : DD := up2 LE9 42 1 244152
def LE11 : DD := rD (pE_isTree LE10)
def LE12 : DD := rD (pH_takeNotice LE11)
def LE13 : DD := rD (pE_part XS 4 0 40 LE12)
def LE14 : DD := rD (pE_part XS 4 1 6000 LE13)
def LE15 : DD := rD (pE_part XS 4 2 7000 LE14)
def LE16 : DD := rD (pE_part XS 4 3 8000 LE15)
def LE17 : DD := up2 LE16 41 9 0
def LE18 : DD := rD (pH_takeNotice LE17)
def LE19 : DD := rD (pE_isFile LE18)
def LE20 : DD := rD (pE_isTree LE19)
