/-! what the readings say, by the kernel -/
theorem all_ck : (ckv (pH_ini (img (img (img Dz 2) 21) 26)) 0 &&
  decide ((pE_key 0 0 (-1) 0) = 1) &&
  decide (LE4 32 0 = 1) &&
  ckv (pE_file LE8) 244152 &&
  decide (LE10 41 12 = 1) &&
  ckv (pE_isTree LE10) 1 &&
  decide ((pH_dirty LE11) = 0) &&
  ckv (pH_takeNotice LE11) (-1) &&
  ckv (pE_part XS 100 0 40 LE12) 39 &&
  ckv (pE_part XS 100 1 6000 LE13) 5636 &&
  ckv (pE_part XS 100 2 7000 LE14) 25 &&
  ckv (pE_part XS 100 3 8000 LE15) 62 &&
  decide (LE16 41 0 = 1) &&
  decide (LE16 41 6 = (-1)) &&
  ckv (pE_copies LE16) 0 &&
  decide (LE17 41 4 = 1) &&
  decide (LE18 41 5 = 0) &&
  decide (LE21 43 2 = 0) &&
  ckv (pH_crash LE83) 0 &&
  decide (LE84 41 7 = 0) &&
  decide ((pH_dirty LE84) = 0) &&
  ckv (pE_file LE84) 244152 &&
  decide (LE85 42 1 = 244152) &&
  ckv (pE_isFile LE85) 1 &&
  ckv (pE_isTree LE86) 1 &&
  decide (174 ≤ LE87 99 0)) = true := by decide +kernel
theorem ck_l {a b : Bool} (h : (a && b) = true) : a = true := by cases a <;> simp_all
theorem ck_r {a b : Bool} (h : (a && b) = true) : b = true := by cases b <;> simp_all
theorem k1 : ckv (pH_ini (img (img (img Dz 2) 21) 26)) 0 = true := (ck_l (ck_l (ck_l (ck_l (ck_l (ck_l (ck_l (ck_l (ck_l (ck_l (ck_l (ck_l (ck_l (ck_l (ck_l (ck_l (ck_l (ck_l (ck_l (ck_l (ck_l (ck_l (ck_l (ck_l (ck_l all_ck)))))))))))))))))))))))))
theorem k2 : decide ((pE_key 0 0 (-1) 0) = 1) = true := (ck_r (ck_l (ck_l (ck_l (ck_l (ck_l (ck_l (ck_l (ck_l (ck_l (ck_l (ck_l (ck_l (ck_l (ck_l (ck_l (ck_l (ck_l (ck_l (ck_l (ck_l (ck_l (ck_l (ck_l (ck_l all_ck)))))))))))))))))))))))))
theorem k3 : decide (LE4 32 0 = 1) = true := (ck_r (ck_l (ck_l (ck_l (ck_l (ck_l (ck_l (ck_l (ck_l (ck_l (ck_l (ck_l (ck_l (ck_l (ck_l (ck_l (ck_l (ck_l (ck_l (ck_l (ck_l (ck_l (ck_l (ck_l all_ck))))))))))))))))))))))))
theorem k4 : ckv (pE_file LE8) 244152 = true := (ck_r (ck_l (ck_l (ck_l (ck_l (ck_l (ck_l (ck_l (ck_l (ck_l (ck_l (ck_l (ck_l (ck_l (ck_l (ck_l (ck_l (ck_l (ck_l (ck_l (ck_l (ck_l (ck_l all_ck)))))))))))))))))))))))
theorem k5 : decide (LE10 41 12 = 1) = true := (ck_r (ck_l (ck_l (ck_l (ck_l (ck_l (ck_l (ck_l (ck_l (ck_l (ck_l (ck_l (ck_l (ck_l (ck_l (ck_l (ck_l (ck_l (ck_l (ck_l (ck_l (ck_l all_ck))))))))))))))))))))))
theorem k6 : ckv (pE_isTree LE10) 1 = true := (ck_r (ck_l (ck_l (ck_l (ck_l (ck_l (ck_l (ck_l (ck_l (ck_l (ck_l (ck_l (ck_l (ck_l (ck_l (ck_l (ck_l (ck_l (ck_l (ck_l (ck_l all_ck)))))))))))))))))))))
theorem k7 : decide ((pH_dirty LE11) = 0) = true := (ck_r (ck_l (ck_l (ck_l (ck_l (ck_l (ck_l (ck_l (ck_l (ck_l (ck_l (ck_l (ck_l (ck_l (ck_l (ck_l (ck_l (ck_l (ck_l (ck_l all_ck))))))))))))))))))))
theorem k8 : ckv (pH_takeNotice LE11) (-1) = true := (ck_r (ck_l (ck_l (ck_l (ck_l (ck_l (ck_l (ck_l (ck_l (ck_l (ck_l (ck_l (ck_l (ck_l (ck_l (ck_l (ck_l (ck_l (ck_l all_ck)))))))))))))))))))
theorem k9 : ckv (pE_part XS 100 0 40 LE12) 39 = true := (ck_r (ck_l (ck_l (ck_l (ck_l (ck_l (ck_l (ck_l (ck_l (ck_l (ck_l (ck_l (ck_l (ck_l (ck_l (ck_l (ck_l (ck_l all_ck))))))))))))))))))
theorem k10 : ckv (pE_part XS 100 1 6000 LE13) 5636 = true := (ck_r (ck_l (ck_l (ck_l (ck_l (ck_l (ck_l (ck_l (ck_l (ck_l (ck_l (ck_l (ck_l (ck_l (ck_l (ck_l (ck_l all_ck)))))))))))))))))
theorem k11 : ckv (pE_part XS 100 2 7000 LE14) 25 = true := (ck_r (ck_l (ck_l (ck_l (ck_l (ck_l (ck_l (ck_l (ck_l (ck_l (ck_l (ck_l (ck_l (ck_l (ck_l (ck_l all_ck))))))))))))))))
theorem k12 : ckv (pE_part XS 100 3 8000 LE15) 62 = true := (ck_r (ck_l (ck_l (ck_l (ck_l (ck_l (ck_l (ck_l (ck_l (ck_l (ck_l (ck_l (ck_l (ck_l (ck_l all_ck)))))))))))))))
theorem k13 : decide (LE16 41 0 = 1) = true := (ck_r (ck_l (ck_l (ck_l (ck_l (ck_l (ck_l (ck_l (ck_l (ck_l (ck_l (ck_l (ck_l (ck_l all_ck))))))))))))))
theorem k14 : decide (LE16 41 6 = (-1)) = true := (ck_r (ck_l (ck_l (ck_l (ck_l (ck_l (ck_l (ck_l (ck_l (ck_l (ck_l (ck_l (ck_l all_ck)))))))))))))
theorem k15 : ckv (pE_copies LE16) 0 = true := (ck_r (ck_l (ck_l (ck_l (ck_l (ck_l (ck_l (ck_l (ck_l (ck_l (ck_l (ck_l all_ck))))))))))))
theorem k16 : decide (LE17 41 4 = 1) = true := (ck_r (ck_l (ck_l (ck_l (ck_l (ck_l (ck_l (ck_l (ck_l (ck_l (ck_l all_ck)))))))))))
theorem k17 : decide (LE18 41 5 = 0) = true := (ck_r (ck_l (ck_l (ck_l (ck_l (ck_l (ck_l (ck_l (ck_l (ck_l all_ck))))))))))
theorem k18 : decide (LE21 43 2 = 0) = true := (ck_r (ck_l (ck_l (ck_l (ck_l (ck_l (ck_l (ck_l (ck_l all_ck)))))))))
theorem k19 : ckv (pH_crash LE83) 0 = true := (ck_r (ck_l (ck_l (ck_l (ck_l (ck_l (ck_l (ck_l all_ck))))))))
theorem k20 : decide (LE84 41 7 = 0) = true := (ck_r (ck_l (ck_l (ck_l (ck_l (ck_l (ck_l all_ck)))))))
theorem k21 : decide ((pH_dirty LE84) = 0) = true := (ck_r (ck_l (ck_l (ck_l (ck_l (ck_l all_ck))))))
theorem k22 : ckv (pE_file LE84) 244152 = true := (ck_r (ck_l (ck_l (ck_l (ck_l all_ck)))))
theorem k23 : decide (LE85 42 1 = 244152) = true := (ck_r (ck_l (ck_l (ck_l all_ck))))
theorem k24 : ckv (pE_isFile LE85) 1 = true := (ck_r (ck_l (ck_l all_ck)))
theorem k25 : ckv (pE_isTree LE86) 1 = true := (ck_r (ck_l all_ck))
theorem k26 : decide (174 ≤ LE87 99 0) = true := (ck_r all_ck)
