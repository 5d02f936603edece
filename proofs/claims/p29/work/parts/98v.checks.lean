/-! what the readings say, by the kernel -/
theorem all_ck : (ckv (pH_ini (img (img (img Dz 2) 21) 26)) 0 &&
  decide ((pE_key 0 0 (-1) 0) = 1) &&
  decide (LE4 32 0 = 1) &&
  ckv (pE_file LE8) 244152 &&
  decide (LE10 41 12 = 1) &&
  ckv (pE_isTree LE10) 1 &&
  decide ((pH_dirty LE11) = 0) &&
  ckv (pH_takeNotice LE11) (-1) &&
  ckv (pE_part XS 4 0 40 LE12) 30 &&
  ckv (pE_part XS 4 1 6000 LE13) 0 &&
  ckv (pE_part XS 4 2 7000 LE14) 0 &&
  ckv (pE_part XS 4 3 8000 LE15) 0 &&
  decide (LE16 41 9 = 0) &&
  decide (LE16 41 9 = 0) &&
  decide (LE16 41 9 = 0) &&
  decide (LE16 41 9 = 0) &&
  ckv (pH_takeNotice LE17) (-1) &&
  ckv (pE_isFile LE18) 1 &&
  ckv (pE_isTree LE19) 1 &&
  decide (174 ≤ LE20 99 0)) = true := by decide +kernel
theorem ck_l {a b : Bool} (h : (a && b) = true) : a = true := by cases a <;> simp_all
theorem ck_r {a b : Bool} (h : (a && b) = true) : b = true := by cases b <;> simp_all
theorem k1 : ckv (pH_ini (img (img (img Dz 2) 21) 26)) 0 = true := (ck_l (ck_l (ck_l (ck_l (ck_l (ck_l (ck_l (ck_l (ck_l (ck_l (ck_l (ck_l (ck_l (ck_l (ck_l (ck_l (ck_l (ck_l (ck_l all_ck)))))))))))))))))))
theorem k2 : decide ((pE_key 0 0 (-1) 0) = 1) = true := (ck_r (ck_l (ck_l (ck_l (ck_l (ck_l (ck_l (ck_l (ck_l (ck_l (ck_l (ck_l (ck_l (ck_l (ck_l (ck_l (ck_l (ck_l (ck_l all_ck)))))))))))))))))))
theorem k3 : decide (LE4 32 0 = 1) = true := (ck_r (ck_l (ck_l (ck_l (ck_l (ck_l (ck_l (ck_l (ck_l (ck_l (ck_l (ck_l (ck_l (ck_l (ck_l (ck_l (ck_l (ck_l all_ck))))))))))))))))))
theorem k4 : ckv (pE_file LE8) 244152 = true := (ck_r (ck_l (ck_l (ck_l (ck_l (ck_l (ck_l (ck_l (ck_l (ck_l (ck_l (ck_l (ck_l (ck_l (ck_l (ck_l (ck_l all_ck)))))))))))))))))
theorem k5 : decide (LE10 41 12 = 1) = true := (ck_r (ck_l (ck_l (ck_l (ck_l (ck_l (ck_l (ck_l (ck_l (ck_l (ck_l (ck_l (ck_l (ck_l (ck_l (ck_l all_ck))))))))))))))))
theorem k6 : ckv (pE_isTree LE10) 1 = true := (ck_r (ck_l (ck_l (ck_l (ck_l (ck_l (ck_l (ck_l (ck_l (ck_l (ck_l (ck_l (ck_l (ck_l (ck_l all_ck)))))))))))))))
theorem k7 : decide ((pH_dirty LE11) = 0) = true := (ck_r (ck_l (ck_l (ck_l (ck_l (ck_l (ck_l (ck_l (ck_l (ck_l (ck_l (ck_l (ck_l (ck_l all_ck))))))))))))))
theorem k8 : ckv (pH_takeNotice LE11) (-1) = true := (ck_r (ck_l (ck_l (ck_l (ck_l (ck_l (ck_l (ck_l (ck_l (ck_l (ck_l (ck_l (ck_l all_ck)))))))))))))
theorem k9 : ckv (pE_part XS 4 0 40 LE12) 30 = true := (ck_r (ck_l (ck_l (ck_l (ck_l (ck_l (ck_l (ck_l (ck_l (ck_l (ck_l (ck_l all_ck))))))))))))
theorem k10 : ckv (pE_part XS 4 1 6000 LE13) 0 = true := (ck_r (ck_l (ck_l (ck_l (ck_l (ck_l (ck_l (ck_l (ck_l (ck_l (ck_l all_ck)))))))))))
theorem k11 : ckv (pE_part XS 4 2 7000 LE14) 0 = true := (ck_r (ck_l (ck_l (ck_l (ck_l (ck_l (ck_l (ck_l (ck_l (ck_l all_ck))))))))))
theorem k12 : ckv (pE_part XS 4 3 8000 LE15) 0 = true := (ck_r (ck_l (ck_l (ck_l (ck_l (ck_l (ck_l (ck_l (ck_l all_ck)))))))))
theorem k13 : decide (LE16 41 9 = 0) = true := (ck_r (ck_l (ck_l (ck_l (ck_l (ck_l (ck_l (ck_l all_ck))))))))
theorem k14 : decide (LE16 41 9 = 0) = true := (ck_r (ck_l (ck_l (ck_l (ck_l (ck_l (ck_l all_ck)))))))
theorem k15 : decide (LE16 41 9 = 0) = true := (ck_r (ck_l (ck_l (ck_l (ck_l (ck_l all_ck))))))
theorem k16 : decide (LE16 41 9 = 0) = true := (ck_r (ck_l (ck_l (ck_l (ck_l all_ck)))))
theorem k17 : ckv (pH_takeNotice LE17) (-1) = true := (ck_r (ck_l (ck_l (ck_l all_ck))))
theorem k18 : ckv (pE_isFile LE18) 1 = true := (ck_r (ck_l (ck_l all_ck)))
theorem k19 : ckv (pE_isTree LE19) 1 = true := (ck_r (ck_l all_ck))
theorem k20 : decide (174 ≤ LE20 99 0) = true := (ck_r all_ck)
