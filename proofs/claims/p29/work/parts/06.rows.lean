/-! a row an instruction -/
theorem inR_toInt {z : Int} (h : inR z) : (Int32.ofInt z).toInt = z := Int32.toInt_ofInt_of_le (by have := h.1; omega) (by have := h.2; omega)
theorem inJ_toInt {z : Int} (h : inJ z) : (Int64.ofInt z).toInt = z := Int64.toInt_ofInt_of_le (by have := h.1; omega) (by have := h.2; omega)
theorem inR_of {x : Int32} : inR x.toInt := ⟨Int32.le_toInt x, Int32.toInt_le x⟩
theorem ofI_le {a b : Int} (ha : inR a) (hb : inR b) : Int32.ofInt a ≤ Int32.ofInt b ↔ a ≤ b := by rw [Int32.le_iff_toInt_le, inR_toInt ha, inR_toInt hb]
theorem ofI_lt {a b : Int} (ha : inR a) (hb : inR b) : Int32.ofInt a < Int32.ofInt b ↔ a < b := by rw [Int32.lt_iff_toInt_lt, inR_toInt ha, inR_toInt hb]
theorem ofI_eq {a b : Int} (ha : inR a) (hb : inR b) : Int32.ofInt a = Int32.ofInt b ↔ a = b := by rw [← Int32.toInt_inj, inR_toInt ha, inR_toInt hb]
theorem ofI_0 : (0 : Int32) = Int32.ofInt 0 := rfl
theorem inR_0 : inR 0 := ⟨by decide, by decide⟩
theorem ofI_clamp {z : Int} (h : inR z) : (Int32.ofInt z).toNatClampNeg = z.toNat := by
  show (Int32.ofInt z).toInt.toNat = z.toNat
  rw [inR_toInt h]
theorem ofI_in {z : Int} {n : Nat} (h0 : 0 ≤ z) (h1 : z < n) (hn : n < 2147483648) : vp_in (Int32.ofInt z) n := by
  have hR : inR z := ⟨by omega, by omega⟩
  unfold vp_in
  rw [ofI_clamp hR, ofI_0, ofI_lt hR inR_0]
  omega
section ROWS
variable {Γ : GG} {rg : Nat → Bool} {κ : Nat} {y : YT} {pc : Nat} {ls st : List PV} {D : DD} {Φ : OT → DD → Prop}
theorem r_iconst {n : Int} (hd : decode (yB y) pc = .ok (.iconst n, 1)) (k : Run Γ rg κ y (pc + 1) ls ((0, n) :: st) D Φ) : Run Γ rg κ y pc ls st D Φ := by
  intro p e R s m args below meth c H locs lsm cells slots q mc ms C hH hS hl h1 h2 h3 h4
  exact lv_iconst C.1 C.2.1 hd rfl (k p e R s m args below meth c H locs lsm cells slots q mc ms C hH hS hl h1 h2 h3 h4)
theorem r_bipush {n : Int} (hd : decode (yB y) pc = .ok (.bipush n, 2)) (hn : -128 ≤ n ∧ n ≤ 127) (k : Run Γ rg κ y (pc + 2) ls ((0, n) :: st) D Φ) : Run Γ rg κ y pc ls st D Φ := by
  intro p e R s m args below meth c H locs lsm cells slots q mc ms C hH hS hl h1 h2 h3 h4
  refine lv_bipush C.1 C.2.1 hd (v := Int32.ofInt n) ?_ (k p e R s m args below meth c H locs lsm cells slots q mc ms C hH hS hl h1 h2 h3 h4)
  rw [← Int32.toInt_inj, Int8.toInt_toInt32, Int8.toInt_ofInt_of_le (by omega) (by omega), inR_toInt ⟨by omega, by omega⟩]
theorem r_sipush {n : Int} (hd : decode (yB y) pc = .ok (.sipush n, 3)) (hn : -32768 ≤ n ∧ n ≤ 32767) (k : Run Γ rg κ y (pc + 3) ls ((0, n) :: st) D Φ) : Run Γ rg κ y pc ls st D Φ := by
  intro p e R s m args below meth c H locs lsm cells slots q mc ms C hH hS hl h1 h2 h3 h4
  refine lv_sipush C.1 C.2.1 hd (v := Int32.ofInt n) ?_ (k p e R s m args below meth c H locs lsm cells slots q mc ms C hH hS hl h1 h2 h3 h4)
  rw [← Int32.toInt_inj, Int16.toInt_toInt32, Int16.toInt_ofInt_of_le (by omega) (by omega), inR_toInt ⟨by omega, by omega⟩]
theorem r_lconst {n : Fin 2} (hd : decode (yB y) pc = .ok (.lconst n, 1)) (k : Run Γ rg κ y (pc + 1) ls ((1, ((n : Nat) : Int)) :: st) D Φ) : Run Γ rg κ y pc ls st D Φ := by
  intro p e R s m args below meth c H locs lsm cells slots q mc ms C hH hS hl h1 h2 h3 h4
  exact lv_lconst C.1 C.2.1 hd (Int64.ofInt_eq_ofNat).symm (k p e R s m args below meth c H locs lsm cells slots q mc ms C hH hS hl h1 h2 h3 h4)
theorem r_iload_n {i : Fin 4} {z : Int} (hd : decode (yB y) pc = .ok (.iload_n i, 1)) (hv : ls[(i : Nat)]? = some (0, z)) (k : Run Γ rg κ y (pc + 1) ls ((0, z) :: st) D Φ) : Run Γ rg κ y pc ls st D Φ := by
  intro p e R s m args below meth c H locs lsm cells slots q mc ms C hH hS hl h1 h2 h3 h4
  exact lv_iload_n C.1 C.2.1 hd rfl (hl.2.2 _ _ hv (by show (0 : Nat) ≠ 5; decide)) (k p e R s m args below meth c H locs lsm cells slots q mc ms C hH hS hl h1 h2 h3 h4)
theorem r_iload {i : Nat} {z : Int} (hd : decode (yB y) pc = .ok (.iload i, 2)) (hv : ls[i]? = some (0, z)) (k : Run Γ rg κ y (pc + 2) ls ((0, z) :: st) D Φ) : Run Γ rg κ y pc ls st D Φ := by
  intro p e R s m args below meth c H locs lsm cells slots q mc ms C hH hS hl h1 h2 h3 h4
  exact lv_iload C.1 C.2.1 hd (hl.2.2 _ _ hv (by show (0 : Nat) ≠ 5; decide)) (k p e R s m args below meth c H locs lsm cells slots q mc ms C hH hS hl h1 h2 h3 h4)
theorem r_lload_n {i : Fin 4} {z : Int} (hd : decode (yB y) pc = .ok (.lload_n i, 1)) (hv : ls[(i : Nat)]? = some (1, z)) (k : Run Γ rg κ y (pc + 1) ls ((1, z) :: st) D Φ) : Run Γ rg κ y pc ls st D Φ := by
  intro p e R s m args below meth c H locs lsm cells slots q mc ms C hH hS hl h1 h2 h3 h4
  exact lv_lload_n C.1 C.2.1 hd rfl (hl.2.2 _ _ hv (by show (1 : Nat) ≠ 5; decide)) (k p e R s m args below meth c H locs lsm cells slots q mc ms C hH hS hl h1 h2 h3 h4)
theorem r_aload_n {i : Fin 4} {v : PV} (hd : decode (yB y) pc = .ok (.aload_n i, 1)) (hv : ls[(i : Nat)]? = some v) (h7 : 7 ≤ v.1) (k : Run Γ rg κ y (pc + 1) ls (v :: st) D Φ) : Run Γ rg κ y pc ls st D Φ := by
  intro p e R s m args below meth c H locs lsm cells slots q mc ms C hH hS hl h1 h2 h3 h4
  have hv' := hl.2.2 _ _ hv (by omega)
  have kk := k p e R s m args below meth c H locs lsm cells slots q mc ms C hH hS hl h1 h2 h3 h4
  rw [List.map_cons] at kk
  obtain ⟨x, hx⟩ := mv_ref (Γ := Γ) (q := q) (v := v) (by omega)
  rw [hx] at hv' kk
  exact lv_aload_n C.1 C.2.1 hd rfl hv' kk
theorem r_aload {i : Nat} {v : PV} (hd : decode (yB y) pc = .ok (.aload i, 2)) (hv : ls[i]? = some v) (h7 : 7 ≤ v.1) (k : Run Γ rg κ y (pc + 2) ls (v :: st) D Φ) : Run Γ rg κ y pc ls st D Φ := by
  intro p e R s m args below meth c H locs lsm cells slots q mc ms C hH hS hl h1 h2 h3 h4
  have hv' := hl.2.2 _ _ hv (by omega)
  have kk := k p e R s m args below meth c H locs lsm cells slots q mc ms C hH hS hl h1 h2 h3 h4
  rw [List.map_cons] at kk
  obtain ⟨x, hx⟩ := mv_ref (Γ := Γ) (q := q) (v := v) (by omega)
  rw [hx] at hv' kk
  exact lv_aload C.1 C.2.1 hd hv' kk
theorem r_istore_n {i : Fin 4} {z : Int} (hd : decode (yB y) pc = .ok (.istore_n i, 1)) (hi : (i : Nat) < yL y) (hp : pok ls i = true) (k : Run Γ rg κ y (pc + 1) (ls.set i (0, z)) st D Φ) : Run Γ rg κ y pc ls ((0, z) :: st) D Φ := by
  intro p e R s m args below meth c H locs lsm cells slots q mc ms C hH hS hl h1 h2 h3 h4
  exact lv_istore_n C.1 C.2.1 hd rfl hl.has hi rfl (fun lsm' hn => k p e R s m args below meth c H locs lsm' cells slots q mc ms C hH hS (hl.set1 (v := (0, z)) hp hn) h1 h2 h3 h4)
theorem r_istore {i : Nat} {z : Int} (hd : decode (yB y) pc = .ok (.istore i, 2)) (hi : i < yL y) (hp : pok ls i = true) (k : Run Γ rg κ y (pc + 2) (ls.set i (0, z)) st D Φ) : Run Γ rg κ y pc ls ((0, z) :: st) D Φ := by
  intro p e R s m args below meth c H locs lsm cells slots q mc ms C hH hS hl h1 h2 h3 h4
  exact lv_istore C.1 C.2.1 hd hl.has hi rfl (fun lsm' hn => k p e R s m args below meth c H locs lsm' cells slots q mc ms C hH hS (hl.set1 (v := (0, z)) hp hn) h1 h2 h3 h4)
theorem r_astore_n {i : Fin 4} {v : PV} (hd : decode (yB y) pc = .ok (.astore_n i, 1)) (hi : (i : Nat) < yL y) (hp : pok ls i = true) (h4' : 4 ≤ v.1) (k : Run Γ rg κ y (pc + 1) (ls.set i v) st D Φ) : Run Γ rg κ y pc ls (v :: st) D Φ := by
  intro p e R s m args below meth c H locs lsm cells slots q mc ms C hH hS hl h1 h2 h3 h4
  obtain ⟨x, hx⟩ := mv_ref (Γ := Γ) (q := q) (v := v) h4'
  rw [List.map_cons, hx]
  exact lv_astore_n C.1 C.2.1 hd rfl hl.has hi rfl (fun lsm' hn => k p e R s m args below meth c H locs lsm' cells slots q mc ms C hH hS (hl.set1 (v := v) hp (by rw [hx]; exact hn)) h1 h2 h3 h4)
theorem r_astore {i : Nat} {v : PV} (hd : decode (yB y) pc = .ok (.astore i, 2)) (hi : i < yL y) (hp : pok ls i = true) (h4' : 4 ≤ v.1) (k : Run Γ rg κ y (pc + 2) (ls.set i v) st D Φ) : Run Γ rg κ y pc ls (v :: st) D Φ := by
  intro p e R s m args below meth c H locs lsm cells slots q mc ms C hH hS hl h1 h2 h3 h4
  obtain ⟨x, hx⟩ := mv_ref (Γ := Γ) (q := q) (v := v) h4'
  rw [List.map_cons, hx]
  exact lv_astore C.1 C.2.1 hd hl.has hi rfl (fun lsm' hn => k p e R s m args below meth c H locs lsm' cells slots q mc ms C hH hS (hl.set1 (v := v) hp (by rw [hx]; exact hn)) h1 h2 h3 h4)
theorem r_iinc {i : Nat} {n z : Int} (hd : decode (yB y) pc = .ok (.iinc i n, 3)) (hv : ls[i]? = some (0, z)) (hi : i < yL y) (hp : pok ls i = true) (k : Run Γ rg κ y (pc + 3) (ls.set i (0, z + n)) st D Φ) : Run Γ rg κ y pc ls st D Φ := by
  intro p e R s m args below meth c H locs lsm cells slots q mc ms C hH hS hl h1 h2 h3 h4
  obtain ⟨j, hj⟩ := List.getElem?_of_mem (lvl_mem (Γ := Γ) (q := q) hv (by show (0 : Nat) ≠ 5; decide))
  exact lv_iinc C.1 C.2.1 hd hl.has hj (by rw [← Int32.ofInt_add]) hi rfl (fun lsm' hn => k p e R s m args below meth c H locs lsm' cells slots q mc ms C hH hS (hl.set1 (v := (0, z + n)) hp hn) h1 h2 h3 h4)
theorem r_iadd {a b : Int} (hd : decode (yB y) pc = .ok (.iadd, 1)) (k : Run Γ rg κ y (pc + 1) ls ((0, a + b) :: st) D Φ) : Run Γ rg κ y pc ls ((0, b) :: (0, a) :: st) D Φ := by
  intro p e R s m args below meth c H locs lsm cells slots q mc ms C hH hS hl h1 h2 h3 h4
  refine lv_iadd C.1 C.2.1 hd ?_
  rw [← Int32.ofInt_add]
  exact k p e R s m args below meth c H locs lsm cells slots q mc ms C hH hS hl h1 h2 h3 h4
theorem r_isub {a b : Int} (hd : decode (yB y) pc = .ok (.isub, 1)) (k : Run Γ rg κ y (pc + 1) ls ((0, a - b) :: st) D Φ) : Run Γ rg κ y pc ls ((0, b) :: (0, a) :: st) D Φ := by
  intro p e R s m args below meth c H locs lsm cells slots q mc ms C hH hS hl h1 h2 h3 h4
  refine lv_isub C.1 C.2.1 hd ?_
  rw [← Int32.ofInt_sub]
  exact k p e R s m args below meth c H locs lsm cells slots q mc ms C hH hS hl h1 h2 h3 h4
theorem r_imul {a b : Int} (hd : decode (yB y) pc = .ok (.imul, 1)) (k : Run Γ rg κ y (pc + 1) ls ((0, a * b) :: st) D Φ) : Run Γ rg κ y pc ls ((0, b) :: (0, a) :: st) D Φ := by
  intro p e R s m args below meth c H locs lsm cells slots q mc ms C hH hS hl h1 h2 h3 h4
  refine lv_imul C.1 C.2.1 hd ?_
  rw [← Int32.ofInt_mul]
  exact k p e R s m args below meth c H locs lsm cells slots q mc ms C hH hS hl h1 h2 h3 h4
theorem r_ineg {a : Int} (hd : decode (yB y) pc = .ok (.ineg, 1)) (k : Run Γ rg κ y (pc + 1) ls ((0, -a) :: st) D Φ) : Run Γ rg κ y pc ls ((0, a) :: st) D Φ := by
  intro p e R s m args below meth c H locs lsm cells slots q mc ms C hH hS hl h1 h2 h3 h4
  refine lv_ineg C.1 C.2.1 hd ?_
  rw [← Int32.ofInt_neg]
  exact k p e R s m args below meth c H locs lsm cells slots q mc ms C hH hS hl h1 h2 h3 h4
theorem r_idiv {a b : Int} (hd : decode (yB y) pc = .ok (.idiv, 1)) (ha : inR a) (hb : inR b) (h0 : b ≠ 0) (k : Run Γ rg κ y (pc + 1) ls ((0, a.tdiv b) :: st) D Φ) : Run Γ rg κ y pc ls ((0, b) :: (0, a) :: st) D Φ := by
  intro p e R s m args below meth c H locs lsm cells slots q mc ms C hH hS hl h1 h2 h3 h4
  refine lv_idiv C.1 C.2.1 hd (by rw [ofI_0, ofI_eq hb inR_0]; exact h0) ?_
  rw [← Int32.ofInt_tdiv (show Int32.minValue.toInt ≤ a from ha.1) (show a ≤ Int32.maxValue.toInt from ha.2) (show Int32.minValue.toInt ≤ b from hb.1) (show b ≤ Int32.maxValue.toInt from hb.2)]
  exact k p e R s m args below meth c H locs lsm cells slots q mc ms C hH hS hl h1 h2 h3 h4
theorem r_irem {a b : Int} (hd : decode (yB y) pc = .ok (.irem, 1)) (ha : inR a) (hb : inR b) (h0 : b ≠ 0) (k : Run Γ rg κ y (pc + 1) ls ((0, a.tmod b) :: st) D Φ) : Run Γ rg κ y pc ls ((0, b) :: (0, a) :: st) D Φ := by
  intro p e R s m args below meth c H locs lsm cells slots q mc ms C hH hS hl h1 h2 h3 h4
  refine lv_irem C.1 C.2.1 hd (by rw [ofI_0, ofI_eq hb inR_0]; exact h0) ?_
  have e1 : Int32.ofInt a - Int32.ofInt a / Int32.ofInt b * Int32.ofInt b = Int32.ofInt (a.tmod b) := by
    rw [← Int32.ofInt_tdiv (show Int32.minValue.toInt ≤ a from ha.1) (show a ≤ Int32.maxValue.toInt from ha.2) (show Int32.minValue.toInt ≤ b from hb.1) (show b ≤ Int32.maxValue.toInt from hb.2), ← Int32.ofInt_mul, ← Int32.ofInt_sub]
    congr 1
    have := Int.mul_tdiv_add_tmod a b
    rw [Int.mul_comm] at this
    omega
  rw [e1]
  exact k p e R s m args below meth c H locs lsm cells slots q mc ms C hH hS hl h1 h2 h3 h4
theorem r_iand {a b : Int} (hd : decode (yB y) pc = .ok (.iand, 1)) (k : Run Γ rg κ y (pc + 1) ls ((0, (Int32.ofInt a &&& Int32.ofInt b).toInt) :: st) D Φ) : Run Γ rg κ y pc ls ((0, b) :: (0, a) :: st) D Φ := by
  intro p e R s m args below meth c H locs lsm cells slots q mc ms C hH hS hl h1 h2 h3 h4
  refine lv_iand C.1 C.2.1 hd ?_
  have := k p e R s m args below meth c H locs lsm cells slots q mc ms C hH hS hl h1 h2 h3 h4
  rw [List.map_cons, show mv Γ q (0, (Int32.ofInt a &&& Int32.ofInt b).toInt) = .int (Int32.ofInt (Int32.ofInt a &&& Int32.ofInt b).toInt) from rfl, Int32.ofInt_toInt] at this
  exact this
theorem r_lor {a b : Int} (hd : decode (yB y) pc = .ok (.lor, 1)) (k : Run Γ rg κ y (pc + 1) ls ((1, (Int64.ofInt a ||| Int64.ofInt b).toInt) :: st) D Φ) : Run Γ rg κ y pc ls ((1, b) :: (1, a) :: st) D Φ := by
  intro p e R s m args below meth c H locs lsm cells slots q mc ms C hH hS hl h1 h2 h3 h4
  refine lv_lor C.1 C.2.1 hd ?_
  have := k p e R s m args below meth c H locs lsm cells slots q mc ms C hH hS hl h1 h2 h3 h4
  rw [List.map_cons, show mv Γ q (1, (Int64.ofInt a ||| Int64.ofInt b).toInt) = .long (Int64.ofInt (Int64.ofInt a ||| Int64.ofInt b).toInt) from rfl, Int64.ofInt_toInt] at this
  exact this
theorem r_lshl {a b : Int} (hd : decode (yB y) pc = .ok (.lshl, 1)) (k : Run Γ rg κ y (pc + 1) ls ((1, (Int64.ofInt a <<< ((Int32.ofInt b).toInt64 &&& 63)).toInt) :: st) D Φ) : Run Γ rg κ y pc ls ((0, b) :: (1, a) :: st) D Φ := by
  intro p e R s m args below meth c H locs lsm cells slots q mc ms C hH hS hl h1 h2 h3 h4
  refine lv_lshl C.1 C.2.1 hd rfl ?_
  have := k p e R s m args below meth c H locs lsm cells slots q mc ms C hH hS hl h1 h2 h3 h4
  rw [List.map_cons, show mv Γ q (1, (Int64.ofInt a <<< ((Int32.ofInt b).toInt64 &&& 63)).toInt) = .long (Int64.ofInt (Int64.ofInt a <<< ((Int32.ofInt b).toInt64 &&& 63)).toInt) from rfl, Int64.ofInt_toInt] at this
  exact this
theorem r_i2l {a : Int} (hd : decode (yB y) pc = .ok (.i2l, 1)) (ha : inR a) (k : Run Γ rg κ y (pc + 1) ls ((1, a) :: st) D Φ) : Run Γ rg κ y pc ls ((0, a) :: st) D Φ := by
  intro p e R s m args below meth c H locs lsm cells slots q mc ms C hH hS hl h1 h2 h3 h4
  exact lv_i2l C.1 C.2.1 hd (Int32.toInt64_ofInt ha.1 ha.2) (k p e R s m args below meth c H locs lsm cells slots q mc ms C hH hS hl h1 h2 h3 h4)
theorem r_lcmp {a b : Int} (hd : decode (yB y) pc = .ok (.lcmp, 1)) (ha : inJ a) (hb : inJ b) (k : Run Γ rg κ y (pc + 1) ls ((0, if b < a then 1 else if a = b then 0 else -1) :: st) D Φ) : Run Γ rg κ y pc ls ((1, b) :: (1, a) :: st) D Φ := by
  intro p e R s m args below meth c H locs lsm cells slots q mc ms C hH hS hl h1 h2 h3 h4
  refine W.lcmp C.1 C.2.1 hd ?_
  have e1 : lg_cmp (Int64.ofInt a) (Int64.ofInt b) = Int32.ofInt (if b < a then 1 else if a = b then 0 else -1) := by
    unfold lg_cmp
    have q1 : (Int64.ofInt a > Int64.ofInt b) ↔ b < a := by
      show Int64.ofInt b < Int64.ofInt a ↔ b < a
      rw [Int64.lt_iff_toInt_lt, inJ_toInt ha, inJ_toInt hb]
    have q2 : (Int64.ofInt a = Int64.ofInt b) ↔ a = b := by rw [← Int64.toInt_inj, inJ_toInt ha, inJ_toInt hb]
    by_cases g1 : b < a
    · rw [if_pos (q1.mpr g1), if_pos g1]; rfl
    · rw [if_neg (fun h => g1 (q1.mp h)), if_neg g1]
      by_cases g2 : a = b
      · rw [if_pos (q2.mpr g2), if_pos g2]; rfl
      · rw [if_neg (fun h => g2 (q2.mp h)), if_neg g2]; rfl
  rw [e1]
  exact k p e R s m args below meth c H locs lsm cells slots q mc ms C hH hS hl h1 h2 h3 h4
theorem r_dup {v : PV} (hd : decode (yB y) pc = .ok (.dup, 1)) (hv : v.1 ≠ 1) (k : Run Γ rg κ y (pc + 1) ls (v :: v :: st) D Φ) : Run Γ rg κ y pc ls (v :: st) D Φ := by
  intro p e R s m args below meth c H locs lsm cells slots q mc ms C hH hS hl h1 h2 h3 h4
  exact lv_dup C.1 C.2.1 hd (mv_cat1 hv) (k p e R s m args below meth c H locs lsm cells slots q mc ms C hH hS hl h1 h2 h3 h4)
theorem r_dup2 {v w : PV} (hd : decode (yB y) pc = .ok (.dup2, 1)) (hv : v.1 ≠ 1) (hw : w.1 ≠ 1) (k : Run Γ rg κ y (pc + 1) ls (v :: w :: v :: w :: st) D Φ) : Run Γ rg κ y pc ls (v :: w :: st) D Φ := by
  intro p e R s m args below meth c H locs lsm cells slots q mc ms C hH hS hl h1 h2 h3 h4
  exact lv_dup2_11 C.1 C.2.1 hd (mv_cat1 hv) (mv_cat1 hw) (k p e R s m args below meth c H locs lsm cells slots q mc ms C hH hS hl h1 h2 h3 h4)
theorem r_pop {v : PV} (hd : decode (yB y) pc = .ok (.pop, 1)) (hv : v.1 ≠ 1) (k : Run Γ rg κ y (pc + 1) ls st D Φ) : Run Γ rg κ y pc ls (v :: st) D Φ := by
  intro p e R s m args below meth c H locs lsm cells slots q mc ms C hH hS hl h1 h2 h3 h4
  exact lv_pop C.1 C.2.1 hd (mv_cat1 hv) (k p e R s m args below meth c H locs lsm cells slots q mc ms C hH hS hl h1 h2 h3 h4)
theorem r_goto {off : Int} {tgt : Nat} (hd : decode (yB y) pc = .ok (.goto off, 3)) (ht : (pc : Int) + off = (tgt : Int)) (k : Run Γ rg κ y tgt ls st D Φ) : Run Γ rg κ y pc ls st D Φ := by
  intro p e R s m args below meth c H locs lsm cells slots q mc ms C hH hS hl h1 h2 h3 h4
  exact lv_goto C.1 C.2.1 hd ht (k p e R s m args below meth c H locs lsm cells slots q mc ms C hH hS hl h1 h2 h3 h4)
theorem r_icmp_eq {a b : Int} {off : Int} {tgt : Nat} (hd : decode (yB y) pc = .ok (.if_icmp .eq off, 3)) (ht : (pc : Int) + off = (tgt : Int)) (ha : inR a) (hb : inR b) (kt : a = b → Run Γ rg κ y tgt ls st D Φ) (kf : ¬ a = b → Run Γ rg κ y (pc + 3) ls st D Φ) : Run Γ rg κ y pc ls ((0, b) :: (0, a) :: st) D Φ := by
  intro p e R s m args below meth c H locs lsm cells slots q mc ms C hH hS hl h1 h2 h3 h4
  exact lv_icmp_eq C.1 C.2.1 hd ht (fun h => kt ((ofI_eq ha hb).mp h) p e R s m args below meth c H locs lsm cells slots q mc ms C hH hS hl h1 h2 h3 h4) (fun h => kf (fun g => h ((ofI_eq ha hb).mpr g)) p e R s m args below meth c H locs lsm cells slots q mc ms C hH hS hl h1 h2 h3 h4)
theorem r_if_eq {a : Int} {off : Int} {tgt : Nat} (hd : decode (yB y) pc = .ok (.ifCond .eq off, 3)) (ht : (pc : Int) + off = (tgt : Int)) (ha : inR a) (kt : a = 0 → Run Γ rg κ y tgt ls st D Φ) (kf : ¬ a = 0 → Run Γ rg κ y (pc + 3) ls st D Φ) : Run Γ rg κ y pc ls ((0, a) :: st) D Φ := by
  intro p e R s m args below meth c H locs lsm cells slots q mc ms C hH hS hl h1 h2 h3 h4
  exact lv_if_eq C.1 C.2.1 hd ht (fun h => kt ((ofI_eq ha inR_0).mp h) p e R s m args below meth c H locs lsm cells slots q mc ms C hH hS hl h1 h2 h3 h4) (fun h => kf (fun g => h ((ofI_eq ha inR_0).mpr g)) p e R s m args below meth c H locs lsm cells slots q mc ms C hH hS hl h1 h2 h3 h4)
theorem r_icmp_ne {a b : Int} {off : Int} {tgt : Nat} (hd : decode (yB y) pc = .ok (.if_icmp .ne off, 3)) (ht : (pc : Int) + off = (tgt : Int)) (ha : inR a) (hb : inR b) (kt : ¬ a = b → Run Γ rg κ y tgt ls st D Φ) (kf : a = b → Run Γ rg κ y (pc + 3) ls st D Φ) : Run Γ rg κ y pc ls ((0, b) :: (0, a) :: st) D Φ := by
  intro p e R s m args below meth c H locs lsm cells slots q mc ms C hH hS hl h1 h2 h3 h4
  exact lv_icmp_ne C.1 C.2.1 hd ht (fun h => kt (fun g => h ((ofI_eq ha hb).mpr g)) p e R s m args below meth c H locs lsm cells slots q mc ms C hH hS hl h1 h2 h3 h4) (fun h => kf ((ofI_eq ha hb).mp h) p e R s m args below meth c H locs lsm cells slots q mc ms C hH hS hl h1 h2 h3 h4)
theorem r_if_ne {a : Int} {off : Int} {tgt : Nat} (hd : decode (yB y) pc = .ok (.ifCond .ne off, 3)) (ht : (pc : Int) + off = (tgt : Int)) (ha : inR a) (kt : ¬ a = 0 → Run Γ rg κ y tgt ls st D Φ) (kf : a = 0 → Run Γ rg κ y (pc + 3) ls st D Φ) : Run Γ rg κ y pc ls ((0, a) :: st) D Φ := by
  intro p e R s m args below meth c H locs lsm cells slots q mc ms C hH hS hl h1 h2 h3 h4
  exact lv_if_ne C.1 C.2.1 hd ht (fun h => kt (fun g => h ((ofI_eq ha inR_0).mpr g)) p e R s m args below meth c H locs lsm cells slots q mc ms C hH hS hl h1 h2 h3 h4) (fun h => kf ((ofI_eq ha inR_0).mp h) p e R s m args below meth c H locs lsm cells slots q mc ms C hH hS hl h1 h2 h3 h4)
theorem r_icmp_lt {a b : Int} {off : Int} {tgt : Nat} (hd : decode (yB y) pc = .ok (.if_icmp .lt off, 3)) (ht : (pc : Int) + off = (tgt : Int)) (ha : inR a) (hb : inR b) (kt : a < b → Run Γ rg κ y tgt ls st D Φ) (kf : b ≤ a → Run Γ rg κ y (pc + 3) ls st D Φ) : Run Γ rg κ y pc ls ((0, b) :: (0, a) :: st) D Φ := by
  intro p e R s m args below meth c H locs lsm cells slots q mc ms C hH hS hl h1 h2 h3 h4
  exact lv_icmp_lt C.1 C.2.1 hd ht (fun h => kt ((ofI_lt ha hb).mp h) p e R s m args below meth c H locs lsm cells slots q mc ms C hH hS hl h1 h2 h3 h4) (fun h => kf (Int.not_lt.mp fun g => h ((ofI_lt ha hb).mpr g)) p e R s m args below meth c H locs lsm cells slots q mc ms C hH hS hl h1 h2 h3 h4)
theorem r_if_lt {a : Int} {off : Int} {tgt : Nat} (hd : decode (yB y) pc = .ok (.ifCond .lt off, 3)) (ht : (pc : Int) + off = (tgt : Int)) (ha : inR a) (kt : a < 0 → Run Γ rg κ y tgt ls st D Φ) (kf : 0 ≤ a → Run Γ rg κ y (pc + 3) ls st D Φ) : Run Γ rg κ y pc ls ((0, a) :: st) D Φ := by
  intro p e R s m args below meth c H locs lsm cells slots q mc ms C hH hS hl h1 h2 h3 h4
  exact lv_if_lt C.1 C.2.1 hd ht (fun h => kt ((ofI_lt ha inR_0).mp h) p e R s m args below meth c H locs lsm cells slots q mc ms C hH hS hl h1 h2 h3 h4) (fun h => kf (Int.not_lt.mp fun g => h ((ofI_lt ha inR_0).mpr g)) p e R s m args below meth c H locs lsm cells slots q mc ms C hH hS hl h1 h2 h3 h4)
theorem r_icmp_ge {a b : Int} {off : Int} {tgt : Nat} (hd : decode (yB y) pc = .ok (.if_icmp .ge off, 3)) (ht : (pc : Int) + off = (tgt : Int)) (ha : inR a) (hb : inR b) (kt : b ≤ a → Run Γ rg κ y tgt ls st D Φ) (kf : a < b → Run Γ rg κ y (pc + 3) ls st D Φ) : Run Γ rg κ y pc ls ((0, b) :: (0, a) :: st) D Φ := by
  intro p e R s m args below meth c H locs lsm cells slots q mc ms C hH hS hl h1 h2 h3 h4
  exact lv_icmp_ge C.1 C.2.1 hd ht (fun h => kt ((ofI_le hb ha).mp h) p e R s m args below meth c H locs lsm cells slots q mc ms C hH hS hl h1 h2 h3 h4) (fun h => kf (Int.not_le.mp fun g => h ((ofI_le hb ha).mpr g)) p e R s m args below meth c H locs lsm cells slots q mc ms C hH hS hl h1 h2 h3 h4)
theorem r_if_ge {a : Int} {off : Int} {tgt : Nat} (hd : decode (yB y) pc = .ok (.ifCond .ge off, 3)) (ht : (pc : Int) + off = (tgt : Int)) (ha : inR a) (kt : 0 ≤ a → Run Γ rg κ y tgt ls st D Φ) (kf : a < 0 → Run Γ rg κ y (pc + 3) ls st D Φ) : Run Γ rg κ y pc ls ((0, a) :: st) D Φ := by
  intro p e R s m args below meth c H locs lsm cells slots q mc ms C hH hS hl h1 h2 h3 h4
  exact lv_if_ge C.1 C.2.1 hd ht (fun h => kt ((ofI_le inR_0 ha).mp h) p e R s m args below meth c H locs lsm cells slots q mc ms C hH hS hl h1 h2 h3 h4) (fun h => kf (Int.not_le.mp fun g => h ((ofI_le inR_0 ha).mpr g)) p e R s m args below meth c H locs lsm cells slots q mc ms C hH hS hl h1 h2 h3 h4)
theorem r_icmp_gt {a b : Int} {off : Int} {tgt : Nat} (hd : decode (yB y) pc = .ok (.if_icmp .gt off, 3)) (ht : (pc : Int) + off = (tgt : Int)) (ha : inR a) (hb : inR b) (kt : b < a → Run Γ rg κ y tgt ls st D Φ) (kf : a ≤ b → Run Γ rg κ y (pc + 3) ls st D Φ) : Run Γ rg κ y pc ls ((0, b) :: (0, a) :: st) D Φ := by
  intro p e R s m args below meth c H locs lsm cells slots q mc ms C hH hS hl h1 h2 h3 h4
  exact lv_icmp_gt C.1 C.2.1 hd ht (fun h => kt ((ofI_lt hb ha).mp h) p e R s m args below meth c H locs lsm cells slots q mc ms C hH hS hl h1 h2 h3 h4) (fun h => kf (Int.not_lt.mp fun g => h ((ofI_lt hb ha).mpr g)) p e R s m args below meth c H locs lsm cells slots q mc ms C hH hS hl h1 h2 h3 h4)
theorem r_if_gt {a : Int} {off : Int} {tgt : Nat} (hd : decode (yB y) pc = .ok (.ifCond .gt off, 3)) (ht : (pc : Int) + off = (tgt : Int)) (ha : inR a) (kt : 0 < a → Run Γ rg κ y tgt ls st D Φ) (kf : a ≤ 0 → Run Γ rg κ y (pc + 3) ls st D Φ) : Run Γ rg κ y pc ls ((0, a) :: st) D Φ := by
  intro p e R s m args below meth c H locs lsm cells slots q mc ms C hH hS hl h1 h2 h3 h4
  exact lv_if_gt C.1 C.2.1 hd ht (fun h => kt ((ofI_lt inR_0 ha).mp h) p e R s m args below meth c H locs lsm cells slots q mc ms C hH hS hl h1 h2 h3 h4) (fun h => kf (Int.not_lt.mp fun g => h ((ofI_lt inR_0 ha).mpr g)) p e R s m args below meth c H locs lsm cells slots q mc ms C hH hS hl h1 h2 h3 h4)
theorem r_icmp_le {a b : Int} {off : Int} {tgt : Nat} (hd : decode (yB y) pc = .ok (.if_icmp .le off, 3)) (ht : (pc : Int) + off = (tgt : Int)) (ha : inR a) (hb : inR b) (kt : a ≤ b → Run Γ rg κ y tgt ls st D Φ) (kf : b < a → Run Γ rg κ y (pc + 3) ls st D Φ) : Run Γ rg κ y pc ls ((0, b) :: (0, a) :: st) D Φ := by
  intro p e R s m args below meth c H locs lsm cells slots q mc ms C hH hS hl h1 h2 h3 h4
  exact lv_icmp_le C.1 C.2.1 hd ht (fun h => kt ((ofI_le ha hb).mp h) p e R s m args below meth c H locs lsm cells slots q mc ms C hH hS hl h1 h2 h3 h4) (fun h => kf (Int.not_le.mp fun g => h ((ofI_le ha hb).mpr g)) p e R s m args below meth c H locs lsm cells slots q mc ms C hH hS hl h1 h2 h3 h4)
theorem r_if_le {a : Int} {off : Int} {tgt : Nat} (hd : decode (yB y) pc = .ok (.ifCond .le off, 3)) (ht : (pc : Int) + off = (tgt : Int)) (ha : inR a) (kt : a ≤ 0 → Run Γ rg κ y tgt ls st D Φ) (kf : 0 < a → Run Γ rg κ y (pc + 3) ls st D Φ) : Run Γ rg κ y pc ls ((0, a) :: st) D Φ := by
  intro p e R s m args below meth c H locs lsm cells slots q mc ms C hH hS hl h1 h2 h3 h4
  exact lv_if_le C.1 C.2.1 hd ht (fun h => kt ((ofI_le ha inR_0).mp h) p e R s m args below meth c H locs lsm cells slots q mc ms C hH hS hl h1 h2 h3 h4) (fun h => kf (Int.not_le.mp fun g => h ((ofI_le ha inR_0).mpr g)) p e R s m args below meth c H locs lsm cells slots q mc ms C hH hS hl h1 h2 h3 h4)
end ROWS
