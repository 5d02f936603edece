/-! THE MATH: arrays with Int places -/
def Rz (n a : Nat) (D : DD) (i : Int) : Int := if 0 ≤ i ∧ i < n then D a i.toNat else 0
def Tz (n a : Nat) (D : DD) (i v : Int) : DD := if 0 ≤ i ∧ i < n then up2 D a i.toNat v else D
theorem rd_R {n a : Nat} {i : Int} {D : DD} (h : -2147483648 ≤ i ∧ i ≤ 2147483647) : rd n a i D = Rz n a D i := by
  unfold rd Rz
  rw [w32_of h]
theorem sto_T {n a : Nat} {i v : Int} {D : DD} (h : -2147483648 ≤ i ∧ i ≤ 2147483647) : sto n a i v D = Tz n a D i v := by
  unfold sto Tz
  rw [w32_of h]
theorem rdA_R {n a : Nat} {i : Int} {D : DD} {c : Int → Res} (h : 0 ≤ i ∧ i < n ∧ n ≤ 2147483647) : rdA n a i D c = c (Rz n a D i) := by
  unfold rdA Rz
  rw [w32_of (by omega), if_pos ⟨h.1, h.2.1⟩, if_pos ⟨h.1, h.2.1⟩]
theorem wrA_T {n a : Nat} {i v : Int} {D : DD} {c : DD → Res} (h : 0 ≤ i ∧ i < n ∧ n ≤ 2147483647) : wrA n a i v D c = c (Tz n a D i v) := by
  unfold wrA Tz
  rw [w32_of (by omega), if_pos ⟨h.1, h.2.1⟩, if_pos ⟨h.1, h.2.1⟩]
theorem wrZ_T {n a : Nat} {i v : Int} {D : DD} {c : DD → Res} (h : 0 ≤ i ∧ i < n ∧ n ≤ 2147483647) (hv : v = 0 ∨ v = 1) : wrZ n a i v D c = c (Tz n a D i v) := by
  unfold wrZ Tz
  rw [w32_of (by omega), if_pos ⟨⟨h.1, h.2.1⟩, hv⟩, if_pos ⟨h.1, h.2.1⟩]
theorem R_T (n a : Nat) (D : DD) (i v j : Int) : Rz n a (Tz n a D i v) j = if (0 ≤ i ∧ i < n) ∧ j = i then v else Rz n a D j := by
  unfold Tz
  by_cases hi : 0 ≤ i ∧ i < n
  · rw [if_pos hi]
    by_cases hj : j = i
    · subst hj
      rw [if_pos ⟨hi, rfl⟩]
      unfold Rz
      rw [if_pos hi, up2_at]
      exact if_pos rfl
    · rw [if_neg (fun h => hj h.2)]
      unfold Rz
      split
      · rw [up2_at]
        exact if_neg (by omega)
      · rfl
  · rw [if_neg hi, if_neg (fun h => hi h.1)]
theorem R_T_eq {n a : Nat} {D : DD} {i v : Int} (h : 0 ≤ i ∧ i < n) : Rz n a (Tz n a D i v) i = v := by rw [R_T, if_pos ⟨h, rfl⟩]
theorem R_T_ne {n a : Nat} {D : DD} {i v j : Int} (h : j ≠ i) : Rz n a (Tz n a D i v) j = Rz n a D j := by rw [R_T, if_neg (fun g => h g.2)]
theorem R_cg {n a : Nat} {D D' : DD} (h : D' a = D a) (i : Int) : Rz n a D' i = Rz n a D i := by unfold Rz; rw [h]
theorem T_ot {n a b : Nat} {D : DD} {i v : Int} (h : b ≠ a) : Tz n a D i v b = D b := by
  unfold Tz
  split
  · exact up2_ne D a _ v h
  · rfl
theorem R_T_ot {n m a b : Nat} {D : DD} {i v j : Int} (h : b ≠ a) : Rz m b (Tz n a D i v) j = Rz m b D j := R_cg (T_ot h) j
theorem R_up2_ot {m a b k : Nat} {D : DD} {v j : Int} (h : b ≠ a) : Rz m b (up2 D a k v) j = Rz m b D j := R_cg (up2_ne D a k v h) j
theorem up2_ot {a b k : Nat} {D : DD} {v : Int} (h : b ≠ a) : up2 D a k v b = D b := up2_ne D a k v h
theorem up2_eq (D : DD) (a k : Nat) (v : Int) : up2 D a k v a k = v := by rw [up2_at]; exact if_pos rfl
theorem up2_nk {D : DD} {a k j : Nat} {v : Int} (h : j ≠ k) : up2 D a k v a j = D a j := by rw [up2_at]; exact if_neg h
theorem R_out {n a : Nat} {D : DD} {i : Int} (h : i < 0 ∨ n ≤ i) : Rz n a D i = 0 := if_neg (by omega)
theorem R_raw {n a : Nat} {D : DD} {k : Nat} (h : k < n) : Rz n a D (k : Int) = D a k := by
  unfold Rz
  rw [if_pos ⟨by omega, by omega⟩, Int.toNat_natCast]
theorem bnd_ok (v : Int) (D : DD) (c : Int → DD → Res) : bnd (okR v D) c = c v D := rfl
theorem bnd_er (n : Nat) (D : DD) (c : Int → DD → Res) : bnd (erR n D) c = erR n D := rfl
theorem okZ_ok {v : Int} {D : DD} (h : v = 0 ∨ v = 1) : okZ v D = okR v D := if_pos h
theorem w32_k0 : w32 0 = 0 := by decide
theorem w32_k1 : w32 1 = 1 := by decide
theorem w32_m1 : w32 (-1) = -1 := by decide
theorem tdiv_pos {a b : Int} (ha : 0 ≤ a) : a.tdiv b = a / b := Int.tdiv_eq_ediv_of_nonneg ha
theorem tmod_pos {a b : Int} (ha : 0 ≤ a) : a.tmod b = a % b := Int.tmod_eq_emod_of_nonneg ha
theorem fu_gt {x : Nat} (h : x < 10000) : x < fu := Nat.lt_of_lt_of_le h (Classical.choose_spec fu_ex)
