/-! more rows, the three methods that every array goes through, and words of the tables that they need -/
theorem cov20 {rg : Nat → Bool} (R : cov rg rg2) : cov rg rg0 := fun a h => R a (by
  unfold rg0 at h
  unfold rg2
  exact Nat.ble_eq.mpr (Nat.le_trans (Nat.ble_eq.mp h) (by decide)))
theorem cov21 {rg : Nat → Bool} (R : cov rg rg2) : cov rg rg1 := fun a h => R a (by
  unfold rg1 at h
  unfold rg2
  exact Nat.ble_eq.mpr (Nat.le_trans (Nat.ble_eq.mp (Bool.and_eq_true _ _ ▸ h).2) (by decide)))
def rdX (X : Nat → Int32) (L : Nat) (i : Int) (D : DD) (c : Int → Res) : Res := if 0 ≤ w32 i ∧ w32 i < L then c (X (w32 i).toNat).toInt else none
def rowF_3 (m a : Nat) (a1 : Int) (a2 : Int) (a3 : Int) : Nat → Int → DD → Res
  | 0, _, _ => none
  | n + 1, a4, D =>
    if (w32 a4) < (w32 a3) then (
      rdA m a ((a3 * a1) + a4) D fun v1 =>
      wrA m a ((a3 * a2) + a4) v1 D fun D1 =>
      rowF_3 m a a1 a2 a3 n (a4 + 1) D1
    ) else (
      okR 0 D
    )
noncomputable def rowF (m a : Nat) (p1 : Int) (p2 : Int) (p3 : Int) (D : DD) : Res := rowF_3 m a p1 p2 p3 fu 0 D
def MX (own : String) (idx : Nat) (nm : MethodName) (cd : ByteArray) (n : Nat) : Prop := KW (.methodLink own idx nm) ∧ KW (.static nm) ∧ KW (.initialized "java/lang/Math") ∧ KW (.code nm cd n (some .int))
def zmax (a b : Int) : Int := if w32 a < w32 b then b else a
def zmin (a b : Int) : Int := if w32 b < w32 a then b else a
def zabs (a : Int) : Int := if 0 ≤ w32 a then a else 0 - a
section MORE
variable {Γ : GG} {rg : Nat → Bool} {κ : Nat} {y : YT} {pc : Nat} {ls st : List PV} {D : DD} {Φ : OT → DD → Prop} {t : Option FieldType}
theorem c_lconst {n : Fin 2} {z : Int} (hd : decode (yB y) pc = .ok (.lconst n, 1)) (hz : ((n : Nat) : Int) = z) (k : Run Γ rg κ y (pc + 1) ls ((1, z) :: st) D Φ) : Run Γ rg κ y pc ls st D Φ := by
  subst hz
  exact r_lconst hd k
theorem c_iand {a b : Int} (hd : decode (yB y) pc = .ok (.iand, 1)) (k : Run Γ rg κ y (pc + 1) ls ((0, iandZ a b) :: st) D Φ) : Run Γ rg κ y pc ls ((0, b) :: (0, a) :: st) D Φ := r_iand hd k
theorem c_lor {a b : Int} (hd : decode (yB y) pc = .ok (.lor, 1)) (k : Run Γ rg κ y (pc + 1) ls ((1, lorZ a b) :: st) D Φ) : Run Γ rg κ y pc ls ((1, b) :: (1, a) :: st) D Φ := r_lor hd k
theorem c_lshl {a b : Int} (hd : decode (yB y) pc = .ok (.lshl, 1)) (k : Run Γ rg κ y (pc + 1) ls ((1, lshlZ a b) :: st) D Φ) : Run Γ rg κ y pc ls ((0, b) :: (1, a) :: st) D Φ := r_lshl hd k
theorem c_land {a b : Int} (hd : decode (yB y) pc = .ok (.land, 1)) (k : Run Γ rg κ y (pc + 1) ls ((1, landZ a b) :: st) D Φ) : Run Γ rg κ y pc ls ((1, b) :: (1, a) :: st) D Φ := r_land hd k
theorem c_lushr {a b : Int} (hd : decode (yB y) pc = .ok (.lushr, 1)) (k : Run Γ rg κ y (pc + 1) ls ((1, lushrZ a b) :: st) D Φ) : Run Γ rg κ y pc ls ((0, b) :: (1, a) :: st) D Φ := r_lushr hd k
theorem c_sld {i z : Int} {c : Int → Res} (hd : decode (yB y) pc = .ok (.iaload, 1)) (hL : gL Γ < 2147483648) (h : WP t κ Φ (rdX (gX Γ) (gL Γ) i D c))
    (kk : ∀ v, WP t κ Φ (c v) → Run Γ rg κ y (pc + 1) ls ((0, v) :: st) D Φ) : Run Γ rg κ y pc ls ((0, i) :: (7, z) :: st) D Φ := by
  unfold rdX at h
  split at h
  · rename_i g
    exact Run.st1 (ofI_w32 i) (r_sld hd hL g.1 g.2 (kk _ h))
  · exact h.no.elim
theorem c_mmax {idx : Nat} {a b : Int} {rest : List PV} (hd : decode (yB y) pc = .ok (.invokestatic idx, 3)) (hM : MX (yN y).cls idx Lib.Math.max.name Lib.Math.max.code 2) (hrest : (rest.map pcat).sum ≤ 8) (hK : 1 ≤ yK y) (kk : Run Γ rg κ y (pc + 3) ls ((0, zmax a b) :: rest) D Φ) : Run Γ rg κ y pc ls ((0, b) :: (0, a) :: rest) D Φ := by
  intro p e R s m args below meth c H locs lsm cells slots q mc ms C hH hS hl h1 h2 h3 h4
  obtain ⟨hx, hb, hml, hown, hlk, hrt, htb, hfr, hlo, hE⟩ := id C
  refine va_mmax hx hb (hml.trans hl.1.symm) hown (hE.word hM.1) (hE.word hM.2.1) (hE.word hM.2.2.1) (hE.word hM.2.2.2) (by omega) (by rw [pcat_sum]; omega) (by omega) (by omega) hd ?_
  have := kk p e R s m args below meth c H locs lsm cells slots q mc ms C hH hS hl h1 h2 h3 h4
  have e1 : (if Int32.ofInt a < Int32.ofInt b then Int32.ofInt b else Int32.ofInt a) = Int32.ofInt (zmax a b) := by
    unfold zmax
    rw [← ofI_w32 a, ← ofI_w32 b]
    by_cases g : w32 a < w32 b
    · rw [if_pos ((ofI_lt (w32_in a) (w32_in b)).mpr g), if_pos g, ofI_w32]
    · rw [if_neg (fun q => g ((ofI_lt (w32_in a) (w32_in b)).mp q)), if_neg g, ofI_w32]
  show W p Γ.1 e R s m args below meth c H locs cells slots _ (F0 m (pc + 3) lsm (.int _ :: rest.map (mv Γ q)))
  rw [e1]
  exact this
theorem c_mmin {idx : Nat} {a b : Int} {rest : List PV} (hd : decode (yB y) pc = .ok (.invokestatic idx, 3)) (hM : MX (yN y).cls idx Lib.Math.min.name Lib.Math.min.code 2) (hrest : (rest.map pcat).sum ≤ 8) (hK : 1 ≤ yK y) (kk : Run Γ rg κ y (pc + 3) ls ((0, zmin a b) :: rest) D Φ) : Run Γ rg κ y pc ls ((0, b) :: (0, a) :: rest) D Φ := by
  intro p e R s m args below meth c H locs lsm cells slots q mc ms C hH hS hl h1 h2 h3 h4
  obtain ⟨hx, hb, hml, hown, hlk, hrt, htb, hfr, hlo, hE⟩ := id C
  refine va_mmin hx hb (hml.trans hl.1.symm) hown (hE.word hM.1) (hE.word hM.2.1) (hE.word hM.2.2.1) (hE.word hM.2.2.2) (by omega) (by rw [pcat_sum]; omega) (by omega) (by omega) hd ?_
  have := kk p e R s m args below meth c H locs lsm cells slots q mc ms C hH hS hl h1 h2 h3 h4
  have e1 : (if Int32.ofInt b < Int32.ofInt a then Int32.ofInt b else Int32.ofInt a) = Int32.ofInt (zmin a b) := by
    unfold zmin
    rw [← ofI_w32 a, ← ofI_w32 b]
    by_cases g : w32 b < w32 a
    · rw [if_pos ((ofI_lt (w32_in b) (w32_in a)).mpr g), if_pos g, ofI_w32]
    · rw [if_neg (fun q => g ((ofI_lt (w32_in b) (w32_in a)).mp q)), if_neg g, ofI_w32]
  show W p Γ.1 e R s m args below meth c H locs cells slots _ (F0 m (pc + 3) lsm (.int _ :: rest.map (mv Γ q)))
  rw [e1]
  exact this
theorem c_mabs {idx : Nat} {a : Int} {rest : List PV} (hd : decode (yB y) pc = .ok (.invokestatic idx, 3)) (hM : MX (yN y).cls idx Lib.Math.abs.name Lib.Math.abs.code 1) (hrest : (rest.map pcat).sum ≤ 8) (hK : 1 ≤ yK y) (kk : Run Γ rg κ y (pc + 3) ls ((0, zabs a) :: rest) D Φ) : Run Γ rg κ y pc ls ((0, a) :: rest) D Φ := by
  intro p e R s m args below meth c H locs lsm cells slots q mc ms C hH hS hl h1 h2 h3 h4
  obtain ⟨hx, hb, hml, hown, hlk, hrt, htb, hfr, hlo, hE⟩ := id C
  refine va_mabs hx hb (hml.trans hl.1.symm) hown (hE.word hM.1) (hE.word hM.2.1) (hE.word hM.2.2.1) (hE.word hM.2.2.2) (by omega) (by rw [pcat_sum]; omega) (by omega) (by omega) hd ?_
  have := kk p e R s m args below meth c H locs lsm cells slots q mc ms C hH hS hl h1 h2 h3 h4
  have e1 : (if 0 ≤ Int32.ofInt a then Int32.ofInt a else 0 - Int32.ofInt a) = Int32.ofInt (zabs a) := by
    unfold zabs
    by_cases g : 0 ≤ w32 a
    · rw [if_pos (by rw [← ofI_w32 a, ofI_0]; exact (ofI_le inR_0 (w32_in a)).mpr g), if_pos g]
    · rw [if_neg (fun q => g (by rw [← ofI_w32 a, ofI_0] at q; exact (ofI_le inR_0 (w32_in a)).mp q)), if_neg g, ofI_0, ← Int32.ofInt_sub]
  show W p Γ.1 e R s m args below meth c H locs cells slots _ (F0 m (pc + 3) lsm (.int _ :: rest.map (mv Γ q)))
  rw [e1]
  exact this
end MORE
abbrev Y_X7_read : YT := (cX7_read, 2, (some .int), yX7_read, [], 1)
theorem mk_X7_read : MK Y_X7_read 2 := ⟨KW.at (i := 75) (by decide +kernel) rfl, KW.at (i := 276) (by decide +kernel) rfl, ⟨by decide +kernel, by decide +kernel⟩, by decide +kernel, by decide +kernel, rfl, by decide⟩
theorem d_X7_read_0 : decode cX7_read 0 = .ok (.iload_n 1, 1) := by decide +kernel
theorem d_X7_read_1 : decode cX7_read 1 = .ok (.ifCond .lt 15, 3) := by decide +kernel
theorem d_X7_read_4 : decode cX7_read 4 = .ok (.iload_n 1, 1) := by decide +kernel
theorem d_X7_read_5 : decode cX7_read 5 = .ok (.aload_n 0, 1) := by decide +kernel
theorem d_X7_read_6 : decode cX7_read 6 = .ok (.arraylength, 1) := by decide +kernel
theorem d_X7_read_7 : decode cX7_read 7 = .ok (.if_icmp .ge 9, 3) := by decide +kernel
theorem d_X7_read_10 : decode cX7_read 10 = .ok (.aload_n 0, 1) := by decide +kernel
theorem d_X7_read_11 : decode cX7_read 11 = .ok (.iload_n 1, 1) := by decide +kernel
theorem d_X7_read_12 : decode cX7_read 12 = .ok (.iaload, 1) := by decide +kernel
theorem d_X7_read_13 : decode cX7_read 13 = .ok (.goto 4, 3) := by decide +kernel
theorem d_X7_read_16 : decode cX7_read 16 = .ok (.iconst 0, 1) := by decide +kernel
theorem d_X7_read_17 : decode cX7_read 17 = .ok (.ireturn, 1) := by decide +kernel
abbrev Y_X7_store : YT := (cX7_store, 3, none, yX7_store, [], 1)
theorem mk_X7_store : MK Y_X7_store 3 := ⟨KW.at (i := 75) (by decide +kernel) rfl, KW.at (i := 110) (by decide +kernel) rfl, ⟨by decide +kernel, by decide +kernel⟩, by decide +kernel, by decide +kernel, rfl, by decide⟩
theorem d_X7_store_0 : decode cX7_store 0 = .ok (.iload_n 1, 1) := by decide +kernel
theorem d_X7_store_1 : decode cX7_store 1 = .ok (.ifCond .lt 13, 3) := by decide +kernel
theorem d_X7_store_4 : decode cX7_store 4 = .ok (.iload_n 1, 1) := by decide +kernel
theorem d_X7_store_5 : decode cX7_store 5 = .ok (.aload_n 0, 1) := by decide +kernel
theorem d_X7_store_6 : decode cX7_store 6 = .ok (.arraylength, 1) := by decide +kernel
theorem d_X7_store_7 : decode cX7_store 7 = .ok (.if_icmp .ge 7, 3) := by decide +kernel
theorem d_X7_store_10 : decode cX7_store 10 = .ok (.aload_n 0, 1) := by decide +kernel
theorem d_X7_store_11 : decode cX7_store 11 = .ok (.iload_n 1, 1) := by decide +kernel
theorem d_X7_store_12 : decode cX7_store 12 = .ok (.iload_n 2, 1) := by decide +kernel
theorem d_X7_store_13 : decode cX7_store 13 = .ok (.iastore, 1) := by decide +kernel
theorem d_X7_store_14 : decode cX7_store 14 = .ok (.return_, 1) := by decide +kernel
abbrev Y_X8_row : YT := (cX8_row, 5, none, yX8_row, [], 1)
theorem mk_X8_row : MK Y_X8_row 4 := ⟨KW.at (i := 85) (by decide +kernel) rfl, KW.at (i := 1081) (by decide +kernel) rfl, ⟨by decide +kernel, by decide +kernel⟩, by decide +kernel, by decide +kernel, rfl, by decide⟩
theorem d_X8_row_0 : decode cX8_row 0 = .ok (.iconst 0, 1) := by decide +kernel
theorem d_X8_row_1 : decode cX8_row 1 = .ok (.istore 4, 2) := by decide +kernel
theorem d_X8_row_3 : decode cX8_row 3 = .ok (.iload 4, 2) := by decide +kernel
theorem d_X8_row_5 : decode cX8_row 5 = .ok (.iload_n 3, 1) := by decide +kernel
theorem d_X8_row_6 : decode cX8_row 6 = .ok (.if_icmp .ge 25, 3) := by decide +kernel
theorem d_X8_row_9 : decode cX8_row 9 = .ok (.aload_n 0, 1) := by decide +kernel
theorem d_X8_row_10 : decode cX8_row 10 = .ok (.iload_n 3, 1) := by decide +kernel
theorem d_X8_row_11 : decode cX8_row 11 = .ok (.iload_n 2, 1) := by decide +kernel
theorem d_X8_row_12 : decode cX8_row 12 = .ok (.imul, 1) := by decide +kernel
theorem d_X8_row_13 : decode cX8_row 13 = .ok (.iload 4, 2) := by decide +kernel
theorem d_X8_row_15 : decode cX8_row 15 = .ok (.iadd, 1) := by decide +kernel
theorem d_X8_row_16 : decode cX8_row 16 = .ok (.aload_n 0, 1) := by decide +kernel
theorem d_X8_row_17 : decode cX8_row 17 = .ok (.iload_n 3, 1) := by decide +kernel
theorem d_X8_row_18 : decode cX8_row 18 = .ok (.iload_n 1, 1) := by decide +kernel
theorem d_X8_row_19 : decode cX8_row 19 = .ok (.imul, 1) := by decide +kernel
theorem d_X8_row_20 : decode cX8_row 20 = .ok (.iload 4, 2) := by decide +kernel
theorem d_X8_row_22 : decode cX8_row 22 = .ok (.iadd, 1) := by decide +kernel
theorem d_X8_row_23 : decode cX8_row 23 = .ok (.iaload, 1) := by decide +kernel
theorem d_X8_row_24 : decode cX8_row 24 = .ok (.iastore, 1) := by decide +kernel
theorem d_X8_row_25 : decode cX8_row 25 = .ok (.iinc 4 1, 3) := by decide +kernel
theorem d_X8_row_28 : decode cX8_row 28 = .ok (.goto (-25), 3) := by decide +kernel
theorem d_X8_row_31 : decode cX8_row 31 = .ok (.return_, 1) := by decide +kernel
theorem run_pH_read {Γ : GG} {rg : Nat → Bool} {κ : Nat} {Φ : OT → DD → Prop} {D : DD} {a n : Nat} {cs : List Nat} (hs : SH.getD a (9, 0, []) = (1, n, cs)) (ha : a < NA) (hr : rg a = true) (hn : n < 2147483648) (i : Int) {x : Int} (h : EQx x (rd n a i D)) (hΦ : Φ (.inl (some (0, x))) D) : Run Γ rg κ Y_X7_read 0 [(a + 8, 0), (0, i)] [] D Φ := by
  have hx : x = rd n a i D := h
  unfold rd at hx
  have hend : ∀ v : Int, x = v → Run Γ rg κ Y_X7_read 17 [(a + 8, 0), (0, i)] [(0, v)] D Φ := fun v e => e_iret d_X7_read_17 rfl e hΦ
  have hzero : x = 0 → Run Γ rg κ Y_X7_read 16 [(a + 8, 0), (0, i)] [] D Φ := fun e => r_iconst d_X7_read_16 (hend 0 e)
  refine r_iload_n d_X7_read_0 rfl ?_
  refine Run.st1 (ofI_w32 i) (r_if_lt (tgt := 16) d_X7_read_1 (by decide) (w32_in i) (fun g => ?_) (fun g => ?_))
  · exact hzero (by rw [if_neg (by omega)] at hx; exact hx)
  · refine r_iload_n d_X7_read_4 rfl ?_
    refine r_aload_n d_X7_read_5 rfl (Nat.le_trans (by decide) (Nat.le_add_left 8 a)) ?_
    refine r_alen d_X7_read_6 hs ha hr ?_
    refine Run.st2 (ofI_w32 i) (r_icmp_ge (tgt := 16) d_X7_read_7 (by decide) (w32_in i) ⟨by omega, by omega⟩ (fun g2 => ?_) (fun g2 => ?_))
    · exact hzero (by rw [if_neg (by omega)] at hx; exact hx)
    · rw [if_pos ⟨g, g2⟩] at hx
      refine r_aload_n d_X7_read_10 rfl (Nat.le_trans (by decide) (Nat.le_add_left 8 a)) ?_
      refine r_iload_n d_X7_read_11 rfl ?_
      refine Run.st1 (ofI_w32 i) (r_iald d_X7_read_12 hs ha hr hn g g2 ?_)
      exact r_goto (tgt := 17) d_X7_read_13 (by decide) (hend _ hx)
theorem run_pH_store {Γ : GG} {rg : Nat → Bool} {κ : Nat} {Φ : OT → DD → Prop} {D : DD} {a n : Nat} {cs : List Nat} (hs : SH.getD a (9, 0, []) = (1, n, cs)) (ha : a < NA) (hr : rg a = true) (hn : n < 2147483648) (i v : Int) (h : WPD Φ (sto n a i v D)) : Run Γ rg κ Y_X7_store 0 [(a + 8, 0), (0, i), (0, v)] [] D Φ := by
  unfold sto at h
  have hend : ∀ D1 : DD, WPD Φ D1 → Run Γ rg κ Y_X7_store 14 [(a + 8, 0), (0, i), (0, v)] [] D1 Φ := fun D1 e => d_vret d_X7_store_14 rfl e
  refine r_iload_n d_X7_store_0 rfl ?_
  refine Run.st1 (ofI_w32 i) (r_if_lt (tgt := 14) d_X7_store_1 (by decide) (w32_in i) (fun g => ?_) (fun g => ?_))
  · exact hend _ (by rw [if_neg (by omega)] at h; exact h)
  · refine r_iload_n d_X7_store_4 rfl ?_
    refine r_aload_n d_X7_store_5 rfl (Nat.le_trans (by decide) (Nat.le_add_left 8 a)) ?_
    refine r_alen d_X7_store_6 hs ha hr ?_
    refine Run.st2 (ofI_w32 i) (r_icmp_ge (tgt := 14) d_X7_store_7 (by decide) (w32_in i) ⟨by omega, by omega⟩ (fun g2 => ?_) (fun g2 => ?_))
    · exact hend _ (by rw [if_neg (by omega)] at h; exact h)
    · rw [if_pos ⟨g, g2⟩] at h
      refine r_aload_n d_X7_store_10 rfl (Nat.le_trans (by decide) (Nat.le_add_left 8 a)) ?_
      refine r_iload_n d_X7_store_11 rfl ?_
      refine r_iload_n d_X7_store_12 rfl ?_
      refine Run.st2 (ofI_w32 i) (r_iast d_X7_store_13 hs ha hr hn g g2 ?_)
      exact hend _ h
set_option maxRecDepth 20000 in
theorem run_rowF_3 {Γ : GG} {rg : Nat → Bool} {κ : Nat} {Φ : OT → DD → Prop} {a m : Nat} {cs : List Nat} (hs : SH.getD a (9, 0, []) = (1, m, cs)) (ha : a < NA) (hr : rg a = true) (hm : m < 2147483648) (a1 : Int) (a2 : Int) (a3 : Int) : ∀ (n : Nat) (a4 : Int) (D : DD), WP none κ Φ (rowF_3 m a a1 a2 a3 n a4 D) → Run Γ rg κ Y_X8_row 3 [(a + 8, 0), (0, a1), (0, a2), (0, a3), (0, a4)] [] D Φ := by
  intro n
  induction n with
  | zero => intro a4 D h; exact h.no.elim
  | succ n ih =>
    intro a4 D h
    rw [rowF_3] at h
    show Run Γ rg κ Y_X8_row 3 [(a + 8, 0), (0, a1), (0, a2), (0, a3), (0, a4)] [] D Φ
    refine r_iload d_X8_row_3 rfl ?_
    refine r_iload_n d_X8_row_5 rfl ?_
    refine c_icmp_ge (tgt := 31) d_X8_row_6 (by decide) (nz_w _) (nz_w _) h (fun h => ?_) (fun h => ?_)
    · skip
      show Run Γ rg κ Y_X8_row 31 [(a + 8, 0), (0, a1), (0, a2), (0, a3), (0, a4)] [] D Φ
      exact c_vret d_X8_row_31 rfl h
    · skip
      show Run Γ rg κ Y_X8_row 9 [(a + 8, 0), (0, a1), (0, a2), (0, a3), (0, a4)] [] D Φ
      refine r_aload_n d_X8_row_9 rfl (Nat.le_trans (by decide) (Nat.le_add_left 8 a)) ?_
      refine r_iload_n d_X8_row_10 rfl ?_
      refine r_iload_n d_X8_row_11 rfl ?_
      refine r_imul d_X8_row_12 ?_
      refine r_iload d_X8_row_13 rfl ?_
      refine r_iadd d_X8_row_15 ?_
      refine r_aload_n d_X8_row_16 rfl (Nat.le_trans (by decide) (Nat.le_add_left 8 a)) ?_
      refine r_iload_n d_X8_row_17 rfl ?_
      refine r_iload_n d_X8_row_18 rfl ?_
      refine r_imul d_X8_row_19 ?_
      refine r_iload d_X8_row_20 rfl ?_
      show Run Γ rg κ Y_X8_row 22 [(a + 8, 0), (0, a1), (0, a2), (0, a3), (0, a4)] [(0, a4), (0, (a3 * a1)), (a + 8, 0), (0, ((a3 * a2) + a4)), (a + 8, 0)] D Φ
      refine r_iadd d_X8_row_22 ?_
      refine c_iald d_X8_row_23 hs ha hr hm h (fun v1 h => ?_)
      refine c_iast d_X8_row_24 hs ha hr hm h (fun D1 h => ?_)
      refine r_iinc d_X8_row_25 rfl (by decide) rfl ?_
      show Run Γ rg κ Y_X8_row 28 [(a + 8, 0), (0, a1), (0, a2), (0, a3), (0, (a4 + 1))] [] D1 Φ
      refine r_goto (tgt := 3) d_X8_row_28 (by decide) ?_
      exact (ih (a4 + 1) D1 h)
set_option maxRecDepth 20000 in
theorem run_rowF {Γ : GG} {rg : Nat → Bool} {κ : Nat} {Φ : OT → DD → Prop} {a m : Nat} {cs : List Nat} (hs : SH.getD a (9, 0, []) = (1, m, cs)) (ha : a < NA) (hr : rg a = true) (hm : m < 2147483648) (p1 : Int) (p2 : Int) (p3 : Int) {D : DD} (h : WP none κ Φ (rowF m a p1 p2 p3 D)) : Run Γ rg κ Y_X8_row 0 [(a + 8, 0), (0, p1), (0, p2), (0, p3), (5, 0)] [] D Φ := by
  unfold rowF at h
  show Run Γ rg κ Y_X8_row 0 [(a + 8, 0), (0, p1), (0, p2), (0, p3), (5, 0)] [] D Φ
  refine r_iconst d_X8_row_0 ?_
  refine r_istore d_X8_row_1 (by decide) rfl ?_
  show Run Γ rg κ Y_X8_row 3 [(a + 8, 0), (0, p1), (0, p2), (0, p3), (0, 0)] [] D Φ
  exact run_rowF_3 hs ha hr hm p1 p2 p3 fu 0 D h

