/-! more rows, the three methods that every array goes through, and words of the tables that they need -/
theorem cov20 {rg : Nat → Bool} (R : cov rg rg2) : cov rg rg0 := fun a h => R a (by
  unfold rg0 at h
  unfold rg2
  exact Nat.ble_eq.mpr (Nat.le_trans (Nat.ble_eq.mp h) (by decide)))
theorem cov21 {rg : Nat → Bool} (R : cov rg rg2) : cov rg rg1 := fun a h => R a (by
  unfold rg1 at h
  unfold rg2
  exact Nat.ble_eq.mpr (Nat.le_trans (Nat.ble_eq.mp (Bool.and_eq_true _ _ ▸ h).2) (by decide)))
def rdX (X : Nat → Int32) (L : Nat) (i : Int) (D : DD) (c : Int → Res) : Res := if 0 ≤ w32 i ∧ w32 i < L then c (X (w32 i).toNat).toInt else none
def rowF_3 (m a : Nat) (a1 : Int) (a2 : Int) (a3 : Int) : Nat → Int → DD → Res
  | 0, _, _ => none
  | n + 1, a4, D =>
    if (w32 a4) < (w32 a3) then (
      rdA m a ((a3 * a1) + a4) D fun v1 =>
      wrA m a ((a3 * a2) + a4) v1 D fun D1 =>
      rowF_3 m a a1 a2 a3 n (a4 + 1) D1
    ) else (
      okR 0 D
    )
noncomputable def rowF (m a : Nat) (p1 : Int) (p2 : Int) (p3 : Int) (D : DD) : Res := rowF_3 m a p1 p2 p3 fu 0 D
def MX (own : String) (idx : Nat) (nm : MethodName) (cd : ByteArray) (n : Nat) : Prop := KW (.methodLink own idx nm) ∧ KW (.static nm) ∧ KW (.initialized "java/lang/Math") ∧ KW (.code nm cd n (some .int))
def zmax (a b : Int) : Int := if w32 a < w32 b then b else a
def zmin (a b : Int) : Int := if w32 b < w32 a then b else a
def zabs (a : Int) : Int := if 0 ≤ w32 a then a else 0 - a
section MORE
variable {Γ : GG} {rg : Nat → Bool} {κ : Nat} {y : YT} {pc : Nat} {ls st : List PV} {D : DD} {Φ : OT → DD → Prop} {t : Option FieldType}
theorem c_lconst {n : Fin 2} {z : Int} (hd : decode (yB y) pc = .ok (.lconst n, 1)) (hz : ((n : Nat) : Int) = z) (k : Run Γ rg κ y (pc + 1) ls ((1, z) :: st) D Φ) : Run Γ rg κ y pc ls st D Φ := by
  subst hz
  exact r_lconst hd k
theorem c_iand {a b : Int} (hd : decode (yB y) pc = .ok (.iand, 1)) (k : Run Γ rg κ y (pc + 1) ls ((0, iandZ a b) :: st) D Φ) : Run Γ rg κ y pc ls ((0, b) :: (0, a) :: st) D Φ := r_iand hd k
theorem c_lor {a b : Int} (hd : decode (yB y) pc = .ok (.lor, 1)) (k : Run Γ rg κ y (pc + 1) ls ((1, lorZ a b) :: st) D Φ) : Run Γ rg κ y pc ls ((1, b) :: (1, a) :: st) D Φ := r_lor hd k
theorem c_lshl {a b : Int} (hd : decode (yB y) pc = .ok (.lshl, 1)) (k : Run Γ rg κ y (pc + 1) ls ((1, lshlZ a b) :: st) D Φ) : Run Γ rg κ y pc ls ((0, b) :: (1, a) :: st) D Φ := r_lshl hd k
theorem c_land {a b : Int} (hd : decode (yB y) pc = .ok (.land, 1)) (k : Run Γ rg κ y (pc + 1) ls ((1, landZ a b) :: st) D Φ) : Run Γ rg κ y pc ls ((1, b) :: (1, a) :: st) D Φ := r_land hd k
theorem c_lushr {a b : Int} (hd : decode (yB y) pc = .ok (.lushr, 1)) (k : Run Γ rg κ y (pc + 1) ls ((1, lushrZ a b) :: st) D Φ) : Run Γ rg κ y pc ls ((0, b) :: (1, a) :: st) D Φ := r_lushr hd k
theorem c_sld {i z : Int} {c : Int → Res} (hd : decode (yB y) pc = .ok (.iaload, 1)) (hL : gL Γ < 2147483648) (h : WP t κ Φ (rdX (gX Γ) (gL Γ) i D c))
    (kk : ∀ v, WP t κ Φ (c v) → Run Γ rg κ y (pc + 1) ls ((0, v) :: st) D Φ) : Run Γ rg κ y pc ls ((0, i) :: (7, z) :: st) D Φ := by
  unfold rdX at h
  split at h
  · rename_i g
    exact Run.st1 (ofI_w32 i) (r_sld hd hL g.1 g.2 (kk _ h))
  · exact h.no.elim
theorem c_mmax {idx : Nat} {a b : Int} {rest : List PV} (hd : decode (yB y) pc = .ok (.invokestatic idx, 3)) (hM : MX (yN y).cls idx Lib.Math.max.name Lib.Math.max.code 2) (hrest : (rest.map pcat).sum ≤ 8) (hK : 1 ≤ yK y) (kk : Run Γ rg κ y (pc + 3) ls ((0, zmax a b) :: rest) D Φ) : Run Γ rg κ y pc ls ((0, b) :: (0, a) :: rest) D Φ := by
  intro p e R s m args below meth c H locs lsm cells slots q mc ms C hH hS hl h1 h2 h3 h4
  obtain ⟨hx, hb, hml, hown, hlk, hrt, htb, hfr, hlo, hE⟩ := id C
  refine va_mmax hx hb (hml.trans hl.1.symm) hown (hE.word hM.1) (hE.word hM.2.1) (hE.word hM.2.2.1) (hE.word hM.2.2.2) (by omega) (by rw [pcat_sum]; omega) (by omega) (by omega) hd ?_
  have := kk p e R s m args below meth c H locs lsm cells slots q mc ms C hH hS hl h1 h2 h3 h4
  have e1 : (if Int32.ofInt a < Int32.ofInt b then Int32.ofInt b else Int32.ofInt a) = Int32.ofInt (zmax a b) := by
    unfold zmax
    rw [← ofI_w32 a, ← ofI_w32 b]
    by_cases g : w32 a < w32 b
    · rw [if_pos ((ofI_lt (w32_in a) (w32_in b)).mpr g), if_pos g, ofI_w32]
    · rw [if_neg (fun q => g ((ofI_lt (w32_in a) (w32_in b)).mp q)), if_neg g, ofI_w32]
  show W p Γ.1 e R s m args below meth c H locs cells slots _ (F0 m (pc + 3) lsm (.int _ :: rest.map (mv Γ q)))
  rw [e1]
  exact this
theorem c_mmin {idx : Nat} {a b : Int} {rest : List PV} (hd : decode (yB y) pc = .ok (.invokestatic idx, 3)) (hM : MX (yN y).cls idx Lib.Math.min.name Lib.Math.min.code 2) (hrest : (rest.map pcat).sum ≤ 8) (hK : 1 ≤ yK y) (kk : Run Γ rg κ y (pc + 3) ls ((0, zmin a b) :: rest) D Φ) : Run Γ rg κ y pc ls ((0, b) :: (0, a) :: rest) D Φ := by
  intro p e R s m args below meth c H locs lsm cells slots q mc ms C hH hS hl h1 h2 h3 h4
  obtain ⟨hx, hb, hml, hown, hlk, hrt, htb, hfr, hlo, hE⟩ := id C
  refine va_mmin hx hb (hml.trans hl.1.symm) hown (hE.word hM.1) (hE.word hM.2.1) (hE.word hM.2.2.1) (hE.word hM.2.2.2) (by omega) (by rw [pcat_sum]; omega) (by omega) (by omega) hd ?_
  have := kk p e R s m args below meth c H locs lsm cells slots q mc ms C hH hS hl h1 h2 h3 h4
  have e1 : (if Int32.ofInt b < Int32.ofInt a then Int32.ofInt b else Int32.ofInt a) = Int32.ofInt (zmin a b) := by
    unfold zmin
    rw [← ofI_w32 a, ← ofI_w32 b]
    by_cases g : w32 b < w32 a
    · rw [if_pos ((ofI_lt (w32_in b) (w32_in a)).mpr g), if_pos g, ofI_w32]
    · rw [if_neg (fun q => g ((ofI_lt (w32_in b) (w32_in a)).mp q)), if_neg g, ofI_w32]
  show W p Γ.1 e R s m args below meth c H locs cells slots _ (F0 m (pc + 3) lsm (.int _ :: rest.map (mv Γ q)))
  rw [e1]
  exact this
theorem c_mabs {idx : Nat} {a : Int} {rest : List PV} (hd : decode (yB y) pc = .ok (.invokestatic idx, 3)) (hM : MX (yN y).cls idx Lib.Math.abs.name Lib.Math.abs.code 1) (hrest : (rest.map pcat).sum ≤ 8) (hK : 1 ≤ yK y) (kk : Run Γ rg κ y (pc + 3) ls ((0, zabs a) :: rest) D Φ) : Run Γ rg κ y pc ls ((0, a) :: rest) D Φ := by
  intro p e R s m args below meth c H locs lsm cells slots q mc ms C hH hS hl h1 h2 h3 h4
  obtain ⟨hx, hb, hml, hown, hlk, hrt, htb, hfr, hlo, hE⟩ := id C
  refine va_mabs hx hb (hml.trans hl.1.symm) hown (hE.word hM.1) (hE.word hM.2.1) (hE.word hM.2.2.1) (hE.word hM.2.2.2) (by omega) (by rw [pcat_sum]; omega) (by omega) (by omega) hd ?_
  have := kk p e R s m args below meth c H locs lsm cells slots q mc ms C hH hS hl h1 h2 h3 h4
  have e1 : (if 0 ≤ Int32.ofInt a then Int32.ofInt a else 0 - Int32.ofInt a) = Int32.ofInt (zabs a) := by
    unfold zabs
    by_cases g : 0 ≤ w32 a
    · rw [if_pos (by rw [← ofI_w32 a, ofI_0]; exact (ofI_le inR_0 (w32_in a)).mpr g), if_pos g]
    · rw [if_neg (fun q => g (by rw [← ofI_w32 a, ofI_0] at q; exact (ofI_le inR_0 (w32_in a)).mp q)), if_neg g, ofI_0, ← Int32.ofInt_sub]
  show W p Γ.1 e R s m args below meth c H locs cells slots _ (F0 m (pc + 3) lsm (.int _ :: rest.map (mv Γ q)))
  rw [e1]
  exact this
end MORE
abbrev Y_X7_read : YT := (cX7_read, 2, (some .int), yX7_read, [], 1)
theorem mk_X7_read : MK Y_X7_read 2 := ⟨KW.at (i := 36) (by decide +kernel) rfl, KW.at (i := 236) (by decide +kernel) rfl, ⟨by decide +kernel, by decide +kernel⟩, by decide +kernel, by decide +kernel, rfl, by decide⟩
theorem d_X7_read_0 : decode cX7_read 0 = .ok (.iload_n 1, 1) := by decide +kernel
theorem d_X7_read_1 : decode cX7_read 1 = .ok (.ifCond .lt 15, 3) := by decide +kernel
theorem d_X7_read_4 : decode cX7_read 4 = .ok (.iload_n 1, 1) := by decide +kernel
theorem d_X7_read_5 : decode cX7_read 5 = .ok (.aload_n 0, 1) := by decide +kernel
theorem d_X7_read_6 : decode cX7_read 6 = .ok (.arraylength, 1) := by decide +kernel
theorem d_X7_read_7 : decode cX7_read 7 = .ok (.if_icmp .ge 9, 3) := by decide +kernel
theorem d_X7_read_10 : decode cX7_read 10 = .ok (.aload_n 0, 1) := by decide +kernel
theorem d_X7_read_11 : decode cX7_read 11 = .ok (.iload_n 1, 1) := by decide +kernel
theorem d_X7_read_12 : decode cX7_read 12 = .ok (.iaload, 1) := by decide +kernel
theorem d_X7_read_13 : decode cX7_read 13 = .ok (.goto 4, 3) := by decide +kernel
theorem d_X7_read_16 : decode cX7_read 16 = .ok (.iconst 0, 1) := by decide +kernel
theorem d_X7_read_17 : decode cX7_read 17 = .ok (.ireturn, 1) := by decide +kernel
abbrev Y_X7_store : YT := (cX7_store, 3, none, yX7_store, [], 1)
theorem mk_X7_store : MK Y_X7_store 3 := ⟨KW.at (i := 36) (by decide +kernel) rfl, KW.at (i := 70) (by decide +kernel) rfl, ⟨by decide +kernel, by decide +kernel⟩, by decide +kernel, by decide +kernel, rfl, by decide⟩
theorem d_X7_store_0 : decode cX7_store 0 = .ok (.iload_n 1, 1) := by decide +kernel
theorem d_X7_store_1 : decode cX7_store 1 = .ok (.ifCond .lt 13, 3) := by decide +kernel
theorem d_X7_store_4 : decode cX7_store 4 = .ok (.iload_n 1, 1) := by decide +kernel
theorem d_X7_store_5 : decode cX7_store 5 = .ok (.aload_n 0, 1) := by decide +kernel
theorem d_X7_store_6 : decode cX7_store 6 = .ok (.arraylength, 1) := by decide +kernel
theorem d_X7_store_7 : decode cX7_store 7 = .ok (.if_icmp .ge 7, 3) := by decide +kernel
theorem d_X7_store_10 : decode cX7_store 10 = .ok (.aload_n 0, 1) := by decide +kernel
theorem d_X7_store_11 : decode cX7_store 11 = .ok (.iload_n 1, 1) := by decide +kernel
theorem d_X7_store_12 : decode cX7_store 12 = .ok (.iload_n 2, 1) := by decide +kernel
theorem d_X7_store_13 : decode cX7_store 13 = .ok (.iastore, 1) := by decide +kernel
theorem d_X7_store_14 : decode cX7_store 14 = .ok (.return_, 1) := by decide +kernel
theorem run_pH_read {Γ : GG} {rg : Nat → Bool} {κ : Nat} {Φ : OT → DD → Prop} {D : DD} {a n : Nat} {cs : List Nat} (hs : SH.getD a (9, 0, []) = (1, n, cs)) (ha : a < NA) (hr : rg a = true) (hn : n < 2147483648) (i : Int) {x : Int} (h : EQx x (rd n a i D)) (hΦ : Φ (.inl (some (0, x))) D) : Run Γ rg κ Y_X7_read 0 [(a + 8, 0), (0, i)] [] D Φ := by
  have hx : x = rd n a i D := h
  unfold rd at hx
  have hend : ∀ v : Int, x = v → Run Γ rg κ Y_X7_read 17 [(a + 8, 0), (0, i)] [(0, v)] D Φ := fun v e => e_iret d_X7_read_17 rfl e hΦ
  have hzero : x = 0 → Run Γ rg κ Y_X7_read 16 [(a + 8, 0), (0, i)] [] D Φ := fun e => r_iconst d_X7_read_16 (hend 0 e)
  refine r_iload_n d_X7_read_0 rfl ?_
  refine Run.st1 (ofI_w32 i) (r_if_lt (tgt := 16) d_X7_read_1 (by decide) (w32_in i) (fun g => ?_) (fun g => ?_))
  · exact hzero (by rw [if_neg (by omega)] at hx; exact hx)
  · refine r_iload_n d_X7_read_4 rfl ?_
    refine r_aload_n d_X7_read_5 rfl (Nat.le_trans (by decide) (Nat.le_add_left 8 a)) ?_
    refine r_alen d_X7_read_6 hs ha hr ?_
    refine Run.st2 (ofI_w32 i) (r_icmp_ge (tgt := 16) d_X7_read_7 (by decide) (w32_in i) ⟨by omega, by omega⟩ (fun g2 => ?_) (fun g2 => ?_))
    · exact hzero (by rw [if_neg (by omega)] at hx; exact hx)
    · rw [if_pos ⟨g, g2⟩] at hx
      refine r_aload_n d_X7_read_10 rfl (Nat.le_trans (by decide) (Nat.le_add_left 8 a)) ?_
      refine r_iload_n d_X7_read_11 rfl ?_
      refine Run.st1 (ofI_w32 i) (r_iald d_X7_read_12 hs ha hr hn g g2 ?_)
      exact r_goto (tgt := 17) d_X7_read_13 (by decide) (hend _ hx)
theorem run_pH_store {Γ : GG} {rg : Nat → Bool} {κ : Nat} {Φ : OT → DD → Prop} {D : DD} {a n : Nat} {cs : List Nat} (hs : SH.getD a (9, 0, []) = (1, n, cs)) (ha : a < NA) (hr : rg a = true) (hn : n < 2147483648) (i v : Int) (h : WPD Φ (sto n a i v D)) : Run Γ rg κ Y_X7_store 0 [(a + 8, 0), (0, i), (0, v)] [] D Φ := by
  unfold sto at h
  have hend : ∀ D1 : DD, WPD Φ D1 → Run Γ rg κ Y_X7_store 14 [(a + 8, 0), (0, i), (0, v)] [] D1 Φ := fun D1 e => d_vret d_X7_store_14 rfl e
  refine r_iload_n d_X7_store_0 rfl ?_
  refine Run.st1 (ofI_w32 i) (r_if_lt (tgt := 14) d_X7_store_1 (by decide) (w32_in i) (fun g => ?_) (fun g => ?_))
  · exact hend _ (by rw [if_neg (by omega)] at h; exact h)
  · refine r_iload_n d_X7_store_4 rfl ?_
    refine r_aload_n d_X7_store_5 rfl (Nat.le_trans (by decide) (Nat.le_add_left 8 a)) ?_
    refine r_alen d_X7_store_6 hs ha hr ?_
    refine Run.st2 (ofI_w32 i) (r_icmp_ge (tgt := 14) d_X7_store_7 (by decide) (w32_in i) ⟨by omega, by omega⟩ (fun g2 => ?_) (fun g2 => ?_))
    · exact hend _ (by rw [if_neg (by omega)] at h; exact h)
    · rw [if_pos ⟨g, g2⟩] at h
      refine r_aload_n d_X7_store_10 rfl (Nat.le_trans (by decide) (Nat.le_add_left 8 a)) ?_
      refine r_iload_n d_X7_store_11 rfl ?_
      refine r_iload_n d_X7_store_12 rfl ?_
      refine Run.st2 (ofI_w32 i) (r_iast d_X7_store_13 hs ha hr hn g g2 ?_)
      exact hend _ h
def iandZ_ok : Unit := ()
def lxorZ (a b : Int) : Int := (Int64.ofInt a ^^^ Int64.ofInt b).toInt
def lshrZ (a b : Int) : Int := (Int64.ofInt a >>> ((Int32.ofInt b).toInt64 &&& 63)).toInt
def remR (a b : Int) (c : Int → Res) : Res := if b = 0 then none else c (Int.tmod a b)
section MORE2
variable {Γ : GG} {rg : Nat → Bool} {κ κ0 : Nat} {y : YT} {pc : Nat} {ls st : List PV} {D : DD} {Φ : OT → DD → Prop} {t : Option FieldType}
theorem c_iremV {a b a' b' : Int} {c : Int → Res} (hd : decode (yB y) pc = .ok (.irem, 1)) (ha : nz a a') (hb : nz b b') (h : WP t κ0 Φ (remR a' b' c)) (kk : ∀ v, WP t κ0 Φ (c v) → Run Γ rg κ y (pc + 1) ls ((0, v) :: st) D Φ) : Run Γ rg κ y pc ls ((0, b) :: (0, a) :: st) D Φ := by
  unfold remR at h
  split at h
  · exact h.no.elim
  · rename_i g
    exact Run.st1 hb.1 (Run.st2 ha.1 (r_irem hd ha.2 hb.2 g (kk _ h)))
theorem c_lald {a n : Nat} {i z : Int} {cs : List Nat} {c : Int → Res} (hd : decode (yB y) pc = .ok (.laload, 1)) (hs : SH.getD a (9, 0, []) = (3, n, cs)) (ha : a < NA) (hr : rg a = true) (hn : n < 2147483648) (h : WP t κ0 Φ (rdA n a i D c))
    (kk : ∀ v, WP t κ0 Φ (c v) → Run Γ rg κ y (pc + 1) ls ((1, v) :: st) D Φ) : Run Γ rg κ y pc ls ((0, i) :: (a + 8, z) :: st) D Φ := by
  unfold rdA at h
  split at h
  · rename_i g
    exact Run.st1 (ofI_w32 i) (r_lald hd hs ha hr hn g.1 g.2 (kk _ h))
  · exact h.no.elim
theorem c_last {a n : Nat} {i z x : Int} {cs : List Nat} {c : DD → Res} (hd : decode (yB y) pc = .ok (.lastore, 1)) (hs : SH.getD a (9, 0, []) = (3, n, cs)) (ha : a < NA) (hr : rg a = true) (hn : n < 2147483648) (h : WP t κ0 Φ (wrA n a i x D c))
    (kk : ∀ D1, WP t κ0 Φ (c D1) → Run Γ rg κ y (pc + 1) ls st D1 Φ) : Run Γ rg κ y pc ls ((1, x) :: (0, i) :: (a + 8, z) :: st) D Φ := by
  unfold wrA at h
  split at h
  · rename_i g
    exact Run.st2 (ofI_w32 i) (r_last hd hs ha hr hn g.1 g.2 (kk _ h))
  · exact h.no.elim
theorem r_lload {i : Nat} {z : Int} (hd : decode (yB y) pc = .ok (.lload i, 2)) (hv : ls[i]? = some (1, z)) (k : Run Γ rg κ y (pc + 2) ls ((1, z) :: st) D Φ) : Run Γ rg κ y pc ls st D Φ := by
  intro p e R s m args below meth c H locs lsm cells slots q mc ms C hH hS hl h1 h2 h3 h4
  exact lv_lload C.1 C.2.1 hd (hl.2.2 _ _ hv (by show (1 : Nat) ≠ 5; decide)) (k p e R s m args below meth c H locs lsm cells slots q mc ms C hH hS hl h1 h2 h3 h4)
theorem c_ltj {β : Type} {G : β → Prop} {i : Nat} {z : Int} {c : Int → β} (hd : decode (yB y) pc = .ok (.lstore i, 2)) (hi : i + 1 < yL y) (hp : pok2 ls i = true) (h : G (ltR z c)) (kk : ∀ x, G (c x) → Run Γ rg κ y (pc + 2) ((ls.set i (1, x)).set (i + 1) (5, 0)) st D Φ) : Run Γ rg κ y pc ls ((1, z) :: st) D Φ := by
  intro p e R s m args below meth c H locs lsm cells slots q mc ms C hH hS hl h1 h2 h3 h4
  exact lv_lstore C.1 C.2.1 hd hl.has hi rfl (fun lsm' hn => kk z h p e R s m args below meth c H locs lsm' cells slots q mc ms C hH hS (hl.set2 (x := z) hp hn) h1 h2 h3 h4)
theorem r_lmul {a b : Int} (hd : decode (yB y) pc = .ok (.lmul, 1)) (k : Run Γ rg κ y (pc + 1) ls ((1, a * b) :: st) D Φ) : Run Γ rg κ y pc ls ((1, b) :: (1, a) :: st) D Φ := by
  intro p e R s m args below meth c H locs lsm cells slots q mc ms C hH hS hl h1 h2 h3 h4
  refine lv_lmul C.1 C.2.1 hd ?_
  rw [← Int64.ofInt_mul]
  exact k p e R s m args below meth c H locs lsm cells slots q mc ms C hH hS hl h1 h2 h3 h4
theorem r_ldiv {a b : Int} (hd : decode (yB y) pc = .ok (.ldiv, 1)) (ha : inJ a) (hb : inJ b) (h0 : b ≠ 0) (k : Run Γ rg κ y (pc + 1) ls ((1, a.tdiv b) :: st) D Φ) : Run Γ rg κ y pc ls ((1, b) :: (1, a) :: st) D Φ := by
  intro p e R s m args below meth c H locs lsm cells slots q mc ms C hH hS hl h1 h2 h3 h4
  refine lv_ldiv C.1 C.2.1 hd (fun e => h0 ?_) ?_
  · have := congrArg Int64.toInt e
    rw [inJ_toInt hb] at this
    exact this
  · rw [← Int64.ofInt_tdiv ha.1 ha.2 hb.1 hb.2]
    exact k p e R s m args below meth c H locs lsm cells slots q mc ms C hH hS hl h1 h2 h3 h4
theorem r_lrem {a b : Int} (hd : decode (yB y) pc = .ok (.lrem, 1)) (ha : inJ a) (hb : inJ b) (h0 : b ≠ 0) (k : Run Γ rg κ y (pc + 1) ls ((1, a.tmod b) :: st) D Φ) : Run Γ rg κ y pc ls ((1, b) :: (1, a) :: st) D Φ := by
  intro p e R s m args below meth c H locs lsm cells slots q mc ms C hH hS hl h1 h2 h3 h4
  refine lv_lrem C.1 C.2.1 hd (fun e => h0 ?_) ?_
  · have := congrArg Int64.toInt e
    rw [inJ_toInt hb] at this
    exact this
  · rw [← Int64.ofInt_tdiv ha.1 ha.2 hb.1 hb.2, ← Int64.ofInt_mul, ← Int64.ofInt_sub]
    have e1 : a - a.tdiv b * b = a.tmod b := by rw [Int.tmod_def, Int.mul_comm]
    rw [e1]
    exact k p e R s m args below meth c H locs lsm cells slots q mc ms C hH hS hl h1 h2 h3 h4
theorem c_ldiv {a b : Int} (hd : decode (yB y) pc = .ok (.ldiv, 1)) (hb : (decide (-9223372036854775808 ≤ b) && decide (b ≤ 9223372036854775807)) = true) (h0 : b ≠ 0) (k : Run Γ rg κ y (pc + 1) ls ((1, (w64 a).tdiv b) :: st) D Φ) : Run Γ rg κ y pc ls ((1, b) :: (1, a) :: st) D Φ := by
  simp only [Bool.and_eq_true, decide_eq_true_eq] at hb
  exact Run.sj2 (ofI_w64 a) (r_ldiv hd (w64_in a) hb h0 k)
theorem c_lrem {a b : Int} (hd : decode (yB y) pc = .ok (.lrem, 1)) (hb : (decide (-9223372036854775808 ≤ b) && decide (b ≤ 9223372036854775807)) = true) (h0 : b ≠ 0) (k : Run Γ rg κ y (pc + 1) ls ((1, (w64 a).tmod b) :: st) D Φ) : Run Γ rg κ y pc ls ((1, b) :: (1, a) :: st) D Φ := by
  simp only [Bool.and_eq_true, decide_eq_true_eq] at hb
  exact Run.sj2 (ofI_w64 a) (r_lrem hd (w64_in a) hb h0 k)
theorem c_lxor {a b : Int} (hd : decode (yB y) pc = .ok (.lxor, 1)) (k : Run Γ rg κ y (pc + 1) ls ((1, lxorZ a b) :: st) D Φ) : Run Γ rg κ y pc ls ((1, b) :: (1, a) :: st) D Φ := by
  intro p e R s m args below meth c H locs lsm cells slots q mc ms C hH hS hl h1 h2 h3 h4
  refine lv_lxor C.1 C.2.1 hd ?_
  have := k p e R s m args below meth c H locs lsm cells slots q mc ms C hH hS hl h1 h2 h3 h4
  unfold lxorZ at this
  rw [List.map_cons, show ∀ w : Int64, mv Γ q (1, w.toInt) = .long (Int64.ofInt w.toInt) from fun _ => rfl, Int64.ofInt_toInt] at this
  exact this
theorem c_lshr {a b : Int} (hd : decode (yB y) pc = .ok (.lshr, 1)) (k : Run Γ rg κ y (pc + 1) ls ((1, lshrZ a b) :: st) D Φ) : Run Γ rg κ y pc ls ((0, b) :: (1, a) :: st) D Φ := by
  intro p e R s m args below meth c H locs lsm cells slots q mc ms C hH hS hl h1 h2 h3 h4
  refine lv_lshr C.1 C.2.1 hd rfl ?_
  have := k p e R s m args below meth c H locs lsm cells slots q mc ms C hH hS hl h1 h2 h3 h4
  unfold lshrZ at this
  rw [List.map_cons, show ∀ w : Int64, mv Γ q (1, w.toInt) = .long (Int64.ofInt w.toInt) from fun _ => rfl, Int64.ofInt_toInt] at this
  exact this
theorem r_ldcI {idx : Nat} {v : Int} (hd : decode (yB y) pc = .ok (.ldc idx, 2)) (hc : KW (.constant (yN y).cls idx (Int32.ofInt v))) (k : Run Γ rg κ y (pc + 2) ls ((0, v) :: st) D Φ) : Run Γ rg κ y pc ls st D Φ := by
  intro p e R s m args below meth c H locs lsm cells slots q mc ms C hH hS hl h1 h2 h3 h4
  obtain ⟨hx, hb, hml, hown, hlk, hrt, htb, hfr, hlo, hE⟩ := id C
  exact lv_ldc hx hb hown (hE.word hc) hd (k p e R s m args below meth c H locs lsm cells slots q mc ms C hH hS hl h1 h2 h3 h4)
theorem r_pop2 {z : Int} (hd : decode (yB y) pc = .ok (.pop2, 1)) (k : Run Γ rg κ y (pc + 1) ls st D Φ) : Run Γ rg κ y pc ls ((1, z) :: st) D Φ := by
  intro p e R s m args below meth c H locs lsm cells slots q mc ms C hH hS hl h1 h2 h3 h4
  exact lv_pop2_2 C.1 C.2.1 hd (by rfl) (k p e R s m args below meth c H locs lsm cells slots q mc ms C hH hS hl h1 h2 h3 h4)
end MORE2
abbrev Y_J7_fill_53178 : YT := (cJ7_fill_53178, 4, none, yJ7_fill_53178, [], 1)
theorem d_J7_fill_53178_0 : decode cJ7_fill_53178 0 = .ok (.iconst 0, 1) := by decide +kernel
theorem d_J7_fill_53178_1 : decode cJ7_fill_53178 1 = .ok (.istore_n 2, 1) := by decide +kernel
theorem d_J7_fill_53178_2 : decode cJ7_fill_53178 2 = .ok (.aload_n 0, 1) := by decide +kernel
theorem d_J7_fill_53178_3 : decode cJ7_fill_53178 3 = .ok (.arraylength, 1) := by decide +kernel
theorem sh_14 : SH.getD 14 (9, 0, []) = (1, 256, []) := rfl
theorem d_J7_fill_53178_4 : decode cJ7_fill_53178 4 = .ok (.istore_n 3, 1) := by decide +kernel
theorem d_J7_fill_53178_5 : decode cJ7_fill_53178 5 = .ok (.iload_n 2, 1) := by decide +kernel
theorem d_J7_fill_53178_6 : decode cJ7_fill_53178 6 = .ok (.iload_n 3, 1) := by decide +kernel
theorem d_J7_fill_53178_7 : decode cJ7_fill_53178 7 = .ok (.if_icmp .ge 13, 3) := by decide +kernel
theorem d_J7_fill_53178_20 : decode cJ7_fill_53178 20 = .ok (.return_, 1) := by decide +kernel
theorem d_J7_fill_53178_10 : decode cJ7_fill_53178 10 = .ok (.aload_n 0, 1) := by decide +kernel
theorem d_J7_fill_53178_11 : decode cJ7_fill_53178 11 = .ok (.iload_n 2, 1) := by decide +kernel
theorem d_J7_fill_53178_12 : decode cJ7_fill_53178 12 = .ok (.iload_n 1, 1) := by decide +kernel
theorem d_J7_fill_53178_13 : decode cJ7_fill_53178 13 = .ok (.iastore, 1) := by decide +kernel
theorem d_J7_fill_53178_14 : decode cJ7_fill_53178 14 = .ok (.iinc 2 1, 3) := by decide +kernel
theorem d_J7_fill_53178_17 : decode cJ7_fill_53178 17 = .ok (.goto (-12), 3) := by decide +kernel
section
def pJ_fill_5 (a1 : Int) (a3 : Int) : Nat → Int → DD → Res
  | 0, _, _ => none
  | n + 1, a2, D =>
    if (w32 a2) < (w32 a3) then (
      wrA 256 14 a2 a1 D fun D1 =>
      pJ_fill_5 a1 a3 n (a2 + 1) D1
    ) else (
      okR 0 D
    )
def pJ_fill (p1 : Int) (D : DD) : Res :=
  pJ_fill_5 p1 256 fu 0 D
end
set_option maxRecDepth 20000 in
theorem run_pJ_fill_5 {Γ : GG} {rg : Nat → Bool} {κ : Nat} {Φ : OT → DD → Prop} (R : cov rg rg0) (a1 : Int) (a3 : Int) : ∀ (n : Nat) (a2 : Int) (D : DD), WP none κ Φ (pJ_fill_5 a1 a3 n a2 D) → Run Γ rg κ Y_J7_fill_53178 5 [(22, 0), (0, a1), (0, a2), (0, a3)] [] D Φ := by
  intro n
  induction n with
  | zero => intro a2 D h; exact h.no.elim
  | succ n ih =>
    intro a2 D h
    rw [pJ_fill_5] at h
    show Run Γ rg κ Y_J7_fill_53178 5 [(22, 0), (0, a1), (0, a2), (0, a3)] [] D Φ
    refine r_iload_n d_J7_fill_53178_5 rfl ?_
    refine r_iload_n d_J7_fill_53178_6 rfl ?_
    refine c_icmp_ge (tgt := 20) d_J7_fill_53178_7 (by decide) (nz_w _) (nz_w _) h (fun h => ?_) (fun h => ?_)
    · skip
      show Run Γ rg κ Y_J7_fill_53178 20 [(22, 0), (0, a1), (0, a2), (0, a3)] [] D Φ
      exact c_vret d_J7_fill_53178_20 rfl h
    · skip
      show Run Γ rg κ Y_J7_fill_53178 10 [(22, 0), (0, a1), (0, a2), (0, a3)] [] D Φ
      refine r_aload_n d_J7_fill_53178_10 rfl (by decide) ?_
      refine r_iload_n d_J7_fill_53178_11 rfl ?_
      refine r_iload_n d_J7_fill_53178_12 rfl ?_
      refine c_iast d_J7_fill_53178_13 sh_14 (by decide) (R 14 rfl) (by decide) h (fun D1 h => ?_)
      refine r_iinc d_J7_fill_53178_14 rfl (by decide) rfl ?_
      show Run Γ rg κ Y_J7_fill_53178 17 [(22, 0), (0, a1), (0, (a2 + 1)), (0, a3)] [] D1 Φ
      refine r_goto (tgt := 5) d_J7_fill_53178_17 (by decide) ?_
      exact (ih (a2 + 1) D1 h)
set_option maxRecDepth 20000 in
theorem run_pJ_fill {Γ : GG} {rg : Nat → Bool} {κ : Nat} {Φ : OT → DD → Prop} (R : cov rg rg0) (p1 : Int) {D : DD} (h : WP none κ Φ (pJ_fill p1 D)) : Run Γ rg κ Y_J7_fill_53178 0 [(22, 0), (0, p1), (5, 0), (5, 0)] [] D Φ := by
  unfold pJ_fill at h
  show Run Γ rg κ Y_J7_fill_53178 0 [(22, 0), (0, p1), (5, 0), (5, 0)] [] D Φ
  refine r_iconst d_J7_fill_53178_0 ?_
  refine r_istore_n d_J7_fill_53178_1 (by decide) rfl ?_
  show Run Γ rg κ Y_J7_fill_53178 2 [(22, 0), (0, p1), (0, 0), (5, 0)] [] D Φ
  refine r_aload_n d_J7_fill_53178_2 rfl (by decide) ?_
  refine r_alen d_J7_fill_53178_3 sh_14 (by decide) (R 14 rfl) ?_
  refine r_istore_n d_J7_fill_53178_4 (by decide) rfl ?_
  show Run Γ rg κ Y_J7_fill_53178 5 [(22, 0), (0, p1), (0, 0), (0, 256)] [] D Φ
  exact run_pJ_fill_5 R p1 256 fu 0 D h
/-- Arrays.fill of the class's row of 256, in one step -/
def fil2 (D : DD) (v : Int) : DD := fun x => if x = 14 then (fun j => if j < 256 then v else D 14 j) else D x
def filR (v : Int) (D : DD) : Res := okR 0 (fil2 D v)
theorem fill_loop (v : Int) : ∀ (f k : Nat) (D : DD), k ≤ 256 → 256 - k < f → pJ_fill_5 v 256 f (k : Int) D = okR 0 (fun x => if x = 14 then (fun j => if k ≤ j ∧ j < 256 then v else D 14 j) else D x) := by
  intro f
  induction f with
  | zero => intro k D h1 h2; omega
  | succ f ih =>
    intro k D h1 h2
    rw [pJ_fill_5, w32_of (z := (k : Int)) (by omega), w32_of (z := 256) (by omega)]
    by_cases g : (k : Int) < 256
    · rw [if_pos g]
      unfold wrA
      rw [w32_of (z := (k : Int)) (by omega), if_pos ⟨by omega, by omega⟩, Int.toNat_natCast]
      have h3 := ih (k + 1) (up2 D 14 k v) (by omega) (by omega)
      rw [show ((k + 1 : Nat) : Int) = (k : Int) + 1 by omega] at h3
      show pJ_fill_5 v 256 f ((k : Int) + 1) (up2 D 14 k v) = _
      rw [h3]
      refine congrArg (okR 0) (funext fun x => ?_)
      by_cases hx : x = 14
      · rw [if_pos hx, if_pos hx]
        funext j
        by_cases hj : j = k
        · rw [if_neg (by omega), if_pos (by omega), up2_at]
          exact if_pos hj
        · rw [up2_at]
          by_cases hk : k + 1 ≤ j ∧ j < 256
          · rw [if_pos hk, if_pos (by omega)]
          · rw [if_neg hk, if_neg (by omega)]
            exact if_neg hj
      · rw [if_neg hx, if_neg hx, up2_ne _ _ _ _ hx]
    · rw [if_neg g]
      refine congrArg (okR 0) (funext fun x => ?_)
      by_cases hx : x = 14
      · rw [if_pos hx]
        subst hx
        funext j
        rw [if_neg (by omega)]
      · rw [if_neg hx]
theorem fill_eq (v : Int) (D : DD) : pJ_fill v D = filR v D := by
  unfold pJ_fill filR fil2
  have := fill_loop v fu 0 D (by omega) (by decide)
  rw [show ((0 : Nat) : Int) = 0 from rfl] at this
  rw [this]
  refine congrArg (okR 0) (funext fun x => ?_)
  by_cases hx : x = 14
  · rw [if_pos hx, if_pos hx]
    funext j
    by_cases hj : j < 256
    · rw [if_pos hj, if_pos ⟨Nat.zero_le _, hj⟩]
    · rw [if_neg hj, if_neg (fun q => hj q.2)]
  · rw [if_neg hx, if_neg hx]
theorem run_filR {Γ : GG} {rg : Nat → Bool} {κ : Nat} {Φ : OT → DD → Prop} (R : cov rg rg0) (p1 : Int) {D : DD} (h : WP none κ Φ (filR p1 D)) : Run Γ rg κ Y_J7_fill_53178 0 [(22, 0), (0, p1), (5, 0), (5, 0)] [] D Φ := run_pJ_fill R p1 (by rw [fill_eq]; exact h)

