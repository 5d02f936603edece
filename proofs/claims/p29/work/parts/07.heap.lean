/-! rows that read and write cells, and the ends -/
def up2 (D : DD) (a k : Nat) (z : Int) : DD := fun x => if x = a then (fun j => if j = k then z else D a j) else D x
theorem up2_at (D : DD) (a k : Nat) (z : Int) : up2 D a k z a = fun j => if j = k then z else D a j := by unfold up2; rw [if_pos rfl]
theorem up2_ne (D : DD) (a k : Nat) (z : Int) {x : Nat} (h : x ≠ a) : up2 D a k z x = D x := by unfold up2; rw [if_neg h]
def bmp (D : DD) : DD := up2 D 99 0 (D 99 0 + 1)
theorem wsl_bmp (Γ : GG) (rg : Nat → Bool) (D : DD) : wsl Γ rg (bmp D) = wsl Γ rg D := by
  unfold wsl
  apply List.map_congr_left
  intro a ha
  have h1 := List.mem_range.mp (List.mem_filter.mp ha).1
  rw [cellOf_congr (D := D) (D' := bmp D) (up2_ne D 99 0 _ (show a ≠ 99 by intro e; subst e; exact absurd h1 (by decide)))]
theorem HW.sto {Γ : GG} {rg : Nat → Bool} {D D' : DD} {H H1 s0 : Heap} {locs locs1 : List Loc} (hH : HW Γ rg D H) (hS : va_S (Ab Γ) s0 H locs) (hP1 : va_P (gG Γ) vwCl (wsl Γ rg D') H1) (hS1 : va_S (Ab Γ) H H1 locs1) (h99 : D' 99 = D 99) : HW Γ rg D' H1 ∧ va_S (Ab Γ) s0 H1 locs1 :=
  ⟨⟨hP1, by rw [h99]; exact Nat.le_trans hH.2 hS1.1⟩, Nat.le_trans hS.1 hS1.1, fun q h1 h2 => (hS1.2.1 q (Nat.lt_of_lt_of_le h1 hS.1) h2).trans (hS.2.1 q h1 h2), hS1.2.2⟩
theorem n99 {a : Nat} (h : a < NA) : (99 : Nat) ≠ a := fun e => by subst e; exact absurd h (by decide)
/-- a field: the class's place among the classes, the field's place; its link from own's pool -/
def FK (own : String) (idx ci k : Nat) : Prop := ∃ (C : String) (T : u_T) (N : Nat), vwCl[ci]? = some (C, T, N) ∧ k < N ∧ (∀ w ∈ u_ws C T N, KW w) ∧ KW (.fieldLink own idx (T k).1 (T k).2.1 (T k).2.2.1)
def PK (own : String) (idx ci k : Nat) (ty : FieldType) : Prop := ∃ (C : String) (T : u_T) (N : Nat) (ty0 : Nat → FieldType), vwCl[ci]? = some (C, T, N) ∧ k < N ∧ (∀ w ∈ u_ws C T N, KW w) ∧ KW (.fieldLink own idx (T k).1 (T k).2.1 (T k).2.2.1) ∧
  (∀ k, k < N → parseFieldDescriptor (T k).2.2.1 = some (ty0 k)) ∧ (∀ a, a < N → ∀ b, b < N → a ≠ b → (T a).2.1 ≠ (T b).2.1) ∧ (T k).2.2.2 = false ∧ ty0 k = ty
theorem EV.word {Γ : GG} {s : State} (h : EV Γ s) {w : Cond} (hw : KW w) {args : Array Value} : w.before args s = true := va_Nw.use (kk_on hw.2) (h.2.1 w hw)
section HEAPS
variable {Γ : GG} {rg : Nat → Bool} {κ : Nat} {y : YT} {pc : Nat} {ls st : List PV} {D : DD} {Φ : OT → DD → Prop}
theorem r_get {idx a k ci code : Nat} {cs : List Nat} {z : Int} {v : PV} (hd : decode (yB y) pc = .ok (.getfield idx, 3)) (hF : FK (yN y).cls idx ci k) (hs : SH.getD a (9, 0, []) = (0, ci, cs)) (hk : cs[k]? = some code) (ha : a < NA) (hr : rg a = true)
    (hv : ∀ q, mv Γ q v = fvz Γ code (D a k)) (kk : Run Γ rg κ y (pc + 3) ls (v :: st) D Φ) : Run Γ rg κ y pc ls ((a + 8, z) :: st) D Φ := by
  intro p e R s m args below meth c H locs lsm cells slots q mc ms C hH hS hl h1 h2 h3 h4
  obtain ⟨Cn, T, N, e1, e2, e3, e4⟩ := hF
  obtain ⟨hx, hb, hml, hown, hlk, hrt, htb, hfr, hlo, hE⟩ := id C
  obtain ⟨q0, -, hq⟩ := wsl_at ha hr
  have hce : cellOf Γ D a = .inr (ci, (List.range cs.length).map (fun k => fvz Γ (cs.getD k 0) (D a k))) := by unfold cellOf; simp only [hs]
  have hat := (hq Γ D).1
  rw [hce] at hat
  have kk' := kk p e R s m args below meth c H locs lsm cells slots q mc ms C hH hS hl h1 h2 h3 h4
  rw [List.map_cons, hv q] at kk'
  have hkl := (List.getElem?_eq_some_iff.mp hk).1
  exact va_get (Ts := u_ws Cn T N) hx hb (fun w hw => hE.word (e3 w hw)) (fun _ h => h) hown hE.2.2.1 hH.1 q0 hat e1 k e2 (hE.word e4) (fun _ h => h) (v := fvz Γ code (D a k))
    (by rw [List.getElem?_map, List.getElem?_range hkl, Option.map_some, List.getD_eq_getElem?_getD, hk]; rfl) hd kk'
theorem r_getI {idx a k ci : Nat} {code : Nat} {cs : List Nat} {z : Int} (hd : decode (yB y) pc = .ok (.getfield idx, 3)) (hF : FK (yN y).cls idx ci k) (hs : SH.getD a (9, 0, []) = (0, ci, cs)) (hk : cs[k]? = some code) (hc : code ≤ 1) (ha : a < NA) (hr : rg a = true)
    (kk : Run Γ rg κ y (pc + 3) ls ((0, D a k) :: st) D Φ) : Run Γ rg κ y pc ls ((a + 8, z) :: st) D Φ := r_get hd hF hs hk ha hr (fun q => by unfold fvz; rw [if_pos hc]; rfl) kk
theorem r_getJ {idx a k ci : Nat} {cs : List Nat} {z : Int} (hd : decode (yB y) pc = .ok (.getfield idx, 3)) (hF : FK (yN y).cls idx ci k) (hs : SH.getD a (9, 0, []) = (0, ci, cs)) (hk : cs[k]? = some 2) (ha : a < NA) (hr : rg a = true)
    (kk : Run Γ rg κ y (pc + 3) ls ((1, D a k) :: st) D Φ) : Run Γ rg κ y pc ls ((a + 8, z) :: st) D Φ := r_get hd hF hs hk ha hr (fun q => rfl) kk
theorem r_getR {idx a k ci t : Nat} {cs : List Nat} {z : Int} (hd : decode (yB y) pc = .ok (.getfield idx, 3)) (hF : FK (yN y).cls idx ci k) (hs : SH.getD a (9, 0, []) = (0, ci, cs)) (hk : cs[k]? = some (t + 3)) (ha : a < NA) (hr : rg a = true)
    (kk : Run Γ rg κ y (pc + 3) ls ((t + 8, 0) :: st) D Φ) : Run Γ rg κ y pc ls ((a + 8, z) :: st) D Φ := r_get hd hF hs hk ha hr (fun q => by unfold fvz; rw [if_neg (by omega), if_neg (by omega)]; rfl) kk
theorem r_put {idx a k ci code : Nat} {cs : List Nat} {z : Int} {ty : FieldType} {x : Int} {v : PV} (hd : decode (yB y) pc = .ok (.putfield idx, 3)) (hF : PK (yN y).cls idx ci k ty) (hs : SH.getD a (9, 0, []) = (0, ci, cs)) (hk : cs[k]? = some code) (ha : a < NA) (hr : rg a = true)
    (hv : ∀ q, mv Γ q v = fvz Γ code x) (hn : narrow ty (fvz Γ code x) = fvz Γ code x) (hf : fits ty (fvz Γ code x) = true)
    (kk : Run Γ rg κ y (pc + 3) ls st (up2 D a k x) Φ) : Run Γ rg κ y pc ls (v :: (a + 8, z) :: st) D Φ := by
  intro p e R s m args below meth c H locs lsm cells slots q mc ms C hH hS hl h1 h2 h3 h4
  obtain ⟨Cn, T, N, ty0, e1, e2, e3, e4, e5, e6, e7, e8⟩ := hF
  obtain ⟨hx, hb, hml, hown, hlk, hrt, htb, hfr, hlo, hE⟩ := id C
  obtain ⟨q0, -, hq⟩ := wsl_at ha hr
  have hce : ∀ D : DD, cellOf Γ D a = .inr (ci, (List.range cs.length).map (fun k => fvz Γ (cs.getD k 0) (D a k))) := fun D => by unfold cellOf; simp only [hs]
  have hat := (hq Γ D).1
  rw [hce] at hat
  have hkl := (List.getElem?_eq_some_iff.mp hk).1
  have hset := (hq Γ D).2 (up2 D a k x) (fun b hb => up2_ne D a k x hb)
  have hfs : ((List.range cs.length).map (fun k => fvz Γ (cs.getD k 0) (D a k))).set k (fvz Γ code x) = (List.range cs.length).map (fun j => fvz Γ (cs.getD j 0) (up2 D a k x a j)) := by
    apply List.ext_getElem?
    intro j
    rw [List.getElem?_set, List.getElem?_map, List.getElem?_map]
    by_cases hj : k = j
    · subst hj
      rw [if_pos rfl, if_pos (by simpa using hkl), List.getElem?_range hkl, Option.map_some, up2_at]
      dsimp only
      rw [if_pos rfl, List.getD_eq_getElem?_getD, hk]; rfl
    · rw [if_neg hj]
      cases hg : (List.range cs.length)[j]? with
      | none => rfl
      | some w =>
        have hw : w = j := by
          have := List.getElem?_eq_some_iff.mp hg
          obtain ⟨l1, l2⟩ := this
          rw [List.getElem_range] at l2; exact l2.symm
        subst hw
        rw [Option.map_some, Option.map_some, up2_at]
        dsimp only
        rw [if_neg (fun h : w = k => hj h.symm)]
  rw [hce, ← hfs] at hset
  rw [List.map_cons, hv q]
  refine va_put (Ts := u_ws Cn T N) hx hb (fun w hw => hE.word (e3 w hw)) (fun _ h => h) ty0 e5 e6 hown hE.2.2.1 hH.1 (wsl_D Γ rg D) (H0 := H) ⟨Nat.le_refl _, fun _ _ _ => rfl, hS.2.2⟩ q0 hat e1 k e2 (hE.word e4) (fun _ h => h) e7 (ty := ty) (by rw [e5 k e2, e8]) hn hf (by simpa using hkl) hd (fun H1 locs1 hP1 hD1 hS1 => ?_)
  rw [hset] at hP1
  exact kk p e R s m args below meth c H1 locs1 lsm cells slots q mc ms C (hH.sto hS hP1 hS1 (up2_ne D a _ x (n99 ha))).1 (hH.sto hS hP1 hS1 (up2_ne D a _ x (n99 ha))).2 hl h1 h2 h3 h4
theorem r_putI {idx a k ci : Nat} {cs : List Nat} {z x : Int} (hd : decode (yB y) pc = .ok (.putfield idx, 3)) (hF : PK (yN y).cls idx ci k .int) (hs : SH.getD a (9, 0, []) = (0, ci, cs)) (hk : cs[k]? = some 0) (ha : a < NA) (hr : rg a = true)
    (kk : Run Γ rg κ y (pc + 3) ls st (up2 D a k x) Φ) : Run Γ rg κ y pc ls ((0, x) :: (a + 8, z) :: st) D Φ := r_put hd hF hs hk ha hr (fun q => rfl) rfl rfl kk
theorem r_putZ {idx a k ci : Nat} {cs : List Nat} {z x : Int} (hd : decode (yB y) pc = .ok (.putfield idx, 3)) (hF : PK (yN y).cls idx ci k .boolean) (hs : SH.getD a (9, 0, []) = (0, ci, cs)) (hk : cs[k]? = some 1) (ha : a < NA) (hr : rg a = true) (hx : x = 0 ∨ x = 1)
    (kk : Run Γ rg κ y (pc + 3) ls st (up2 D a k x) Φ) : Run Γ rg κ y pc ls ((0, x) :: (a + 8, z) :: st) D Φ := r_put hd hF hs hk ha hr (fun q => rfl) (by rcases hx with rfl | rfl <;> rfl) (by rcases hx with rfl | rfl <;> rfl) kk
theorem r_putJ {idx a k ci : Nat} {cs : List Nat} {z x : Int} (hd : decode (yB y) pc = .ok (.putfield idx, 3)) (hF : PK (yN y).cls idx ci k .long) (hs : SH.getD a (9, 0, []) = (0, ci, cs)) (hk : cs[k]? = some 2) (ha : a < NA) (hr : rg a = true)
    (kk : Run Γ rg κ y (pc + 3) ls st (up2 D a k x) Φ) : Run Γ rg κ y pc ls ((1, x) :: (a + 8, z) :: st) D Φ := r_put hd hF hs hk ha hr (fun q => rfl) rfl rfl kk
/-- arrays -/
theorem r_iald {a n : Nat} {i z : Int} {cs : List Nat} (hd : decode (yB y) pc = .ok (.iaload, 1)) (hs : SH.getD a (9, 0, []) = (1, n, cs)) (ha : a < NA) (hr : rg a = true) (hn : n < 2147483648) (hi : 0 ≤ i) (hj : i < n)
    (kk : Run Γ rg κ y (pc + 1) ls ((0, D a i.toNat) :: st) D Φ) : Run Γ rg κ y pc ls ((0, i) :: (a + 8, z) :: st) D Φ := by
  intro p e R s m args below meth c H locs lsm cells slots q mc ms C hH hS hl h1 h2 h3 h4
  obtain ⟨q0, -, hq⟩ := wsl_at ha hr
  have hat := (hq Γ D).1
  rw [show cellOf Γ D a = .inl (gI Γ, n, .inl (fun j => Int32.ofInt (D a j))) by unfold cellOf; simp only [hs]] at hat
  refine va_iald C.1 C.2.1 C.2.2.2.2.2.2.2.2.2.2.2.1 hH.1 q0 0 hat rfl (ofI_in hi hj hn) hd ?_
  rw [ofI_clamp ⟨by omega, by omega⟩]
  exact kk p e R s m args below meth c H locs lsm cells slots q mc ms C hH hS hl h1 h2 h3 h4
theorem r_lald {a n : Nat} {i z : Int} {cs : List Nat} (hd : decode (yB y) pc = .ok (.laload, 1)) (hs : SH.getD a (9, 0, []) = (3, n, cs)) (ha : a < NA) (hr : rg a = true) (hn : n < 2147483648) (hi : 0 ≤ i) (hj : i < n)
    (kk : Run Γ rg κ y (pc + 1) ls ((1, D a i.toNat) :: st) D Φ) : Run Γ rg κ y pc ls ((0, i) :: (a + 8, z) :: st) D Φ := by
  intro p e R s m args below meth c H locs lsm cells slots q mc ms C hH hS hl h1 h2 h3 h4
  obtain ⟨q0, -, hq⟩ := wsl_at ha hr
  have hat := (hq Γ D).1
  rw [show cellOf Γ D a = .inl (gJ Γ, n, .inr (.inl (fun j => Int64.ofInt (D a j)))) by unfold cellOf; simp only [hs]] at hat
  refine va_lald C.1 C.2.1 C.2.2.2.2.2.2.2.2.2.2.2.1 hH.1 q0 2 hat rfl (ofI_in hi hj hn) hd ?_
  rw [ofI_clamp ⟨by omega, by omega⟩]
  exact kk p e R s m args below meth c H locs lsm cells slots q mc ms C hH hS hl h1 h2 h3 h4
theorem upd_up2 {D : DD} {a : Nat} {i x : Int} (hi : 0 ≤ i) (hj : i < 2147483648) : upd (fun j => Int32.ofInt (D a j)) (Int32.ofInt i).toNatClampNeg (Int32.ofInt x) = fun j => Int32.ofInt (up2 D a i.toNat x a j) := by
  funext j
  rw [ofI_clamp ⟨by omega, by omega⟩, up2_at]
  unfold upd
  dsimp only
  by_cases h : j = i.toNat
  · rw [if_pos h, if_pos h]
  · rw [if_neg h, if_neg h]
theorem r_iast {a n : Nat} {i z x : Int} {cs : List Nat} (hd : decode (yB y) pc = .ok (.iastore, 1)) (hs : SH.getD a (9, 0, []) = (1, n, cs)) (ha : a < NA) (hr : rg a = true) (hn : n < 2147483648) (hi : 0 ≤ i) (hj : i < n)
    (kk : Run Γ rg κ y (pc + 1) ls st (up2 D a i.toNat x) Φ) : Run Γ rg κ y pc ls ((0, x) :: (0, i) :: (a + 8, z) :: st) D Φ := by
  intro p e R s m args below meth c H locs lsm cells slots q mc ms C hH hS hl h1 h2 h3 h4
  obtain ⟨q0, -, hq⟩ := wsl_at ha hr
  have hat := (hq Γ D).1
  have hce : ∀ D : DD, cellOf Γ D a = .inl (gI Γ, n, .inl (fun j => Int32.ofInt (D a j))) := fun D => by unfold cellOf; simp only [hs]
  have hset := (hq Γ D).2 (up2 D a i.toNat x) (fun b hb => up2_ne D a _ x hb)
  rw [hce] at hat hset
  refine va_iast C.1 C.2.1 C.2.2.2.2.2.2.2.2.2.2.2.1 hH.1 (wsl_D Γ rg D) (H0 := H) ⟨Nat.le_refl _, fun _ _ _ => rfl, hS.2.2⟩ q0 0 hat rfl (ofI_in hi hj hn) hd (fun H1 locs1 hP1 hD1 hS1 => ?_)
  rw [upd_up2 hi (by omega), hset] at hP1
  exact kk p e R s m args below meth c H1 locs1 lsm cells slots q mc ms C (hH.sto hS hP1 hS1 (up2_ne D a _ x (n99 ha))).1 (hH.sto hS hP1 hS1 (up2_ne D a _ x (n99 ha))).2 hl h1 h2 h3 h4
theorem r_last {a n : Nat} {i z x : Int} {cs : List Nat} (hd : decode (yB y) pc = .ok (.lastore, 1)) (hs : SH.getD a (9, 0, []) = (3, n, cs)) (ha : a < NA) (hr : rg a = true) (hn : n < 2147483648) (hi : 0 ≤ i) (hj : i < n)
    (kk : Run Γ rg κ y (pc + 1) ls st (up2 D a i.toNat x) Φ) : Run Γ rg κ y pc ls ((1, x) :: (0, i) :: (a + 8, z) :: st) D Φ := by
  intro p e R s m args below meth c H locs lsm cells slots q mc ms C hH hS hl h1 h2 h3 h4
  obtain ⟨q0, -, hq⟩ := wsl_at ha hr
  have hat := (hq Γ D).1
  have hce : ∀ D : DD, cellOf Γ D a = .inl (gJ Γ, n, .inr (.inl (fun j => Int64.ofInt (D a j)))) := fun D => by unfold cellOf; simp only [hs]
  have hset := (hq Γ D).2 (up2 D a i.toNat x) (fun b hb => up2_ne D a _ x hb)
  rw [hce] at hat hset
  refine va_last C.1 C.2.1 C.2.2.2.2.2.2.2.2.2.2.2.1 hH.1 (wsl_D Γ rg D) (H0 := H) ⟨Nat.le_refl _, fun _ _ _ => rfl, hS.2.2⟩ q0 2 hat rfl (ofI_in hi hj hn) hd (fun H1 locs1 hP1 hD1 hS1 => ?_)
  have e1 : vp_updL (fun j => Int64.ofInt (D a j)) (Int32.ofInt i).toNatClampNeg (Int64.ofInt x) = fun j => Int64.ofInt (up2 D a i.toNat x a j) := by
    funext j
    rw [ofI_clamp ⟨by omega, by omega⟩, up2_at]
    unfold vp_updL
    dsimp only
    by_cases h : j = i.toNat
    · rw [if_pos h, if_pos h]
    · rw [if_neg h, if_neg h]
  rw [e1, hset] at hP1
  exact kk p e R s m args below meth c H1 locs1 lsm cells slots q mc ms C (hH.sto hS hP1 hS1 (up2_ne D a _ x (n99 ha))).1 (hH.sto hS hP1 hS1 (up2_ne D a _ x (n99 ha))).2 hl h1 h2 h3 h4
theorem r_alen {a n : Nat} {z : Int} {cs : List Nat} (hd : decode (yB y) pc = .ok (.arraylength, 1)) (hs : SH.getD a (9, 0, []) = (1, n, cs)) (ha : a < NA) (hr : rg a = true)
    (kk : Run Γ rg κ y (pc + 1) ls ((0, (n : Int)) :: st) D Φ) : Run Γ rg κ y pc ls ((a + 8, z) :: st) D Φ := by
  intro p e R s m args below meth c H locs lsm cells slots q mc ms C hH hS hl h1 h2 h3 h4
  obtain ⟨q0, -, hq⟩ := wsl_at ha hr
  have hat := (hq Γ D).1
  rw [show cellOf Γ D a = .inl (gI Γ, n, .inl (fun j => Int32.ofInt (D a j))) by unfold cellOf; simp only [hs]] at hat
  exact va_alen C.1 C.2.1 C.2.2.2.2.2.2.2.2.2.2.2.1 hH.1 q0 0 hat (ty := .int) rfl (v := Int32.ofInt (n : Int)) (Int32.ofInt_eq_ofNat).symm hd (kk p e R s m args below meth c H locs lsm cells slots q mc ms C hH hS hl h1 h2 h3 h4)
theorem r_sld {i z : Int} (hd : decode (yB y) pc = .ok (.iaload, 1)) (hL : gL Γ < 2147483648) (hi : 0 ≤ i) (hj : i < gL Γ)
    (kk : Run Γ rg κ y (pc + 1) ls ((0, (gX Γ i.toNat).toInt) :: st) D Φ) : Run Γ rg κ y pc ls ((0, i) :: (7, z) :: st) D Φ := by
  intro p e R s m args below meth c H locs lsm cells slots q mc ms C hH hS hl h1 h2 h3 h4
  have hE := C.2.2.2.2.2.2.2.2.2
  obtain ⟨-, -, -, -, -, -, -, hX, hb1, hb2⟩ := hE
  refine va_sld C.1 C.2.1 hX (Nat.lt_of_lt_of_le hb1 hb2) (Nat.not_le.mpr hb1) hS (ofI_in hi hj hL) hd ?_
  rw [ofI_clamp ⟨by omega, by omega⟩]
  have := kk p e R s m args below meth c H locs lsm cells slots q mc ms C hH hS hl h1 h2 h3 h4
  rw [List.map_cons, show mv Γ q (0, (gX Γ i.toNat).toInt) = .int (Int32.ofInt (gX Γ i.toNat).toInt) from rfl, Int32.ofInt_toInt] at this
  exact this
theorem r_slen {z : Int} (hd : decode (yB y) pc = .ok (.arraylength, 1))
    (kk : Run Γ rg κ y (pc + 1) ls ((0, (gL Γ : Int)) :: st) D Φ) : Run Γ rg κ y pc ls ((7, z) :: st) D Φ := by
  intro p e R s m args below meth c H locs lsm cells slots q mc ms C hH hS hl h1 h2 h3 h4
  have hE := C.2.2.2.2.2.2.2.2.2
  obtain ⟨-, -, -, -, -, -, -, hX, hb1, hb2⟩ := hE
  refine va_slen C.1 C.2.1 hX (Nat.lt_of_lt_of_le hb1 hb2) (Nat.not_le.mpr hb1) hS hd ?_
  rw [← Int32.ofInt_eq_ofNat]
  exact kk p e R s m args below meth c H locs lsm cells slots q mc ms C hH hS hl h1 h2 h3 h4
/-- ends -/
theorem r_iret {x : Int} (hd : decode (yB y) pc = .ok (.ireturn, 1)) (hr : yR y = some .int) (h : Φ (.inl (some (0, x))) D) : Run Γ rg κ y pc ls [(0, x)] D Φ := by
  intro p e R s m args below meth c H locs lsm cells slots q mc ms C hH hS hl h1 h2 h3 h4
  obtain ⟨hx, hb, hml, hown, hlk, hrt, htb, hfr, hlo, hE⟩ := id C
  refine vx_ret (W.widen (k := mc) (n := ms) (by omega) (by omega) ?_)
  exact W.iret (v := Int32.ofInt x) hx hb (hrt.trans hr) (fun t ht _ => ⟨some (0, x), D, rfl, (fun w hw => by cases hw; exact Nat.zero_le _), h, by rw [ht]; exact hH, hS.F ht⟩) hS.2.2 hd hlk
theorem r_zret {x : Int} (hd : decode (yB y) pc = .ok (.ireturn, 1)) (hr : yR y = some .boolean) (hz : x = 0 ∨ x = 1) (h : Φ (.inl (some (0, x))) D) : Run Γ rg κ y pc ls [(0, x)] D Φ := by
  intro p e R s m args below meth c H locs lsm cells slots q mc ms C hH hS hl h1 h2 h3 h4
  obtain ⟨hx, hb, hml, hown, hlk, hrt, htb, hfr, hlo, hE⟩ := id C
  refine vx_ret (W.widen (k := mc) (n := ms) (by omega) (by omega) ?_)
  exact W.zret (v := Int32.ofInt x) hx hb (hrt.trans hr) (by rcases hz with rfl | rfl <;> rfl) (fun t ht _ => ⟨some (0, x), D, rfl, (fun w hw => by cases hw; exact Nat.zero_le _), h, by rw [ht]; exact hH, hS.F ht⟩) hS.2.2 hd hlk
theorem r_lret {x : Int} (hd : decode (yB y) pc = .ok (.lreturn, 1)) (hr : yR y = some .long) (h : Φ (.inl (some (1, x))) D) : Run Γ rg κ y pc ls [(1, x)] D Φ := by
  intro p e R s m args below meth c H locs lsm cells slots q mc ms C hH hS hl h1 h2 h3 h4
  obtain ⟨hx, hb, hml, hown, hlk, hrt, htb, hfr, hlo, hE⟩ := id C
  refine vx_ret (W.widen (k := mc) (n := ms) (by omega) (by omega) ?_)
  exact W.lret (v := Int64.ofInt x) hx hb (hrt.trans hr) (fun t ht _ => ⟨some (1, x), D, rfl, (fun w hw => by cases hw; exact Nat.le_refl _), h, by rw [ht]; exact hH, hS.F ht⟩) hS.2.2 hd hlk
theorem r_vret (hd : decode (yB y) pc = .ok (.return_, 1)) (hr : yR y = none) (h : Φ (.inl none) D) : Run Γ rg κ y pc ls [] D Φ := by
  intro p e R s m args below meth c H locs lsm cells slots q mc ms C hH hS hl h1 h2 h3 h4
  obtain ⟨hx, hb, hml, hown, hlk, hrt, htb, hfr, hlo, hE⟩ := id C
  refine vx_ret (W.widen (k := mc) (n := ms) (by omega) (by omega) ?_)
  exact W.vret hx hb (hrt.trans hr) (fun t ht _ => ⟨none, D, rfl, (fun w hw => by cases hw), h, by rw [ht]; exact hH, hS.F ht⟩) hS.2.2 hd hlk
/-- less is asked -/
theorem Run.mono {κ' : Nat} {Ψ : OT → DD → Prop} (hk : κ' ≤ κ) (hΨ : ∀ o D', Ψ o D' → Φ o D') (h : Run Γ rg κ' y pc ls st D Ψ) : Run Γ rg κ y pc ls st D Φ := by
  intro p e R s m args below meth c H locs lsm cells slots q mc ms C hH hS hl h1 h2 h3 h4
  intro T hT X
  obtain ⟨t, a1, o, b1, b2, b3⟩ := h p e R s m args below meth c H locs lsm cells slots q mc ms C hH hS hl (by omega) (by omega) h3 h4 T hT X
  refine ⟨t, a1, o, b1, b2, ?_⟩
  rcases b3 with ⟨⟨v, D', c1, c2, c3, c4⟩, b4⟩ | ⟨q', c0, E, ce, L, ⟨n, D', c1, c2, c3, c4⟩, b4⟩
  · exact Or.inl ⟨⟨v, D', c1, c2, hΨ _ _ c3, c4⟩, b4⟩
  · exact Or.inr ⟨q', c0, E, ce, L, ⟨n, D', c1, c2, hΨ _ _ c3, c4⟩, b4⟩
end HEAPS
