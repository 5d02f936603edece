/-! THE METHODS' RUNS over numbers: every value is a tag with an Int (0 int, 1 long, 3 null, 4 a caught exception, 5 nothing known, 7 the script, 8 + a the cell a), the heap is D: cell, place, number.
Run Γ rg κ y pc ls st D Φ: from y's instruction pc with these locals, stack and cells, y comes to an end with Φ; rg: which cells are there; κ: how many exceptions may be made. -/
abbrev PV : Type := Nat × Int
abbrev DD : Type := Nat → Nat → Int
abbrev OT : Type := Option PV ⊕ Nat
abbrev YT : Type := ByteArray × Nat × Option FieldType × MethodName × List (Nat × Nat × Nat × Nat) × Nat
abbrev GG : Type := Launch × (Nat × Nat × Nat × (Nat → Int32)) × (va_G × ClassId × ClassId × ClassId)
abbrev gB (Γ : GG) : Nat := Γ.2.1.1
abbrev gb (Γ : GG) : Nat := Γ.2.1.2.1
abbrev gL (Γ : GG) : Nat := Γ.2.1.2.2.1
abbrev gX (Γ : GG) : Nat → Int32 := Γ.2.1.2.2.2
abbrev gG (Γ : GG) : va_G := Γ.2.2.1
abbrev gI (Γ : GG) : ClassId := Γ.2.2.2.1
abbrev gZ (Γ : GG) : ClassId := Γ.2.2.2.2.1
abbrev gJ (Γ : GG) : ClassId := Γ.2.2.2.2.2
abbrev yB (y : YT) : ByteArray := y.1
abbrev yL (y : YT) : Nat := y.2.1
abbrev yR (y : YT) : Option FieldType := y.2.2.1
abbrev yN (y : YT) : MethodName := y.2.2.2.1
abbrev yH (y : YT) : List (Nat × Nat × Nat × Nat) := y.2.2.2.2.1
abbrev yK (y : YT) : Nat := y.2.2.2.2.2
def inR (z : Int) : Prop := -2147483648 ≤ z ∧ z ≤ 2147483647
def inJ (z : Int) : Prop := -9223372036854775808 ≤ z ∧ z ≤ 9223372036854775807
def kk : Cond → Bool
  | .methodLinkNest .. => true
  | .privateMethod _ => true
  | .castable .. => true
  | .declares _ => true
  | w => w.onTables && w.keeps
def KW (w : Cond) : Prop := w ∈ lw_tbl ∧ kk w = true
theorem KW.at {i : Nat} {w : Cond} (h : lw_tbl[i]? = some w) (hk : kk w = true) : KW w := ⟨List.mem_of_getElem? h, hk⟩
theorem kk_on {w : Cond} (hk : kk w = true) : w.onTables = true := by
  cases w <;> first | rfl | (simp only [kk, Bool.and_eq_true] at hk; exact hk.1)
theorem kk_warm {w : Cond} {s U : State} (hk : kk w = true) (hW : s.WarmedH U.vm) (h : va_Nw w s) : va_Nw w U := by
  by_cases g : (w.onTables && w.keeps) = true
  · exact word_at hW (Or.inl g) h
  · cases w <;> first | exact va_Nw.warmM hW h | exact va_Nw.warmC hW h | exact va_Nw.warmD hW h | exact Cond.privateMethod_warm hW h | exact absurd hk g
def Ab (Γ : GG) : Nat → Prop := fun q => gB Γ ≤ q
def exn : Nat → String
  | 0 => "java/lang/IndexOutOfBoundsException"
  | 1 => "java/lang/IllegalArgumentException"
  | _ => "java/lang/IllegalStateException"
def ncT : List (String × String) := [(exn 1, exn 0), (exn 2, exn 0), (exn 2, exn 1)]
def EV (Γ : GG) (s : State) : Prop := Γ.1.stackTraces = false ∧ (∀ w, KW w → va_Nw w s) ∧ va_K (gG Γ) vwCl [(gI Γ, .int), (gZ Γ, .byte), (gJ Γ, .long)] s ∧
  vx_Zq Bundle.tN "UNASSIGNED_STACK" Bundle.steD (Ab Γ) s s.heap ∧ vx_Zq Bundle.tN "SUPPRESSED_SENTINEL" Bundle.listD (Ab Γ) s s.heap ∧
  (∀ r ∈ strT, ∃ a, vk_R r.1 r.2.1 r.2.2 a s) ∧ (∀ r ∈ ncT, va_Nc r.1 r.2 s) ∧ va_X (gb Γ) (gL Γ) (gX Γ) s s.heap ∧ gb Γ < gB Γ ∧ gB Γ ≤ s.heap.size
theorem EV.move {Γ : GG} {s U : State} {H : Heap} {locs : List Loc} (h : EV Γ s) (hU : U.heap = H) (hS : va_S (Ab Γ) s.heap H locs) (hW : s.WarmedH U.vm) : EV Γ U := by
  subst hU
  obtain ⟨h1, h2, h3, h4, h5, h6, h7, h8, h9, h10⟩ := h
  refine ⟨h1, fun w hw => kk_warm hw.2 hW (h2 w hw), va_K.moved hW.alike h3, (h4.kept hS.2.1).moved hW.alike, (h5.kept hS.2.1).moved hW.alike, fun r hr => ?_, fun r hr => va_Nc.moved hW.alike (h7 r hr), va_X.moved hW.alike (h8.kept (hS.2.1 _ (Nat.lt_of_lt_of_le h9 h10) (Nat.not_le.mpr h9))), h9, Nat.le_trans h10 hS.1⟩
  obtain ⟨a, ha⟩ := h6 r hr
  exact ⟨a, vk_R.warm hW ha⟩
theorem EV.calling {Γ : GG} {U : State} (g : JFrame) (mk : MethodId) (a : Array Value) (h : EV Γ U) : EV Γ (U.calling g mk a) :=
  EV.move (s := U) (H := U.heap) (locs := []) h rfl va_S.rf (State.WarmedH.refl U)
/-- values -/
def mv (Γ : GG) (q : Nat) : PV → Value
  | (0, z) => .int (Int32.ofInt z)
  | (1, z) => .long (Int64.ofInt z)
  | (3, _) => .null
  | (7, _) => .ref (gb Γ)
  | (a + 8, _) => .ref (gB Γ + a)
  | _ => .ref q
theorem mv_cat (Γ : GG) (q : Nat) (v : PV) : (mv Γ q v).category = if v.1 = 1 then 2 else 1 := by
  unfold mv
  split <;> first | rfl | (rename_i h1 h2 h3 h4 h5; simp [Value.category]; intro h; exact h2 _ (Prod.ext h rfl))
theorem mv_cat1 {Γ : GG} {q : Nat} {v : PV} (h : v.1 ≠ 1) : (mv Γ q v).category = 1 := by rw [mv_cat, if_neg h]
theorem mv_ref {Γ : GG} {q : Nat} {v : PV} (h : 4 ≤ v.1) : ∃ x : Nat, mv Γ q v = .ref x := by
  obtain ⟨t, z⟩ := v
  unfold mv
  split <;> first | exact ⟨_, rfl⟩ | (rename_i e; cases e; omega)
theorem mv_q {Γ : GG} {q q' : Nat} {v : PV} (h : v.1 ≠ 4) (h5 : v.1 ≠ 5) (h6 : v.1 ≠ 6) (h2 : v.1 ≠ 2) : mv Γ q v = mv Γ q' v := by
  obtain ⟨t, z⟩ := v
  match t, h, h5, h6, h2 with
  | 0, _, _, _, _ => rfl
  | 1, _, _, _, _ => rfl
  | 3, _, _, _, _ => rfl
  | 7, _, _, _, _ => rfl
  | a + 8, _, _, _, _ => rfl
/-- the heap -/
def fvz (Γ : GG) (c : Nat) (z : Int) : Value := if c ≤ 1 then .int (Int32.ofInt z) else if c = 2 then .long (Int64.ofInt z) else .ref (gB Γ + (c - 3))
def cellOf (Γ : GG) (D : DD) (a : Nat) : va_E := match SH.getD a (9, 0, []) with
  | (0, ci, cs) => .inr (ci, (List.range cs.length).map (fun k => fvz Γ (cs.getD k 0) (D a k)))
  | (1, n, _) => .inl (gI Γ, n, .inl (fun j => Int32.ofInt (D a j)))
  | (2, n, _) => .inl (gZ Γ, n, .inl (fun j => Int32.ofInt (D a j)))
  | (_, n, _) => .inl (gJ Γ, n, .inr (.inl (fun j => Int64.ofInt (D a j))))
def wsi (rg : Nat → Bool) : List Nat := (List.range NA).filter rg
def wsl (Γ : GG) (rg : Nat → Bool) (D : DD) : va_W := (wsi rg).map (fun a => (gB Γ + a, cellOf Γ D a))
/-- cell 99 of D is no cell of the machine: it counts; so many new cells, at least, are there -/
def HW (Γ : GG) (rg : Nat → Bool) (D : DD) (H : Heap) : Prop := va_P (gG Γ) vwCl (wsl Γ rg D) H ∧ gB Γ + (D 99 0).toNat ≤ H.size
theorem wsi_nodup (rg : Nat → Bool) : (wsi rg).Nodup := List.Nodup.sublist List.filter_sublist List.nodup_range
theorem cellOf_congr {Γ : GG} {D D' : DD} {a : Nat} (h : D' a = D a) : cellOf Γ D' a = cellOf Γ D a := by unfold cellOf; rw [h]
theorem wsl_at {rg : Nat → Bool} {a : Nat} (ha : a < NA) (hr : rg a = true) : ∃ q0 : Nat, (wsi rg)[q0]? = some a ∧ ∀ (Γ : GG) (D : DD), (wsl Γ rg D)[q0]? = some (gB Γ + a, cellOf Γ D a) ∧
    ∀ D' : DD, (∀ x, x ≠ a → D' x = D x) → (wsl Γ rg D).set q0 (gB Γ + a, cellOf Γ D' a) = wsl Γ rg D' := by
  have hm : a ∈ wsi rg := List.mem_filter.mpr ⟨List.mem_range.mpr ha, hr⟩
  obtain ⟨q0, hq⟩ := List.getElem?_of_mem hm
  refine ⟨q0, hq, fun Γ D => ⟨by rw [wsl, List.getElem?_map, hq]; rfl, fun D' h => ?_⟩⟩
  apply List.ext_getElem?
  intro i
  rw [List.getElem?_set]
  by_cases hi : q0 = i
  · subst hi
    have hl := (List.getElem?_eq_some_iff.mp hq).1
    rw [if_pos rfl, if_pos (by rw [wsl, List.length_map]; exact hl), wsl, List.getElem?_map, hq]
    rfl
  · rw [if_neg hi, wsl, wsl, List.getElem?_map, List.getElem?_map]
    cases hx : (wsi rg)[i]? with
    | none => rfl
    | some x =>
      have hne : x ≠ a := fun e => hi (by
        subst e
        have l1 := (List.getElem?_eq_some_iff.mp hq).1
        have l2 := (List.getElem?_eq_some_iff.mp hx).1
        exact (List.getElem?_inj l1 (wsi_nodup rg)).mp (hq.trans hx.symm))
      simp only [Option.map_some]
      rw [cellOf_congr (h x hne)]
theorem wsl_D (Γ : GG) (rg : Nat → Bool) (D : DD) : va_D (Ab Γ) (wsl Γ rg D) := by
  refine ⟨fun i j p q hi hj hpq => ?_, fun k q hk => ?_⟩
  · rw [wsl, List.getElem?_map] at hi hj
    cases hx : (wsi rg)[i]? with
    | none => rw [hx] at hi; cases hi
    | some x =>
      cases hy : (wsi rg)[j]? with
      | none => rw [hy] at hj; cases hj
      | some y =>
        rw [hx] at hi; rw [hy] at hj
        cases hi; cases hj
        have e : x = y := by simpa using hpq
        subst e
        exact (List.getElem?_inj (List.getElem?_eq_some_iff.mp hx).1 (wsi_nodup rg)).mp (hx.trans hy.symm)
  · rw [wsl, List.getElem?_map] at hk
    cases hx : (wsi rg)[k]? with
    | none => rw [hx] at hk; cases hk
    | some x =>
      rw [hx] at hk
      cases hk
      exact Nat.le_add_right _ _
/-- locals -/
def lvr (Γ : GG) (q n : Nat) (ls : List PV) (lsm : Array Slot) : Prop := lsm.size = n ∧ lv_wf lsm ∧ ∀ (i : Nat) (v : PV), ls[i]? = some v → v.1 ≠ 5 → lsm[i]? = some (.val (mv Γ q v))
def lvl (Γ : GG) (q : Nat) (ls : List PV) : List (Nat × Value) := ((List.range ls.length).filter (fun i => (ls.getD i (5, 0)).1 != 5)).map (fun i => (i, mv Γ q (ls.getD i (5, 0))))
theorem lvl_mem {Γ : GG} {q : Nat} {ls : List PV} {i : Nat} {v : PV} (h : ls[i]? = some v) (h5 : v.1 ≠ 5) : (i, mv Γ q v) ∈ lvl Γ q ls := by
  have hl := (List.getElem?_eq_some_iff.mp h).1
  have hg : ls.getD i (5, 0) = v := by rw [List.getD_eq_getElem?_getD, h]; rfl
  exact List.mem_map.mpr ⟨i, List.mem_filter.mpr ⟨List.mem_range.mpr hl, by rw [hg]; simpa using h5⟩, by rw [hg]⟩
theorem lvr.has {Γ : GG} {q n : Nat} {ls : List PV} {lsm : Array Slot} (h : lvr Γ q n ls lsm) : lv_has lsm n (lvl Γ q ls) := by
  refine ⟨h.1, h.2.1, fun r hr => ?_⟩
  obtain ⟨i, hi, e⟩ := List.mem_map.mp hr
  obtain ⟨h1, h2⟩ := List.mem_filter.mp hi
  have hl := List.mem_range.mp h1
  subst e
  have hg : ls[i]? = some (ls.getD i (5, 0)) := by
    rw [List.getD_eq_getElem?_getD, List.getElem?_eq_getElem hl]; rfl
  exact h.2.2 i _ hg (by simpa using h2)
/-- a store of one slot: the place before holds no long -/
def pok (ls : List PV) (i : Nat) : Bool := i == 0 || (ls.getD (i - 1) (5, 0)).1 != 1
theorem lvr.set1 {Γ : GG} {q n i : Nat} {ls : List PV} {lsm lsm' : Array Slot} {v : PV} (h : lvr Γ q n ls lsm) (hp : pok ls i = true) (hn : lv_has lsm' n ((i, mv Γ q v) :: (lvl Γ q ls).filter (fun r => !(r.1 == i) && !(r.1 + 1 == i && r.2.category == 2)))) : lvr Γ q n (ls.set i v) lsm' := by
  refine ⟨hn.1, hn.2.1, fun j w hj h5 => ?_⟩
  rw [List.getElem?_set] at hj
  by_cases hi : i = j
  · subst hi
    rw [if_pos rfl] at hj
    split at hj
    · cases hj
      exact hn.2.2 (i, mv Γ q v) List.mem_cons_self
    · cases hj
  · rw [if_neg hi] at hj
    refine hn.2.2 (j, mv Γ q w) (List.mem_cons_of_mem _ (List.mem_filter.mpr ⟨lvl_mem hj h5, ?_⟩))
    have e1 : (j == i) = false := by simpa using fun e => hi e.symm
    simp only [e1, Bool.not_false, Bool.true_and, Bool.not_eq_true', Bool.and_eq_false_iff, beq_eq_false_iff_ne]
    by_cases e2 : j + 1 = i
    · right
      subst e2
      have hg : ls.getD j (5, 0) = w := by rw [List.getD_eq_getElem?_getD, hj]; rfl
      simp only [pok, Nat.add_sub_cancel, hg, Bool.or_eq_true, beq_iff_eq, Nat.succ_ne_zero, false_or, bne_iff_ne] at hp
      rw [mv_cat1 (by simpa using hp)]
      decide
    · exact Or.inl e2
def ent (n : Nat) (as : List PV) : List PV := (as.flatMap fun v => if v.1 = 1 then [v, (5, 0)] else [v]) ++ List.replicate (n - (as.flatMap fun v => if v.1 = 1 then [v, (5, 0)] else [v]).length) (5, 0)
theorem ent_len (Γ : GG) (q : Nat) : ∀ as : List PV, (as.flatMap fun v => if v.1 = 1 then [v, ((5, 0) : PV)] else [v]).length = (lg_sl (as.map (mv Γ q))).length
  | [] => rfl
  | v :: as => by
    have ih := ent_len Γ q as
    simp only [lg_sl, List.map_cons, List.flatMap_cons, List.length_append] at ih ⊢
    rw [ih, mv_cat]
    by_cases h : v.1 = 1
    · simp [h]
    · simp [h]
theorem ent_args (Γ : GG) (q : Nat) : ∀ (as : List PV) (o i : Nat) (v : PV), (as.flatMap fun v => if v.1 = 1 then [v, ((5, 0) : PV)] else [v])[i]? = some v → v.1 ≠ 5 → (o + i, mv Γ q v) ∈ lv_args o (as.map (mv Γ q))
  | [], _, i, v, h, _ => by simp at h
  | w :: as, o, i, v, h, h5 => by
    rw [List.flatMap_cons] at h
    simp only [List.map_cons, lv_args, mv_cat]
    by_cases hw : w.1 = 1
    · rw [if_pos hw] at h
      rw [if_pos hw, if_pos rfl]
      match i, h with
      | 0, h => cases h; exact List.mem_cons_self
      | 1, h => cases h; exact absurd rfl h5
      | i + 2, h =>
        have h' : (as.flatMap fun v => if v.1 = 1 then [v, ((5, 0) : PV)] else [v])[i]? = some v := by simpa using h
        have := ent_args Γ q as (o + 2) i v h' h5
        rw [show o + (i + 2) = o + 2 + i by omega]
        exact List.mem_cons_of_mem _ this
    · rw [if_neg hw] at h
      rw [if_neg hw, if_neg (by decide)]
      match i, h with
      | 0, h => cases h; exact List.mem_cons_self
      | i + 1, h =>
        have h' : (as.flatMap fun v => if v.1 = 1 then [v, ((5, 0) : PV)] else [v])[i]? = some v := by simpa using h
        have := ent_args Γ q as (o + 1) i v h' h5
        rw [show o + (i + 1) = o + 1 + i by omega]
        exact List.mem_cons_of_mem _ this
theorem lvr.entry {Γ : GG} {q n : Nat} {as : List PV} (h : (lg_sl (as.map (mv Γ q))).length ≤ n) : lvr Γ q n (ent n as) ((lg_sl (as.map (mv Γ q)) ++ List.replicate (n - (lg_sl (as.map (mv Γ q))).length) Slot.unset).toArray) := by
  have hl := lv_entry (as.map (mv Γ q)) h
  refine ⟨hl.1, hl.2.1, fun i v hi h5 => ?_⟩
  unfold ent at hi
  by_cases hlt : i < (as.flatMap fun v => if v.1 = 1 then [v, ((5, 0) : PV)] else [v]).length
  · rw [List.getElem?_append_left hlt] at hi
    have := ent_args Γ q as 0 i v hi h5
    rw [Nat.zero_add] at this
    exact hl.2.2 (i, mv Γ q v) this
  · rw [List.getElem?_append_right (by omega), List.getElem?_replicate] at hi
    split at hi
    · cases hi; exact absurd rfl h5
    · cases hi
theorem lvr.q {Γ : GG} {q q' n : Nat} {ls : List PV} {lsm : Array Slot} (h : lvr Γ q n ls lsm) (hv : ls.all (fun v => v.1 != 4 && v.1 != 6 && v.1 != 2) = true) : lvr Γ q' n ls lsm := by
  refine ⟨h.1, h.2.1, fun i v hi h5 => ?_⟩
  have h1 := List.all_eq_true.mp hv v (List.mem_of_getElem? hi)
  simp only [Bool.and_eq_true, bne_iff_ne] at h1
  rw [mv_q (q := q') (q' := q) h1.1.1 h5 h1.1.2 h1.2]
  exact h.2.2 i v hi h5
/-- a run's ends -/
def Qcc (Γ : GG) (rg : Nat → Bool) (Φ : OT → DD → Prop) : Array Value → State → Outcome → State → Prop := fun _ st o t =>
  ∃ (v : Option PV) (D' : DD), o = .returned (v.map (mv Γ 0)) ∧ (∀ w, v = some w → w.1 ≤ 1) ∧ Φ (.inl v) D' ∧ HW Γ rg D' t.heap ∧ va_F (Ab Γ) st t
def XCc (Γ : GG) (rg : Nat → Bool) (Φ : OT → DD → Prop) : String → State → State → Prop := fun E st t =>
  ∃ (n : Nat) (D' : DD), n ≤ 2 ∧ E = exn n ∧ Φ (.inr n) D' ∧ HW Γ rg D' t.heap ∧ va_F (Ab Γ) st t
def Cx (Γ : GG) (y : YT) (R : Room) (p : Program) (s : State) (m : MethodId) (meth : Method) (c : Code) : Prop :=
  p.tables.exec = Jvm.exec ∧ c.code = yB y ∧ c.maxLocals = yL y ∧ s.vm.findClass (yN y).cls = some m.cls ∧ meth.locks = false ∧ meth.sig.returnType = yR y ∧ c.exceptionTable.toList = tableOf (yH y) ∧ yK y ≤ R.frames ∧ 36 * yK y ≤ R.locals ∧ EV Γ s
def Run (Γ : GG) (rg : Nat → Bool) (κ : Nat) (y : YT) (pc : Nat) (ls st : List PV) (D : DD) (Φ : OT → DD → Prop) : Prop :=
  ∀ (p : Program) (e : Env) (R : Room) (s : State) (m : MethodId) (args : Array Value) (below : List Frame) (meth : Method) (c : Code) (H : Heap) (locs : List Loc) (lsm : Array Slot) (cells slots q mc ms : Nat),
    Cx Γ y R p s m meth c → HW Γ rg D H → va_S (Ab Γ) s.heap H locs → lvr Γ q (yL y) ls lsm → cells + κ ≤ mc → slots + 6 * κ ≤ ms → mc ≤ R.cells → ms ≤ R.slots →
    W p Γ.1 e R s m args below meth c H locs cells slots (vx_MQ below (Qcc Γ rg Φ) (XCc Γ rg Φ) args s mc ms (Ab Γ)) (F0 m pc lsm (st.map (mv Γ q)))
