/-! constructors: cells come one after another; a field that holds a cell is null until it is set -/
def szc (x : Nat × Nat × List Nat) : Nat := if x.1 = 0 then x.2.2.length else x.2.1
def sl (n : Nat) : Nat := ((List.range n).map (fun a => szc (SH.getD a (9, 0, [])))).sum
theorem sl_succ (n : Nat) : sl (n + 1) = sl n + szc (SH.getD n (9, 0, [])) := by
  unfold sl
  rw [List.range_succ, List.map_append, List.sum_append]
  simp
theorem sl_le {a b : Nat} (h : a ≤ b) : sl a ≤ sl b := by
  induction h with
  | refl => exact Nat.le_refl _
  | step h ih => rw [sl_succ]; exact Nat.le_trans ih (Nat.le_add_right _ _)
abbrev MP : Type := List (Nat × Nat)
def fvn (Γ : GG) (b : Bool) (c : Nat) (z : Int) : Value := if c ≤ 2 then fvz Γ c z else if b then .ref (gB Γ + (c - 3)) else .null
def cellN (Γ : GG) (M : MP) (D : DD) (a : Nat) : va_E := match SH.getD a (9, 0, []) with
  | (0, ci, cs) => .inr (ci, (List.range cs.length).map (fun k => fvn Γ (M.contains (a, k)) (cs.getD k 0) (D a k)))
  | _ => cellOf Γ D a
def wsn (Γ : GG) (n : Nat) (M : MP) (D : DD) : va_W := (List.range n).map (fun a => (gB Γ + a, cellN Γ M D a))
def HN (Γ : GG) (n : Nat) (M : MP) (D : DD) (H : Heap) : Prop := va_P (gG Γ) vwCl (wsn Γ n M D) H
theorem wsn_at {Γ : GG} {n : Nat} {M : MP} {D : DD} {a : Nat} (h : a < n) : (wsn Γ n M D)[a]? = some (gB Γ + a, cellN Γ M D a) := by
  rw [wsn, List.getElem?_map, List.getElem?_range h]; rfl
theorem wsn_some {Γ : GG} {n : Nat} {M : MP} {D : DD} {a : Nat} {q : Nat × va_E} (h : (wsn Γ n M D)[a]? = some q) : a < n ∧ q = (gB Γ + a, cellN Γ M D a) := by
  have hl := (List.getElem?_eq_some_iff.mp h).1
  have hl' : a < n := by rw [wsn, List.length_map, List.length_range] at hl; exact hl
  rw [wsn_at hl'] at h
  exact ⟨hl', (Option.some.inj h).symm⟩
theorem wsn_D (Γ : GG) (n : Nat) (M : MP) (D : DD) : va_D (Ab Γ) (wsn Γ n M D) := by
  refine ⟨fun i j p q hi hj hpq => ?_, fun k q hk => ?_⟩
  · rw [(wsn_some hi).2, (wsn_some hj).2] at hpq
    have : gB Γ + i = gB Γ + j := hpq
    omega
  · rw [(wsn_some hk).2]
    exact Nat.le_add_right _ _
theorem wsn_set {Γ : GG} {n : Nat} {M M' : MP} {D D' : DD} {a : Nat} (ha : a < n) (h : ∀ x, x ≠ a → cellN Γ M' D' x = cellN Γ M D x) : (wsn Γ n M D).set a (gB Γ + a, cellN Γ M' D' a) = wsn Γ n M' D' := by
  apply List.ext_getElem?
  intro i
  rw [List.getElem?_set]
  by_cases hi : a = i
  · subst hi
    rw [if_pos rfl, if_pos (by rw [wsn, List.length_map, List.length_range]; exact ha), wsn_at ha]
  · rw [if_neg hi]
    by_cases hn : i < n
    · rw [wsn_at hn, wsn_at hn, h i (fun e => hi e.symm)]
    · rw [List.getElem?_eq_none (by rw [wsn, List.length_map, List.length_range]; omega), List.getElem?_eq_none (by rw [wsn, List.length_map, List.length_range]; omega)]
theorem wsn_succ (Γ : GG) (n : Nat) (M : MP) (D : DD) : wsn Γ (n + 1) M D = wsn Γ n M D ++ [(gB Γ + n, cellN Γ M D n)] := by
  unfold wsn
  rw [List.range_succ, List.map_append]; rfl
theorem HN.size {Γ : GG} {n : Nat} {M : MP} {D : DD} {H : Heap} (h : HN Γ n M D H) (h0 : gB Γ ≤ H.size) : gB Γ + n ≤ H.size := by
  cases n with
  | zero => exact h0
  | succ k =>
    have h1 : (gB Γ + k : Nat) < H.size := (h k _ (wsn_at (Nat.lt_succ_self k))).lt
    omega
theorem HN.kept {Γ : GG} {n : Nat} {M : MP} {D : DD} {H H1 : Heap} (h : HN Γ n M D H) (hq : ∀ q : Nat, q < H.size → H1[q]? = H[q]?) : HN Γ n M D H1 := va_P.kept h (fun k q hk => hq q.1 (h k q hk).lt)
theorem W.sized {p : Program} {l : Launch} {e : Env} {R : Room} {s : State} {m : MethodId} {args : Array Value} {below : List Frame} {meth : Method} {c : Code} {H : Heap} {locs : List Loc} {cells slots : Nat} {Q : State → Prop} {g : JFrame}
    (k : H.size ≤ s.heap.size + cells → W p l e R s m args below meth c H locs cells slots Q g) : W p l e R s m args below meth c H locs cells slots Q g := fun T hT X => k (by rw [← hT]; exact X.heapSize) T hT X
def RunN (Γ : GG) (n0 mc ms : Nat) (Qc : Array Value → State → Outcome → State → Prop) (XC : String → State → State → Prop) (y : YT) (pc : Nat) (ls st : List PV) (n : Nat) (M : MP) (D : DD) : Prop :=
  ∀ (p : Program) (e : Env) (R : Room) (s : State) (m : MethodId) (args : Array Value) (below : List Frame) (meth : Method) (c : Code) (H : Heap) (locs : List Loc) (lsm : Array Slot) (q : Nat),
    Cx Γ y R p s m meth c → meth.name = (yN y).name → s.heap.size ≤ gB Γ + n0 → HN Γ n M D H → va_S (Ab Γ) s.heap H locs → lvr Γ q (yL y) ls lsm → mc ≤ R.cells → ms ≤ R.slots →
    W p Γ.1 e R s m args below meth c H locs (n - n0) (sl n - sl n0) (vx_MQ below Qc XC args s mc ms (Ab Γ)) (F0 m pc lsm (st.map (mv Γ q)))
/-- a class whose object is made: its link, its fields' first values -/
def dcode (c : Nat) : Value := if c ≤ 1 then .int 0 else if c = 2 then .long 0 else .null
def NK (own : String) (idx ci N : Nat) (cs : List Nat) : Prop := ∃ (C : String) (T : u_T) (ty : Nat → FieldType), vwCl[ci]? = some (C, T, N) ∧ (∀ w ∈ u_ws C T N, KW w) ∧ (∀ k, k < N → parseFieldDescriptor (T k).2.2.1 = some (ty k)) ∧ KW (.classLink own idx C) ∧ KW (.instantiable C N) ∧ KW (.initialized C) ∧ cs.length = N ∧
  (List.range N).map (fun k => defaultValue (ty k)) = (List.range N).map (fun k => dcode (cs.getD k 0))
def PKR (own : String) (idx ci k : Nat) : Prop := ∃ (C : String) (T : u_T) (N : Nat) (ty0 : Nat → FieldType), vwCl[ci]? = some (C, T, N) ∧ k < N ∧ (∀ w ∈ u_ws C T N, KW w) ∧ KW (.fieldLink own idx (T k).1 (T k).2.1 (T k).2.2.1) ∧
  (∀ k, k < N → parseFieldDescriptor (T k).2.2.1 = some (ty0 k)) ∧ (∀ a, a < N → ∀ b, b < N → a ≠ b → (T a).2.1 ≠ (T b).2.1) ∧ (T k).1 = own ∧ (∀ x, narrow (ty0 k) (.ref x) = .ref x ∧ fits (ty0 k) (.ref x) = true)
def OJ (own : String) (idx : Nat) : Prop := KW (.methodLink own idx objectInit) ∧ KW (.instanceMethod objectInit) ∧ KW (.code objectInit ⟨#[0xb1]⟩ 1 none)
def Qn (Γ : GG) (n1 : Nat) (M1 : MP) (Ψ : DD → Prop) : Array Value → State → Outcome → State → Prop := fun _ st o t => o = .returned none ∧ (∃ D', Ψ D' ∧ HN Γ n1 M1 D' t.heap) ∧ va_F (Ab Γ) st t
def XF : String → State → State → Prop := fun _ _ _ => False
section CT
variable {Γ : GG} {n0 mc ms : Nat} {Qc : Array Value → State → Outcome → State → Prop} {XC : String → State → State → Prop} {y : YT} {pc : Nat} {ls st : List PV} {n : Nat} {M : MP} {D : DD}
theorem n_iconst {z : Int} (hd : decode (yB y) pc = .ok (.iconst z, 1)) (k : RunN Γ n0 mc ms Qc XC y (pc + 1) ls ((0, z) :: st) n M D) : RunN Γ n0 mc ms Qc XC y pc ls st n M D := by
  intro p e R s m args below meth c H locs lsm q C hN hz hH hS hl h3 h4
  exact lv_iconst C.1 C.2.1 hd rfl (k p e R s m args below meth c H locs lsm q C hN hz hH hS hl h3 h4)
theorem n_bipush {z : Int} (hd : decode (yB y) pc = .ok (.bipush z, 2)) (hn : -128 ≤ z ∧ z ≤ 127) (k : RunN Γ n0 mc ms Qc XC y (pc + 2) ls ((0, z) :: st) n M D) : RunN Γ n0 mc ms Qc XC y pc ls st n M D := by
  intro p e R s m args below meth c H locs lsm q C hN hz hH hS hl h3 h4
  refine lv_bipush C.1 C.2.1 hd (v := Int32.ofInt z) ?_ (k p e R s m args below meth c H locs lsm q C hN hz hH hS hl h3 h4)
  rw [← Int32.toInt_inj, Int8.toInt_toInt32, Int8.toInt_ofInt_of_le (by omega) (by omega), inR_toInt ⟨by omega, by omega⟩]
theorem n_sipush {z : Int} (hd : decode (yB y) pc = .ok (.sipush z, 3)) (hn : -32768 ≤ z ∧ z ≤ 32767) (k : RunN Γ n0 mc ms Qc XC y (pc + 3) ls ((0, z) :: st) n M D) : RunN Γ n0 mc ms Qc XC y pc ls st n M D := by
  intro p e R s m args below meth c H locs lsm q C hN hz hH hS hl h3 h4
  refine lv_sipush C.1 C.2.1 hd (v := Int32.ofInt z) ?_ (k p e R s m args below meth c H locs lsm q C hN hz hH hS hl h3 h4)
  rw [← Int32.toInt_inj, Int16.toInt_toInt32, Int16.toInt_ofInt_of_le (by omega) (by omega), inR_toInt ⟨by omega, by omega⟩]
theorem n_iload_n {i : Fin 4} {z : Int} (hd : decode (yB y) pc = .ok (.iload_n i, 1)) (hv : ls[(i : Nat)]? = some (0, z)) (k : RunN Γ n0 mc ms Qc XC y (pc + 1) ls ((0, z) :: st) n M D) : RunN Γ n0 mc ms Qc XC y pc ls st n M D := by
  intro p e R s m args below meth c H locs lsm q C hN hz hH hS hl h3 h4
  exact lv_iload_n C.1 C.2.1 hd rfl (hl.2.2 _ _ hv (by show (0 : Nat) ≠ 5; decide)) (k p e R s m args below meth c H locs lsm q C hN hz hH hS hl h3 h4)
theorem n_aload_n {i : Fin 4} {v : PV} (hd : decode (yB y) pc = .ok (.aload_n i, 1)) (hv : ls[(i : Nat)]? = some v) (h7 : 7 ≤ v.1) (k : RunN Γ n0 mc ms Qc XC y (pc + 1) ls (v :: st) n M D) : RunN Γ n0 mc ms Qc XC y pc ls st n M D := by
  intro p e R s m args below meth c H locs lsm q C hN hz hH hS hl h3 h4
  have hv' := hl.2.2 _ _ hv (by omega)
  have kk := k p e R s m args below meth c H locs lsm q C hN hz hH hS hl h3 h4
  rw [List.map_cons] at kk
  obtain ⟨x, hx⟩ := mv_ref (Γ := Γ) (q := q) (v := v) (by omega)
  rw [hx] at hv' kk
  exact lv_aload_n C.1 C.2.1 hd rfl hv' kk
theorem n_istore {i : Nat} {z : Int} (hd : decode (yB y) pc = .ok (.istore i, 2)) (hi : i < yL y) (hp : pok ls i = true) (k : RunN Γ n0 mc ms Qc XC y (pc + 2) (ls.set i (0, z)) st n M D) : RunN Γ n0 mc ms Qc XC y pc ls ((0, z) :: st) n M D := by
  intro p e R s m args below meth c H locs lsm q C hN hz hH hS hl h3 h4
  exact lv_istore C.1 C.2.1 hd hl.has hi rfl (fun lsm' hn => k p e R s m args below meth c H locs lsm' q C hN hz hH hS (hl.set1 (v := (0, z)) hp hn) h3 h4)
theorem n_astore_n {i : Fin 4} {v : PV} (hd : decode (yB y) pc = .ok (.astore_n i, 1)) (hi : (i : Nat) < yL y) (hp : pok ls i = true) (h4' : 4 ≤ v.1) (k : RunN Γ n0 mc ms Qc XC y (pc + 1) (ls.set i v) st n M D) : RunN Γ n0 mc ms Qc XC y pc ls (v :: st) n M D := by
  intro p e R s m args below meth c H locs lsm q C hN hz hH hS hl h3 h4
  obtain ⟨x, hx⟩ := mv_ref (Γ := Γ) (q := q) (v := v) h4'
  rw [List.map_cons, hx]
  exact lv_astore_n C.1 C.2.1 hd rfl hl.has hi rfl (fun lsm' hn => k p e R s m args below meth c H locs lsm' q C hN hz hH hS (hl.set1 (v := v) hp (by rw [hx]; exact hn)) h3 h4)
theorem n_dup {v : PV} (hd : decode (yB y) pc = .ok (.dup, 1)) (hv : v.1 ≠ 1) (k : RunN Γ n0 mc ms Qc XC y (pc + 1) ls (v :: v :: st) n M D) : RunN Γ n0 mc ms Qc XC y pc ls (v :: st) n M D := by
  intro p e R s m args below meth c H locs lsm q C hN hz hH hS hl h3 h4
  exact lv_dup C.1 C.2.1 hd (mv_cat1 hv) (k p e R s m args below meth c H locs lsm q C hN hz hH hS hl h3 h4)
theorem n_if_lt {a : Int} {off : Int} (hd : decode (yB y) pc = .ok (.ifCond .lt off, 3)) (ha : inR a) (h0 : 0 ≤ a) (kf : RunN Γ n0 mc ms Qc XC y (pc + 3) ls st n M D) {tgt : Nat} (ht : (pc : Int) + off = (tgt : Int)) : RunN Γ n0 mc ms Qc XC y pc ls ((0, a) :: st) n M D := by
  intro p e R s m args below meth c H locs lsm q C hN hz hH hS hl h3 h4
  exact lv_if_lt C.1 C.2.1 hd ht (fun h => absurd ((ofI_lt ha inR_0).mp h) (by omega)) (fun _ => kf p e R s m args below meth c H locs lsm q C hN hz hH hS hl h3 h4)
theorem n_icmp_ge {a b : Int} {off : Int} (hd : decode (yB y) pc = .ok (.if_icmp .ge off, 3)) (ha : inR a) (hb : inR b) (h0 : a < b) (kf : RunN Γ n0 mc ms Qc XC y (pc + 3) ls st n M D) {tgt : Nat} (ht : (pc : Int) + off = (tgt : Int)) : RunN Γ n0 mc ms Qc XC y pc ls ((0, b) :: (0, a) :: st) n M D := by
  intro p e R s m args below meth c H locs lsm q C hN hz hH hS hl h3 h4
  exact lv_icmp_ge C.1 C.2.1 hd ht (fun h => absurd ((ofI_le hb ha).mp h) (by omega)) (fun _ => kf p e R s m args below meth c H locs lsm q C hN hz hH hS hl h3 h4)
theorem n_alen {a len : Nat} {z : Int} {cs : List Nat} (hd : decode (yB y) pc = .ok (.arraylength, 1)) (hs : SH.getD a (9, 0, []) = (1, len, cs)) (ha : a < n) (k : RunN Γ n0 mc ms Qc XC y (pc + 1) ls ((0, (len : Int)) :: st) n M D) : RunN Γ n0 mc ms Qc XC y pc ls ((a + 8, z) :: st) n M D := by
  intro p e R s m args below meth c H locs lsm q C hN hz hH hS hl h3 h4
  have hat := wsn_at (Γ := Γ) (M := M) (D := D) ha
  rw [show cellN Γ M D a = .inl (gI Γ, len, .inl (fun j => Int32.ofInt (D a j))) by unfold cellN cellOf; simp only [hs]] at hat
  exact va_alen C.1 C.2.1 C.2.2.2.2.2.2.2.2.2.2.2.1 hH a 0 hat (ty := .int) rfl (v := Int32.ofInt (len : Int)) (Int32.ofInt_eq_ofNat).symm hd (k p e R s m args below meth c H locs lsm q C hN hz hH hS hl h3 h4)
theorem cellN_congr {M' : MP} {D' : DD} {x : Nat} (hD : D' x = D x) (hM : ∀ k, M'.contains (x, k) = M.contains (x, k)) : cellN Γ M' D' x = cellN Γ M D x := by
  unfold cellN cellOf
  simp only [hD, hM]
theorem n_iast {a len : Nat} {i z x : Int} {cs : List Nat} (hd : decode (yB y) pc = .ok (.iastore, 1)) (hs : SH.getD a (9, 0, []) = (1, len, cs)) (ha : a < n) (hn : len < 2147483648) (hi : 0 ≤ i) (hj : i < len)
    (k : RunN Γ n0 mc ms Qc XC y (pc + 1) ls st n M (up2 D a i.toNat x)) : RunN Γ n0 mc ms Qc XC y pc ls ((0, x) :: (0, i) :: (a + 8, z) :: st) n M D := by
  intro p e R s m args below meth c H locs lsm q C hN hz hH hS hl h3 h4
  have hce : ∀ D : DD, cellN Γ M D a = .inl (gI Γ, len, .inl (fun j => Int32.ofInt (D a j))) := fun D => by unfold cellN cellOf; simp only [hs]
  have hat := wsn_at (Γ := Γ) (M := M) (D := D) ha
  have hset := wsn_set (Γ := Γ) (M := M) (M' := M) (D := D) (D' := up2 D a i.toNat x) ha (fun b hb => cellN_congr (up2_ne D a _ x hb) (fun _ => rfl))
  rw [hce] at hat hset
  refine va_iast C.1 C.2.1 C.2.2.2.2.2.2.2.2.2.2.2.1 hH (wsn_D Γ n M D) hS a 0 hat rfl (ofI_in hi hj hn) hd (fun H1 locs1 hP1 hD1 hS1 => ?_)
  rw [upd_up2 hi (by omega), hset] at hP1
  exact k p e R s m args below meth c H1 locs1 lsm q C hN hz hP1 hS1 hl h3 h4
theorem n_getR {idx a k ci t : Nat} {cs : List Nat} {z : Int} (hd : decode (yB y) pc = .ok (.getfield idx, 3)) (hF : FK (yN y).cls idx ci k) (hs : SH.getD a (9, 0, []) = (0, ci, cs)) (hk : cs[k]? = some (t + 3)) (ha : a < n) (hM : M.contains (a, k) = true)
    (kk : RunN Γ n0 mc ms Qc XC y (pc + 3) ls ((t + 8, 0) :: st) n M D) : RunN Γ n0 mc ms Qc XC y pc ls ((a + 8, z) :: st) n M D := by
  intro p e R s m args below meth c H locs lsm q C hN hz hH hS hl h3 h4
  obtain ⟨Cn, T, N, e1, e2, e3, e4⟩ := hF
  obtain ⟨hx, hb, hml, hown, hlk, hrt, htb, hfr, hlo, hE⟩ := id C
  have hat := wsn_at (Γ := Γ) (M := M) (D := D) ha
  rw [show cellN Γ M D a = .inr (ci, (List.range cs.length).map (fun k => fvn Γ (M.contains (a, k)) (cs.getD k 0) (D a k))) by unfold cellN; simp only [hs]] at hat
  have hkl := (List.getElem?_eq_some_iff.mp hk).1
  refine va_get (Ts := u_ws Cn T N) hx hb (fun w hw => hE.word (e3 w hw)) (fun _ h => h) hown hE.2.2.1 hH a hat e1 k e2 (hE.word e4) (fun _ h => h) (v := .ref (gB Γ + t))
    ?_ hd (kk p e R s m args below meth c H locs lsm q C hN hz hH hS hl h3 h4)
  rw [List.getElem?_map, List.getElem?_range hkl, Option.map_some, List.getD_eq_getElem?_getD, hk]
  show some (fvn Γ (M.contains (a, k)) (t + 3) (D a k)) = _
  rw [hM]
  unfold fvn
  rw [if_neg (by omega), if_pos rfl]
  rfl
theorem n_putI {idx a k ci : Nat} {cs : List Nat} {z x : Int} (hd : decode (yB y) pc = .ok (.putfield idx, 3)) (hF : PK (yN y).cls idx ci k .int) (hs : SH.getD a (9, 0, []) = (0, ci, cs)) (hk : cs[k]? = some 0) (ha : a < n)
    (kk : RunN Γ n0 mc ms Qc XC y (pc + 3) ls st n M (up2 D a k x)) : RunN Γ n0 mc ms Qc XC y pc ls ((0, x) :: (a + 8, z) :: st) n M D := by
  intro p e R s m args below meth c H locs lsm q C hN hz hH hS hl h3 h4
  obtain ⟨Cn, T, N, ty0, e1, e2, e3, e4, e5, e6, e7, e8⟩ := hF
  obtain ⟨hx, hb, hml, hown, hlk, hrt, htb, hfr, hlo, hE⟩ := id C
  have hce : ∀ D : DD, cellN Γ M D a = .inr (ci, (List.range cs.length).map (fun k => fvn Γ (M.contains (a, k)) (cs.getD k 0) (D a k))) := fun D => by unfold cellN; simp only [hs]
  have hat := wsn_at (Γ := Γ) (M := M) (D := D) ha
  rw [hce] at hat
  have hkl := (List.getElem?_eq_some_iff.mp hk).1
  have hset := wsn_set (Γ := Γ) (M := M) (M' := M) (D := D) (D' := up2 D a k x) ha (fun b hb => cellN_congr (up2_ne D a _ x hb) (fun _ => rfl))
  have hfs : ((List.range cs.length).map (fun k => fvn Γ (M.contains (a, k)) (cs.getD k 0) (D a k))).set k (.int (Int32.ofInt x)) = (List.range cs.length).map (fun j => fvn Γ (M.contains (a, j)) (cs.getD j 0) (up2 D a k x a j)) := by
    apply List.ext_getElem?
    intro j
    rw [List.getElem?_set, List.getElem?_map, List.getElem?_map]
    by_cases hj : k = j
    · subst hj
      rw [if_pos rfl, if_pos (by simpa using hkl), List.getElem?_range hkl, Option.map_some, up2_at]
      dsimp only
      rw [if_pos rfl, List.getD_eq_getElem?_getD, hk]; rfl
    · rw [if_neg hj]
      cases hg : (List.range cs.length)[j]? with
      | none => rfl
      | some w =>
        have hw : w = j := by
          obtain ⟨l1, l2⟩ := List.getElem?_eq_some_iff.mp hg
          rw [List.getElem_range] at l2; exact l2.symm
        subst hw
        rw [Option.map_some, Option.map_some, up2_at]
        dsimp only
        rw [if_neg (fun h : w = k => hj h.symm)]
  rw [hce, ← hfs] at hset
  refine va_put (v := .int (Int32.ofInt x)) (Ts := u_ws Cn T N) hx hb (fun w hw => hE.word (e3 w hw)) (fun _ h => h) ty0 e5 e6 hown hE.2.2.1 hH (wsn_D Γ n M D) hS a hat e1 k e2 (hE.word e4) (fun _ h => h) e7 (ty := .int) (by rw [e5 k e2, e8]) rfl rfl (by simpa using hkl) hd (fun H1 locs1 hP1 hD1 hS1 => ?_)
  rw [hset] at hP1
  exact kk p e R s m args below meth c H1 locs1 lsm q C hN hz hP1 hS1 hl h3 h4
theorem n_putR {idx a k ci t : Nat} {cs : List Nat} {z z' : Int} (hd : decode (yB y) pc = .ok (.putfield idx, 3)) (hF : PKR (yN y).cls idx ci k) (hini : (yN y).name = "<init>") (hs : SH.getD a (9, 0, []) = (0, ci, cs)) (hk : cs[k]? = some (t + 3)) (ha : a < n)
    (kk : RunN Γ n0 mc ms Qc XC y (pc + 3) ls st n ((a, k) :: M) D) : RunN Γ n0 mc ms Qc XC y pc ls ((t + 8, z') :: (a + 8, z) :: st) n M D := by
  intro p e R s m args below meth c H locs lsm q C hN hz hH hS hl h3 h4
  obtain ⟨Cn, T, N, ty0, e1, e2, e3, e4, e5, e6, e7, e8⟩ := hF
  obtain ⟨hx, hb, hml, hown, hlk, hrt, htb, hfr, hlo, hE⟩ := id C
  have hce : ∀ M : MP, cellN Γ M D a = .inr (ci, (List.range cs.length).map (fun k => fvn Γ (M.contains (a, k)) (cs.getD k 0) (D a k))) := fun M => by unfold cellN; simp only [hs]
  have hat := wsn_at (Γ := Γ) (M := M) (D := D) ha
  rw [hce] at hat
  have hkl := (List.getElem?_eq_some_iff.mp hk).1
  have hcc : ∀ x j : Nat, ¬ (x = a ∧ j = k) → ((a, k) :: M).contains (x, j) = M.contains (x, j) := fun x j h => by
    rw [List.contains_cons]
    have : ((x, j) == (a, k)) = false := by
      simp only [beq_eq_false_iff_ne, ne_eq, Prod.mk.injEq]
      exact h
    rw [this, Bool.false_or]
  have hset := wsn_set (Γ := Γ) (M := M) (M' := (a, k) :: M) (D := D) (D' := D) ha (fun b hb => cellN_congr rfl (fun j => hcc b j (fun h => hb h.1)))
  have hfs : ((List.range cs.length).map (fun k => fvn Γ (M.contains (a, k)) (cs.getD k 0) (D a k))).set k (.ref (gB Γ + t)) = (List.range cs.length).map (fun j => fvn Γ (((a, k) :: M).contains (a, j)) (cs.getD j 0) (D a j)) := by
    apply List.ext_getElem?
    intro j
    rw [List.getElem?_set, List.getElem?_map, List.getElem?_map]
    by_cases hj : k = j
    · subst hj
      rw [if_pos rfl, if_pos (by simpa using hkl), List.getElem?_range hkl, Option.map_some, List.contains_cons]
      have h1 : ((a, k) == (a, k)) = true := by simp
      rw [h1, Bool.true_or, List.getD_eq_getElem?_getD, hk]
      show _ = some (fvn Γ true (t + 3) (D a k))
      unfold fvn
      rw [if_neg (by omega), if_pos rfl]; rfl
    · rw [if_neg hj]
      cases hg : (List.range cs.length)[j]? with
      | none => rfl
      | some w =>
        have hw : w = j := by
          obtain ⟨l1, l2⟩ := List.getElem?_eq_some_iff.mp hg
          rw [List.getElem_range] at l2; exact l2.symm
        subst hw
        rw [Option.map_some, Option.map_some, hcc a w (fun h => hj h.2.symm)]
  rw [hce, ← hfs] at hset
  show W _ _ _ _ _ _ _ _ _ _ _ _ _ _ _ (F0 m pc lsm (.ref (gB Γ + t) :: .ref (gB Γ + a) :: st.map (mv Γ q)))
  cases hfin : (T k).2.2.2 with
  | true =>
    refine va_putF (v := .ref (gB Γ + t)) (Ts := u_ws Cn T N) hx hb (fun w hw => hE.word (e3 w hw)) (fun _ h => h) ty0 e5 e6 hown hE.2.2.1 hH (wsn_D Γ n M D) hS a hat e1 k e2 (hE.word e4) (fun _ h => h) hfin (hN.trans hini) e7 (ty := ty0 k) (e5 k e2) (e8 _).1 (e8 _).2 (by simpa using hkl) hd (fun H1 locs1 hP1 hD1 hS1 => ?_)
    rw [hset] at hP1
    exact kk p e R s m args below meth c H1 locs1 lsm q C hN hz hP1 hS1 hl h3 h4
  | false =>
    refine va_put (v := .ref (gB Γ + t)) (Ts := u_ws Cn T N) hx hb (fun w hw => hE.word (e3 w hw)) (fun _ h => h) ty0 e5 e6 hown hE.2.2.1 hH (wsn_D Γ n M D) hS a hat e1 k e2 (hE.word e4) (fun _ h => h) hfin (ty := ty0 k) (e5 k e2) (e8 _).1 (e8 _).2 (by simpa using hkl) hd (fun H1 locs1 hP1 hD1 hS1 => ?_)
    rw [hset] at hP1
    exact kk p e R s m args below meth c H1 locs1 lsm q C hN hz hP1 hS1 hl h3 h4
theorem n_objI {idx : Nat} {v : PV} (hd : decode (yB y) pc = .ok (.invokespecial idx, 3)) (hO : OJ (yN y).cls idx) (h7 : 7 ≤ v.1) (hst : (st.map pcat).sum ≤ 20) (hK : 1 ≤ yK y) (k : RunN Γ n0 mc ms Qc XC y (pc + 3) ls st n M D) : RunN Γ n0 mc ms Qc XC y pc ls (v :: st) n M D := by
  intro p e R s m args below meth c H locs lsm q C hN hz hH hS hl h3 h4
  obtain ⟨hx, hb, hml, hown, hlk, hrt, htb, hfr, hlo, hE⟩ := id C
  obtain ⟨x, hx'⟩ := mv_ref (Γ := Γ) (q := q) (v := v) (by omega)
  rw [List.map_cons, hx']
  refine W.objInit hx hb hown (hE.word hO.1) (hE.word hO.2.1) (hE.word hO.2.2) rfl (hl.1.trans hml.symm) rfl hd (by omega) ?_ (k p e R s m args below meth c H locs lsm q C hN hz hH hS hl h3 h4)
  show 2 * 0 + ((st.map (mv Γ q)).map fun v => v.category).sum + 12 ≤ R.locals
  rw [pcat_sum]
  omega
theorem n_vret {n1 : Nat} {M1 : MP} {Ψ : DD → Prop} (hd : decode (yB y) pc = .ok (.return_, 1)) (hr : yR y = none) (e1 : n = n1) (e2 : M = M1) (h : Ψ D) : RunN Γ n0 (n1 - n0) (sl n1 - sl n0) (Qn Γ n1 M1 Ψ) XC y pc ls [] n M D := by
  intro p e R s m args below meth c H locs lsm q C hN hz hH hS hl h3 h4
  subst e1
  subst e2
  obtain ⟨hx, hb, hml, hown, hlk, hrt, htb, hfr, hlo, hE⟩ := id C
  refine vx_ret ?_
  exact W.vret hx hb (hrt.trans hr) (fun t ht _ => ⟨rfl, ⟨D, h, by rw [ht]; exact hH⟩, hS.F ht⟩) hS.2.2 hd hlk
end CT
