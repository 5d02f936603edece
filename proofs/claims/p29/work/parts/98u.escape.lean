/-! ROWS FOR THE LAW ITSELF: nothing is said of its end; the machine comes to a state with many new cells -/
def QE (Γ : GG) : State → Prop := fun t => gB Γ + 174 ≤ t.heap.size
def RunQ (Γ : GG) (rg : Nat → Bool) (κ : Nat) (y : YT) (pc : Nat) (ls st : List PV) (D : DD) : Prop :=
  ∀ (p : Program) (e : Env) (R : Room) (s : State) (m : MethodId) (args : Array Value) (below : List Frame) (meth : Method) (c : Code) (H : Heap) (locs : List Loc) (lsm : Array Slot) (cells slots q mc ms : Nat),
    Cx Γ y R p s m meth c → HW Γ rg D H → va_S (Ab Γ) s.heap H locs → lvr Γ q (yL y) ls lsm → cells + κ ≤ mc → slots + 6 * κ ≤ ms → mc ≤ R.cells → ms ≤ R.slots →
    W p Γ.1 e R s m args below meth c H locs cells slots (QE Γ) (F0 m pc lsm (st.map (mv Γ q)))
def RunM (Γ : GG) (n0 mc ms : Nat) (y : YT) (pc : Nat) (ls st : List PV) (n : Nat) (M : MP) (D : DD) : Prop :=
  ∀ (p : Program) (e : Env) (R : Room) (s : State) (m : MethodId) (args : Array Value) (below : List Frame) (meth : Method) (c : Code) (H : Heap) (locs : List Loc) (lsm : Array Slot) (q : Nat),
    Cx Γ y R p s m meth c → meth.name = (yN y).name → s.heap.size ≤ gB Γ + n0 → HN Γ n M D H → va_S (Ab Γ) s.heap H locs → lvr Γ q (yL y) ls lsm → mc ≤ R.cells → ms ≤ R.slots →
    W p Γ.1 e R s m args below meth c H locs (n - n0) (sl n - sl n0) (QE Γ) (F0 m pc lsm (st.map (mv Γ q)))
section ESC
variable {Γ : GG} {rg : Nat → Bool} {κ : Nat} {y : YT} {pc : Nat} {ls st : List PV} {D : DD}

theorem q_iconst {n : Int} (hd : decode (yB y) pc = .ok (.iconst n, 1)) (k : RunQ Γ rg κ y (pc + 1) ls ((0, n) :: st) D) : RunQ Γ rg κ y pc ls st D := by
  intro p e R s m args below meth c H locs lsm cells slots q mc ms C hH hS hl h1 h2 h3 h4
  exact lv_iconst C.1 C.2.1 hd rfl (k p e R s m args below meth c H locs lsm cells slots q mc ms C hH hS hl h1 h2 h3 h4)
theorem q_bipush {n : Int} (hd : decode (yB y) pc = .ok (.bipush n, 2)) (hn : -128 ≤ n ∧ n ≤ 127) (k : RunQ Γ rg κ y (pc + 2) ls ((0, n) :: st) D) : RunQ Γ rg κ y pc ls st D := by
  intro p e R s m args below meth c H locs lsm cells slots q mc ms C hH hS hl h1 h2 h3 h4
  refine lv_bipush C.1 C.2.1 hd (v := Int32.ofInt n) ?_ (k p e R s m args below meth c H locs lsm cells slots q mc ms C hH hS hl h1 h2 h3 h4)
  rw [← Int32.toInt_inj, Int8.toInt_toInt32, Int8.toInt_ofInt_of_le (by omega) (by omega), inR_toInt ⟨by omega, by omega⟩]
theorem q_sipush {n : Int} (hd : decode (yB y) pc = .ok (.sipush n, 3)) (hn : -32768 ≤ n ∧ n ≤ 32767) (k : RunQ Γ rg κ y (pc + 3) ls ((0, n) :: st) D) : RunQ Γ rg κ y pc ls st D := by
  intro p e R s m args below meth c H locs lsm cells slots q mc ms C hH hS hl h1 h2 h3 h4
  refine lv_sipush C.1 C.2.1 hd (v := Int32.ofInt n) ?_ (k p e R s m args below meth c H locs lsm cells slots q mc ms C hH hS hl h1 h2 h3 h4)
  rw [← Int32.toInt_inj, Int16.toInt_toInt32, Int16.toInt_ofInt_of_le (by omega) (by omega), inR_toInt ⟨by omega, by omega⟩]
theorem q_lconst {n : Fin 2} (hd : decode (yB y) pc = .ok (.lconst n, 1)) (k : RunQ Γ rg κ y (pc + 1) ls ((1, ((n : Nat) : Int)) :: st) D) : RunQ Γ rg κ y pc ls st D := by
  intro p e R s m args below meth c H locs lsm cells slots q mc ms C hH hS hl h1 h2 h3 h4
  exact lv_lconst C.1 C.2.1 hd (Int64.ofInt_eq_ofNat).symm (k p e R s m args below meth c H locs lsm cells slots q mc ms C hH hS hl h1 h2 h3 h4)
theorem q_iload_n {i : Fin 4} {z : Int} (hd : decode (yB y) pc = .ok (.iload_n i, 1)) (hv : ls[(i : Nat)]? = some (0, z)) (k : RunQ Γ rg κ y (pc + 1) ls ((0, z) :: st) D) : RunQ Γ rg κ y pc ls st D := by
  intro p e R s m args below meth c H locs lsm cells slots q mc ms C hH hS hl h1 h2 h3 h4
  exact lv_iload_n C.1 C.2.1 hd rfl (hl.2.2 _ _ hv (by show (0 : Nat) ≠ 5; decide)) (k p e R s m args below meth c H locs lsm cells slots q mc ms C hH hS hl h1 h2 h3 h4)
theorem q_iload {i : Nat} {z : Int} (hd : decode (yB y) pc = .ok (.iload i, 2)) (hv : ls[i]? = some (0, z)) (k : RunQ Γ rg κ y (pc + 2) ls ((0, z) :: st) D) : RunQ Γ rg κ y pc ls st D := by
  intro p e R s m args below meth c H locs lsm cells slots q mc ms C hH hS hl h1 h2 h3 h4
  exact lv_iload C.1 C.2.1 hd (hl.2.2 _ _ hv (by show (0 : Nat) ≠ 5; decide)) (k p e R s m args below meth c H locs lsm cells slots q mc ms C hH hS hl h1 h2 h3 h4)
theorem q_aload_n {i : Fin 4} {v : PV} (hd : decode (yB y) pc = .ok (.aload_n i, 1)) (hv : ls[(i : Nat)]? = some v) (h7 : 7 ≤ v.1) (k : RunQ Γ rg κ y (pc + 1) ls (v :: st) D) : RunQ Γ rg κ y pc ls st D := by
  intro p e R s m args below meth c H locs lsm cells slots q mc ms C hH hS hl h1 h2 h3 h4
  have hv' := hl.2.2 _ _ hv (by omega)
  have kk := k p e R s m args below meth c H locs lsm cells slots q mc ms C hH hS hl h1 h2 h3 h4
  rw [List.map_cons] at kk
  obtain ⟨x, hx⟩ := mv_ref (Γ := Γ) (q := q) (v := v) (by omega)
  rw [hx] at hv' kk
  exact lv_aload_n C.1 C.2.1 hd rfl hv' kk
theorem q_aload {i : Nat} {v : PV} (hd : decode (yB y) pc = .ok (.aload i, 2)) (hv : ls[i]? = some v) (h7 : 7 ≤ v.1) (k : RunQ Γ rg κ y (pc + 2) ls (v :: st) D) : RunQ Γ rg κ y pc ls st D := by
  intro p e R s m args below meth c H locs lsm cells slots q mc ms C hH hS hl h1 h2 h3 h4
  have hv' := hl.2.2 _ _ hv (by omega)
  have kk := k p e R s m args below meth c H locs lsm cells slots q mc ms C hH hS hl h1 h2 h3 h4
  rw [List.map_cons] at kk
  obtain ⟨x, hx⟩ := mv_ref (Γ := Γ) (q := q) (v := v) (by omega)
  rw [hx] at hv' kk
  exact lv_aload C.1 C.2.1 hd hv' kk
theorem q_istore_n {i : Fin 4} {z : Int} (hd : decode (yB y) pc = .ok (.istore_n i, 1)) (hi : (i : Nat) < yL y) (hp : pok ls i = true) (k : RunQ Γ rg κ y (pc + 1) (ls.set i (0, z)) st D) : RunQ Γ rg κ y pc ls ((0, z) :: st) D := by
  intro p e R s m args below meth c H locs lsm cells slots q mc ms C hH hS hl h1 h2 h3 h4
  exact lv_istore_n C.1 C.2.1 hd rfl hl.has hi rfl (fun lsm' hn => k p e R s m args below meth c H locs lsm' cells slots q mc ms C hH hS (hl.set1 (v := (0, z)) hp hn) h1 h2 h3 h4)
theorem q_istore {i : Nat} {z : Int} (hd : decode (yB y) pc = .ok (.istore i, 2)) (hi : i < yL y) (hp : pok ls i = true) (k : RunQ Γ rg κ y (pc + 2) (ls.set i (0, z)) st D) : RunQ Γ rg κ y pc ls ((0, z) :: st) D := by
  intro p e R s m args below meth c H locs lsm cells slots q mc ms C hH hS hl h1 h2 h3 h4
  exact lv_istore C.1 C.2.1 hd hl.has hi rfl (fun lsm' hn => k p e R s m args below meth c H locs lsm' cells slots q mc ms C hH hS (hl.set1 (v := (0, z)) hp hn) h1 h2 h3 h4)
theorem q_astore_n {i : Fin 4} {v : PV} (hd : decode (yB y) pc = .ok (.astore_n i, 1)) (hi : (i : Nat) < yL y) (hp : pok ls i = true) (h4' : 4 ≤ v.1) (k : RunQ Γ rg κ y (pc + 1) (ls.set i v) st D) : RunQ Γ rg κ y pc ls (v :: st) D := by
  intro p e R s m args below meth c H locs lsm cells slots q mc ms C hH hS hl h1 h2 h3 h4
  obtain ⟨x, hx⟩ := mv_ref (Γ := Γ) (q := q) (v := v) h4'
  rw [List.map_cons, hx]
  exact lv_astore_n C.1 C.2.1 hd rfl hl.has hi rfl (fun lsm' hn => k p e R s m args below meth c H locs lsm' cells slots q mc ms C hH hS (hl.set1 (v := v) hp (by rw [hx]; exact hn)) h1 h2 h3 h4)
theorem q_astore {i : Nat} {v : PV} (hd : decode (yB y) pc = .ok (.astore i, 2)) (hi : i < yL y) (hp : pok ls i = true) (h4' : 4 ≤ v.1) (k : RunQ Γ rg κ y (pc + 2) (ls.set i v) st D) : RunQ Γ rg κ y pc ls (v :: st) D := by
  intro p e R s m args below meth c H locs lsm cells slots q mc ms C hH hS hl h1 h2 h3 h4
  obtain ⟨x, hx⟩ := mv_ref (Γ := Γ) (q := q) (v := v) h4'
  rw [List.map_cons, hx]
  exact lv_astore C.1 C.2.1 hd hl.has hi rfl (fun lsm' hn => k p e R s m args below meth c H locs lsm' cells slots q mc ms C hH hS (hl.set1 (v := v) hp (by rw [hx]; exact hn)) h1 h2 h3 h4)
theorem q_iadd {a b : Int} (hd : decode (yB y) pc = .ok (.iadd, 1)) (k : RunQ Γ rg κ y (pc + 1) ls ((0, a + b) :: st) D) : RunQ Γ rg κ y pc ls ((0, b) :: (0, a) :: st) D := by
  intro p e R s m args below meth c H locs lsm cells slots q mc ms C hH hS hl h1 h2 h3 h4
  refine lv_iadd C.1 C.2.1 hd ?_
  rw [← Int32.ofInt_add]
  exact k p e R s m args below meth c H locs lsm cells slots q mc ms C hH hS hl h1 h2 h3 h4
theorem q_isub {a b : Int} (hd : decode (yB y) pc = .ok (.isub, 1)) (k : RunQ Γ rg κ y (pc + 1) ls ((0, a - b) :: st) D) : RunQ Γ rg κ y pc ls ((0, b) :: (0, a) :: st) D := by
  intro p e R s m args below meth c H locs lsm cells slots q mc ms C hH hS hl h1 h2 h3 h4
  refine lv_isub C.1 C.2.1 hd ?_
  rw [← Int32.ofInt_sub]
  exact k p e R s m args below meth c H locs lsm cells slots q mc ms C hH hS hl h1 h2 h3 h4
theorem q_imul {a b : Int} (hd : decode (yB y) pc = .ok (.imul, 1)) (k : RunQ Γ rg κ y (pc + 1) ls ((0, a * b) :: st) D) : RunQ Γ rg κ y pc ls ((0, b) :: (0, a) :: st) D := by
  intro p e R s m args below meth c H locs lsm cells slots q mc ms C hH hS hl h1 h2 h3 h4
  refine lv_imul C.1 C.2.1 hd ?_
  rw [← Int32.ofInt_mul]
  exact k p e R s m args below meth c H locs lsm cells slots q mc ms C hH hS hl h1 h2 h3 h4
theorem q_dup2 {v w : PV} (hd : decode (yB y) pc = .ok (.dup2, 1)) (hv : v.1 ≠ 1) (hw : w.1 ≠ 1) (k : RunQ Γ rg κ y (pc + 1) ls (v :: w :: v :: w :: st) D) : RunQ Γ rg κ y pc ls (v :: w :: st) D := by
  intro p e R s m args below meth c H locs lsm cells slots q mc ms C hH hS hl h1 h2 h3 h4
  exact lv_dup2_11 C.1 C.2.1 hd (mv_cat1 hv) (mv_cat1 hw) (k p e R s m args below meth c H locs lsm cells slots q mc ms C hH hS hl h1 h2 h3 h4)
theorem q_iinc {i : Nat} {n z : Int} (hd : decode (yB y) pc = .ok (.iinc i n, 3)) (hv : ls[i]? = some (0, z)) (hi : i < yL y) (hp : pok ls i = true) (k : RunQ Γ rg κ y (pc + 3) (ls.set i (0, z + n)) st D) : RunQ Γ rg κ y pc ls st D := by
  intro p e R s m args below meth c H locs lsm cells slots q mc ms C hH hS hl h1 h2 h3 h4
  obtain ⟨j, hj⟩ := List.getElem?_of_mem (lvl_mem (Γ := Γ) (q := q) hv (by show (0 : Nat) ≠ 5; decide))
  exact lv_iinc C.1 C.2.1 hd hl.has hj (by rw [← Int32.ofInt_add]) hi rfl (fun lsm' hn => k p e R s m args below meth c H locs lsm' cells slots q mc ms C hH hS (hl.set1 (v := (0, z + n)) hp hn) h1 h2 h3 h4)
theorem q_irem {a b : Int} (hd : decode (yB y) pc = .ok (.irem, 1)) (ha : inR a) (hb : inR b) (h0 : b ≠ 0) (k : RunQ Γ rg κ y (pc + 1) ls ((0, a.tmod b) :: st) D) : RunQ Γ rg κ y pc ls ((0, b) :: (0, a) :: st) D := by
  intro p e R s m args below meth c H locs lsm cells slots q mc ms C hH hS hl h1 h2 h3 h4
  refine lv_irem C.1 C.2.1 hd (by rw [ofI_0, ofI_eq hb inR_0]; exact h0) ?_
  have e1 : Int32.ofInt a - Int32.ofInt a / Int32.ofInt b * Int32.ofInt b = Int32.ofInt (a.tmod b) := by
    rw [← Int32.ofInt_tdiv (show Int32.minValue.toInt ≤ a from ha.1) (show a ≤ Int32.maxValue.toInt from ha.2) (show Int32.minValue.toInt ≤ b from hb.1) (show b ≤ Int32.maxValue.toInt from hb.2), ← Int32.ofInt_mul, ← Int32.ofInt_sub]
    congr 1
    have := Int.mul_tdiv_add_tmod a b
    rw [Int.mul_comm] at this
    omega
  rw [e1]
  exact k p e R s m args below meth c H locs lsm cells slots q mc ms C hH hS hl h1 h2 h3 h4
theorem q_lcmp {a b : Int} (hd : decode (yB y) pc = .ok (.lcmp, 1)) (ha : inJ a) (hb : inJ b) (k : RunQ Γ rg κ y (pc + 1) ls ((0, if b < a then 1 else if a = b then 0 else -1) :: st) D) : RunQ Γ rg κ y pc ls ((1, b) :: (1, a) :: st) D := by
  intro p e R s m args below meth c H locs lsm cells slots q mc ms C hH hS hl h1 h2 h3 h4
  refine W.lcmp C.1 C.2.1 hd ?_
  have e1 : lg_cmp (Int64.ofInt a) (Int64.ofInt b) = Int32.ofInt (if b < a then 1 else if a = b then 0 else -1) := by
    unfold lg_cmp
    have q1 : (Int64.ofInt a > Int64.ofInt b) ↔ b < a := by
      show Int64.ofInt b < Int64.ofInt a ↔ b < a
      rw [Int64.lt_iff_toInt_lt, inJ_toInt ha, inJ_toInt hb]
    have q2 : (Int64.ofInt a = Int64.ofInt b) ↔ a = b := by rw [← Int64.toInt_inj, inJ_toInt ha, inJ_toInt hb]
    by_cases g1 : b < a
    · rw [if_pos (q1.mpr g1), if_pos g1]; rfl
    · rw [if_neg (fun h => g1 (q1.mp h)), if_neg g1]
      by_cases g2 : a = b
      · rw [if_pos (q2.mpr g2), if_pos g2]; rfl
      · rw [if_neg (fun h => g2 (q2.mp h)), if_neg g2]; rfl
  rw [e1]
  exact k p e R s m args below meth c H locs lsm cells slots q mc ms C hH hS hl h1 h2 h3 h4
theorem q_goto {off : Int} {tgt : Nat} (hd : decode (yB y) pc = .ok (.goto off, 3)) (ht : (pc : Int) + off = (tgt : Int)) (k : RunQ Γ rg κ y tgt ls st D) : RunQ Γ rg κ y pc ls st D := by
  intro p e R s m args below meth c H locs lsm cells slots q mc ms C hH hS hl h1 h2 h3 h4
  exact lv_goto C.1 C.2.1 hd ht (k p e R s m args below meth c H locs lsm cells slots q mc ms C hH hS hl h1 h2 h3 h4)
theorem q_icmp_ne {a b : Int} {off : Int} {tgt : Nat} (hd : decode (yB y) pc = .ok (.if_icmp .ne off, 3)) (ht : (pc : Int) + off = (tgt : Int)) (ha : inR a) (hb : inR b) (kt : ¬ a = b → RunQ Γ rg κ y tgt ls st D) (kf : a = b → RunQ Γ rg κ y (pc + 3) ls st D) : RunQ Γ rg κ y pc ls ((0, b) :: (0, a) :: st) D := by
  intro p e R s m args below meth c H locs lsm cells slots q mc ms C hH hS hl h1 h2 h3 h4
  exact lv_icmp_ne C.1 C.2.1 hd ht (fun h => kt (fun g => h ((ofI_eq ha hb).mpr g)) p e R s m args below meth c H locs lsm cells slots q mc ms C hH hS hl h1 h2 h3 h4) (fun h => kf ((ofI_eq ha hb).mp h) p e R s m args below meth c H locs lsm cells slots q mc ms C hH hS hl h1 h2 h3 h4)
theorem q_icmp_ge {a b : Int} {off : Int} {tgt : Nat} (hd : decode (yB y) pc = .ok (.if_icmp .ge off, 3)) (ht : (pc : Int) + off = (tgt : Int)) (ha : inR a) (hb : inR b) (kt : b ≤ a → RunQ Γ rg κ y tgt ls st D) (kf : a < b → RunQ Γ rg κ y (pc + 3) ls st D) : RunQ Γ rg κ y pc ls ((0, b) :: (0, a) :: st) D := by
  intro p e R s m args below meth c H locs lsm cells slots q mc ms C hH hS hl h1 h2 h3 h4
  exact lv_icmp_ge C.1 C.2.1 hd ht (fun h => kt ((ofI_le hb ha).mp h) p e R s m args below meth c H locs lsm cells slots q mc ms C hH hS hl h1 h2 h3 h4) (fun h => kf (Int.not_le.mp fun g => h ((ofI_le hb ha).mpr g)) p e R s m args below meth c H locs lsm cells slots q mc ms C hH hS hl h1 h2 h3 h4)
theorem q_icmp_lt {a b : Int} {off : Int} {tgt : Nat} (hd : decode (yB y) pc = .ok (.if_icmp .lt off, 3)) (ht : (pc : Int) + off = (tgt : Int)) (ha : inR a) (hb : inR b) (kt : a < b → RunQ Γ rg κ y tgt ls st D) (kf : b ≤ a → RunQ Γ rg κ y (pc + 3) ls st D) : RunQ Γ rg κ y pc ls ((0, b) :: (0, a) :: st) D := by
  intro p e R s m args below meth c H locs lsm cells slots q mc ms C hH hS hl h1 h2 h3 h4
  exact lv_icmp_lt C.1 C.2.1 hd ht (fun h => kt ((ofI_lt ha hb).mp h) p e R s m args below meth c H locs lsm cells slots q mc ms C hH hS hl h1 h2 h3 h4) (fun h => kf (Int.not_lt.mp fun g => h ((ofI_lt ha hb).mpr g)) p e R s m args below meth c H locs lsm cells slots q mc ms C hH hS hl h1 h2 h3 h4)
theorem q_icmp_gt {a b : Int} {off : Int} {tgt : Nat} (hd : decode (yB y) pc = .ok (.if_icmp .gt off, 3)) (ht : (pc : Int) + off = (tgt : Int)) (ha : inR a) (hb : inR b) (kt : b < a → RunQ Γ rg κ y tgt ls st D) (kf : a ≤ b → RunQ Γ rg κ y (pc + 3) ls st D) : RunQ Γ rg κ y pc ls ((0, b) :: (0, a) :: st) D := by
  intro p e R s m args below meth c H locs lsm cells slots q mc ms C hH hS hl h1 h2 h3 h4
  exact lv_icmp_gt C.1 C.2.1 hd ht (fun h => kt ((ofI_lt hb ha).mp h) p e R s m args below meth c H locs lsm cells slots q mc ms C hH hS hl h1 h2 h3 h4) (fun h => kf (Int.not_lt.mp fun g => h ((ofI_lt hb ha).mpr g)) p e R s m args below meth c H locs lsm cells slots q mc ms C hH hS hl h1 h2 h3 h4)
theorem q_icmp_le {a b : Int} {off : Int} {tgt : Nat} (hd : decode (yB y) pc = .ok (.if_icmp .le off, 3)) (ht : (pc : Int) + off = (tgt : Int)) (ha : inR a) (hb : inR b) (kt : a ≤ b → RunQ Γ rg κ y tgt ls st D) (kf : b < a → RunQ Γ rg κ y (pc + 3) ls st D) : RunQ Γ rg κ y pc ls ((0, b) :: (0, a) :: st) D := by
  intro p e R s m args below meth c H locs lsm cells slots q mc ms C hH hS hl h1 h2 h3 h4
  exact lv_icmp_le C.1 C.2.1 hd ht (fun h => kt ((ofI_le ha hb).mp h) p e R s m args below meth c H locs lsm cells slots q mc ms C hH hS hl h1 h2 h3 h4) (fun h => kf (Int.not_le.mp fun g => h ((ofI_le ha hb).mpr g)) p e R s m args below meth c H locs lsm cells slots q mc ms C hH hS hl h1 h2 h3 h4)
theorem q_icmp_eq {a b : Int} {off : Int} {tgt : Nat} (hd : decode (yB y) pc = .ok (.if_icmp .eq off, 3)) (ht : (pc : Int) + off = (tgt : Int)) (ha : inR a) (hb : inR b) (kt : a = b → RunQ Γ rg κ y tgt ls st D) (kf : ¬ a = b → RunQ Γ rg κ y (pc + 3) ls st D) : RunQ Γ rg κ y pc ls ((0, b) :: (0, a) :: st) D := by
  intro p e R s m args below meth c H locs lsm cells slots q mc ms C hH hS hl h1 h2 h3 h4
  exact lv_icmp_eq C.1 C.2.1 hd ht (fun h => kt ((ofI_eq ha hb).mp h) p e R s m args below meth c H locs lsm cells slots q mc ms C hH hS hl h1 h2 h3 h4) (fun h => kf (fun g => h ((ofI_eq ha hb).mpr g)) p e R s m args below meth c H locs lsm cells slots q mc ms C hH hS hl h1 h2 h3 h4)
theorem q_if_eq {a : Int} {off : Int} {tgt : Nat} (hd : decode (yB y) pc = .ok (.ifCond .eq off, 3)) (ht : (pc : Int) + off = (tgt : Int)) (ha : inR a) (kt : a = 0 → RunQ Γ rg κ y tgt ls st D) (kf : ¬ a = 0 → RunQ Γ rg κ y (pc + 3) ls st D) : RunQ Γ rg κ y pc ls ((0, a) :: st) D := by
  intro p e R s m args below meth c H locs lsm cells slots q mc ms C hH hS hl h1 h2 h3 h4
  exact lv_if_eq C.1 C.2.1 hd ht (fun h => kt ((ofI_eq ha inR_0).mp h) p e R s m args below meth c H locs lsm cells slots q mc ms C hH hS hl h1 h2 h3 h4) (fun h => kf (fun g => h ((ofI_eq ha inR_0).mpr g)) p e R s m args below meth c H locs lsm cells slots q mc ms C hH hS hl h1 h2 h3 h4)
theorem q_if_ne {a : Int} {off : Int} {tgt : Nat} (hd : decode (yB y) pc = .ok (.ifCond .ne off, 3)) (ht : (pc : Int) + off = (tgt : Int)) (ha : inR a) (kt : ¬ a = 0 → RunQ Γ rg κ y tgt ls st D) (kf : a = 0 → RunQ Γ rg κ y (pc + 3) ls st D) : RunQ Γ rg κ y pc ls ((0, a) :: st) D := by
  intro p e R s m args below meth c H locs lsm cells slots q mc ms C hH hS hl h1 h2 h3 h4
  exact lv_if_ne C.1 C.2.1 hd ht (fun h => kt (fun g => h ((ofI_eq ha inR_0).mpr g)) p e R s m args below meth c H locs lsm cells slots q mc ms C hH hS hl h1 h2 h3 h4) (fun h => kf ((ofI_eq ha inR_0).mp h) p e R s m args below meth c H locs lsm cells slots q mc ms C hH hS hl h1 h2 h3 h4)
theorem q_if_lt {a : Int} {off : Int} {tgt : Nat} (hd : decode (yB y) pc = .ok (.ifCond .lt off, 3)) (ht : (pc : Int) + off = (tgt : Int)) (ha : inR a) (kt : a < 0 → RunQ Γ rg κ y tgt ls st D) (kf : 0 ≤ a → RunQ Γ rg κ y (pc + 3) ls st D) : RunQ Γ rg κ y pc ls ((0, a) :: st) D := by
  intro p e R s m args below meth c H locs lsm cells slots q mc ms C hH hS hl h1 h2 h3 h4
  exact lv_if_lt C.1 C.2.1 hd ht (fun h => kt ((ofI_lt ha inR_0).mp h) p e R s m args below meth c H locs lsm cells slots q mc ms C hH hS hl h1 h2 h3 h4) (fun h => kf (Int.not_lt.mp fun g => h ((ofI_lt ha inR_0).mpr g)) p e R s m args below meth c H locs lsm cells slots q mc ms C hH hS hl h1 h2 h3 h4)
theorem q_if_ge {a : Int} {off : Int} {tgt : Nat} (hd : decode (yB y) pc = .ok (.ifCond .ge off, 3)) (ht : (pc : Int) + off = (tgt : Int)) (ha : inR a) (kt : 0 ≤ a → RunQ Γ rg κ y tgt ls st D) (kf : a < 0 → RunQ Γ rg κ y (pc + 3) ls st D) : RunQ Γ rg κ y pc ls ((0, a) :: st) D := by
  intro p e R s m args below meth c H locs lsm cells slots q mc ms C hH hS hl h1 h2 h3 h4
  exact lv_if_ge C.1 C.2.1 hd ht (fun h => kt ((ofI_le inR_0 ha).mp h) p e R s m args below meth c H locs lsm cells slots q mc ms C hH hS hl h1 h2 h3 h4) (fun h => kf (Int.not_le.mp fun g => h ((ofI_le inR_0 ha).mpr g)) p e R s m args below meth c H locs lsm cells slots q mc ms C hH hS hl h1 h2 h3 h4)
theorem q_if_gt {a : Int} {off : Int} {tgt : Nat} (hd : decode (yB y) pc = .ok (.ifCond .gt off, 3)) (ht : (pc : Int) + off = (tgt : Int)) (ha : inR a) (kt : 0 < a → RunQ Γ rg κ y tgt ls st D) (kf : a ≤ 0 → RunQ Γ rg κ y (pc + 3) ls st D) : RunQ Γ rg κ y pc ls ((0, a) :: st) D := by
  intro p e R s m args below meth c H locs lsm cells slots q mc ms C hH hS hl h1 h2 h3 h4
  exact lv_if_gt C.1 C.2.1 hd ht (fun h => kt ((ofI_lt inR_0 ha).mp h) p e R s m args below meth c H locs lsm cells slots q mc ms C hH hS hl h1 h2 h3 h4) (fun h => kf (Int.not_lt.mp fun g => h ((ofI_lt inR_0 ha).mpr g)) p e R s m args below meth c H locs lsm cells slots q mc ms C hH hS hl h1 h2 h3 h4)
theorem q_if_le {a : Int} {off : Int} {tgt : Nat} (hd : decode (yB y) pc = .ok (.ifCond .le off, 3)) (ht : (pc : Int) + off = (tgt : Int)) (ha : inR a) (kt : a ≤ 0 → RunQ Γ rg κ y tgt ls st D) (kf : 0 < a → RunQ Γ rg κ y (pc + 3) ls st D) : RunQ Γ rg κ y pc ls ((0, a) :: st) D := by
  intro p e R s m args below meth c H locs lsm cells slots q mc ms C hH hS hl h1 h2 h3 h4
  exact lv_if_le C.1 C.2.1 hd ht (fun h => kt ((ofI_le ha inR_0).mp h) p e R s m args below meth c H locs lsm cells slots q mc ms C hH hS hl h1 h2 h3 h4) (fun h => kf (Int.not_le.mp fun g => h ((ofI_le ha inR_0).mpr g)) p e R s m args below meth c H locs lsm cells slots q mc ms C hH hS hl h1 h2 h3 h4)
theorem q_iald {a n : Nat} {i z : Int} {cs : List Nat} (hd : decode (yB y) pc = .ok (.iaload, 1)) (hs : SH.getD a (9, 0, []) = (1, n, cs)) (ha : a < NA) (hr : rg a = true) (hn : n < 2147483648) (hi : 0 ≤ i) (hj : i < n)
    (kk : RunQ Γ rg κ y (pc + 1) ls ((0, D a i.toNat) :: st) D) : RunQ Γ rg κ y pc ls ((0, i) :: (a + 8, z) :: st) D := by
  intro p e R s m args below meth c H locs lsm cells slots q mc ms C hH hS hl h1 h2 h3 h4
  obtain ⟨q0, -, hq⟩ := wsl_at ha hr
  have hat := (hq Γ D).1
  rw [show cellOf Γ D a = .inl (gI Γ, n, .inl (fun j => Int32.ofInt (D a j))) by unfold cellOf; simp only [hs]] at hat
  refine va_iald C.1 C.2.1 C.2.2.2.2.2.2.2.2.2.2.2.1 hH.1 q0 0 hat rfl (ofI_in hi hj hn) hd ?_
  rw [ofI_clamp ⟨by omega, by omega⟩]
  exact kk p e R s m args below meth c H locs lsm cells slots q mc ms C hH hS hl h1 h2 h3 h4
theorem q_lald {a n : Nat} {i z : Int} {cs : List Nat} (hd : decode (yB y) pc = .ok (.laload, 1)) (hs : SH.getD a (9, 0, []) = (3, n, cs)) (ha : a < NA) (hr : rg a = true) (hn : n < 2147483648) (hi : 0 ≤ i) (hj : i < n)
    (kk : RunQ Γ rg κ y (pc + 1) ls ((1, D a i.toNat) :: st) D) : RunQ Γ rg κ y pc ls ((0, i) :: (a + 8, z) :: st) D := by
  intro p e R s m args below meth c H locs lsm cells slots q mc ms C hH hS hl h1 h2 h3 h4
  obtain ⟨q0, -, hq⟩ := wsl_at ha hr
  have hat := (hq Γ D).1
  rw [show cellOf Γ D a = .inl (gJ Γ, n, .inr (.inl (fun j => Int64.ofInt (D a j)))) by unfold cellOf; simp only [hs]] at hat
  refine va_lald C.1 C.2.1 C.2.2.2.2.2.2.2.2.2.2.2.1 hH.1 q0 2 hat rfl (ofI_in hi hj hn) hd ?_
  rw [ofI_clamp ⟨by omega, by omega⟩]
  exact kk p e R s m args below meth c H locs lsm cells slots q mc ms C hH hS hl h1 h2 h3 h4
theorem q_iast {a n : Nat} {i z x : Int} {cs : List Nat} (hd : decode (yB y) pc = .ok (.iastore, 1)) (hs : SH.getD a (9, 0, []) = (1, n, cs)) (ha : a < NA) (hr : rg a = true) (hn : n < 2147483648) (hi : 0 ≤ i) (hj : i < n)
    (kk : RunQ Γ rg κ y (pc + 1) ls st (up2 D a i.toNat x)) : RunQ Γ rg κ y pc ls ((0, x) :: (0, i) :: (a + 8, z) :: st) D := by
  intro p e R s m args below meth c H locs lsm cells slots q mc ms C hH hS hl h1 h2 h3 h4
  obtain ⟨q0, -, hq⟩ := wsl_at ha hr
  have hat := (hq Γ D).1
  have hce : ∀ D : DD, cellOf Γ D a = .inl (gI Γ, n, .inl (fun j => Int32.ofInt (D a j))) := fun D => by unfold cellOf; simp only [hs]
  have hset := (hq Γ D).2 (up2 D a i.toNat x) (fun b hb => up2_ne D a _ x hb)
  rw [hce] at hat hset
  refine va_iast C.1 C.2.1 C.2.2.2.2.2.2.2.2.2.2.2.1 hH.1 (wsl_D Γ rg D) (H0 := H) ⟨Nat.le_refl _, fun _ _ _ => rfl, hS.2.2⟩ q0 0 hat rfl (ofI_in hi hj hn) hd (fun H1 locs1 hP1 hD1 hS1 => ?_)
  rw [upd_up2 hi (by omega), hset] at hP1
  exact kk p e R s m args below meth c H1 locs1 lsm cells slots q mc ms C (hH.sto hS hP1 hS1 (up2_ne D a _ x (n99 ha))).1 (hH.sto hS hP1 hS1 (up2_ne D a _ x (n99 ha))).2 hl h1 h2 h3 h4
theorem q_last {a n : Nat} {i z x : Int} {cs : List Nat} (hd : decode (yB y) pc = .ok (.lastore, 1)) (hs : SH.getD a (9, 0, []) = (3, n, cs)) (ha : a < NA) (hr : rg a = true) (hn : n < 2147483648) (hi : 0 ≤ i) (hj : i < n)
    (kk : RunQ Γ rg κ y (pc + 1) ls st (up2 D a i.toNat x)) : RunQ Γ rg κ y pc ls ((1, x) :: (0, i) :: (a + 8, z) :: st) D := by
  intro p e R s m args below meth c H locs lsm cells slots q mc ms C hH hS hl h1 h2 h3 h4
  obtain ⟨q0, -, hq⟩ := wsl_at ha hr
  have hat := (hq Γ D).1
  have hce : ∀ D : DD, cellOf Γ D a = .inl (gJ Γ, n, .inr (.inl (fun j => Int64.ofInt (D a j)))) := fun D => by unfold cellOf; simp only [hs]
  have hset := (hq Γ D).2 (up2 D a i.toNat x) (fun b hb => up2_ne D a _ x hb)
  rw [hce] at hat hset
  refine va_last C.1 C.2.1 C.2.2.2.2.2.2.2.2.2.2.2.1 hH.1 (wsl_D Γ rg D) (H0 := H) ⟨Nat.le_refl _, fun _ _ _ => rfl, hS.2.2⟩ q0 2 hat rfl (ofI_in hi hj hn) hd (fun H1 locs1 hP1 hD1 hS1 => ?_)
  have e1 : vp_updL (fun j => Int64.ofInt (D a j)) (Int32.ofInt i).toNatClampNeg (Int64.ofInt x) = fun j => Int64.ofInt (up2 D a i.toNat x a j) := by
    funext j
    rw [ofI_clamp ⟨by omega, by omega⟩, up2_at]
    unfold vp_updL
    dsimp only
    by_cases h : j = i.toNat
    · rw [if_pos h, if_pos h]
    · rw [if_neg h, if_neg h]
  rw [e1, hset] at hP1
  exact kk p e R s m args below meth c H1 locs1 lsm cells slots q mc ms C (hH.sto hS hP1 hS1 (up2_ne D a _ x (n99 ha))).1 (hH.sto hS hP1 hS1 (up2_ne D a _ x (n99 ha))).2 hl h1 h2 h3 h4
theorem runq_after {p : Program} {e : Env} {R : Room} {s : State} {m : MethodId} {args a : Array Value} {below : List Frame} {meth : Method} {c : Code} {H : Heap} {locs : List Loc} {lsm : Array Slot} {stm : List Value} {rest : List PV} {cells slots q mc ms κ1 κ2 : Nat} {Ψ : OT → DD → Prop}
    (C : Cx Γ y R p s m meth c) (hS : va_S (Ab Γ) s.heap H locs) (hl : lvr Γ q (yL y) ls lsm) (h1 : cells + κ ≤ mc) (h2 : slots + 6 * κ ≤ ms) (h3 : mc ≤ R.cells) (h4 : ms ≤ R.slots) (hκ : κ1 + κ2 = κ)
    (hr : vx_Run p Γ.1 e R s m args below meth c H locs cells slots κ1 (6 * κ1) (F0 m pc lsm stm) (rest.map (mv Γ q)) (Qcc Γ rg Ψ a) (XCc Γ rg Ψ) (Ab Γ))
    (kret : ∀ (v : Option PV) (D' : DD), Ψ (.inl v) D' → RunQ Γ rg κ2 y (pc + 3) ls (v.toList ++ rest) D')
    (kx : ∀ (n : Nat) (D' : DD) (H1 : Heap) (locs1 : List Loc) (q9 : Addr) (ce : Cell), n ≤ 2 → Ψ (.inr n) D' → HW Γ rg D' H1 → va_S (Ab Γ) s.heap H1 locs1 → H1[q9]? = some ce → ce.vm = .none → s.vm.findClass (exn n) = some ce.cls →
      vx_W p Γ.1 e R s m args below meth c H1 locs1 (cells + κ1) (slots + 6 * κ1) (QE Γ) (F0 m pc lsm (rest.map (mv Γ q))) q9) :
    W p Γ.1 e R s m args below meth c H locs cells slots (QE Γ) (F0 m pc lsm stm) := by
  intro T hT X
  rcases hr T hT X with ⟨v, st₀, t, T', L, h0, X', hL, e1, e2, ⟨w, D', hv, hw, hp, hH', hF⟩, hst⟩ | ⟨q9, st₀, t, T', L, E, ce, h0, X', hL, e1, e2, ⟨n, D', hn, hE, hp, hH', hF⟩, hce, hcv, hcl, hst⟩
  · obtain ⟨k1, k2, k3⟩ := vx_keep h0 e1 hS (fun _ _ h => h) (fun _ h => h) hL hF
    have hv' : v = w.map (mv Γ 0) := by injection hv
    have hwm : v.toList = (w.toList).map (mv Γ q) := by
      rw [hv']
      cases w with
      | none => rfl
      | some u =>
        have := hw u rfl
        show [mv Γ 0 u] = [mv Γ q u]
        rw [mv_q (q := 0) (q' := q) (by omega) (by omega) (by omega) (by omega)]
    obtain ⟨t2, a1, b1⟩ := kret w D' hp p e R s m args below meth c T'.heap (locs ++ L) lsm (cells + κ1) (slots + 6 * κ1) q mc ms C (by rw [e1]; exact hH') k3 hl (by omega) (by omega) h3 h4 T' rfl X'
    rw [List.map_append, ← hwm] at a1
    exact ⟨t2, hst t2 a1, b1⟩
  · obtain ⟨k1, k2, k3⟩ := vx_keep h0 e1 hS (fun _ _ h => h) (fun _ h => h) hL hF
    obtain ⟨t2, a1, b1⟩ := kx n D' T'.heap (locs ++ L) q9 ce hn hp (by rw [e1]; exact hH') k3 (by rw [e1]; exact hce) hcv (by rw [← hE]; exact hcl) T' rfl X'
    exact ⟨t2, hst.trans a1, b1⟩
theorem q_callV {y' : YT} {as rest : List PV} {ls' : List PV} {a idx ci n N κ1 κ2 : Nat} {cs : List Nat} {TT : u_T} {z : Int} {Ψ : OT → DD → Prop} (hd : decode (yB y) pc = .ok (.invokevirtual idx, 3)) (hC : CKV (yN y).cls idx y' n) (hn : as.length = n)
    (hs : SH.getD a (9, 0, []) = (0, ci, cs)) (hci : vwCl[ci]? = some ((yN y').cls, TT, N)) (ha : a < NA) (hr : rg a = true) (hst : st = as.reverse ++ (a + 8, z) :: rest) (hok : argok as = true) (hrest : (rest.map pcat).sum ≤ 8) (hfit : (lg_sl (((a + 8, z) :: as).map (mv Γ 0))).length ≤ yL y')
    (hk : yK y' < yK y) (hκ : κ1 + κ2 = κ) (hh : yH y = []) (hls : ent (yL y') ((a + 8, z) :: as) = ls') (hR : Run Γ rg κ1 y' 0 ls' [] D Ψ)
    (kret : ∀ (v : Option PV) (D' : DD), Ψ (.inl v) D' → RunQ Γ rg κ2 y (pc + 3) ls (v.toList ++ rest) D') (kthr : ∀ (n : Nat) (D' : DD), ¬ Ψ (.inr n) D') : RunQ Γ rg κ y pc ls st D := by
  intro p e R s m args below meth c H locs lsm cells slots q mc ms C hH hS hl h1 h2 h3 h4
  obtain ⟨hx, hb, hml, hown, hlk, hrt, htb, hfr, hlo, hE⟩ := id C
  subst hls
  obtain ⟨c1, c2, c3, hM⟩ := hC
  obtain ⟨m1, m2, m3, m4, m5, m6, m7⟩ := id hM
  obtain ⟨q0, -, hq⟩ := wsl_at ha hr
  have hce : cellOf Γ D a = .inr (ci, (List.range cs.length).map (fun k => fvz Γ (cs.getD k 0) (D a k))) := by unfold cellOf; simp only [hs]
  have hat := (hq Γ D).1
  rw [hce] at hat
  have hrun := vx_runV (args := args) (C := (yN y').cls) (own := (yN y).cls) (Ts := []) (index := idx) (bytes := yB y') (maxL := yL y') (ret := yR y') (As := as.map (mv Γ 0)) (b := gB Γ + a) (n := n) (rest := rest.map (mv Γ q)) (g := F0 m pc lsm (st.map (mv Γ q))) (locs := locs) (cells := cells) (slots := slots) (below := below) (meth := meth) (e := e) (R := R)
    ⟨hx, hb, hml, hown, fun w hw => by cases hw⟩ (ctr_of hM hfit hR)
    ⟨⟨rfl, rfl, by show yK y' + 1 ≤ R.frames; omega, by show 8 + (yL y' + 11) + 36 * yK y' ≤ R.locals; omega, code_ws hE m2 rfl, List.mem_singleton.mpr rfl, hE.word m2, hE.word m1, m3, fun sig h => by rw [h] at m4; exact (Option.some.inj m4).symm, hE.word c1⟩, hE.word c2, hE.word c3⟩
    ⟨pc_blind, va_recv hE.2.2.1 hH.1 hci hat, fun U hU hW => ⟨rfl, hE.move hU hS hW, by rw [hU]; exact hH⟩⟩
    rfl (by rw [List.length_map]; exact hn) hl.1
    (by show st.map (mv Γ q) = _; rw [hst, List.map_append, List.map_reverse, argok_map (q' := 0) hok]; rfl)
    (by show 2 * 0 + _ ≤ 8; rw [pcat_sum]; omega) hd ⟨by omega, by omega⟩
  exact runq_after C hS hl h1 h2 h3 h4 hκ hrun kret (fun n D' H1 locs1 q9 ce hn' hp hH' hS' a1 a2 a3 => absurd hp (kthr n D'))
theorem q_callS {y' : YT} {as rest : List PV} {ls' : List PV} {idx n κ1 κ2 : Nat} {Ψ : OT → DD → Prop} (hd : decode (yB y) pc = .ok (.invokestatic idx, 3)) (hC : CKS (yN y).cls idx y' n) (hn : as.length = n)
    (hst : st = as.reverse ++ rest) (hok : argok as = true) (hrest : (rest.map pcat).sum ≤ 8) (hfit : (lg_sl (as.map (mv Γ 0))).length ≤ yL y')
    (hk : yK y' < yK y) (hκ : κ1 + κ2 = κ) (hh : yH y = []) (hls : ent (yL y') as = ls') (hR : Run Γ rg κ1 y' 0 ls' [] D Ψ)
    (kret : ∀ (v : Option PV) (D' : DD), Ψ (.inl v) D' → RunQ Γ rg κ2 y (pc + 3) ls (v.toList ++ rest) D') (kthr : ∀ (n : Nat) (D' : DD), ¬ Ψ (.inr n) D') : RunQ Γ rg κ y pc ls st D := by
  intro p e R s m args below meth c H locs lsm cells slots q mc ms C hH hS hl h1 h2 h3 h4
  obtain ⟨hx, hb, hml, hown, hlk, hrt, htb, hfr, hlo, hE⟩ := id C
  subst hls
  obtain ⟨c1, c2, hM⟩ := hC
  obtain ⟨m1, m2, m3, m4, m5, m6, m7⟩ := id hM
  have hrun := vx_runS (args := args) (own := (yN y).cls) (Ts := []) (index := idx) (bytes := yB y') (maxL := yL y') (ret := yR y') (As := as.map (mv Γ 0)) (n := n) (rest := rest.map (mv Γ q)) (g := F0 m pc lsm (st.map (mv Γ q))) (locs := locs) (cells := cells) (slots := slots) (below := below) (meth := meth) (e := e) (R := R)
    ⟨hx, hb, hml, hown, fun w hw => by cases hw⟩ (ctr_of hM hfit hR)
    ⟨⟨rfl, rfl, by show yK y' + 1 ≤ R.frames; omega, by show 8 + (yL y' + 11) + 36 * yK y' ≤ R.locals; omega, code_ws hE m2 rfl, List.mem_singleton.mpr rfl, hE.word m2, hE.word m1, m3, fun sig h => by rw [h] at m4; exact (Option.some.inj m4).symm, hE.word c1⟩, hE.word c2⟩
    ⟨pc_blind, fun U hU hW => ⟨rfl, hE.move hU hS hW, by rw [hU]; exact hH⟩⟩
    rfl (by rw [List.length_map]; exact hn) hl.1
    (by show st.map (mv Γ q) = _; rw [hst, List.map_append, List.map_reverse, argok_map (q' := 0) hok])
    (by show 2 * 0 + _ ≤ 8; rw [pcat_sum]; omega) hd ⟨by omega, by omega⟩
  exact runq_after C hS hl h1 h2 h3 h4 hκ hrun kret (fun n D' H1 locs1 q9 ce hn' hp hH' hS' a1 a2 a3 => absurd hp (kthr n D'))
theorem q_done (h : 174 ≤ D 99 0) : RunQ Γ rg κ y pc ls st D := by
  intro p e R s m args below meth c H locs lsm cells slots q mc ms C hH hS hl h1 h2 h3 h4 T hT X
  refine ⟨_, Steps.refl _, ?_⟩
  show gB Γ + 174 ≤ T.heap.size
  have h5 := hH.2
  rw [hT]
  omega
theorem q_mono {κ' : Nat} (hk : κ' ≤ κ) (h : RunQ Γ rg κ' y pc ls st D) : RunQ Γ rg κ y pc ls st D := by
  intro p e R s m args below meth c H locs lsm cells slots q mc ms C hH hS hl h1 h2 h3 h4
  exact h p e R s m args below meth c H locs lsm cells slots q mc ms C hH hS hl (by omega) (by omega) h3 h4
end ESC
section ESCM
variable {Γ : GG} {n0 mc ms : Nat} {y : YT} {pc : Nat} {ls st : List PV} {n : Nat} {M : MP} {D : DD}

theorem m_iconst {z : Int} (hd : decode (yB y) pc = .ok (.iconst z, 1)) (k : RunM Γ n0 mc ms y (pc + 1) ls ((0, z) :: st) n M D) : RunM Γ n0 mc ms y pc ls st n M D := by
  intro p e R s m args below meth c H locs lsm q C hN hz hH hS hl h3 h4
  exact lv_iconst C.1 C.2.1 hd rfl (k p e R s m args below meth c H locs lsm q C hN hz hH hS hl h3 h4)
theorem m_bipush {z : Int} (hd : decode (yB y) pc = .ok (.bipush z, 2)) (hn : -128 ≤ z ∧ z ≤ 127) (k : RunM Γ n0 mc ms y (pc + 2) ls ((0, z) :: st) n M D) : RunM Γ n0 mc ms y pc ls st n M D := by
  intro p e R s m args below meth c H locs lsm q C hN hz hH hS hl h3 h4
  refine lv_bipush C.1 C.2.1 hd (v := Int32.ofInt z) ?_ (k p e R s m args below meth c H locs lsm q C hN hz hH hS hl h3 h4)
  rw [← Int32.toInt_inj, Int8.toInt_toInt32, Int8.toInt_ofInt_of_le (by omega) (by omega), inR_toInt ⟨by omega, by omega⟩]
theorem m_aload_n {i : Fin 4} {v : PV} (hd : decode (yB y) pc = .ok (.aload_n i, 1)) (hv : ls[(i : Nat)]? = some v) (h7 : 7 ≤ v.1) (k : RunM Γ n0 mc ms y (pc + 1) ls (v :: st) n M D) : RunM Γ n0 mc ms y pc ls st n M D := by
  intro p e R s m args below meth c H locs lsm q C hN hz hH hS hl h3 h4
  have hv' := hl.2.2 _ _ hv (by omega)
  have kk := k p e R s m args below meth c H locs lsm q C hN hz hH hS hl h3 h4
  rw [List.map_cons] at kk
  obtain ⟨x, hx⟩ := mv_ref (Γ := Γ) (q := q) (v := v) (by omega)
  rw [hx] at hv' kk
  exact lv_aload_n C.1 C.2.1 hd rfl hv' kk
theorem m_astore_n {i : Fin 4} {v : PV} (hd : decode (yB y) pc = .ok (.astore_n i, 1)) (hi : (i : Nat) < yL y) (hp : pok ls i = true) (h4' : 4 ≤ v.1) (k : RunM Γ n0 mc ms y (pc + 1) (ls.set i v) st n M D) : RunM Γ n0 mc ms y pc ls (v :: st) n M D := by
  intro p e R s m args below meth c H locs lsm q C hN hz hH hS hl h3 h4
  obtain ⟨x, hx⟩ := mv_ref (Γ := Γ) (q := q) (v := v) h4'
  rw [List.map_cons, hx]
  exact lv_astore_n C.1 C.2.1 hd rfl hl.has hi rfl (fun lsm' hn => k p e R s m args below meth c H locs lsm' q C hN hz hH hS (hl.set1 (v := v) hp (by rw [hx]; exact hn)) h3 h4)
theorem m_dup {v : PV} (hd : decode (yB y) pc = .ok (.dup, 1)) (hv : v.1 ≠ 1) (k : RunM Γ n0 mc ms y (pc + 1) ls (v :: v :: st) n M D) : RunM Γ n0 mc ms y pc ls (v :: st) n M D := by
  intro p e R s m args below meth c H locs lsm q C hN hz hH hS hl h3 h4
  exact lv_dup C.1 C.2.1 hd (mv_cat1 hv) (k p e R s m args below meth c H locs lsm q C hN hz hH hS hl h3 h4)
theorem m_astore {i : Nat} {v : PV} (hd : decode (yB y) pc = .ok (.astore i, 2)) (hi : i < yL y) (hp : pok ls i = true) (h4' : 4 ≤ v.1) (k : RunM Γ n0 mc ms y (pc + 2) (ls.set i v) st n M D) : RunM Γ n0 mc ms y pc ls (v :: st) n M D := by
  intro p e R s m args below meth c H locs lsm q C hN hz hH hS hl h3 h4
  obtain ⟨x, hx⟩ := mv_ref (Γ := Γ) (q := q) (v := v) h4'
  rw [List.map_cons, hx]
  exact lv_astore C.1 C.2.1 hd hl.has hi rfl (fun lsm' hn => k p e R s m args below meth c H locs lsm' q C hN hz hH hS (hl.set1 (v := v) hp (by rw [hx]; exact hn)) h3 h4)
theorem m_new {idx ci N : Nat} {cs : List Nat} (hd : decode (yB y) pc = .ok (.new idx, 3)) (hK : NK (yN y).cls idx ci N cs) (hs : SH.getD n (9, 0, []) = (0, ci, cs)) (hn : n0 ≤ n) (hc : n + 1 - n0 ≤ mc) (hsl : sl (n + 1) - sl n0 ≤ ms) (hD : ∀ k, D n k = 0) (hM : ∀ k, k < cs.length → M.contains (n, k) = false)
    (k : RunM Γ n0 mc ms y (pc + 3) ls ((n + 8, 0) :: st) (n + 1) M D) : RunM Γ n0 mc ms y pc ls st n M D := by
  intro p e R s m args below meth c H locs lsm q C hN hz hH hS hl h3 h4
  obtain ⟨Cn, T, ty, e1, e2, e3, e4, e5, e6, e7, e8⟩ := hK
  obtain ⟨hx, hb, hml, hown, hlk, hrt, htb, hfr, hlo, hE⟩ := id C
  have hKn := hE.2.2.1.1 ci _ e1
  have hsle := sl_le hn
  have hsn : sl (n + 1) = sl n + N := by rw [sl_succ, hs]; show _ + cs.length = _; rw [e7]
  refine W.sized (fun hsz' => ?_)
  have hsz := n_sz hE hz hn hH hS hsz'
  refine W.newcK hx hb hown (hE.word e4) (hE.word e5) (hE.word e6) rfl hd (by omega) (by omega) hKn.2.1 hsz (fun H1 kC hkC g1 z1 o1 => ?_)
  rw [show n - n0 + 1 = n + 1 - n0 by omega, show sl n - sl n0 + N = sl (n + 1) - sl n0 by omega]
  refine k p e R s m args below meth c H1 locs lsm q C hN hz (HN.push (s := s) hH hsz o1 ?_) (hS.new hsz z1 o1) hl h3 h4
  rw [show cellN Γ M D n = .inr (ci, (List.range cs.length).map (fun k => fvn Γ (M.contains (n, k)) (cs.getD k 0) (D n k))) by unfold cellN; simp only [hs]]
  refine ⟨_, e1, (u_born (args := args) ty (fun w hw => hE.word (e2 w hw)) (fun _ h => h) hKn hkC g1 e3).to (fun j hj => ?_)⟩
  have h9 : defaultValue (ty j) = dcode (cs.getD j 0) := List.map_inj_left.mp e8 j (List.mem_range.mpr hj)
  have h10 : vp_V ((List.range cs.length).map (fun k => fvn Γ (M.contains (n, k)) (cs.getD k 0) (D n k))) j = fvn Γ false (cs.getD j 0) 0 := by
    rw [vp_V, List.getD_eq_getElem?_getD, List.getElem?_map, List.getElem?_range (by omega), Option.map_some, Option.getD_some, hM j (by omega), hD]
  refine h9.trans (Eq.trans ?_ h10.symm)
  unfold fvn dcode fvz
  by_cases h1 : cs.getD j 0 ≤ 1
  · rw [if_pos h1, if_pos (by omega), if_pos h1]; rfl
  · rw [if_neg h1]
    by_cases h2 : cs.getD j 0 = 2
    · rw [if_pos h2, if_pos (by omega), if_neg h1, if_pos h2]; rfl
    · rw [if_neg h2, if_neg (by omega), if_neg (by decide)]
theorem m_newI {len : Nat} {cs : List Nat} (hd : decode (yB y) pc = .ok (.newarray .int, 2)) (hs : SH.getD n (9, 0, []) = (1, len, cs)) (hl9 : len ≤ 100000) (hn : n0 ≤ n) (hc : n + 1 - n0 ≤ mc) (hsl : sl (n + 1) - sl n0 ≤ ms) (hD : ∀ k, D n k = 0)
    (k : RunM Γ n0 mc ms y (pc + 2) ls ((n + 8, 0) :: st) (n + 1) M D) : RunM Γ n0 mc ms y pc ls ((0, (len : Int)) :: st) n M D := by
  intro p e R s m args below meth c H locs lsm q C hN hz hH hS hl h3 h4
  obtain ⟨hx, hb, hml, hown, hlk, hrt, htb, hfr, hlo, hE⟩ := id C
  have hsle := sl_le hn
  have hsn : sl (n + 1) = sl n + len := by rw [sl_succ, hs]; rfl
  refine W.sized (fun hsz' => ?_)
  have hsz := n_sz hE hz hn hH hS hsz'
  have hR : inR (len : Int) := ⟨by omega, by omega⟩
  refine va_newaK hx hb (atype := .int) (arr_word (hE.2.2.1.2 0 _ rfl).1 (hE.2.2.1.2 0 _ rfl).2) rfl hd (n := Int32.ofInt (len : Int)) (N := len) (rest := st.map (mv Γ q)) rfl (by rw [ofI_0, ofI_lt hR inR_0]; omega) (by rw [ofI_clamp hR]; rfl) (by show len * 4 ≤ _; omega) (by omega) (by omega) hsz (fun H1 cA g1 z1 o1 hAr hNm => ?_)
  have hcA : cA = gI Γ := Option.some.inj (hNm.symm.trans (hE.2.2.1.2 0 _ rfl).2)
  subst hcA
  rw [show n - n0 + 1 = n + 1 - n0 by omega, show sl n - sl n0 + len = sl (n + 1) - sl n0 by omega]
  refine k p e R s m args below meth c H1 locs lsm q C hN hz (HN.push (s := s) hH hsz o1 ?_) (hS.new hsz z1 o1) hl h3 h4
  rw [show cellN Γ M D n = .inl (gI Γ, len, .inl (fun j => Int32.ofInt (D n j))) by unfold cellN cellOf; simp only [hs]]
  show H1[gB Γ + n]? = some (vp_cell _ _)
  rw [vp_cell_i, g1]
  simp only [hD]
  rfl
theorem m_newJ {len : Nat} {cs : List Nat} (hd : decode (yB y) pc = .ok (.newarray .long, 2)) (hs : SH.getD n (9, 0, []) = (3, len, cs)) (hl9 : len ≤ 100000) (hn : n0 ≤ n) (hc : n + 1 - n0 ≤ mc) (hsl : sl (n + 1) - sl n0 ≤ ms) (hD : ∀ k, D n k = 0)
    (k : RunM Γ n0 mc ms y (pc + 2) ls ((n + 8, 0) :: st) (n + 1) M D) : RunM Γ n0 mc ms y pc ls ((0, (len : Int)) :: st) n M D := by
  intro p e R s m args below meth c H locs lsm q C hN hz hH hS hl h3 h4
  obtain ⟨hx, hb, hml, hown, hlk, hrt, htb, hfr, hlo, hE⟩ := id C
  have hsle := sl_le hn
  have hsn : sl (n + 1) = sl n + len := by rw [sl_succ, hs]; rfl
  refine W.sized (fun hsz' => ?_)
  have hsz := n_sz hE hz hn hH hS hsz'
  have hR : inR (len : Int) := ⟨by omega, by omega⟩
  refine va_newaK hx hb (atype := .long) (arr_word (hE.2.2.1.2 2 _ rfl).1 (hE.2.2.1.2 2 _ rfl).2) rfl hd (n := Int32.ofInt (len : Int)) (N := len) (rest := st.map (mv Γ q)) rfl (by rw [ofI_0, ofI_lt hR inR_0]; omega) (by rw [ofI_clamp hR]; rfl) (by show len * 8 ≤ _; omega) (by omega) (by omega) hsz (fun H1 cA g1 z1 o1 hAr hNm => ?_)
  have hcA : cA = gJ Γ := Option.some.inj (hNm.symm.trans (hE.2.2.1.2 2 _ rfl).2)
  subst hcA
  rw [show n - n0 + 1 = n + 1 - n0 by omega, show sl n - sl n0 + len = sl (n + 1) - sl n0 by omega]
  refine k p e R s m args below meth c H1 locs lsm q C hN hz (HN.push (s := s) hH hsz o1 ?_) (hS.new hsz z1 o1) hl h3 h4
  rw [show cellN Γ M D n = .inl (gJ Γ, len, .inr (.inl (fun j => Int64.ofInt (D n j)))) by unfold cellN cellOf; simp only [hs]]
  show H1[gB Γ + n]? = some (vp_cell _ _)
  rw [vp_cell_l, g1]
  simp only [hD]
  rfl
theorem m_after {p : Program} {e : Env} {R : Room} {s : State} {m : MethodId} {args a : Array Value} {below : List Frame} {meth : Method} {c : Code} {H : Heap} {locs : List Loc} {lsm : Array Slot} {stm : List Value} {rest : List PV} {q n1 : Nat} {M1 : MP} {Ψ : DD → Prop}
    (C : Cx Γ y R p s m meth c) (hN : meth.name = (yN y).name) (hz : s.heap.size ≤ gB Γ + n0) (hS : va_S (Ab Γ) s.heap H locs) (hl : lvr Γ q (yL y) ls lsm) (h3 : mc ≤ R.cells) (h4 : ms ≤ R.slots) (hn : n0 ≤ n) (hn1 : n ≤ n1)
    (hr : vx_Run p Γ.1 e R s m args below meth c H locs (n - n0) (sl n - sl n0) (n1 - n) (sl n1 - sl n) (F0 m pc lsm stm) (rest.map (mv Γ q)) (Qn Γ n1 M1 Ψ a) XF (Ab Γ))
    (k : ∀ D', Ψ D' → RunM Γ n0 mc ms y (pc + 3) ls rest n1 M1 D') :
    W p Γ.1 e R s m args below meth c H locs (n - n0) (sl n - sl n0) (QE Γ) (F0 m pc lsm stm) := by
  intro T hT X
  rcases hr T hT X with ⟨v, st₀, t, T', L, h0, X', hL, e1, e2, ⟨hv, ⟨D', hp, hH'⟩, hF⟩, hst⟩ | ⟨q9, st₀, t, T', L, E, ce, h0, X', hL, e1, e2, hx, -⟩
  · obtain ⟨k1, k2, k3⟩ := vx_keep h0 e1 hS (fun _ _ h => h) (fun _ h => h) hL hF
    have hv' : v = none := by injection hv
    subst hv'
    have s1 := sl_le hn
    have s2 := sl_le hn1
    rw [show n - n0 + (n1 - n) = n1 - n0 by omega, show sl n - sl n0 + (sl n1 - sl n) = sl n1 - sl n0 by omega] at X'
    obtain ⟨t2, a1, b1⟩ := k D' hp p e R s m args below meth c T'.heap (locs ++ L) lsm q C hN hz (by rw [e1]; exact hH') k3 hl h3 h4 T' rfl X'
    exact ⟨t2, hst t2 a1, b1⟩
  · exact hx.elim
theorem m_callI {y' : YT} {as rest : List PV} {ls' : List PV} {a idx cnt n1 : Nat} {z : Int} {M1 : MP} {Ψ : DD → Prop} (hd : decode (yB y) pc = .ok (.invokespecial idx, 3)) (hC : CKI (yN y).cls idx y' cnt) (hcn : as.length = cnt)
    (hst : st = as.reverse ++ (a + 8, z) :: rest) (hok : argok as = true) (hrest : (rest.map pcat).sum ≤ 8) (hfit : (lg_sl (((a + 8, z) :: as).map (mv Γ 0))).length ≤ yL y')
    (hk : yK y' < yK y) (hls : ent (yL y') ((a + 8, z) :: as) = ls') (hn : n0 ≤ n) (hn1 : n ≤ n1) (hc : n1 - n0 ≤ mc) (hsl : sl n1 - sl n0 ≤ ms) (hR : RunN Γ n (n1 - n) (sl n1 - sl n) (Qn Γ n1 M1 Ψ) XF y' 0 ls' [] n M D)
    (k : ∀ D', Ψ D' → RunM Γ n0 mc ms y (pc + 3) ls rest n1 M1 D') : RunM Γ n0 mc ms y pc ls st n M D := by
  intro p e R s m args below meth c H locs lsm q C hN hz hH hS hl h3 h4
  obtain ⟨hx, hb, hml, hown, hlk, hrt, htb, hfr, hlo, hE⟩ := id C
  subst hls
  obtain ⟨c0, c00, c1, c2, hM⟩ := hC
  obtain ⟨m1, m2, m3, m4, m5, m6, m7⟩ := id hM
  have s1 := sl_le hn
  have s2 := sl_le hn1
  refine W.sized (fun hsz' => ?_)
  have hsz := n_sz hE hz hn hH hS hsz'
  have hrun := vx_runI (args := args) (own := (yN y).cls) (Ts := []) (index := idx) (bytes := yB y') (maxL := yL y') (As := as.map (mv Γ 0)) (b := gB Γ + a) (n := cnt) (rest := rest.map (mv Γ q)) (g := F0 m pc lsm (st.map (mv Γ q))) (locs := locs) (cells := n - n0) (slots := sl n - sl n0) (below := below) (meth := meth) (e := e) (R := R)
    ⟨hx, hb, hml, hown, fun w hw => by cases hw⟩ (ctr_n hM hfit hR)
    ⟨⟨rfl, rfl, by show yK y' + 1 ≤ R.frames; omega, by show 8 + (yL y' + 11) + 36 * yK y' ≤ R.locals; omega, code_ws hE m2 rfl, by rw [c00]; exact List.mem_singleton.mpr rfl, by have := hE.word (args := args) m2; rw [c00] at this; exact this, hE.word m1, m3, fun sig h => by rw [h] at m4; exact (Option.some.inj m4).symm, hE.word c1⟩, c0, hE.word c2⟩
    ⟨pcn_blind, fun U hU hW => ⟨rfl, hE.move hU hS hW, by rw [hU]; omega, by rw [hU]; exact hH⟩⟩
    rfl (by rw [List.length_map]; exact hcn) hl.1
    (by show st.map (mv Γ q) = _; rw [hst, List.map_append, List.map_reverse, argok_map (q' := 0) hok]; rfl)
    (by show 2 * 0 + _ ≤ 8; rw [pcat_sum]; omega) hd ⟨by omega, by omega⟩
  exact m_after C hN hz hS hl h3 h4 hn hn1 hrun k
/-- all cells are there: the rest is a RunQ; the count of the cells begins -/
theorem m_run {κ : Nat} (h : full M n = true) (hn : n ≤ NA) (hc : n - n0 + κ ≤ mc) (hsl : sl n - sl n0 + 6 * κ ≤ ms)
    (hR : RunQ Γ (fun a => Nat.blt a n) κ y pc ls st (up2 D 99 0 (n : Int))) : RunM Γ n0 mc ms y pc ls st n M D := by
  intro p e R s m args below meth c H locs lsm q C hN hz hH hS hl h3 h4
  obtain ⟨hx, hb, hml, hown, hlk, hrt, htb, hfr, hlo, hE⟩ := id C
  have h9 := hH.size (Nat.le_trans hE.2.2.2.2.2.2.2.2.2 hS.1)
  refine hR p e R s m args below meth c H locs lsm _ _ q mc ms C ⟨?_, ?_⟩ hS hl hc hsl h3 h4
  · have e1 : wsl Γ (fun a => Nat.blt a n) (up2 D 99 0 (n : Int)) = wsl Γ (fun a => Nat.blt a n) D := by
      unfold wsl
      apply List.map_congr_left
      intro a ha
      have h1 := List.mem_range.mp (List.mem_filter.mp ha).1
      rw [cellOf_congr (D := D) (D' := up2 D 99 0 (n : Int)) (up2_ne D 99 0 _ (show a ≠ 99 by intro e; subst e; exact absurd h1 (by decide)))]
    rw [e1, full_wsl h hn]
    exact hH
  · rw [up2_at]
    show gB Γ + (if (0 : Nat) = 0 then (n : Int) else D 99 0).toNat ≤ H.size
    rw [if_pos rfl]
    omega
end ESCM
