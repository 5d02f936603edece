/-! PURE READINGS: numbers in, numbers and cells out; rows that make a run of a pure reading.
w32: an int as it is kept; Res: none (nothing is said), a value and the cells, an exception and the cells -/
def w32 (z : Int) : Int := (z + 2147483648) % 4294967296 - 2147483648
def w64 (z : Int) : Int := (z + 9223372036854775808) % 18446744073709551616 - 9223372036854775808
theorem w32_in (z : Int) : inR (w32 z) := by unfold inR w32; omega
theorem w64_in (z : Int) : inJ (w64 z) := by unfold inJ w64; omega
theorem w32_of {z : Int} (h : -2147483648 ≤ z ∧ z ≤ 2147483647) : w32 z = z := by unfold w32; omega
theorem w64_of {z : Int} (h : inJ z) : w64 z = z := by unfold inJ at h; unfold w64; omega
theorem ofI_w32 (z : Int) : Int32.ofInt (w32 z) = Int32.ofInt z := by
  rw [← Int32.toInt_inj, Int32.toInt_ofInt, Int32.toInt_ofInt]
  unfold w32
  rw [show Int32.size = 4294967296 from rfl]
  simp only [Int.bmod]
  omega
theorem ofI_w64 (z : Int) : Int64.ofInt (w64 z) = Int64.ofInt z := by
  rw [← Int64.toInt_inj, Int64.toInt_ofInt, Int64.toInt_ofInt]
  unfold w64
  rw [show Int64.size = 18446744073709551616 from rfl]
  simp only [Int.bmod]
  omega
abbrev Res : Type := Option ((Int ⊕ Nat) × DD)
def okR (v : Int) (D : DD) : Res := some (.inl v, D)
def okZ (v : Int) (D : DD) : Res := if v = 0 ∨ v = 1 then some (.inl v, D) else none
def erR (n : Nat) (D : DD) : Res := some (.inr n, bmp D)
def bnd (r : Res) (c : Int → DD → Res) : Res := match r with
  | some (.inl v, D) => c v D
  | some (.inr n, D) => some (.inr n, D)
  | none => none
def ctc (r : Res) (c : Int → DD → Res) (g : Nat → DD → Res) : Res := match r with
  | some (.inl v, D) => c v D
  | some (.inr n, D) => g n D
  | none => none
def rdA (n a : Nat) (i : Int) (D : DD) (c : Int → Res) : Res := if 0 ≤ w32 i ∧ w32 i < n then c (D a (w32 i).toNat) else none
def wrA (n a : Nat) (i v : Int) (D : DD) (c : DD → Res) : Res := if 0 ≤ w32 i ∧ w32 i < n then c (up2 D a (w32 i).toNat v) else none
def wrZ (n a : Nat) (i v : Int) (D : DD) (c : DD → Res) : Res := if (0 ≤ w32 i ∧ w32 i < n) ∧ (v = 0 ∨ v = 1) then c (up2 D a (w32 i).toNat v) else none
def wfZ (a k : Nat) (v : Int) (D : DD) (c : DD → Res) : Res := if v = 0 ∨ v = 1 then c (up2 D a k v) else none
def gD {β : Type} (D : DD) (c : DD → β) : β := c D
def jnR {α β : Type} (b : α) (c : α → β) : β := c b
def ltR {β : Type} (v : Int) (c : Int → β) : β := c v
def rd (n a : Nat) (i : Int) (D : DD) : Int := if 0 ≤ w32 i ∧ w32 i < n then D a (w32 i).toNat else 0
def sto (n a : Nat) (i v : Int) (D : DD) : DD := if 0 ≤ w32 i ∧ w32 i < n then up2 D a (w32 i).toNat v else D
def iandZ (a b : Int) : Int := (Int32.ofInt a &&& Int32.ofInt b).toInt
def lorZ (a b : Int) : Int := (Int64.ofInt a ||| Int64.ofInt b).toInt
def lshlZ (a b : Int) : Int := (Int64.ofInt a <<< ((Int32.ofInt b).toInt64 &&& 63)).toInt
def landZ (a b : Int) : Int := (Int64.ofInt a &&& Int64.ofInt b).toInt
def lushrZ (a b : Int) : Int := ((Int64.ofInt a).toUInt64 >>> ((Int32.ofInt b).toInt64.toUInt64 &&& Int64.toUInt64 63)).toInt64.toInt
def lcmZ (a b : Int) : Int := if b < a then 1 else if a = b then 0 else -1
def fu : Nat := 300
def kx : Int ⊕ Nat → Nat
  | .inl _ => 0
  | .inr _ => 1
def rvo (t : Option FieldType) (v : Int) : Option PV := match t with
  | none => none
  | some .long => some (1, v)
  | some _ => some (0, v)
def lf (t : Option FieldType) : Int ⊕ Nat → OT
  | .inl v => .inl (rvo t v)
  | .inr n => .inr n
def WP (t : Option FieldType) (κ : Nat) (Φ : OT → DD → Prop) (r : Res) : Prop := ∃ (o : Int ⊕ Nat) (D' : DD), r = some (o, D') ∧ kx o ≤ κ ∧ Φ (lf t o) D'
def WPD (Φ : OT → DD → Prop) (D : DD) : Prop := Φ (.inl none) D
def EQx (x y : Int) : Prop := x = y
theorem WP.ok {t : Option FieldType} {κ : Nat} {Φ : OT → DD → Prop} {v : Int} {D : DD} (h : WP t κ Φ (okR v D)) : Φ (.inl (rvo t v)) D := by
  obtain ⟨o, D', e, -, hΦ⟩ := h
  cases e
  exact hΦ
theorem WP.okz {t : Option FieldType} {κ : Nat} {Φ : OT → DD → Prop} {v : Int} {D : DD} (h : WP t κ Φ (okZ v D)) : (v = 0 ∨ v = 1) ∧ Φ (.inl (rvo t v)) D := by
  obtain ⟨o, D', e, -, hΦ⟩ := h
  unfold okZ at e
  split at e
  · cases e
    exact ⟨by assumption, hΦ⟩
  · cases e
theorem WP.er {t : Option FieldType} {κ : Nat} {Φ : OT → DD → Prop} {n : Nat} {D : DD} (h : WP t κ Φ (erR n D)) : 1 ≤ κ ∧ Φ (.inr n) (bmp D) := by
  obtain ⟨o, D', e, hk, hΦ⟩ := h
  cases e
  exact ⟨hk, hΦ⟩
theorem WP.no {t : Option FieldType} {κ : Nat} {Φ : OT → DD → Prop} (h : WP t κ Φ none) : False := by
  obtain ⟨o, D', e, -, -⟩ := h
  cases e
def nz (a a' : Int) : Prop := Int32.ofInt a' = Int32.ofInt a ∧ inR a'
theorem nz_w (a : Int) : nz a (w32 a) := ⟨ofI_w32 a, w32_in a⟩
theorem nz_k {a : Int} (h : (decide (-2147483648 ≤ a) && decide (a ≤ 2147483647)) = true) : nz a a := by
  simp only [Bool.and_eq_true, decide_eq_true_eq] at h
  exact ⟨rfl, h⟩
theorem nz_b {a : Int} (h : a = 0 ∨ a = 1) : nz a a := by
  rcases h with rfl | rfl <;> exact nz_k rfl
theorem nz_c (a b : Int) : nz (lcmZ a b) (lcmZ a b) := by
  unfold lcmZ
  split
  · exact nz_k rfl
  · split <;> exact nz_k rfl
def cov (rg rg' : Nat → Bool) : Prop := ∀ a, rg' a = true → rg a = true
def lql : List PV → List PV → Prop
  | [], [] => True
  | a :: as, b :: bs => (a.1 = 5 ∨ a = b) ∧ lql as bs
  | _, _ => False
theorem lql_at : ∀ {xs ys : List PV}, lql xs ys → ∀ (i : Nat) (v : PV), xs[i]? = some v → v.1 ≠ 5 → ys[i]? = some v
  | [], [], _, i, v, h, _ => by simp at h
  | a :: as, b :: bs, ⟨h1, h2⟩, i, v, h, h5 => by
    match i, h with
    | 0, h =>
      cases h
      rcases h1 with h1 | h1
      · exact absurd h1 h5
      · rw [← h1]; rfl
    | i + 1, h => exact lql_at h2 i v (by simpa using h) h5
  | [], _ :: _, h, _, _, _, _ => h.elim
  | _ :: _, [], h, _, _, _, _ => h.elim
section CC
variable {Γ : GG} {rg : Nat → Bool} {κ κ0 : Nat} {y : YT} {pc : Nat} {ls st : List PV} {D : DD} {Φ : OT → DD → Prop} {t : Option FieldType}
theorem Run.forget {ls' : List PV} (h : lql ls' ls) (k : Run Γ rg κ y pc ls' st D Φ) : Run Γ rg κ y pc ls st D Φ := by
  intro p e R s m args below meth c H locs lsm cells slots q mc ms C hH hS hl h1 h2 h3 h4
  exact k p e R s m args below meth c H locs lsm cells slots q mc ms C hH hS ⟨hl.1, hl.2.1, fun i v hi h5 => hl.2.2 i v (lql_at h i v hi h5) h5⟩ h1 h2 h3 h4
theorem Run.st0 {st' : List PV} (h : ∀ q, st.map (mv Γ q) = st'.map (mv Γ q)) (k : Run Γ rg κ y pc ls st' D Φ) : Run Γ rg κ y pc ls st D Φ := by
  intro p e R s m args below meth c H locs lsm cells slots q mc ms C hH hS hl h1 h2 h3 h4
  rw [h q]
  exact k p e R s m args below meth c H locs lsm cells slots q mc ms C hH hS hl h1 h2 h3 h4
theorem mv_i {Γ : GG} {q : Nat} {a a' : Int} (h : Int32.ofInt a' = Int32.ofInt a) : mv Γ q (0, a) = mv Γ q (0, a') := by
  show Value.int (Int32.ofInt a) = Value.int (Int32.ofInt a')
  rw [h]
theorem mv_j {Γ : GG} {q : Nat} {a a' : Int} (h : Int64.ofInt a' = Int64.ofInt a) : mv Γ q (1, a) = mv Γ q (1, a') := by
  show Value.long (Int64.ofInt a) = Value.long (Int64.ofInt a')
  rw [h]
theorem Run.st1 {a a' : Int} (h : Int32.ofInt a' = Int32.ofInt a) (k : Run Γ rg κ y pc ls ((0, a') :: st) D Φ) : Run Γ rg κ y pc ls ((0, a) :: st) D Φ :=
  Run.st0 (fun q => by rw [List.map_cons, List.map_cons, mv_i h]) k
theorem Run.st2 {v : PV} {a a' : Int} (h : Int32.ofInt a' = Int32.ofInt a) (k : Run Γ rg κ y pc ls (v :: (0, a') :: st) D Φ) : Run Γ rg κ y pc ls (v :: (0, a) :: st) D Φ :=
  Run.st0 (fun q => by rw [List.map_cons, List.map_cons, List.map_cons, List.map_cons, mv_i h]) k
theorem Run.sj1 {a a' : Int} (h : Int64.ofInt a' = Int64.ofInt a) (k : Run Γ rg κ y pc ls ((1, a') :: st) D Φ) : Run Γ rg κ y pc ls ((1, a) :: st) D Φ :=
  Run.st0 (fun q => by rw [List.map_cons, List.map_cons, mv_j h]) k
theorem Run.sj2 {v : PV} {a a' : Int} (h : Int64.ofInt a' = Int64.ofInt a) (k : Run Γ rg κ y pc ls (v :: (1, a') :: st) D Φ) : Run Γ rg κ y pc ls (v :: (1, a) :: st) D Φ :=
  Run.st0 (fun q => by rw [List.map_cons, List.map_cons, List.map_cons, List.map_cons, mv_j h]) k
section IFS
variable {α : Type} {G : α → Prop} {A B : α} {a b a' b' : Int} {off : Int} {tgt : Nat}
theorem c_icmp_eq (hd : decode (yB y) pc = .ok (.if_icmp .eq off, 3)) (ht : (pc : Int) + off = (tgt : Int)) (ha : nz a a') (hb : nz b b') (h : G (if a' = b' then A else B)) (kt : G A → Run Γ rg κ y tgt ls st D Φ) (kf : G B → Run Γ rg κ y (pc + 3) ls st D Φ) : Run Γ rg κ y pc ls ((0, b) :: (0, a) :: st) D Φ :=
  Run.st1 hb.1 (Run.st2 ha.1 (r_icmp_eq hd ht ha.2 hb.2 (fun g => kt (by rw [if_pos g] at h; exact h)) (fun g => kf (by rw [if_neg (by omega)] at h; exact h))))
theorem c_if_eq (hd : decode (yB y) pc = .ok (.ifCond .eq off, 3)) (ht : (pc : Int) + off = (tgt : Int)) (ha : nz a a') (h : G (if a' = 0 then A else B)) (kt : G A → Run Γ rg κ y tgt ls st D Φ) (kf : G B → Run Γ rg κ y (pc + 3) ls st D Φ) : Run Γ rg κ y pc ls ((0, a) :: st) D Φ :=
  Run.st1 ha.1 (r_if_eq hd ht ha.2 (fun g => kt (by rw [if_pos g] at h; exact h)) (fun g => kf (by rw [if_neg (by omega)] at h; exact h)))
theorem c_icmp_ne (hd : decode (yB y) pc = .ok (.if_icmp .ne off, 3)) (ht : (pc : Int) + off = (tgt : Int)) (ha : nz a a') (hb : nz b b') (h : G (if a' = b' then A else B)) (kt : G B → Run Γ rg κ y tgt ls st D Φ) (kf : G A → Run Γ rg κ y (pc + 3) ls st D Φ) : Run Γ rg κ y pc ls ((0, b) :: (0, a) :: st) D Φ :=
  Run.st1 hb.1 (Run.st2 ha.1 (r_icmp_ne hd ht ha.2 hb.2 (fun g => kt (by rw [if_neg (by omega)] at h; exact h)) (fun g => kf (by rw [if_pos g] at h; exact h))))
theorem c_if_ne (hd : decode (yB y) pc = .ok (.ifCond .ne off, 3)) (ht : (pc : Int) + off = (tgt : Int)) (ha : nz a a') (h : G (if a' = 0 then A else B)) (kt : G B → Run Γ rg κ y tgt ls st D Φ) (kf : G A → Run Γ rg κ y (pc + 3) ls st D Φ) : Run Γ rg κ y pc ls ((0, a) :: st) D Φ :=
  Run.st1 ha.1 (r_if_ne hd ht ha.2 (fun g => kt (by rw [if_neg (by omega)] at h; exact h)) (fun g => kf (by rw [if_pos g] at h; exact h)))
theorem c_icmp_lt (hd : decode (yB y) pc = .ok (.if_icmp .lt off, 3)) (ht : (pc : Int) + off = (tgt : Int)) (ha : nz a a') (hb : nz b b') (h : G (if a' < b' then A else B)) (kt : G A → Run Γ rg κ y tgt ls st D Φ) (kf : G B → Run Γ rg κ y (pc + 3) ls st D Φ) : Run Γ rg κ y pc ls ((0, b) :: (0, a) :: st) D Φ :=
  Run.st1 hb.1 (Run.st2 ha.1 (r_icmp_lt hd ht ha.2 hb.2 (fun g => kt (by rw [if_pos g] at h; exact h)) (fun g => kf (by rw [if_neg (by omega)] at h; exact h))))
theorem c_if_lt (hd : decode (yB y) pc = .ok (.ifCond .lt off, 3)) (ht : (pc : Int) + off = (tgt : Int)) (ha : nz a a') (h : G (if a' < 0 then A else B)) (kt : G A → Run Γ rg κ y tgt ls st D Φ) (kf : G B → Run Γ rg κ y (pc + 3) ls st D Φ) : Run Γ rg κ y pc ls ((0, a) :: st) D Φ :=
  Run.st1 ha.1 (r_if_lt hd ht ha.2 (fun g => kt (by rw [if_pos g] at h; exact h)) (fun g => kf (by rw [if_neg (by omega)] at h; exact h)))
theorem c_icmp_ge (hd : decode (yB y) pc = .ok (.if_icmp .ge off, 3)) (ht : (pc : Int) + off = (tgt : Int)) (ha : nz a a') (hb : nz b b') (h : G (if a' < b' then A else B)) (kt : G B → Run Γ rg κ y tgt ls st D Φ) (kf : G A → Run Γ rg κ y (pc + 3) ls st D Φ) : Run Γ rg κ y pc ls ((0, b) :: (0, a) :: st) D Φ :=
  Run.st1 hb.1 (Run.st2 ha.1 (r_icmp_ge hd ht ha.2 hb.2 (fun g => kt (by rw [if_neg (by omega)] at h; exact h)) (fun g => kf (by rw [if_pos g] at h; exact h))))
theorem c_if_ge (hd : decode (yB y) pc = .ok (.ifCond .ge off, 3)) (ht : (pc : Int) + off = (tgt : Int)) (ha : nz a a') (h : G (if a' < 0 then A else B)) (kt : G B → Run Γ rg κ y tgt ls st D Φ) (kf : G A → Run Γ rg κ y (pc + 3) ls st D Φ) : Run Γ rg κ y pc ls ((0, a) :: st) D Φ :=
  Run.st1 ha.1 (r_if_ge hd ht ha.2 (fun g => kt (by rw [if_neg (by omega)] at h; exact h)) (fun g => kf (by rw [if_pos g] at h; exact h)))
theorem c_icmp_gt (hd : decode (yB y) pc = .ok (.if_icmp .gt off, 3)) (ht : (pc : Int) + off = (tgt : Int)) (ha : nz a a') (hb : nz b b') (h : G (if b' < a' then A else B)) (kt : G A → Run Γ rg κ y tgt ls st D Φ) (kf : G B → Run Γ rg κ y (pc + 3) ls st D Φ) : Run Γ rg κ y pc ls ((0, b) :: (0, a) :: st) D Φ :=
  Run.st1 hb.1 (Run.st2 ha.1 (r_icmp_gt hd ht ha.2 hb.2 (fun g => kt (by rw [if_pos g] at h; exact h)) (fun g => kf (by rw [if_neg (by omega)] at h; exact h))))
theorem c_if_gt (hd : decode (yB y) pc = .ok (.ifCond .gt off, 3)) (ht : (pc : Int) + off = (tgt : Int)) (ha : nz a a') (h : G (if 0 < a' then A else B)) (kt : G A → Run Γ rg κ y tgt ls st D Φ) (kf : G B → Run Γ rg κ y (pc + 3) ls st D Φ) : Run Γ rg κ y pc ls ((0, a) :: st) D Φ :=
  Run.st1 ha.1 (r_if_gt hd ht ha.2 (fun g => kt (by rw [if_pos g] at h; exact h)) (fun g => kf (by rw [if_neg (by omega)] at h; exact h)))
theorem c_icmp_le (hd : decode (yB y) pc = .ok (.if_icmp .le off, 3)) (ht : (pc : Int) + off = (tgt : Int)) (ha : nz a a') (hb : nz b b') (h : G (if b' < a' then A else B)) (kt : G B → Run Γ rg κ y tgt ls st D Φ) (kf : G A → Run Γ rg κ y (pc + 3) ls st D Φ) : Run Γ rg κ y pc ls ((0, b) :: (0, a) :: st) D Φ :=
  Run.st1 hb.1 (Run.st2 ha.1 (r_icmp_le hd ht ha.2 hb.2 (fun g => kt (by rw [if_neg (by omega)] at h; exact h)) (fun g => kf (by rw [if_pos g] at h; exact h))))
theorem c_if_le (hd : decode (yB y) pc = .ok (.ifCond .le off, 3)) (ht : (pc : Int) + off = (tgt : Int)) (ha : nz a a') (h : G (if 0 < a' then A else B)) (kt : G B → Run Γ rg κ y tgt ls st D Φ) (kf : G A → Run Γ rg κ y (pc + 3) ls st D Φ) : Run Γ rg κ y pc ls ((0, a) :: st) D Φ :=
  Run.st1 ha.1 (r_if_le hd ht ha.2 (fun g => kt (by rw [if_neg (by omega)] at h; exact h)) (fun g => kf (by rw [if_pos g] at h; exact h)))
end IFS
theorem c_lt_n {β : Type} {G : β → Prop} {i : Fin 4} {z : Int} {c : Int → β} (hd : decode (yB y) pc = .ok (.istore_n i, 1)) (hi : (i : Nat) < yL y) (hp : pok ls i = true) (h : G (ltR z c)) (kk : ∀ x, G (c x) → Run Γ rg κ y (pc + 1) (ls.set i (0, x)) st D Φ) : Run Γ rg κ y pc ls ((0, z) :: st) D Φ := r_istore_n hd hi hp (kk z h)
theorem c_lt {β : Type} {G : β → Prop} {i : Nat} {z : Int} {c : Int → β} (hd : decode (yB y) pc = .ok (.istore i, 2)) (hi : i < yL y) (hp : pok ls i = true) (h : G (ltR z c)) (kk : ∀ x, G (c x) → Run Γ rg κ y (pc + 2) (ls.set i (0, x)) st D Φ) : Run Γ rg κ y pc ls ((0, z) :: st) D Φ := r_istore hd hi hp (kk z h)
theorem c_jn {α β : Type} {G : β → Prop} {b : α} {c : α → β} {P : Prop} (J : α → Prop) (h : G (jnR b c)) (hJ : J b) (kk : ∀ b', J b' → G (c b') → P) : P := kk b hJ h
theorem c_gD {β : Type} {G : β → Prop} {E : DD} {c : DD → β} (h : G (gD E c)) (kk : ∀ D1, G (c D1) → Run Γ rg κ y pc ls st D1 Φ) : Run Γ rg κ y pc ls st E Φ := kk E h
theorem c_iald {a n : Nat} {i z : Int} {cs : List Nat} {c : Int → Res} (hd : decode (yB y) pc = .ok (.iaload, 1)) (hs : SH.getD a (9, 0, []) = (1, n, cs)) (ha : a < NA) (hr : rg a = true) (hn : n < 2147483648) (h : WP t κ0 Φ (rdA n a i D c))
    (kk : ∀ v, WP t κ0 Φ (c v) → Run Γ rg κ y (pc + 1) ls ((0, v) :: st) D Φ) : Run Γ rg κ y pc ls ((0, i) :: (a + 8, z) :: st) D Φ := by
  unfold rdA at h
  split at h
  · rename_i g
    exact Run.st1 (ofI_w32 i) (r_iald hd hs ha hr hn g.1 g.2 (kk _ h))
  · exact h.no.elim
theorem c_iast {a n : Nat} {i z x : Int} {cs : List Nat} {c : DD → Res} (hd : decode (yB y) pc = .ok (.iastore, 1)) (hs : SH.getD a (9, 0, []) = (1, n, cs)) (ha : a < NA) (hr : rg a = true) (hn : n < 2147483648) (h : WP t κ0 Φ (wrA n a i x D c))
    (kk : ∀ D1, WP t κ0 Φ (c D1) → Run Γ rg κ y (pc + 1) ls st D1 Φ) : Run Γ rg κ y pc ls ((0, x) :: (0, i) :: (a + 8, z) :: st) D Φ := by
  unfold wrA at h
  split at h
  · rename_i g
    exact Run.st2 (ofI_w32 i) (r_iast hd hs ha hr hn g.1 g.2 (kk _ h))
  · exact h.no.elim
theorem c_iast0 {β : Type} {G : β → Prop} {a n : Nat} {i z x : Int} {k : Nat} {cs : List Nat} {c : DD → β} (hd : decode (yB y) pc = .ok (.iastore, 1)) (hs : SH.getD a (9, 0, []) = (1, n, cs)) (ha : a < NA) (hr : rg a = true) (hn : n < 2147483648) (hi : i = (k : Int)) (hj : k < n) (h : G (gD (up2 D a k x) c))
    (kk : ∀ D1, G (c D1) → Run Γ rg κ y (pc + 1) ls st D1 Φ) : Run Γ rg κ y pc ls ((0, x) :: (0, i) :: (a + 8, z) :: st) D Φ := by
  subst hi
  exact r_iast hd hs ha hr hn (Int.natCast_nonneg k) (Int.ofNat_lt.mpr hj) (kk _ h)
theorem c_last0 {β : Type} {G : β → Prop} {a n : Nat} {i z x : Int} {k : Nat} {cs : List Nat} {c : DD → β} (hd : decode (yB y) pc = .ok (.lastore, 1)) (hs : SH.getD a (9, 0, []) = (3, n, cs)) (ha : a < NA) (hr : rg a = true) (hn : n < 2147483648) (hi : i = (k : Int)) (hj : k < n) (h : G (gD (up2 D a k x) c))
    (kk : ∀ D1, G (c D1) → Run Γ rg κ y (pc + 1) ls st D1 Φ) : Run Γ rg κ y pc ls ((1, x) :: (0, i) :: (a + 8, z) :: st) D Φ := by
  subst hi
  exact r_last hd hs ha hr hn (Int.natCast_nonneg k) (Int.ofNat_lt.mpr hj) (kk _ h)
theorem c_iald0 {a n : Nat} {i z : Int} {k : Nat} {cs : List Nat} (hd : decode (yB y) pc = .ok (.iaload, 1)) (hs : SH.getD a (9, 0, []) = (1, n, cs)) (ha : a < NA) (hr : rg a = true) (hn : n < 2147483648) (hi : i = (k : Int)) (hj : k < n)
    (kk : Run Γ rg κ y (pc + 1) ls ((0, D a k) :: st) D Φ) : Run Γ rg κ y pc ls ((0, i) :: (a + 8, z) :: st) D Φ := by
  subst hi
  exact r_iald hd hs ha hr hn (Int.natCast_nonneg k) (Int.ofNat_lt.mpr hj) kk
theorem c_lald0 {a n : Nat} {i z : Int} {k : Nat} {cs : List Nat} (hd : decode (yB y) pc = .ok (.laload, 1)) (hs : SH.getD a (9, 0, []) = (3, n, cs)) (ha : a < NA) (hr : rg a = true) (hn : n < 2147483648) (hi : i = (k : Int)) (hj : k < n)
    (kk : Run Γ rg κ y (pc + 1) ls ((1, D a k) :: st) D Φ) : Run Γ rg κ y pc ls ((0, i) :: (a + 8, z) :: st) D Φ := by
  subst hi
  exact r_lald hd hs ha hr hn (Int.natCast_nonneg k) (Int.ofNat_lt.mpr hj) kk
theorem c_putI {β : Type} {G : β → Prop} {idx a k ci : Nat} {cs : List Nat} {z x : Int} {c : DD → β} (hd : decode (yB y) pc = .ok (.putfield idx, 3)) (hF : PK (yN y).cls idx ci k .int) (hs : SH.getD a (9, 0, []) = (0, ci, cs)) (hk : cs[k]? = some 0) (ha : a < NA) (hr : rg a = true) (h : G (gD (up2 D a k x) c))
    (kk : ∀ D1, G (c D1) → Run Γ rg κ y (pc + 3) ls st D1 Φ) : Run Γ rg κ y pc ls ((0, x) :: (a + 8, z) :: st) D Φ := r_putI hd hF hs hk ha hr (kk _ h)
theorem c_putZ {β : Type} {G : β → Prop} {idx a k ci : Nat} {cs : List Nat} {z x : Int} {c : DD → β} (hd : decode (yB y) pc = .ok (.putfield idx, 3)) (hF : PK (yN y).cls idx ci k .boolean) (hs : SH.getD a (9, 0, []) = (0, ci, cs)) (hk : cs[k]? = some 1) (ha : a < NA) (hr : rg a = true) (hx : x = 0 ∨ x = 1) (h : G (gD (up2 D a k x) c))
    (kk : ∀ D1, G (c D1) → Run Γ rg κ y (pc + 3) ls st D1 Φ) : Run Γ rg κ y pc ls ((0, x) :: (a + 8, z) :: st) D Φ := r_putZ hd hF hs hk ha hr hx (kk _ h)
theorem c_putJ {β : Type} {G : β → Prop} {idx a k ci : Nat} {cs : List Nat} {z x : Int} {c : DD → β} (hd : decode (yB y) pc = .ok (.putfield idx, 3)) (hF : PK (yN y).cls idx ci k .long) (hs : SH.getD a (9, 0, []) = (0, ci, cs)) (hk : cs[k]? = some 2) (ha : a < NA) (hr : rg a = true) (h : G (gD (up2 D a k x) c))
    (kk : ∀ D1, G (c D1) → Run Γ rg κ y (pc + 3) ls st D1 Φ) : Run Γ rg κ y pc ls ((1, x) :: (a + 8, z) :: st) D Φ := r_putJ hd hF hs hk ha hr (kk _ h)
theorem c_acopy {β : Type} {G : β → Prop} {a0 a1 n0 n1 idx n : Nat} {z0 z1 n' : Int} {cs0 cs1 : List Nat} {rest : List PV} {c : DD → β} (hd : decode (yB y) pc = .ok (.invokestatic idx, 3)) (hA : AK (yN y).cls idx) (hs0 : SH.getD a0 (9, 0, []) = (1, n0, cs0)) (hs1 : SH.getD a1 (9, 0, []) = (1, n1, cs1)) (ha0 : a0 < NA) (ha1 : a1 < NA) (hr0 : rg a0 = true) (hr1 : rg a1 = true)
    (hn0 : n0 < 2147483648) (hn : n' = (n : Int)) (hn1 : n ≤ n0) (hn2 : n ≤ n1) (hrest : (rest.map pcat).sum ≤ 8) (hK : 1 ≤ yK y) (h : G (gD (cpy2 D a0 a1 n) c))
    (kk : ∀ D1, G (c D1) → Run Γ rg κ y (pc + 3) ls rest D1 Φ) : Run Γ rg κ y pc ls ((0, n') :: (0, 0) :: (a1 + 8, z1) :: (0, 0) :: (a0 + 8, z0) :: rest) D Φ := by
  subst hn
  exact r_acopy hd hA hs0 hs1 ha0 ha1 hr0 hr1 hn0 (Int.natCast_nonneg n) (Int.ofNat_le.mpr hn1) (Int.ofNat_le.mpr hn2) hrest hK (kk _ h)
theorem c_idiv {a b a' : Int} (hd : decode (yB y) pc = .ok (.idiv, 1)) (ha : nz a a') (hb : inR b) (h0 : b ≠ 0) (k : Run Γ rg κ y (pc + 1) ls ((0, a'.tdiv b) :: st) D Φ) : Run Γ rg κ y pc ls ((0, b) :: (0, a) :: st) D Φ := Run.st2 ha.1 (r_idiv hd ha.2 hb h0 k)
theorem c_irem {a b a' : Int} (hd : decode (yB y) pc = .ok (.irem, 1)) (ha : nz a a') (hb : inR b) (h0 : b ≠ 0) (k : Run Γ rg κ y (pc + 1) ls ((0, a'.tmod b) :: st) D Φ) : Run Γ rg κ y pc ls ((0, b) :: (0, a) :: st) D Φ := Run.st2 ha.1 (r_irem hd ha.2 hb h0 k)
theorem c_i2l {a a' : Int} (hd : decode (yB y) pc = .ok (.i2l, 1)) (ha : nz a a') (k : Run Γ rg κ y (pc + 1) ls ((1, a') :: st) D Φ) : Run Γ rg κ y pc ls ((0, a) :: st) D Φ := Run.st1 ha.1 (r_i2l hd ha.2 k)
theorem c_lcmp {a b : Int} (hd : decode (yB y) pc = .ok (.lcmp, 1)) (k : Run Γ rg κ y (pc + 1) ls ((0, lcmZ (w64 a) (w64 b)) :: st) D Φ) : Run Γ rg κ y pc ls ((1, b) :: (1, a) :: st) D Φ := Run.sj1 (ofI_w64 b) (Run.sj2 (ofI_w64 a) (r_lcmp hd (w64_in a) (w64_in b) k))
theorem r_ladd {a b : Int} (hd : decode (yB y) pc = .ok (.ladd, 1)) (k : Run Γ rg κ y (pc + 1) ls ((1, a + b) :: st) D Φ) : Run Γ rg κ y pc ls ((1, b) :: (1, a) :: st) D Φ := by
  intro p e R s m args below meth c H locs lsm cells slots q mc ms C hH hS hl h1 h2 h3 h4
  refine lv_ladd C.1 C.2.1 hd ?_
  rw [← Int64.ofInt_add]
  exact k p e R s m args below meth c H locs lsm cells slots q mc ms C hH hS hl h1 h2 h3 h4
theorem r_lsub {a b : Int} (hd : decode (yB y) pc = .ok (.lsub, 1)) (k : Run Γ rg κ y (pc + 1) ls ((1, a - b) :: st) D Φ) : Run Γ rg κ y pc ls ((1, b) :: (1, a) :: st) D Φ := by
  intro p e R s m args below meth c H locs lsm cells slots q mc ms C hH hS hl h1 h2 h3 h4
  refine lv_lsub C.1 C.2.1 hd ?_
  rw [← Int64.ofInt_sub]
  exact k p e R s m args below meth c H locs lsm cells slots q mc ms C hH hS hl h1 h2 h3 h4
theorem r_land {a b : Int} (hd : decode (yB y) pc = .ok (.land, 1)) (k : Run Γ rg κ y (pc + 1) ls ((1, landZ a b) :: st) D Φ) : Run Γ rg κ y pc ls ((1, b) :: (1, a) :: st) D Φ := by
  intro p e R s m args below meth c H locs lsm cells slots q mc ms C hH hS hl h1 h2 h3 h4
  refine lv_land C.1 C.2.1 hd ?_
  have := k p e R s m args below meth c H locs lsm cells slots q mc ms C hH hS hl h1 h2 h3 h4
  unfold landZ at this
  rw [List.map_cons, show ∀ w : Int64, mv Γ q (1, w.toInt) = .long (Int64.ofInt w.toInt) from fun _ => rfl, Int64.ofInt_toInt] at this
  exact this
theorem r_lushr {a b : Int} (hd : decode (yB y) pc = .ok (.lushr, 1)) (k : Run Γ rg κ y (pc + 1) ls ((1, lushrZ a b) :: st) D Φ) : Run Γ rg κ y pc ls ((0, b) :: (1, a) :: st) D Φ := by
  intro p e R s m args below meth c H locs lsm cells slots q mc ms C hH hS hl h1 h2 h3 h4
  refine lv_lushr C.1 C.2.1 hd rfl ?_
  have := k p e R s m args below meth c H locs lsm cells slots q mc ms C hH hS hl h1 h2 h3 h4
  unfold lushrZ at this
  rw [List.map_cons, show ∀ w : Int64, mv Γ q (1, w.toInt) = .long (Int64.ofInt w.toInt) from fun _ => rfl, Int64.ofInt_toInt] at this
  exact this
theorem r_l2i {a : Int} (hd : decode (yB y) pc = .ok (.l2i, 1)) (k : Run Γ rg κ y (pc + 1) ls ((0, a) :: st) D Φ) : Run Γ rg κ y pc ls ((1, a) :: st) D Φ := by
  intro p e R s m args below meth c H locs lsm cells slots q mc ms C hH hS hl h1 h2 h3 h4
  exact lv_l2i C.1 C.2.1 hd (v := Int32.ofInt a) (by simp) (k p e R s m args below meth c H locs lsm cells slots q mc ms C hH hS hl h1 h2 h3 h4)
theorem r_ldc2 {idx : Nat} {v : Int} (hd : decode (yB y) pc = .ok (.ldc2_w idx, 3)) (hc : KW (.constantLong (yN y).cls idx (Int64.ofInt v))) (k : Run Γ rg κ y (pc + 3) ls ((1, v) :: st) D Φ) : Run Γ rg κ y pc ls st D Φ := by
  intro p e R s m args below meth c H locs lsm cells slots q mc ms C hH hS hl h1 h2 h3 h4
  obtain ⟨hx, hb, hml, hown, hlk, hrt, htb, hfr, hlo, hE⟩ := id C
  exact lv_ldc2 hx hb hown (hE.word hc) hd (k p e R s m args below meth c H locs lsm cells slots q mc ms C hH hS hl h1 h2 h3 h4)
/-- a store of two slots -/
def pok2 (ls : List PV) (i : Nat) : Bool := i == 0 || (ls.getD (i - 1) (5, 0)).1 != 1
theorem lvr.set2 {Γ : GG} {q n i : Nat} {ls : List PV} {lsm lsm' : Array Slot} {x : Int} (h : lvr Γ q n ls lsm) (hp : pok2 ls i = true) (hn : lv_has lsm' n ((i, mv Γ q (1, x)) :: (lvl Γ q ls).filter (fun r => !(r.1 == i) && (!(r.1 == i + 1) && !(r.1 + 1 == i && r.2.category == 2))))) : lvr Γ q n ((ls.set i (1, x)).set (i + 1) (5, 0)) lsm' := by
  refine ⟨hn.1, hn.2.1, fun j w hj h5 => ?_⟩
  rw [List.getElem?_set] at hj
  by_cases hi1 : i + 1 = j
  · rw [if_pos hi1] at hj
    split at hj
    · cases hj
      exact absurd rfl h5
    · cases hj
  · rw [if_neg hi1, List.getElem?_set] at hj
    by_cases hi : i = j
    · subst hi
      rw [if_pos rfl] at hj
      split at hj
      · cases hj
        exact hn.2.2 (i, mv Γ q (1, x)) List.mem_cons_self
      · cases hj
    · rw [if_neg hi] at hj
      refine hn.2.2 (j, mv Γ q w) (List.mem_cons_of_mem _ (List.mem_filter.mpr ⟨lvl_mem hj h5, ?_⟩))
      have e1 : (j == i) = false := by simpa using fun e => hi e.symm
      have e2 : (j == i + 1) = false := by simpa using fun e => hi1 e.symm
      simp only [e1, e2, Bool.not_false, Bool.true_and, Bool.not_eq_true', Bool.and_eq_false_iff, beq_eq_false_iff_ne]
      by_cases e3 : j + 1 = i
      · right
        subst e3
        have hg : ls.getD j (5, 0) = w := by rw [List.getD_eq_getElem?_getD, hj]; rfl
        simp only [pok2, Nat.add_sub_cancel, hg, Bool.or_eq_true, beq_iff_eq, Nat.succ_ne_zero, false_or, bne_iff_ne] at hp
        rw [mv_cat1 (by simpa using hp)]
        decide
      · exact Or.inl e3
theorem c_ltj_n {β : Type} {G : β → Prop} {i : Fin 4} {z : Int} {c : Int → β} (hd : decode (yB y) pc = .ok (.lstore_n i, 1)) (hi : (i : Nat) + 1 < yL y) (hp : pok2 ls i = true) (h : G (ltR z c)) (kk : ∀ x, G (c x) → Run Γ rg κ y (pc + 1) ((ls.set i (1, x)).set (i + 1) (5, 0)) st D Φ) : Run Γ rg κ y pc ls ((1, z) :: st) D Φ := by
  intro p e R s m args below meth c H locs lsm cells slots q mc ms C hH hS hl h1 h2 h3 h4
  exact lv_lstore_n C.1 C.2.1 hd rfl hl.has hi rfl (fun lsm' hn => kk z h p e R s m args below meth c H locs lsm' cells slots q mc ms C hH hS (hl.set2 (x := z) hp hn) h1 h2 h3 h4)
theorem c_throw {n ik is ic : Nat} {text : String} (hT : TK (yN y).cls n ik ic) (hstr : ((yN y).cls, is, text) ∈ strT)
    (d0 : decode (yB y) pc = .ok (.new ik, 3)) (d3 : decode (yB y) (pc + 3) = .ok (.dup, 1)) (d4 : decode (yB y) (pc + 4) = .ok (.ldc is, 2)) (d6 : decode (yB y) (pc + 6) = .ok (.invokespecial ic, 3)) (d9 : decode (yB y) (pc + 9) = .ok (.athrow, 1))
    (hh : yH y = []) (hK : 6 ≤ yK y) (hst : (st.map pcat).sum ≤ 20) (h : WP t κ Φ (erR n D)) : Run Γ rg κ y pc ls st D Φ := r_throw hT hstr d0 d3 d4 d6 d9 hh hK hst h.er.1 h.er.2
theorem c_throwW {n ik is ic : Nat} {text : String} (hT : TK (yN y).cls n ik ic) (hstr : ((yN y).cls, is, text) ∈ strT)
    (d0 : decode (yB y) pc = .ok (.new ik, 3)) (d3 : decode (yB y) (pc + 3) = .ok (.dup, 1)) (d4 : decode (yB y) (pc + 4) = .ok (.ldc_w is, 3)) (d7 : decode (yB y) (pc + 7) = .ok (.invokespecial ic, 3)) (d10 : decode (yB y) (pc + 10) = .ok (.athrow, 1))
    (hh : yH y = []) (hK : 6 ≤ yK y) (hst : (st.map pcat).sum ≤ 20) (h : WP t κ Φ (erR n D)) : Run Γ rg κ y pc ls st D Φ := r_throwW hT hstr d0 d3 d4 d7 d10 hh hK hst h.er.1 h.er.2
theorem c_iret {x : Int} (hd : decode (yB y) pc = .ok (.ireturn, 1)) (hr : yR y = some .int) (h : WP (some .int) κ0 Φ (okR x D)) : Run Γ rg κ y pc ls [(0, x)] D Φ := r_iret hd hr h.ok
theorem c_zret {x : Int} (hd : decode (yB y) pc = .ok (.ireturn, 1)) (hr : yR y = some .boolean) (hz : x = 0 ∨ x = 1) (h : WP (some .boolean) κ0 Φ (okR x D)) : Run Γ rg κ y pc ls [(0, x)] D Φ := r_zret hd hr hz h.ok
theorem c_zretZ {x : Int} (hd : decode (yB y) pc = .ok (.ireturn, 1)) (hr : yR y = some .boolean) (h : WP (some .boolean) κ0 Φ (okZ x D)) : Run Γ rg κ y pc ls [(0, x)] D Φ := r_zret hd hr h.okz.1 h.okz.2
theorem c_lret {x : Int} (hd : decode (yB y) pc = .ok (.lreturn, 1)) (hr : yR y = some .long) (h : WP (some .long) κ0 Φ (okR x D)) : Run Γ rg κ y pc ls [(1, x)] D Φ := r_lret hd hr h.ok
theorem c_vret (hd : decode (yB y) pc = .ok (.return_, 1)) (hr : yR y = none) (h : WP none κ0 Φ (okR 0 D)) : Run Γ rg κ y pc ls [] D Φ := r_vret hd hr h.ok
theorem e_iret {x v : Int} (hd : decode (yB y) pc = .ok (.ireturn, 1)) (hr : yR y = some .int) (h : EQx x v) (hΦ : Φ (.inl (some (0, x))) D) : Run Γ rg κ y pc ls [(0, v)] D Φ := r_iret hd hr (by rw [← show x = v from h]; exact hΦ)
theorem e_zret {x v : Int} (hd : decode (yB y) pc = .ok (.ireturn, 1)) (hr : yR y = some .boolean) (hz : v = 0 ∨ v = 1) (h : EQx x v) (hΦ : Φ (.inl (some (0, x))) D) : Run Γ rg κ y pc ls [(0, v)] D Φ := r_zret hd hr hz (by rw [← show x = v from h]; exact hΦ)
theorem e_lret {x v : Int} (hd : decode (yB y) pc = .ok (.lreturn, 1)) (hr : yR y = some .long) (h : EQx x v) (hΦ : Φ (.inl (some (1, x))) D) : Run Γ rg κ y pc ls [(1, v)] D Φ := r_lret hd hr (by rw [← show x = v from h]; exact hΦ)
theorem d_vret (hd : decode (yB y) pc = .ok (.return_, 1)) (hr : yR y = none) (h : WPD Φ D) : Run Γ rg κ y pc ls [] D Φ := r_vret hd hr h
theorem bnd_case {κ : Nat} {r : Res} {c : Int → DD → Res} (h : WP t κ Φ (bnd r c)) : (∃ v D1, r = some (.inl v, D1) ∧ WP t κ Φ (c v D1)) ∨ (∃ n D1, r = some (.inr n, D1) ∧ 1 ≤ κ ∧ Φ (.inr n) D1) := by
  obtain ⟨o, D', e, hk, hΦ⟩ := h
  match r, e with
  | some (.inl v, D1), e => exact Or.inl ⟨v, D1, rfl, o, D', e, hk, hΦ⟩
  | some (.inr n, D1), e =>
    cases e
    exact Or.inr ⟨n, _, rfl, hk, hΦ⟩
  | none, e => cases e
theorem ctc_case {κ : Nat} {r : Res} {c : Int → DD → Res} {g : Nat → DD → Res} (h : WP t κ Φ (ctc r c g)) : (∃ v D1, r = some (.inl v, D1) ∧ WP t κ Φ (c v D1)) ∨ (∃ n D1, r = some (.inr n, D1) ∧ WP t κ Φ (g n D1)) := by
  obtain ⟨o, D', e, hk, hΦ⟩ := h
  match r, e with
  | some (.inl v, D1), e => exact Or.inl ⟨v, D1, rfl, o, D', e, hk, hΦ⟩
  | some (.inr n, D1), e => exact Or.inr ⟨n, D1, rfl, o, D', e, hk, hΦ⟩
  | none, e => cases e
theorem c_callVi {y' : YT} {as rest ls' : List PV} {a idx ci n N : Nat} {cs : List Nat} {TT : u_T} {z : Int} {t' : Option FieldType} {r : Res} {c : Int → DD → Res} (hd : decode (yB y) pc = .ok (.invokevirtual idx, 3)) (hC : CKV (yN y).cls idx y' n) (hn : as.length = n) (hs : SH.getD a (9, 0, []) = (0, ci, cs)) (hci : vwCl[ci]? = some ((yN y').cls, TT, N)) (ha : a < NA) (hr : rg a = true) (hst : st = as.reverse ++ (a + 8, z) :: rest) (hok : argok as = true) (hrest : (rest.map pcat).sum ≤ 8) (hfit : (lg_sl (((a + 8, z) :: as).map (mv Γ 0))).length ≤ yL y') (hk : yK y' < yK y) (hh : yH y = []) (hls : ent (yL y') ((a + 8, z) :: as) = ls') (ht' : ∀ v, rvo t' v = some (0, v)) (hR : ∀ (κ' : Nat) (Ψ : OT → DD → Prop), WP t' κ' Ψ r → Run Γ rg κ' y' 0 ls' [] D Ψ) (h : WP t κ Φ (bnd r c)) (kk : ∀ v D1, WP t κ Φ (c v D1) → Run Γ rg κ y (pc + 3) ls ((0, v) :: rest) D1 Φ) : Run Γ rg κ y pc ls st D Φ := by
  rcases bnd_case h with ⟨v, D1, e, h2⟩ | ⟨n1, D1, e, h1, hΦ⟩
  · exact r_callV (κ1 := 0) (κ2 := κ) (Ψ := fun o2 D2 => o2 = .inl (rvo t' v) ∧ D2 = D1) hd hC hn hs hci ha hr hst hok hrest hfit hk (Nat.zero_add κ) hh hls (hR 0 _ ⟨_, _, e, Nat.le_refl _, rfl, rfl⟩) (fun v2 D2 hq => by obtain ⟨e1, rfl⟩ := hq; rw [ht'] at e1; cases e1; exact kk v _ h2) (fun n2 D2 hq => by cases hq.1)
  · exact r_callV (κ1 := κ) (κ2 := 0) (Ψ := fun o2 D2 => o2 = .inr n1 ∧ D2 = D1) hd hC hn hs hci ha hr hst hok hrest hfit hk (Nat.add_zero κ) hh hls (hR κ _ ⟨_, _, e, h1, rfl, rfl⟩) (fun v2 D2 hq => by cases hq.1) (fun n2 D2 hq => by obtain ⟨e1, rfl⟩ := hq; cases e1; exact hΦ)
theorem c_callVv {y' : YT} {as rest ls' : List PV} {a idx ci n N : Nat} {cs : List Nat} {TT : u_T} {z : Int}  {r : Res} {c : Int → DD → Res} (hd : decode (yB y) pc = .ok (.invokevirtual idx, 3)) (hC : CKV (yN y).cls idx y' n) (hn : as.length = n) (hs : SH.getD a (9, 0, []) = (0, ci, cs)) (hci : vwCl[ci]? = some ((yN y').cls, TT, N)) (ha : a < NA) (hr : rg a = true) (hst : st = as.reverse ++ (a + 8, z) :: rest) (hok : argok as = true) (hrest : (rest.map pcat).sum ≤ 8) (hfit : (lg_sl (((a + 8, z) :: as).map (mv Γ 0))).length ≤ yL y') (hk : yK y' < yK y) (hh : yH y = []) (hls : ent (yL y') ((a + 8, z) :: as) = ls') (hR : ∀ (κ' : Nat) (Ψ : OT → DD → Prop), WP none κ' Ψ r → Run Γ rg κ' y' 0 ls' [] D Ψ) (h : WP t κ Φ (bnd r c)) (kk : ∀ v D1, WP t κ Φ (c v D1) → Run Γ rg κ y (pc + 3) ls (rest) D1 Φ) : Run Γ rg κ y pc ls st D Φ := by
  rcases bnd_case h with ⟨v, D1, e, h2⟩ | ⟨n1, D1, e, h1, hΦ⟩
  · exact r_callV (κ1 := 0) (κ2 := κ) (Ψ := fun o2 D2 => o2 = .inl (rvo none v) ∧ D2 = D1) hd hC hn hs hci ha hr hst hok hrest hfit hk (Nat.zero_add κ) hh hls (hR 0 _ ⟨_, _, e, Nat.le_refl _, rfl, rfl⟩) (fun v2 D2 hq => by obtain ⟨e1, rfl⟩ := hq; cases e1; exact kk v _ h2) (fun n2 D2 hq => by cases hq.1)
  · exact r_callV (κ1 := κ) (κ2 := 0) (Ψ := fun o2 D2 => o2 = .inr n1 ∧ D2 = D1) hd hC hn hs hci ha hr hst hok hrest hfit hk (Nat.add_zero κ) hh hls (hR κ _ ⟨_, _, e, h1, rfl, rfl⟩) (fun v2 D2 hq => by cases hq.1) (fun n2 D2 hq => by obtain ⟨e1, rfl⟩ := hq; cases e1; exact hΦ)
theorem c_callVj {y' : YT} {as rest ls' : List PV} {a idx ci n N : Nat} {cs : List Nat} {TT : u_T} {z : Int}  {r : Res} {c : Int → DD → Res} (hd : decode (yB y) pc = .ok (.invokevirtual idx, 3)) (hC : CKV (yN y).cls idx y' n) (hn : as.length = n) (hs : SH.getD a (9, 0, []) = (0, ci, cs)) (hci : vwCl[ci]? = some ((yN y').cls, TT, N)) (ha : a < NA) (hr : rg a = true) (hst : st = as.reverse ++ (a + 8, z) :: rest) (hok : argok as = true) (hrest : (rest.map pcat).sum ≤ 8) (hfit : (lg_sl (((a + 8, z) :: as).map (mv Γ 0))).length ≤ yL y') (hk : yK y' < yK y) (hh : yH y = []) (hls : ent (yL y') ((a + 8, z) :: as) = ls') (hR : ∀ (κ' : Nat) (Ψ : OT → DD → Prop), WP (some .long) κ' Ψ r → Run Γ rg κ' y' 0 ls' [] D Ψ) (h : WP t κ Φ (bnd r c)) (kk : ∀ v D1, WP t κ Φ (c v D1) → Run Γ rg κ y (pc + 3) ls ((1, v) :: rest) D1 Φ) : Run Γ rg κ y pc ls st D Φ := by
  rcases bnd_case h with ⟨v, D1, e, h2⟩ | ⟨n1, D1, e, h1, hΦ⟩
  · exact r_callV (κ1 := 0) (κ2 := κ) (Ψ := fun o2 D2 => o2 = .inl (rvo (some .long) v) ∧ D2 = D1) hd hC hn hs hci ha hr hst hok hrest hfit hk (Nat.zero_add κ) hh hls (hR 0 _ ⟨_, _, e, Nat.le_refl _, rfl, rfl⟩) (fun v2 D2 hq => by obtain ⟨e1, rfl⟩ := hq; cases e1; exact kk v _ h2) (fun n2 D2 hq => by cases hq.1)
  · exact r_callV (κ1 := κ) (κ2 := 0) (Ψ := fun o2 D2 => o2 = .inr n1 ∧ D2 = D1) hd hC hn hs hci ha hr hst hok hrest hfit hk (Nat.add_zero κ) hh hls (hR κ _ ⟨_, _, e, h1, rfl, rfl⟩) (fun v2 D2 hq => by cases hq.1) (fun n2 D2 hq => by obtain ⟨e1, rfl⟩ := hq; cases e1; exact hΦ)
theorem c_callVPi {y' : YT} {as rest ls' : List PV} {a idx ci n N : Nat} {cs : List Nat} {TT : u_T} {z : Int} {x : Int} (hd : decode (yB y) pc = .ok (.invokevirtual idx, 3)) (hC : CKV (yN y).cls idx y' n) (hn : as.length = n) (hs : SH.getD a (9, 0, []) = (0, ci, cs)) (hci : vwCl[ci]? = some ((yN y').cls, TT, N)) (ha : a < NA) (hr : rg a = true) (hst : st = as.reverse ++ (a + 8, z) :: rest) (hok : argok as = true) (hrest : (rest.map pcat).sum ≤ 8) (hfit : (lg_sl (((a + 8, z) :: as).map (mv Γ 0))).length ≤ yL y') (hk : yK y' < yK y) (hh : yH y = []) (hls : ent (yL y') ((a + 8, z) :: as) = ls') (hR : ∀ (Ψ : OT → DD → Prop), Ψ (.inl (some (0, x))) D → Run Γ rg 0 y' 0 ls' [] D Ψ) (kk : Run Γ rg κ y (pc + 3) ls ((0, x) :: rest) D Φ) : Run Γ rg κ y pc ls st D Φ :=
  r_callV (κ1 := 0) (κ2 := κ) (Ψ := fun o2 D2 => o2 = .inl (some (0, x)) ∧ D2 = D) hd hC hn hs hci ha hr hst hok hrest hfit hk (Nat.zero_add κ) hh hls (hR _ ⟨rfl, rfl⟩) (fun v2 D2 hq => by obtain ⟨e1, rfl⟩ := hq; cases e1; exact kk) (fun n2 D2 hq => by cases hq.1)
theorem c_callVPj {y' : YT} {as rest ls' : List PV} {a idx ci n N : Nat} {cs : List Nat} {TT : u_T} {z : Int} {x : Int} (hd : decode (yB y) pc = .ok (.invokevirtual idx, 3)) (hC : CKV (yN y).cls idx y' n) (hn : as.length = n) (hs : SH.getD a (9, 0, []) = (0, ci, cs)) (hci : vwCl[ci]? = some ((yN y').cls, TT, N)) (ha : a < NA) (hr : rg a = true) (hst : st = as.reverse ++ (a + 8, z) :: rest) (hok : argok as = true) (hrest : (rest.map pcat).sum ≤ 8) (hfit : (lg_sl (((a + 8, z) :: as).map (mv Γ 0))).length ≤ yL y') (hk : yK y' < yK y) (hh : yH y = []) (hls : ent (yL y') ((a + 8, z) :: as) = ls') (hR : ∀ (Ψ : OT → DD → Prop), Ψ (.inl (some (1, x))) D → Run Γ rg 0 y' 0 ls' [] D Ψ) (kk : Run Γ rg κ y (pc + 3) ls ((1, x) :: rest) D Φ) : Run Γ rg κ y pc ls st D Φ :=
  r_callV (κ1 := 0) (κ2 := κ) (Ψ := fun o2 D2 => o2 = .inl (some (1, x)) ∧ D2 = D) hd hC hn hs hci ha hr hst hok hrest hfit hk (Nat.zero_add κ) hh hls (hR _ ⟨rfl, rfl⟩) (fun v2 D2 hq => by obtain ⟨e1, rfl⟩ := hq; cases e1; exact kk) (fun n2 D2 hq => by cases hq.1)
theorem c_callVD {β : Type} {G : β → Prop} {y' : YT} {as rest ls' : List PV} {a idx ci n N : Nat} {cs : List Nat} {TT : u_T} {z : Int} {E : DD} {c : DD → β} (hd : decode (yB y) pc = .ok (.invokevirtual idx, 3)) (hC : CKV (yN y).cls idx y' n) (hn : as.length = n) (hs : SH.getD a (9, 0, []) = (0, ci, cs)) (hci : vwCl[ci]? = some ((yN y').cls, TT, N)) (ha : a < NA) (hr : rg a = true) (hst : st = as.reverse ++ (a + 8, z) :: rest) (hok : argok as = true) (hrest : (rest.map pcat).sum ≤ 8) (hfit : (lg_sl (((a + 8, z) :: as).map (mv Γ 0))).length ≤ yL y') (hk : yK y' < yK y) (hh : yH y = []) (hls : ent (yL y') ((a + 8, z) :: as) = ls') (hR : ∀ (Ψ : OT → DD → Prop), WPD Ψ E → Run Γ rg 0 y' 0 ls' [] D Ψ) (h : G (gD E c)) (kk : ∀ D1, G (c D1) → Run Γ rg κ y (pc + 3) ls rest D1 Φ) : Run Γ rg κ y pc ls st D Φ :=
  r_callV (κ1 := 0) (κ2 := κ) (Ψ := fun o2 D2 => o2 = .inl none ∧ D2 = E) hd hC hn hs hci ha hr hst hok hrest hfit hk (Nat.zero_add κ) hh hls (hR _ ⟨rfl, rfl⟩) (fun v2 D2 hq => by obtain ⟨e1, rfl⟩ := hq; cases e1; exact kk _ h) (fun n2 D2 hq => by cases hq.1)
theorem c_callSi {y' : YT} {as rest ls' : List PV} {idx n : Nat} {t' : Option FieldType} {r : Res} {c : Int → DD → Res} (hd : decode (yB y) pc = .ok (.invokestatic idx, 3)) (hC : CKS (yN y).cls idx y' n) (hn : as.length = n) (hst : st = as.reverse ++ rest) (hok : argok as = true) (hrest : (rest.map pcat).sum ≤ 8) (hfit : (lg_sl (as.map (mv Γ 0))).length ≤ yL y') (hk : yK y' < yK y) (hh : yH y = []) (hls : ent (yL y') as = ls') (ht' : ∀ v, rvo t' v = some (0, v)) (hR : ∀ (κ' : Nat) (Ψ : OT → DD → Prop), WP t' κ' Ψ r → Run Γ rg κ' y' 0 ls' [] D Ψ) (h : WP t κ Φ (bnd r c)) (kk : ∀ v D1, WP t κ Φ (c v D1) → Run Γ rg κ y (pc + 3) ls ((0, v) :: rest) D1 Φ) : Run Γ rg κ y pc ls st D Φ := by
  rcases bnd_case h with ⟨v, D1, e, h2⟩ | ⟨n1, D1, e, h1, hΦ⟩
  · exact r_callS (κ1 := 0) (κ2 := κ) (Ψ := fun o2 D2 => o2 = .inl (rvo t' v) ∧ D2 = D1) hd hC hn hst hok hrest hfit hk (Nat.zero_add κ) hh hls (hR 0 _ ⟨_, _, e, Nat.le_refl _, rfl, rfl⟩) (fun v2 D2 hq => by obtain ⟨e1, rfl⟩ := hq; rw [ht'] at e1; cases e1; exact kk v _ h2) (fun n2 D2 hq => by cases hq.1)
  · exact r_callS (κ1 := κ) (κ2 := 0) (Ψ := fun o2 D2 => o2 = .inr n1 ∧ D2 = D1) hd hC hn hst hok hrest hfit hk (Nat.add_zero κ) hh hls (hR κ _ ⟨_, _, e, h1, rfl, rfl⟩) (fun v2 D2 hq => by cases hq.1) (fun n2 D2 hq => by obtain ⟨e1, rfl⟩ := hq; cases e1; exact hΦ)
theorem c_callSv {y' : YT} {as rest ls' : List PV} {idx n : Nat}  {r : Res} {c : Int → DD → Res} (hd : decode (yB y) pc = .ok (.invokestatic idx, 3)) (hC : CKS (yN y).cls idx y' n) (hn : as.length = n) (hst : st = as.reverse ++ rest) (hok : argok as = true) (hrest : (rest.map pcat).sum ≤ 8) (hfit : (lg_sl (as.map (mv Γ 0))).length ≤ yL y') (hk : yK y' < yK y) (hh : yH y = []) (hls : ent (yL y') as = ls') (hR : ∀ (κ' : Nat) (Ψ : OT → DD → Prop), WP none κ' Ψ r → Run Γ rg κ' y' 0 ls' [] D Ψ) (h : WP t κ Φ (bnd r c)) (kk : ∀ v D1, WP t κ Φ (c v D1) → Run Γ rg κ y (pc + 3) ls (rest) D1 Φ) : Run Γ rg κ y pc ls st D Φ := by
  rcases bnd_case h with ⟨v, D1, e, h2⟩ | ⟨n1, D1, e, h1, hΦ⟩
  · exact r_callS (κ1 := 0) (κ2 := κ) (Ψ := fun o2 D2 => o2 = .inl (rvo none v) ∧ D2 = D1) hd hC hn hst hok hrest hfit hk (Nat.zero_add κ) hh hls (hR 0 _ ⟨_, _, e, Nat.le_refl _, rfl, rfl⟩) (fun v2 D2 hq => by obtain ⟨e1, rfl⟩ := hq; cases e1; exact kk v _ h2) (fun n2 D2 hq => by cases hq.1)
  · exact r_callS (κ1 := κ) (κ2 := 0) (Ψ := fun o2 D2 => o2 = .inr n1 ∧ D2 = D1) hd hC hn hst hok hrest hfit hk (Nat.add_zero κ) hh hls (hR κ _ ⟨_, _, e, h1, rfl, rfl⟩) (fun v2 D2 hq => by cases hq.1) (fun n2 D2 hq => by obtain ⟨e1, rfl⟩ := hq; cases e1; exact hΦ)
theorem c_callSj {y' : YT} {as rest ls' : List PV} {idx n : Nat}  {r : Res} {c : Int → DD → Res} (hd : decode (yB y) pc = .ok (.invokestatic idx, 3)) (hC : CKS (yN y).cls idx y' n) (hn : as.length = n) (hst : st = as.reverse ++ rest) (hok : argok as = true) (hrest : (rest.map pcat).sum ≤ 8) (hfit : (lg_sl (as.map (mv Γ 0))).length ≤ yL y') (hk : yK y' < yK y) (hh : yH y = []) (hls : ent (yL y') as = ls') (hR : ∀ (κ' : Nat) (Ψ : OT → DD → Prop), WP (some .long) κ' Ψ r → Run Γ rg κ' y' 0 ls' [] D Ψ) (h : WP t κ Φ (bnd r c)) (kk : ∀ v D1, WP t κ Φ (c v D1) → Run Γ rg κ y (pc + 3) ls ((1, v) :: rest) D1 Φ) : Run Γ rg κ y pc ls st D Φ := by
  rcases bnd_case h with ⟨v, D1, e, h2⟩ | ⟨n1, D1, e, h1, hΦ⟩
  · exact r_callS (κ1 := 0) (κ2 := κ) (Ψ := fun o2 D2 => o2 = .inl (rvo (some .long) v) ∧ D2 = D1) hd hC hn hst hok hrest hfit hk (Nat.zero_add κ) hh hls (hR 0 _ ⟨_, _, e, Nat.le_refl _, rfl, rfl⟩) (fun v2 D2 hq => by obtain ⟨e1, rfl⟩ := hq; cases e1; exact kk v _ h2) (fun n2 D2 hq => by cases hq.1)
  · exact r_callS (κ1 := κ) (κ2 := 0) (Ψ := fun o2 D2 => o2 = .inr n1 ∧ D2 = D1) hd hC hn hst hok hrest hfit hk (Nat.add_zero κ) hh hls (hR κ _ ⟨_, _, e, h1, rfl, rfl⟩) (fun v2 D2 hq => by cases hq.1) (fun n2 D2 hq => by obtain ⟨e1, rfl⟩ := hq; cases e1; exact hΦ)
theorem c_callSPi {y' : YT} {as rest ls' : List PV} {idx n : Nat} {x : Int} (hd : decode (yB y) pc = .ok (.invokestatic idx, 3)) (hC : CKS (yN y).cls idx y' n) (hn : as.length = n) (hst : st = as.reverse ++ rest) (hok : argok as = true) (hrest : (rest.map pcat).sum ≤ 8) (hfit : (lg_sl (as.map (mv Γ 0))).length ≤ yL y') (hk : yK y' < yK y) (hh : yH y = []) (hls : ent (yL y') as = ls') (hR : ∀ (Ψ : OT → DD → Prop), Ψ (.inl (some (0, x))) D → Run Γ rg 0 y' 0 ls' [] D Ψ) (kk : Run Γ rg κ y (pc + 3) ls ((0, x) :: rest) D Φ) : Run Γ rg κ y pc ls st D Φ :=
  r_callS (κ1 := 0) (κ2 := κ) (Ψ := fun o2 D2 => o2 = .inl (some (0, x)) ∧ D2 = D) hd hC hn hst hok hrest hfit hk (Nat.zero_add κ) hh hls (hR _ ⟨rfl, rfl⟩) (fun v2 D2 hq => by obtain ⟨e1, rfl⟩ := hq; cases e1; exact kk) (fun n2 D2 hq => by cases hq.1)
theorem c_callSPj {y' : YT} {as rest ls' : List PV} {idx n : Nat} {x : Int} (hd : decode (yB y) pc = .ok (.invokestatic idx, 3)) (hC : CKS (yN y).cls idx y' n) (hn : as.length = n) (hst : st = as.reverse ++ rest) (hok : argok as = true) (hrest : (rest.map pcat).sum ≤ 8) (hfit : (lg_sl (as.map (mv Γ 0))).length ≤ yL y') (hk : yK y' < yK y) (hh : yH y = []) (hls : ent (yL y') as = ls') (hR : ∀ (Ψ : OT → DD → Prop), Ψ (.inl (some (1, x))) D → Run Γ rg 0 y' 0 ls' [] D Ψ) (kk : Run Γ rg κ y (pc + 3) ls ((1, x) :: rest) D Φ) : Run Γ rg κ y pc ls st D Φ :=
  r_callS (κ1 := 0) (κ2 := κ) (Ψ := fun o2 D2 => o2 = .inl (some (1, x)) ∧ D2 = D) hd hC hn hst hok hrest hfit hk (Nat.zero_add κ) hh hls (hR _ ⟨rfl, rfl⟩) (fun v2 D2 hq => by obtain ⟨e1, rfl⟩ := hq; cases e1; exact kk) (fun n2 D2 hq => by cases hq.1)
theorem c_callSD {β : Type} {G : β → Prop} {y' : YT} {as rest ls' : List PV} {idx n : Nat} {E : DD} {c : DD → β} (hd : decode (yB y) pc = .ok (.invokestatic idx, 3)) (hC : CKS (yN y).cls idx y' n) (hn : as.length = n) (hst : st = as.reverse ++ rest) (hok : argok as = true) (hrest : (rest.map pcat).sum ≤ 8) (hfit : (lg_sl (as.map (mv Γ 0))).length ≤ yL y') (hk : yK y' < yK y) (hh : yH y = []) (hls : ent (yL y') as = ls') (hR : ∀ (Ψ : OT → DD → Prop), WPD Ψ E → Run Γ rg 0 y' 0 ls' [] D Ψ) (h : G (gD E c)) (kk : ∀ D1, G (c D1) → Run Γ rg κ y (pc + 3) ls rest D1 Φ) : Run Γ rg κ y pc ls st D Φ :=
  r_callS (κ1 := 0) (κ2 := κ) (Ψ := fun o2 D2 => o2 = .inl none ∧ D2 = E) hd hC hn hst hok hrest hfit hk (Nat.zero_add κ) hh hls (hR _ ⟨rfl, rfl⟩) (fun v2 D2 hq => by obtain ⟨e1, rfl⟩ := hq; cases e1; exact kk _ h) (fun n2 D2 hq => by cases hq.1)
theorem c_callNi {y' : YT} {as rest ls' : List PV} {idx n : Nat} {t' : Option FieldType} {r : Res} {c : Int → DD → Res} (hd : decode (yB y) pc = .ok (.invokestatic idx, 3)) (hC : CKN (yN y).cls idx y' n) (hn : as.length = n) (hst : st = as.reverse ++ rest) (hok : argok as = true) (hrest : (rest.map pcat).sum ≤ 8) (hfit : (lg_sl (as.map (mv Γ 0))).length ≤ yL y') (hk : yK y' < yK y) (hh : yH y = []) (hls : ent (yL y') as = ls') (ht' : ∀ v, rvo t' v = some (0, v)) (hR : ∀ (κ' : Nat) (Ψ : OT → DD → Prop), WP t' κ' Ψ r → Run Γ rg κ' y' 0 ls' [] D Ψ) (h : WP t κ Φ (bnd r c)) (kk : ∀ v D1, WP t κ Φ (c v D1) → Run Γ rg κ y (pc + 3) ls ((0, v) :: rest) D1 Φ) : Run Γ rg κ y pc ls st D Φ := by
  rcases bnd_case h with ⟨v, D1, e, h2⟩ | ⟨n1, D1, e, h1, hΦ⟩
  · exact r_callN (κ1 := 0) (κ2 := κ) (Ψ := fun o2 D2 => o2 = .inl (rvo t' v) ∧ D2 = D1) hd hC hn hst hok hrest hfit hk (Nat.zero_add κ) hh hls (hR 0 _ ⟨_, _, e, Nat.le_refl _, rfl, rfl⟩) (fun v2 D2 hq => by obtain ⟨e1, rfl⟩ := hq; rw [ht'] at e1; cases e1; exact kk v _ h2) (fun n2 D2 hq => by cases hq.1)
  · exact r_callN (κ1 := κ) (κ2 := 0) (Ψ := fun o2 D2 => o2 = .inr n1 ∧ D2 = D1) hd hC hn hst hok hrest hfit hk (Nat.add_zero κ) hh hls (hR κ _ ⟨_, _, e, h1, rfl, rfl⟩) (fun v2 D2 hq => by cases hq.1) (fun n2 D2 hq => by obtain ⟨e1, rfl⟩ := hq; cases e1; exact hΦ)
theorem c_callNv {y' : YT} {as rest ls' : List PV} {idx n : Nat}  {r : Res} {c : Int → DD → Res} (hd : decode (yB y) pc = .ok (.invokestatic idx, 3)) (hC : CKN (yN y).cls idx y' n) (hn : as.length = n) (hst : st = as.reverse ++ rest) (hok : argok as = true) (hrest : (rest.map pcat).sum ≤ 8) (hfit : (lg_sl (as.map (mv Γ 0))).length ≤ yL y') (hk : yK y' < yK y) (hh : yH y = []) (hls : ent (yL y') as = ls') (hR : ∀ (κ' : Nat) (Ψ : OT → DD → Prop), WP none κ' Ψ r → Run Γ rg κ' y' 0 ls' [] D Ψ) (h : WP t κ Φ (bnd r c)) (kk : ∀ v D1, WP t κ Φ (c v D1) → Run Γ rg κ y (pc + 3) ls (rest) D1 Φ) : Run Γ rg κ y pc ls st D Φ := by
  rcases bnd_case h with ⟨v, D1, e, h2⟩ | ⟨n1, D1, e, h1, hΦ⟩
  · exact r_callN (κ1 := 0) (κ2 := κ) (Ψ := fun o2 D2 => o2 = .inl (rvo none v) ∧ D2 = D1) hd hC hn hst hok hrest hfit hk (Nat.zero_add κ) hh hls (hR 0 _ ⟨_, _, e, Nat.le_refl _, rfl, rfl⟩) (fun v2 D2 hq => by obtain ⟨e1, rfl⟩ := hq; cases e1; exact kk v _ h2) (fun n2 D2 hq => by cases hq.1)
  · exact r_callN (κ1 := κ) (κ2 := 0) (Ψ := fun o2 D2 => o2 = .inr n1 ∧ D2 = D1) hd hC hn hst hok hrest hfit hk (Nat.add_zero κ) hh hls (hR κ _ ⟨_, _, e, h1, rfl, rfl⟩) (fun v2 D2 hq => by cases hq.1) (fun n2 D2 hq => by obtain ⟨e1, rfl⟩ := hq; cases e1; exact hΦ)
theorem c_callNj {y' : YT} {as rest ls' : List PV} {idx n : Nat}  {r : Res} {c : Int → DD → Res} (hd : decode (yB y) pc = .ok (.invokestatic idx, 3)) (hC : CKN (yN y).cls idx y' n) (hn : as.length = n) (hst : st = as.reverse ++ rest) (hok : argok as = true) (hrest : (rest.map pcat).sum ≤ 8) (hfit : (lg_sl (as.map (mv Γ 0))).length ≤ yL y') (hk : yK y' < yK y) (hh : yH y = []) (hls : ent (yL y') as = ls') (hR : ∀ (κ' : Nat) (Ψ : OT → DD → Prop), WP (some .long) κ' Ψ r → Run Γ rg κ' y' 0 ls' [] D Ψ) (h : WP t κ Φ (bnd r c)) (kk : ∀ v D1, WP t κ Φ (c v D1) → Run Γ rg κ y (pc + 3) ls ((1, v) :: rest) D1 Φ) : Run Γ rg κ y pc ls st D Φ := by
  rcases bnd_case h with ⟨v, D1, e, h2⟩ | ⟨n1, D1, e, h1, hΦ⟩
  · exact r_callN (κ1 := 0) (κ2 := κ) (Ψ := fun o2 D2 => o2 = .inl (rvo (some .long) v) ∧ D2 = D1) hd hC hn hst hok hrest hfit hk (Nat.zero_add κ) hh hls (hR 0 _ ⟨_, _, e, Nat.le_refl _, rfl, rfl⟩) (fun v2 D2 hq => by obtain ⟨e1, rfl⟩ := hq; cases e1; exact kk v _ h2) (fun n2 D2 hq => by cases hq.1)
  · exact r_callN (κ1 := κ) (κ2 := 0) (Ψ := fun o2 D2 => o2 = .inr n1 ∧ D2 = D1) hd hC hn hst hok hrest hfit hk (Nat.add_zero κ) hh hls (hR κ _ ⟨_, _, e, h1, rfl, rfl⟩) (fun v2 D2 hq => by cases hq.1) (fun n2 D2 hq => by obtain ⟨e1, rfl⟩ := hq; cases e1; exact hΦ)
theorem c_callNPi {y' : YT} {as rest ls' : List PV} {idx n : Nat} {x : Int} (hd : decode (yB y) pc = .ok (.invokestatic idx, 3)) (hC : CKN (yN y).cls idx y' n) (hn : as.length = n) (hst : st = as.reverse ++ rest) (hok : argok as = true) (hrest : (rest.map pcat).sum ≤ 8) (hfit : (lg_sl (as.map (mv Γ 0))).length ≤ yL y') (hk : yK y' < yK y) (hh : yH y = []) (hls : ent (yL y') as = ls') (hR : ∀ (Ψ : OT → DD → Prop), Ψ (.inl (some (0, x))) D → Run Γ rg 0 y' 0 ls' [] D Ψ) (kk : Run Γ rg κ y (pc + 3) ls ((0, x) :: rest) D Φ) : Run Γ rg κ y pc ls st D Φ :=
  r_callN (κ1 := 0) (κ2 := κ) (Ψ := fun o2 D2 => o2 = .inl (some (0, x)) ∧ D2 = D) hd hC hn hst hok hrest hfit hk (Nat.zero_add κ) hh hls (hR _ ⟨rfl, rfl⟩) (fun v2 D2 hq => by obtain ⟨e1, rfl⟩ := hq; cases e1; exact kk) (fun n2 D2 hq => by cases hq.1)
theorem c_callNPj {y' : YT} {as rest ls' : List PV} {idx n : Nat} {x : Int} (hd : decode (yB y) pc = .ok (.invokestatic idx, 3)) (hC : CKN (yN y).cls idx y' n) (hn : as.length = n) (hst : st = as.reverse ++ rest) (hok : argok as = true) (hrest : (rest.map pcat).sum ≤ 8) (hfit : (lg_sl (as.map (mv Γ 0))).length ≤ yL y') (hk : yK y' < yK y) (hh : yH y = []) (hls : ent (yL y') as = ls') (hR : ∀ (Ψ : OT → DD → Prop), Ψ (.inl (some (1, x))) D → Run Γ rg 0 y' 0 ls' [] D Ψ) (kk : Run Γ rg κ y (pc + 3) ls ((1, x) :: rest) D Φ) : Run Γ rg κ y pc ls st D Φ :=
  r_callN (κ1 := 0) (κ2 := κ) (Ψ := fun o2 D2 => o2 = .inl (some (1, x)) ∧ D2 = D) hd hC hn hst hok hrest hfit hk (Nat.zero_add κ) hh hls (hR _ ⟨rfl, rfl⟩) (fun v2 D2 hq => by obtain ⟨e1, rfl⟩ := hq; cases e1; exact kk) (fun n2 D2 hq => by cases hq.1)
theorem c_callND {β : Type} {G : β → Prop} {y' : YT} {as rest ls' : List PV} {idx n : Nat} {E : DD} {c : DD → β} (hd : decode (yB y) pc = .ok (.invokestatic idx, 3)) (hC : CKN (yN y).cls idx y' n) (hn : as.length = n) (hst : st = as.reverse ++ rest) (hok : argok as = true) (hrest : (rest.map pcat).sum ≤ 8) (hfit : (lg_sl (as.map (mv Γ 0))).length ≤ yL y') (hk : yK y' < yK y) (hh : yH y = []) (hls : ent (yL y') as = ls') (hR : ∀ (Ψ : OT → DD → Prop), WPD Ψ E → Run Γ rg 0 y' 0 ls' [] D Ψ) (h : G (gD E c)) (kk : ∀ D1, G (c D1) → Run Γ rg κ y (pc + 3) ls rest D1 Φ) : Run Γ rg κ y pc ls st D Φ :=
  r_callN (κ1 := 0) (κ2 := κ) (Ψ := fun o2 D2 => o2 = .inl none ∧ D2 = E) hd hC hn hst hok hrest hfit hk (Nat.zero_add κ) hh hls (hR _ ⟨rfl, rfl⟩) (fun v2 D2 hq => by obtain ⟨e1, rfl⟩ := hq; cases e1; exact kk _ h) (fun n2 D2 hq => by cases hq.1)
theorem c_callHi {y' : YT} {as rest ls' : List PV} {idx n : Nat} {n0 : Nat} {r : Res} {c : Int → DD → Res} (hd : decode (yB y) pc = .ok (.invokestatic idx, 3)) (hC : CKH (yN y).cls idx y' n) (hn : as.length = n) (hst : st = as.reverse ++ rest) (hok : argok as = true) (hrest : (rest.map pcat).sum ≤ 8) (hfit : (lg_sl (as.map (mv Γ 0))).length ≤ yL y') (hk : yK y' < yK y) (hh : yH y = []) (hls : ent (yL y') as = ls') (hR : ∀ (Ψ : OT → DD → Prop), WP (some .int) 0 Ψ r → Run Γ rg 1 y' 0 ls' [] D Ψ) (h : WP t 0 Φ (bnd r c)) (kk : ∀ v D1, WP t 0 Φ (c v D1) → Run Γ rg n0 y (pc + 3) ls ((0, v) :: rest) D1 Φ) : Run Γ rg (n0 + 1) y pc ls st D Φ := by
  rcases bnd_case h with ⟨v, D1, e, h2⟩ | ⟨n1, D1, e, h1, hΦ⟩
  · exact r_callH (κ1 := 1) (κ2 := n0) (Ψ := fun o2 D2 => o2 = .inl (rvo (some .int) v) ∧ D2 = D1) hd hC hn hst hok hrest hfit hk (Nat.add_comm 1 n0) hh hls (hR _ ⟨_, _, e, Nat.le_refl _, rfl, rfl⟩) (fun v2 D2 hq => by obtain ⟨e1, rfl⟩ := hq; cases e1; exact kk v _ h2) (fun n2 D2 hq => by cases hq.1)
  · exact absurd h1 (by decide)
theorem c_callCi {y' : YT} {as rest ls' : List PV} {a idx ci n N : Nat} {cs : List Nat} {TT : u_T} {z : Int} {t' : Option FieldType} {r : Res} {c : Int → DD → Res} {g : Nat → DD → Res} (hd : decode (yB y) pc = .ok (.invokevirtual idx, 3)) (hC : CKV (yN y).cls idx y' n) (hn : as.length = n) (hs : SH.getD a (9, 0, []) = (0, ci, cs)) (hci : vwCl[ci]? = some ((yN y').cls, TT, N)) (ha : a < NA) (hr : rg a = true) (hst : st = as.reverse ++ (a + 8, z) :: rest) (hok : argok as = true) (hrest : (rest.map pcat).sum ≤ 8) (hfit : (lg_sl (((a + 8, z) :: as).map (mv Γ 0))).length ≤ yL y') (hk : yK y' < yK y) (hls : ent (yL y') ((a + 8, z) :: as) = ls') (hv : ls.all (fun v => v.1 != 4 && v.1 != 6 && v.1 != 2) = true) (ht' : ∀ v, rvo t' v = some (0, v)) (hR : ∀ (κ' : Nat) (Ψ : OT → DD → Prop), WP t' κ' Ψ r → Run Γ rg κ' y' 0 ls' [] D Ψ) (h : WP t 0 Φ (ctc r c g)) (kk : ∀ v D1, WP t 0 Φ (c v D1) → Run Γ rg 0 y (pc + 3) ls ((0, v) :: rest) D1 Φ) (kh : ∀ n D1, WP t 0 Φ (g n D1) → ∃ hpc, HK y pc n hpc ∧ Run Γ rg 0 y hpc ls [(4, 0)] D1 Φ) : Run Γ rg 1 y pc ls st D Φ := by
  rcases ctc_case h with ⟨v, D1, e, h2⟩ | ⟨n1, D1, e, h2⟩
  · exact r_callC (κ1 := 1) (κ2 := 0) (Ψ := fun o2 D2 => o2 = .inl (rvo t' v) ∧ D2 = D1) hd hC hn hs hci ha hr hst hok hrest hfit hk rfl hls hv (hR 1 _ ⟨_, _, e, Nat.zero_le _, rfl, rfl⟩) (fun v2 D2 hq => by obtain ⟨e1, rfl⟩ := hq; rw [ht'] at e1; cases e1; exact kk v _ h2) (fun n2 D2 _ hq => by cases hq.1)
  · exact r_callC (κ1 := 1) (κ2 := 0) (Ψ := fun o2 D2 => o2 = .inr n1 ∧ D2 = D1) hd hC hn hs hci ha hr hst hok hrest hfit hk rfl hls hv (hR 1 _ ⟨_, _, e, Nat.le_refl _, rfl, rfl⟩) (fun v2 D2 hq => by cases hq.1) (fun n2 D2 _ hq => by obtain ⟨e1, rfl⟩ := hq; cases e1; exact kh _ _ h2)
end CC
