/-! flush, write, log, crash -/
section FLUSH
variable {Dc Dm Dc' Dm' : DD} {m n : Int}
/-- the flush, the last whole one, the logs, and the images -/
def Fl (Dc Dm : DD) (n : Int) : Prop :=
  (Dc 20 6 = Dm 32 32 ∧ (Dm 32 32 = 0 ∨ Dm 32 32 = 1)) ∧ (Dc 20 5 = Dm 32 33 ∧ 0 ≤ Dm 32 33 ∧ Dm 32 33 ≤ n) ∧ (∀ i, 0 ≤ i → i < 2 → Rz 2 31 Dc i = Rz 2 64 Dm i) ∧ Tr (cI 21 Dc) (mI 2 Dm) ∧
  (Dm 32 32 = 1 → Tr (cI 26 Dc) (mI 1 Dm) ∧ (Dc 20 4 = Dm 32 34 ∧ 0 ≤ Dm 32 34) ∧ (Dc 20 3 = Dm 32 35 ∧ 0 ≤ Dm 32 35 ∧ Dm 32 35 ≤ 64) ∧ Dm 32 34 < 2 * Dm 32 35 + 4)
theorem cI_eq {D D' : DD} {o : Nat} (h : ∀ b, 20 ≤ b → D' b = D b) (ho : 20 ≤ o) : cI o D' = cI o D := by
  funext b
  unfold cI
  rw [h o ho, h (o + 1) (by omega), h (o + 2) (by omega), h (o + 3) (by omega), h (o + 4) (by omega)]
theorem Tr.mm {C M M' : DD} (h : Tr C M) (hm : ∀ a k, 33 ≤ a → a ≤ 57 → k < lenA a → M' a k = M a k) : Tr C M' := h.pre rfl rfl (fun _ => rfl) (fun _ => rfl) (fun _ => rfl) (fun _ => rfl) hm
theorem Fl.frame (h : Fl Dc Dm n) (hc : Oc Dc Dc') (hm : Om Dm Dm') : Fl Dc' Dm' n := by
  obtain ⟨h1, h2, h3, h4, h5⟩ := h
  have e32 := hm.2.1 32 (by decide) (by decide)
  have e33 := hm.2.1 33 (by decide) (by decide)
  have e34 := hm.2.1 34 (by decide) (by decide)
  have e35 := hm.2.1 35 (by decide) (by decide)
  have e20 := hc 20 (by decide)
  unfold Fl
  rw [e32, e33, e34, e35, e20, cI_eq hc (by decide), cI_eq hc (by decide)]
  refine ⟨h1, h2, fun i a b => ?_, h4.mm (mI_hi hm.2.2 (by decide)), fun z => ?_⟩
  · rw [R_cg (hc 31 (by decide)), R_cg (hm.1 64 (by decide))]
    exact h3 i a b
  · obtain ⟨z1, z2⟩ := h5 z
    exact ⟨z1.mm (mI_hi hm.2.2 (by decide)), z2⟩
/-- what any call must do -/
def OkF (L : List (Nat × Int)) (Dc Dm : DD) (m n : Int) (rc rm : Res) : Prop :=
  ∃ Dc' Dm' v, rm = okR v Dm' ∧ (Tr Dc' Dm' ∧ Dy Dc' Dm' ∧ Wt Dc' Dm' (m + 80)) ∧ Fl Dc' Dm' (n + 1) ∧ (∀ b, 32 ≤ b → Dc' b = Dc b) ∧ (∀ b, b < 32 ∨ 68 ≤ b → Dm' b = Dm b) ∧ ((rc = okR v Dc' ∧ Dm' 32 42 = 0) ∨ ∃ e, e ∈ L ∧ rc = erR e.1 Dc' ∧ Dm' 32 42 = e.2)
theorem Fl.mono (h : Fl Dc Dm n) : Fl Dc Dm (n + 1) := ⟨h.1, ⟨h.2.1.1, h.2.1.2.1, by have := h.2.1.2.2; omega⟩, h.2.2⟩
theorem Ok.okF {L : List (Nat × Int)} {rc rm : Res} (h : Ok L Dc Dm m rc rm) (hf : Fl Dc Dm n) : OkF L Dc Dm m n rc rm := by
  obtain ⟨Dc', Dm', v, h1, h2, h3, h4, h5⟩ := h
  exact ⟨Dc', Dm', v, h1, h2, (hf.frame h3 h4).mono, fun b hb => h3 b (by omega), fun b hb => h4.1 b (by omega), h5⟩
theorem ones_loop {D : DD} : ∀ (f : Nat) (acc a : Int), 0 ≤ a → a ≤ 64 → (64 - a).toNat < f → pM_dirtyOnes_4 f acc a D = okR (acc + (sm (fun t => if w32 (Rz 64 58 D t) = 0 then 0 else 1) 64 - sm (fun t => if w32 (Rz 64 58 D t) = 0 then 0 else 1) a)) D := by
  intro f
  induction f with
  | zero => intro acc a h1 h2 h3; omega
  | succ f ih =>
    intro acc a h1 h2 h3
    rw [pM_dirtyOnes_4, w32_of (z := a) (by omega)]
    by_cases z : a < 64
    · rw [if_pos z, rdA_R (by omega)]
      simp only [jnR, ltR]
      have s := sm_s (f := fun t => if w32 (Rz 64 58 D t) = 0 then (0 : Int) else 1) h1
      by_cases y : w32 (Rz 64 58 D a) = 0
      · rw [if_pos y, ih _ (a + 1) (by omega) (by omega) (by omega), s, if_pos y]
        congr 1
        omega
      · rw [if_neg y, ih _ (a + 1) (by omega) (by omega) (by omega), s, if_neg y]
        congr 1
        omega
    · rw [if_neg z, show a = 64 by omega, Int.sub_self, Int.add_zero]
theorem ones_m {D : DD} : pM_dirtyOnes D = okR (sm (fun t => if w32 (Rz 64 58 D t) = 0 then 0 else 1) 64) D := by
  unfold pM_dirtyOnes
  rw [ones_loop fu 0 0 (Int.le_refl _) (by omega) (fu_gt (by omega)), sm_0, Int.sub_zero, Int.zero_add]
theorem cleans_loop : ∀ (f : Nat) (a : Int) (D : DD), 0 ≤ a → a ≤ 64 → (64 - a).toNat < f → ∃ D', pM_cleans_2 f a D = okR 0 D' ∧ (∀ b, b ≠ 58 → D' b = D b) ∧ ∀ u, Rz 64 58 D' u = if a ≤ u ∧ u < 64 then 0 else Rz 64 58 D u := by
  intro f
  induction f with
  | zero => intro a D h1 h2 h3; omega
  | succ f ih =>
    intro a D h1 h2 h3
    rw [pM_cleans_2, w32_of (z := a) (by omega)]
    by_cases z : a < 64
    · obtain ⟨D', k1, k2, k3⟩ := ih (a + 1) (Tz 64 58 D a 0) (by omega) (by omega) (by omega)
      refine ⟨D', ?_, fun b hb => (k2 b hb).trans (T_ot hb), fun u => ?_⟩
      · rw [if_pos z, wrZ_T (by omega) (Or.inl rfl)]
        exact k1
      · rw [k3, R_T]
        by_cases y : u = a
        · rw [if_neg (by omega), if_pos ⟨by omega, y⟩, if_pos (by omega)]
        · by_cases y2 : a + 1 ≤ u ∧ u < 64
          · rw [if_pos y2, if_pos (by omega)]
          · rw [if_neg y2, if_neg (fun w => y w.2), if_neg (by omega)]
    · exact ⟨D, by rw [if_neg z], fun _ _ => rfl, fun u => by rw [if_neg (by omega)]⟩
theorem cleans_m (D : DD) : ∃ D', pM_cleans D = okR 0 D' ∧ (∀ b, b ≠ 58 → D' b = D b) ∧ ∀ t, 0 ≤ t → t < 64 → Rz 64 58 D' t = 0 := by
  obtain ⟨D', k1, k2, k3⟩ := cleans_loop fu 0 D (Int.le_refl _) (by omega) (fu_gt (by omega))
  exact ⟨D', k1, k2, fun t a b => by rw [k3, if_pos ⟨a, b⟩]⟩
/-- the class's copies of an image -/
def Ci (o q : Nat) (D D' : DD) : Prop := (∀ b, b ≠ q → b ≠ q + 1 → b ≠ q + 2 → b ≠ q + 3 → b ≠ q + 4 → D' b = D b) ∧ (∀ k, k ≠ 4 → k ≠ 5 → D' q k = D q k) ∧ D' q 4 = D o 4 ∧ D' q 5 = D o 5
theorem cp_26_2 (D : DD) : Ci 2 26 D (pI_copyFrom_26_2 D) ∧ (∀ i, Rz 1024 27 (pI_copyFrom_26_2 D) i = Rz 1024 3 D i) ∧ (∀ i, Rz 1024 28 (pI_copyFrom_26_2 D) i = Rz 1024 4 D i) ∧ (∀ i, Rz 80 29 (pI_copyFrom_26_2 D) i = Rz 80 5 D i) ∧ ∀ i, Rz 256 30 (pI_copyFrom_26_2 D) i = Rz 256 6 D i := by
  unfold pI_copyFrom_26_2
  simp only [gD]
  refine ⟨⟨fun b h1 h2 h3 h4 h5 => ?_, fun k h1 h2 => ?_, ?_, ?_⟩, fun i => ?_, fun i => ?_, fun i => ?_, fun i => ?_⟩
  · rw [up2_ot h1, up2_ot h1, cpy_ot h5, cpy_ot h4, cpy_ot h3, cpy_ot h2]
  · rw [up2_nk h2, up2_nk h1, cpy_ot (by decide), cpy_ot (by decide), cpy_ot (by decide), cpy_ot (by decide)]
  · rw [up2_nk (by decide), up2_eq, cpy_ot (by decide), cpy_ot (by decide), cpy_ot (by decide), cpy_ot (by decide)]
  · rw [up2_eq, up2_ot (by decide), cpy_ot (by decide), cpy_ot (by decide), cpy_ot (by decide), cpy_ot (by decide)]
  · rw [R_up2_ot (by decide), R_up2_ot (by decide), R_cg (cpy_ot (by decide)), R_cg (cpy_ot (by decide)), R_cg (cpy_ot (by decide)), R_cpy]
  · rw [R_up2_ot (by decide), R_up2_ot (by decide), R_cg (cpy_ot (by decide)), R_cg (cpy_ot (by decide)), R_cpy, R_cg (cpy_ot (by decide))]
  · rw [R_up2_ot (by decide), R_up2_ot (by decide), R_cg (cpy_ot (by decide)), R_cpy, R_cg (cpy_ot (by decide)), R_cg (cpy_ot (by decide))]
  · rw [R_up2_ot (by decide), R_up2_ot (by decide), R_cpy, R_cg (cpy_ot (by decide)), R_cg (cpy_ot (by decide)), R_cg (cpy_ot (by decide))]
theorem cp_21_26 (D : DD) : Ci 26 21 D (pI_copyFrom_21_26 D) ∧ (∀ i, Rz 1024 22 (pI_copyFrom_21_26 D) i = Rz 1024 27 D i) ∧ (∀ i, Rz 1024 23 (pI_copyFrom_21_26 D) i = Rz 1024 28 D i) ∧ (∀ i, Rz 80 24 (pI_copyFrom_21_26 D) i = Rz 80 29 D i) ∧ ∀ i, Rz 256 25 (pI_copyFrom_21_26 D) i = Rz 256 30 D i := by
  unfold pI_copyFrom_21_26
  simp only [gD]
  refine ⟨⟨fun b h1 h2 h3 h4 h5 => ?_, fun k h1 h2 => ?_, ?_, ?_⟩, fun i => ?_, fun i => ?_, fun i => ?_, fun i => ?_⟩
  · rw [up2_ot h1, up2_ot h1, cpy_ot h5, cpy_ot h4, cpy_ot h3, cpy_ot h2]
  · rw [up2_nk h2, up2_nk h1, cpy_ot (by decide), cpy_ot (by decide), cpy_ot (by decide), cpy_ot (by decide)]
  · rw [up2_nk (by decide), up2_eq, cpy_ot (by decide), cpy_ot (by decide), cpy_ot (by decide), cpy_ot (by decide)]
  · rw [up2_eq, up2_ot (by decide), cpy_ot (by decide), cpy_ot (by decide), cpy_ot (by decide), cpy_ot (by decide)]
  · rw [R_up2_ot (by decide), R_up2_ot (by decide), R_cg (cpy_ot (by decide)), R_cg (cpy_ot (by decide)), R_cg (cpy_ot (by decide)), R_cpy]
  · rw [R_up2_ot (by decide), R_up2_ot (by decide), R_cg (cpy_ot (by decide)), R_cg (cpy_ot (by decide)), R_cpy, R_cg (cpy_ot (by decide))]
  · rw [R_up2_ot (by decide), R_up2_ot (by decide), R_cg (cpy_ot (by decide)), R_cpy, R_cg (cpy_ot (by decide)), R_cg (cpy_ot (by decide))]
  · rw [R_up2_ot (by decide), R_up2_ot (by decide), R_cpy, R_cg (cpy_ot (by decide)), R_cg (cpy_ot (by decide)), R_cg (cpy_ot (by decide))]
theorem cp_2_21 (D : DD) : Ci 21 2 D (pI_copyFrom_2_21 D) ∧ (∀ i, Rz 1024 3 (pI_copyFrom_2_21 D) i = Rz 1024 22 D i) ∧ (∀ i, Rz 1024 4 (pI_copyFrom_2_21 D) i = Rz 1024 23 D i) ∧ (∀ i, Rz 80 5 (pI_copyFrom_2_21 D) i = Rz 80 24 D i) ∧ ∀ i, Rz 256 6 (pI_copyFrom_2_21 D) i = Rz 256 25 D i := by
  unfold pI_copyFrom_2_21
  simp only [gD]
  refine ⟨⟨fun b h1 h2 h3 h4 h5 => ?_, fun k h1 h2 => ?_, ?_, ?_⟩, fun i => ?_, fun i => ?_, fun i => ?_, fun i => ?_⟩
  · rw [up2_ot h1, up2_ot h1, cpy_ot h5, cpy_ot h4, cpy_ot h3, cpy_ot h2]
  · rw [up2_nk h2, up2_nk h1, cpy_ot (by decide), cpy_ot (by decide), cpy_ot (by decide), cpy_ot (by decide)]
  · rw [up2_nk (by decide), up2_eq, cpy_ot (by decide), cpy_ot (by decide), cpy_ot (by decide), cpy_ot (by decide)]
  · rw [up2_eq, up2_ot (by decide), cpy_ot (by decide), cpy_ot (by decide), cpy_ot (by decide), cpy_ot (by decide)]
  · rw [R_up2_ot (by decide), R_up2_ot (by decide), R_cg (cpy_ot (by decide)), R_cg (cpy_ot (by decide)), R_cg (cpy_ot (by decide)), R_cpy]
  · rw [R_up2_ot (by decide), R_up2_ot (by decide), R_cg (cpy_ot (by decide)), R_cg (cpy_ot (by decide)), R_cpy, R_cg (cpy_ot (by decide))]
  · rw [R_up2_ot (by decide), R_up2_ot (by decide), R_cg (cpy_ot (by decide)), R_cpy, R_cg (cpy_ot (by decide)), R_cg (cpy_ot (by decide))]
  · rw [R_up2_ot (by decide), R_up2_ot (by decide), R_cpy, R_cg (cpy_ot (by decide)), R_cg (cpy_ot (by decide)), R_cg (cpy_ot (by decide))]
theorem lenA_pos {a : Nat} (h1 : 33 ≤ a) (h2 : a ≤ 57) : 1 ≤ lenA a := by
  unfold lenA
  repeat' split
  all_goals omega
/-- registries after a copy -/
theorem copied {p q w : Nat} {D D' : DD} (hw : w ≠ q) (h : ∀ a k, 33 ≤ a → a ≤ 57 → D' a k = if q * lenA a ≤ k ∧ k < q * lenA a + lenA a then D a (k - q * lenA a + p * lenA a) else D a k) : (∀ a k, 33 ≤ a → a ≤ 57 → k < lenA a → mI w D' a k = mI w D a k) ∧ ∀ a k, 33 ≤ a → a ≤ 57 → k < lenA a → mI q D' a k = mI p D a k := by
  refine ⟨fun a k h1 h2 h3 => ?_, fun a k h1 h2 h3 => ?_⟩
  · rw [mI_at h3, mI_at h3, h a _ h1 h2, if_neg]
    rintro ⟨x, y⟩
    rcases Nat.lt_or_gt_of_ne hw with z | z
    · have : (w + 1) * lenA a ≤ q * lenA a := Nat.mul_le_mul_right _ z
      rw [Nat.add_mul, Nat.one_mul] at this
      omega
    · have : (q + 1) * lenA a ≤ w * lenA a := Nat.mul_le_mul_right _ z
      rw [Nat.add_mul, Nat.one_mul] at this
      omega
  · rw [mI_at h3, mI_at h3, h a _ h1 h2, if_pos (by omega)]
    congr 1
    omega
theorem lr {D D' : DD} (h : ∀ b, 33 ≤ b → b ≤ 57 → D' b = D b) (w : Nat) : ∀ a k, 33 ≤ a → a ≤ 57 → k < lenA a → mI w D' a k = mI w D a k := fun a k h1 h2 h3 => by rw [mI_at h3, mI_at h3, h a h1 h2]
theorem m36 {w : Nat} {C D : DD} (h : Tr C (mI w D)) : ∀ k, k < 80 → D 36 (w * 80 + k) = 0 ∨ D 36 (w * 80 + k) = 1 := fun k hk => by
  have := (h.2.2.1 (k : Int) (by omega) (by omega)).1
  rw [R_raw (by omega), mI_at (by exact hk)] at this
  exact this
theorem Tr.m0 (h : Tr Dc Dm) : Tr Dc (mI 0 Dm) := h.mm (fun a k _ _ h3 => mI_0 h3)
theorem Tr.from0 (h : Tr Dc (mI 0 Dm)) : Tr Dc Dm := h.mm (fun a k _ _ h3 => (mI_0 h3).symm)
theorem flush_ok (h : St Dc Dm m) (hf : Fl Dc Dm n) : OkF [(2, 1)] Dc Dm m n (pH_flush Dc) (pM_flush Dm) := by
  obtain ⟨⟨f1, f1'⟩, f2, f3, f4, f5⟩ := id hf
  have err : pH_flush Dc = erR 2 Dc → pM_flush Dm = okR 0 (up2 Dm 32 42 1) → OkF [(2, 1)] Dc Dm m n (pH_flush Dc) (pM_flush Dm) := fun e1 e2 => (Ok.err (v := 0) (e := 2) (x := 1) h (by decide) e2 e1).okF hf
  by_cases r : Dm 32 32 = 0
  · by_cases z : sm (fun t => if w32 (Rz 64 58 Dm t) = 0 then (0 : Int) else 1) 64 = 0
    · -- nothing is dirty
      refine err ?_ ?_
      · unfold pH_flush
        rw [f1, r, w32_k0, if_pos rfl]
        have e : w64 (Dc 7 5) = w64 0 := w64_bits (fun t a b => by
          rw [bit_0, h.2.1 t a b]
          constructor
          · intro y
            exfalso
            have s := sm_step (f := fun t => if w32 (Rz 64 58 Dm t) = 0 then (0 : Int) else 1) (i := t) (j := 64) a b (fun k _ _ => by split <;> omega)
            have s0 := sm_bd (f := fun t => if w32 (Rz 64 58 Dm t) = 0 then (0 : Int) else 1) (b := 1) (by decide) t.toNat t (by omega) (fun k _ _ => by split <;> omega)
            rw [if_neg y] at s
            omega
          · intro y; exact Bool.noConfusion y)
        have l0 : lcmZ (w64 0) (w64 0) = 0 := by
          unfold lcmZ
          rw [if_neg (Int.lt_irrefl _), if_pos rfl]
        rw [e, l0, if_pos rfl]
      · unfold pM_flush
        simp only [jnR]
        rw [r, w32_k0, if_pos rfl, ones_m, bnd_ok, z, w32_k0, if_pos rfl, failsP (by omega), bnd_ok, w32_k1, if_neg (by decide)]
    · -- a flush begins
      have sb := sm_bd (f := fun t => if w32 (Rz 64 58 Dm t) = 0 then (0 : Int) else 1) (b := 1) (by decide) 64 64 rfl (fun k _ _ => by split <;> omega)
      obtain ⟨S, hS⟩ : ∃ S, sm (fun t => if w32 (Rz 64 58 Dm t) = 0 then (0 : Int) else 1) 64 = S := ⟨_, rfl⟩
      rw [hS] at z sb
      have hcnt : pJ_bitCount (Dc 7 5) = S := by
        rw [count_sum, ← hS]
        refine sm_cong (fun t a b => ?_)
        by_cases y : bit (Dc 7 5) t = true
        · rw [if_pos y, if_neg ((h.2.1 t a b).1 y)]
        · rw [if_neg y]
          by_cases y2 : w32 (Rz 64 58 Dm t) = 0
          · rw [if_pos y2]
          · exact absurd ((h.2.1 t a b).2 y2) y
      have hne : w64 (Dc 7 5) ≠ w64 0 := fun e => by
        have all : ∀ t, 0 ≤ t → t < 64 → (if w32 (Rz 64 58 Dm t) = 0 then (0 : Int) else 1) = 0 := fun t a b => by
          have e1 : bit (Dc 7 5) t = bit (w64 (Dc 7 5)) t := by unfold bit; rw [ofI_w64]
          have e2 : bit (w64 0) t = bit 0 t := by unfold bit; rw [ofI_w64]
          by_cases y : w32 (Rz 64 58 Dm t) = 0
          · rw [if_pos y]
          · have := (h.2.1 t a b).2 y
            rw [e1, e, e2, bit_0] at this
            exact Bool.noConfusion this
        have s0 : sm (fun t => if w32 (Rz 64 58 Dm t) = 0 then (0 : Int) else 1) 64 = sm (fun _ => 0) 64 := sm_cong all
        have s1 := sm_bd (f := fun _ : Int => (0 : Int)) (b := 0) (by decide) 64 64 rfl (fun k _ _ => by simp)
        omega
      obtain ⟨⟨c1, c2, c3, c4⟩, c5, c6, c7, c8⟩ := cp_26_2 Dc
      obtain ⟨D1, hD1⟩ : ∃ D1, pI_copyFrom_26_2 Dc = D1 := ⟨_, rfl⟩
      rw [hD1] at c1 c2 c3 c4 c5 c6 c7 c8
      obtain ⟨D5, hD5⟩ : ∃ D5, D5 = up2 (up2 (up2 (up2 D1 20 3 S) 20 4 0) 20 6 1) 7 5 0 := ⟨_, rfl⟩
      have hcl : pH_flush Dc = okR (2 * S + 4) D5 := by
        unfold pH_flush pF_begin pC_forgetDirty pF_writesLeft
        simp only [gD]
        rw [f1, r, w32_k0, if_pos rfl, if_neg, hD1, hcnt, ← hD5]
        · congr 1
          rw [hD5, up2_ot (by decide), up2_nk (by decide), up2_nk (by decide), up2_eq, up2_nk (by decide), up2_eq]
          omega
        · unfold lcmZ
          intro y
          by_cases y1 : w64 0 < w64 (Dc 7 5)
          · rw [if_pos y1] at y; omega
          · rw [if_neg y1, if_neg hne] at y
            omega
      have o5 : ∀ b, b ∉ [7, 20, 26, 27, 28, 29, 30] → D5 b = Dc b := fun b hb => by
        rw [hD5, up2_ot (nin hb (by decide)), up2_ot (nin hb (by decide)), up2_ot (nin hb (by decide)), up2_ot (nin hb (by decide)), c1 b (nin hb (by decide)) (nin hb (by decide)) (nin hb (by decide)) (nin hb (by decide)) (nin hb (by decide))]
      have o1 : ∀ b, b ≠ 7 → b ≠ 20 → D5 b = D1 b := fun b h1 h2 => by rw [hD5, up2_ot h1, up2_ot h2, up2_ot h2, up2_ot h2]
      obtain ⟨E1, hE1⟩ : ∃ E1, E1 = up2 (up2 (up2 (up2 Dm 32 42 0) 32 32 1) 32 34 0) 32 35 S := ⟨_, rfl⟩
      have g1 : ∀ b, b ≠ 32 → E1 b = Dm b := fun b hb => by rw [hE1, up2_ot hb, up2_ot hb, up2_ot hb, up2_ot hb]
      obtain ⟨E2, k1, k2, k3⟩ := cleans_m E1
      have e36 : ∀ k, k < 80 → E2 36 (0 * 80 + k) = 0 ∨ E2 36 (0 * 80 + k) = 1 := fun k hk => by
        rw [k2 36 (by decide), g1 36 (by decide)]
        exact m36 h.1.m0 k hk
      obtain ⟨E3, r1, r2, r3⟩ := copies_m (p := 0) (q := 1) (D := E2) (by decide) (by decide) (by decide) e36
      have g3 : ∀ b, b ≠ 32 → b ≠ 58 → (b < 33 ∨ 57 < b) → E3 b = Dm b := fun b h1 h2 h3 => by rw [r2 b h3, k2 b h2, g1 b h1]
      have w32e : ∀ j, E3 32 j = E1 32 j := fun j => by rw [r2 32 (by decide), k2 32 (by decide)]
      have e32 : E3 32 32 = 1 ∧ E3 32 33 = Dm 32 33 ∧ E3 32 34 = 0 ∧ E3 32 35 = S ∧ E3 32 42 = 0 ∧ E3 32 29 = Dm 32 29 := by
        rw [w32e, w32e, w32e, w32e, w32e, w32e, hE1]
        refine ⟨?_, ?_, ?_, ?_, ?_, ?_⟩
        · rw [up2_nk (by decide), up2_nk (by decide), up2_eq]
        · rw [up2_nk (by decide), up2_nk (by decide), up2_nk (by decide), up2_nk (by decide)]
        · rw [up2_nk (by decide), up2_eq]
        · rw [up2_eq]
        · rw [up2_nk (by decide), up2_nk (by decide), up2_nk (by decide), up2_eq]
        · rw [up2_nk (by decide), up2_nk (by decide), up2_nk (by decide), up2_nk (by decide)]
      have base : ∀ b, 33 ≤ b → b ≤ 57 → E2 b = Dm b := fun b h1 h2 => by rw [k2 b (by omega), g1 b (by omega)]
      have md : pM_flush Dm = okR (2 * S + 4) E3 := by
        unfold pM_flush
        simp only [jnR, gD]
        rw [r, w32_k0, if_pos rfl, ones_m, bnd_ok, hS, w32_of (by omega), if_neg z, fails0, bnd_ok, w32_k0, if_pos rfl]
        have hS2 : sm (fun t => if w32 (Rz 64 58 (up2 (up2 (up2 Dm 32 42 0) 32 32 1) 32 34 0) t) = 0 then (0 : Int) else 1) 64 = S := by
          rw [← hS]
          exact sm_cong (fun t _ _ => by rw [R_up2_ot (by decide), R_up2_ot (by decide), R_up2_ot (by decide)])
        rw [ones_m, bnd_ok, hS2, ← hE1, k1, bnd_ok]
        refine (congrArg (fun r => bnd r _) r1).trans ?_
        rw [bnd_ok, e32.2.2.2.1]
      have hT : Tr D5 E3 := by
        have t1 : Tr D5 Dm := h.1.eqv (fun b x y => o5 b (by simp only [List.mem_cons, List.not_mem_nil, or_false]; omega)) (fun _ _ _ => rfl)
        exact (t1.m0.mm (fun a k h1 h2 h3 => by rw [(copied (w := 0) (by decide) r3).1 a k h1 h2 h3]; exact lr base 0 a k h1 h2 h3)).from0
      refine ⟨D5, E3, 2 * S + 4, md, ⟨hT, fun t a b => ?_, ?_⟩, ⟨?_, ?_, fun i a b => ?_, ?_, fun _ => ⟨?_, ?_, ?_, ?_⟩⟩, fun b hb => ?_, fun b hb => ?_, Or.inl ⟨hcl, e32.2.2.2.2.1⟩⟩
      · have e1 : D5 7 5 = 0 := by rw [hD5, up2_eq]
        have e2 : Rz 64 58 E3 t = 0 := by rw [R_cg (r2 58 (by decide)), k3 t a b]
        rw [e1, e2, bit_0, w32_k0]
        exact ⟨fun y => Bool.noConfusion y, fun y => absurd rfl y⟩
      · exact (h.2.2.1.cong (o5 16 (by decide)) (o5 17 (by decide)) (o5 18 (by decide)) (o5 19 (by decide)) (by rw [o5 15 (by decide)]) (g3 59 (by decide) (by decide) (by decide)) (g3 60 (by decide) (by decide) (by decide)) (g3 61 (by decide) (by decide) (by decide)) (g3 62 (by decide) (by decide) (by decide)) (g3 63 (by decide) (by decide) (by decide)) e32.2.2.2.2.2).mono (by omega)
      · rw [e32.1]
        exact ⟨by rw [hD5, up2_ot (by decide), up2_eq], Or.inr rfl⟩
      · rw [e32.2.1]
        refine ⟨?_, f2.2.1, by have := f2.2.2; omega⟩
        rw [hD5, up2_ot (by decide), up2_nk (by decide), up2_nk (by decide), up2_nk (by decide), c1 20 (by decide) (by decide) (by decide) (by decide) (by decide)]
        exact f2.1
      · rw [R_cg (o5 31 (by decide)), R_cg (g3 64 (by decide) (by decide) (by decide))]
        exact f3 i a b
      · have e1 : cI 21 D5 = cI 21 Dc := by
          funext b
          unfold cI
          rw [o5 21 (by decide), o5 22 (by decide), o5 23 (by decide), o5 24 (by decide), o5 25 (by decide)]
        rw [e1]
        exact f4.mm (fun a k h1 h2 h3 => by rw [(copied (w := 2) (by decide) r3).1 a k h1 h2 h3]; exact lr base 2 a k h1 h2 h3)
      · refine (h.1.m0.pre (Dc' := cI 26 D5) ?_ ?_ (fun i => ?_) (fun i => ?_) (fun i => ?_) (fun i => ?_) (fun a k h1 h2 h3 => by rw [(copied (w := 0) (by decide) r3).2 a k h1 h2 h3]; exact lr base 0 a k h1 h2 h3))
        · show D5 26 4 = _
          rw [o1 26 (by decide) (by decide), c3]
        · show D5 26 5 = _
          rw [o1 26 (by decide) (by decide), c4]
        · show Rz 1024 27 D5 i = _
          rw [R_cg (o1 27 (by decide) (by decide)), c5]
        · show Rz 1024 28 D5 i = _
          rw [R_cg (o1 28 (by decide) (by decide)), c6]
        · show Rz 80 29 D5 i = _
          rw [R_cg (o1 29 (by decide) (by decide)), c7]
        · show Rz 256 30 D5 i = _
          rw [R_cg (o1 30 (by decide) (by decide)), c8]
      · rw [e32.2.2.1]
        exact ⟨by rw [hD5, up2_ot (by decide), up2_nk (by decide), up2_eq], Int.le_refl _⟩
      · rw [e32.2.2.2.1]
        exact ⟨by rw [hD5, up2_ot (by decide), up2_nk (by decide), up2_nk (by decide), up2_eq], sb.1, by omega⟩
      · rw [e32.2.2.1, e32.2.2.2.1]; omega
      · exact o5 b (by simp only [List.mem_cons, List.not_mem_nil, or_false]; omega)
      · exact g3 b (by omega) (by omega) (by omega)
  · have r1 : Dm 32 32 = 1 := by omega
    refine err ?_ ?_
    · unfold pH_flush
      rw [f1, r1, w32_k1, if_neg (by decide)]
    · unfold pM_flush
      simp only [jnR]
      rw [r1, w32_k1, if_neg (by decide), failsP (by omega), bnd_ok, w32_k1, if_neg (by decide)]
theorem log_ok {p : Int} (h : St Dc Dm m) (hf : Fl Dc Dm n) (hp : -2147483648 ≤ p ∧ p ≤ 2147483647) : OkF [(1, 1)] Dc Dm m n (pH_log p Dc) (pM_log p Dm) := by
  have hin : pM_isIn p 0 1 = if 0 ≤ p ∧ p ≤ 1 then 1 else 0 := isIn_m hp (by omega) (by omega)
  by_cases q : 0 ≤ p ∧ p ≤ 1
  · refine Ok.okF (Ok.same (v := Rz 2 31 Dc p) h ?_ ?_) hf
    · unfold pM_log
      simp only [jnR]
      rw [hin, if_pos q, if_neg (by decide), fails0, bnd_ok, w32_k0, if_pos rfl, rdA_R (by omega), R_up2_ot (by decide), hf.2.2.1 p q.1 (by omega)]
    · unfold pH_log pF_heldByLog
      simp only [jnR]
      rw [w32_of hp, if_neg (by omega), if_neg (by omega), rd_R hp]
  · refine Ok.okF (Ok.err (v := 0) (e := 1) (x := 1) h (by decide) ?_ ?_) hf
    · unfold pM_log
      simp only [jnR]
      rw [hin, if_neg q, if_pos rfl, failsP (by omega), bnd_ok, w32_k1, if_neg (by decide)]
    · unfold pH_log
      simp only [jnR]
      rw [w32_of hp]
      by_cases y : p < 0
      · rw [if_pos y]
      · rw [if_neg y, if_pos (by omega)]
end FLUSH
