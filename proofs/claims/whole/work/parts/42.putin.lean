/-! an entry comes into a list of the class -/
theorem Til.dis {s : Int → Int} {e : Int} (h : Til s e) {u v : Int} (hu : 0 < s u) (hv : 0 < s v) (hne : u ≠ v) : u + s u ≤ v ∨ v + s v ≤ u := by
  have h1 := h.apart hu (by omega) hne
  have h2 := h.apart hv (by omega) (Ne.symm hne)
  omega
/-- units and marks alone are changed -/
def Ef (D D' : DD) (P : Int → Prop) : Prop := (∀ b, b ≠ 4 → b ≠ 7 → D' b = D b) ∧ (∀ k, k ≠ 5 → D' 7 k = D 7 k) ∧ ∀ t, 0 ≤ t → t < 64 → (bit (D' 7 5) t = true ↔ bit (D 7 5) t = true ∨ P t)
theorem Ef.trans {D D1 D2 : DD} {P Q : Int → Prop} (h : Ef D D1 P) (g : Ef D1 D2 Q) : Ef D D2 (fun t => P t ∨ Q t) :=
  ⟨fun b h1 h2 => (g.1 b h1 h2).trans (h.1 b h1 h2), fun k hk => (g.2.1 k hk).trans (h.2.1 k hk), fun t a b => by rw [g.2.2 t a b, h.2.2 t a b, or_assoc]⟩
theorem Ef.iff {D D' : DD} {P Q : Int → Prop} (h : Ef D D' P) (hPQ : ∀ t, 0 ≤ t → t < 64 → (P t ↔ Q t)) : Ef D D' Q := ⟨h.1, h.2.1, fun t a b => by rw [h.2.2 t a b, hPQ t a b]⟩
theorem Ef.of4 {D D' : DD} (h : ∀ b, b ≠ 4 → D' b = D b) : Ef D D' (fun _ => False) := ⟨fun b h1 _ => h b h1, fun k _ => by rw [h 7 (by decide)], fun t _ _ => by rw [h 7 (by decide)]; simp⟩
theorem Mk.ef {D D' : DD} {P : Int → Prop} (h : Mk D D' P) : Ef D D' P := ⟨fun b _ h2 => h.1 b h2, h.2.1, h.2.2⟩
theorem Ef.sz {D D' : DD} {P : Int → Prop} (h : Ef D D' P) (u : Int) : Rz 1024 3 D' u = Rz 1024 3 D u := R_cg (h.1 3 (by decide) (by decide)) u
theorem Ef.til {D D' : DD} {P : Int → Prop} {e : Int} (h : Ef D D' P) (hT : Til (Rz 1024 3 D) e) : Til (Rz 1024 3 D') e := hT.cong (fun u => h.sz u)
theorem Mk.un {D D' : DD} {P : Int → Prop} (h : Mk D D' P) (u : Int) : Rz 1024 4 D' u = Rz 1024 4 D u := R_cg (h.1 4 (by decide)) u
def insF (E : Int → Int) (t x : Int) : Int → Int := fun j => if j < t then E j else if j = t then x else E (j - 1)
def delF (E : Int → Int) (t : Int) : Int → Int := fun j => if j < t then E j else E (j + 1)
def splF (c : Int → Int) (L : Int) : Int → Int := fun i => if i < L then c i else if i = L then 3 else if i = L + 1 then 2 else c (i - 1)
theorem LC.cong {un sz un' sz' : Int → Int} {hd n ix hd' ix' : Int} {lp c E lp' c' E' : Int → Int} (h : LC un sz hd n lp c E ix) (hhd : hd' = hd) (hl : ∀ i, 0 ≤ i → i < n → lp' i = lp i ∧ c' i = c i) (hE : ∀ j, 0 ≤ j → j < sm c n → E' j = E j) (hix : 2 ≤ n → ix' = ix)
    (hs : ∀ i, 0 ≤ i → i < n → sz' (lp i) = 5) (hsi : 2 ≤ n → sz' ix = 9) (hu : ∀ i j, 0 ≤ i → i < n → 0 ≤ j → j < 5 → un' (lp i + j) = un (lp i + j)) (hui : 2 ≤ n → ∀ j, 0 ≤ j → j < 9 → un' (ix + j) = un (ix + j)) : LC un' sz' hd' n lp' c' E' ix' := by
  obtain ⟨h1, h2, h3, h4⟩ := h
  have hsm : ∀ i, 0 ≤ i → i ≤ n → sm c' i = sm c i := fun i a b => sm_cong (fun j x y => (hl j x (by omega)).2)
  refine ⟨h1, ?_, fun i a b => ?_, fun q => ?_⟩
  · rw [hhd, h2]
    by_cases q : n = 0
    · rw [if_pos q, if_pos q]
    · rw [if_neg q, if_neg q]
      by_cases q1 : n = 1
      · rw [if_pos q1, if_pos q1, (hl 0 (by omega) (by omega)).1]
      · rw [if_neg q1, if_neg q1, hix (by omega)]
  · obtain ⟨g1, g2, g3, g4⟩ := h3 i a b
    obtain ⟨l1, l2⟩ := hl i a b
    have hst := sm_step (f := c) (i := i) (j := n) a b (fun k x y => by have := (h3 k (by omega) y).2.2.1; omega)
    have ht := sm_bd (f := c) (b := 4) (by decide) i.toNat i (by omega) (fun k x y => by have := (h3 k x (by omega)).2.2.1; omega)
    rw [l1, l2]
    refine ⟨hs i a b, ?_, g3, fun j x y => ?_⟩
    · have := hu i 0 a b (by omega) (by omega)
      rw [Int.add_zero] at this
      rw [this, g2]
    · have := hu i (1 + j) a b (by omega) (by omega)
      rw [← Int.add_assoc] at this
      rw [this, g4 j x y, hsm i a (by omega), hE (sm c i + j) (by omega) (by omega)]
  · obtain ⟨g1, g2, g3⟩ := h4 q
    rw [hix q]
    refine ⟨hsi q, ?_, fun i a b => ?_⟩
    · have := hui q 0 (by omega) (by omega)
      rw [Int.add_zero] at this
      rw [this, g2]
    · have := hui q (1 + i) (by omega) (by omega)
      rw [← Int.add_assoc] at this
      rw [this, g3 i a b, (hl i a b).1]
section PUT
variable {D : DD} {e p hd n ix x L a from_ : Int} {lp c E : Int → Int}
/-- how many items of a row lie ahead -/
theorem aheadq_loop {D : DD} {q k x a : Int} {F : Int → Int} (hq : 4 ≤ q ∧ q + 1 + k ≤ 1024) (hk : 0 ≤ k ∧ k ≤ 5) (hF : ∀ j, 0 ≤ j → j < k → Rz 1024 4 D (q + 1 + j) = F j ∧ 0 ≤ F j ∧ F j ≤ 100000000) (hx : 0 ≤ x ∧ x ≤ 100000000) (ha : 0 ≤ a ∧ a ≤ k) (h1 : ∀ j, 0 ≤ j → j < a → F j < x) (h2 : ∀ j, a ≤ j → j < k → x ≤ F j) :
    ∀ (f : Nat) (m j : Int), 0 ≤ j → j ≤ k → m = (if j ≤ a then j else a) → (k - j).toNat < f → pL_entriesAhead_15 q x k f m j D = okR a D := by
  intro f
  induction f with
  | zero => intro m j b1 b2 b3 b4; omega
  | succ f ih =>
    intro m j b1 b2 b3 b4
    rw [pL_entriesAhead_15, w32_of (z := j) (by omega), w32_of (z := k) (by omega)]
    by_cases g : j < k
    · obtain ⟨f1, f2⟩ := hF j b1 g
      rw [if_pos g]
      simp only [jnR]
      unfold pI_item
      rw [rd_R (by omega), f1, w32_of (z := x) (by omega), w32_of (z := F j) (by omega)]
      by_cases q : j < a
      · rw [if_pos (h1 j b1 q)]
        exact ih (m + 1) (j + 1) (by omega) (by omega) (by rw [if_pos (by omega)] at b3 ⊢; omega) (by omega)
      · have := h2 j (by omega) g
        rw [if_neg (by omega)]
        refine ih m (j + 1) (by omega) (by omega) ?_ (by omega)
        rw [if_neg (by omega)]
        by_cases q2 : j ≤ a
        · rw [if_pos q2] at b3; omega
        · rw [if_neg q2] at b3; exact b3
    · rw [if_neg g]
      have : m = a := by
        by_cases q2 : j ≤ a
        · rw [if_pos q2] at b3; omega
        · rw [if_neg q2] at b3; exact b3
      rw [this]
theorem aheadq {D : DD} {q k x a : Int} {F : Int → Int} (hq : 4 ≤ q ∧ q + 1 + k ≤ 1024) (hk : 0 ≤ k ∧ k ≤ 5) (hn : Rz 1024 4 D q = k) (hF : ∀ j, 0 ≤ j → j < k → Rz 1024 4 D (q + 1 + j) = F j ∧ 0 ≤ F j ∧ F j ≤ 100000000) (hx : 0 ≤ x ∧ x ≤ 100000000) (ha : 0 ≤ a ∧ a ≤ k) (h1 : ∀ j, 0 ≤ j → j < a → F j < x) (h2 : ∀ j, a ≤ j → j < k → x ≤ F j) : pL_entriesAhead q x D = okR a D := by
  unfold pL_entriesAhead pI_itemCount
  simp only [ltR]
  rw [rd_R (by omega), hn]
  exact aheadq_loop hq hk hF hx ha h1 h2 fu 0 0 (by omega) (by omega) (by rw [if_pos ha.1]) (fu_gt (by omega))
/-- a full leaf and one entry more: three stay, two go -/
theorem split_c {D : DD} {q t x a : Int} {F : Int → Int} (hq : 4 ≤ q ∧ q + 5 ≤ 1024) (ht : 4 ≤ t ∧ t + 5 ≤ 1024) (hap : q + 5 ≤ t ∨ t + 5 ≤ q) (hn : Rz 1024 4 D q = 4) (hF : ∀ j, 0 ≤ j → j < 4 → Rz 1024 4 D (q + 1 + j) = F j ∧ 0 ≤ F j ∧ F j ≤ 100000000) (hx : 0 ≤ x ∧ x ≤ 100000000) (ha : 0 ≤ a ∧ a ≤ 4) (h1 : ∀ j, 0 ≤ j → j < a → F j < x) (h2 : ∀ j, a ≤ j → j < 4 → x ≤ F j) :
    ∃ D', pL_splitLeaf q t x D = okR 0 D' ∧ (∀ b, b ≠ 4 → D' b = D b) ∧ (∀ i, (i < q ∨ q + 5 ≤ i) → (i < t ∨ t + 5 ≤ i) → Rz 1024 4 D' i = Rz 1024 4 D i) ∧ Rz 1024 4 D' q = 3 ∧ Rz 1024 4 D' t = 2 ∧ (∀ j, 0 ≤ j → j < 3 → Rz 1024 4 D' (q + 1 + j) = insF F a x j) ∧ (∀ j, 0 ≤ j → j < 2 → Rz 1024 4 D' (t + 1 + j) = insF F a x (3 + j)) := by
  unfold pL_splitLeaf
  rw [aheadq (F := F) (k := 4) ⟨by omega, by omega⟩ (by omega) hn hF hx ha h1 h2, bnd_ok, w32_of (z := a) (by omega)]
  have hFv := fun (j : Int) (h0 : 0 ≤ j) (h4 : j < 4) => (hF j h0 h4).1
  by_cases g : a < 3
  · obtain ⟨D1, e1, e2, e3⟩ := move_c (D := D) (q := q) (m := 2) (c := 4) (t := t) (by omega) (by omega) (by omega) (by omega) (by omega) (by omega) hn
    have q1 : Rz 1024 4 D1 q = 2 := by rw [e3, if_pos rfl]
    obtain ⟨D2, k1, k2, k3⟩ := insert_c (D := D1) (q := q) (m := a) (c := 2) (x := x) (by omega) (by omega) (by omega) q1
    rw [if_pos g, e1, bnd_ok, k1, bnd_ok]
    refine ⟨D2, rfl, fun b hb => (k2 b hb).trans (e2 b hb), fun i hi1 hi2 => ?_, ?_, ?_, fun j j0 j1 => ?_, fun j j0 j1 => ?_⟩
    · rw [k3, if_neg (by omega), if_neg (by omega), if_neg (by omega), e3, if_neg (by omega), if_neg (by omega), if_neg (by omega)]
    · rw [k3, if_pos rfl]; rfl
    · rw [k3, if_neg (by omega), if_neg (by omega), if_neg (by omega), e3, if_neg (by omega), if_pos rfl]; rfl
    · have hold : ∀ i, 0 ≤ i → i < 2 → Rz 1024 4 D1 (q + 1 + i) = F i := fun i a b => by
        rw [e3, if_neg (by omega), if_neg (by omega), if_neg (by omega)]
        exact hFv i a (by omega)
      rw [k3, if_neg (by omega)]
      unfold insF
      by_cases z : j < a
      · rw [if_neg (by omega), if_neg (by omega), if_pos z]
        exact hold j j0 (by omega)
      · rw [if_neg z]
        by_cases z2 : j = a
        · rw [if_pos (by omega), if_pos z2]
        · rw [if_neg (by omega), if_pos (by omega), if_neg z2, show q + 1 + j - 1 = q + 1 + (j - 1) by omega]
          exact hold (j - 1) (by omega) (by omega)
    · rw [k3, if_neg (by omega), if_neg (by omega), if_neg (by omega), e3, if_neg (by omega), if_neg (by omega), if_pos (by omega), show q + 1 + 2 + (t + 1 + j - (t + 1)) = q + 1 + (2 + j) by omega, hFv (2 + j) (by omega) (by omega)]
      unfold insF
      rw [if_neg (by omega), if_neg (by omega)]
      congr 1
      omega
  · obtain ⟨D1, e1, e2, e3⟩ := move_c (D := D) (q := q) (m := 3) (c := 4) (t := t) (by omega) (by omega) (by omega) (by omega) (by omega) (by omega) hn
    have q1 : Rz 1024 4 D1 t = 1 := by rw [e3, if_neg (by omega), if_pos rfl]; rfl
    obtain ⟨D2, k1, k2, k3⟩ := insert_c (D := D1) (q := t) (m := a - 3) (c := 1) (x := x) (by omega) (by omega) (by omega) q1
    rw [if_neg g, e1, bnd_ok, k1, bnd_ok]
    refine ⟨D2, rfl, fun b hb => (k2 b hb).trans (e2 b hb), fun i hi1 hi2 => ?_, ?_, ?_, fun j j0 j1 => ?_, fun j j0 j1 => ?_⟩
    · rw [k3, if_neg (by omega), if_neg (by omega), if_neg (by omega), e3, if_neg (by omega), if_neg (by omega), if_neg (by omega)]
    · rw [k3, if_neg (by omega), if_neg (by omega), if_neg (by omega), e3, if_pos rfl]
    · rw [k3, if_pos rfl]; rfl
    · rw [k3, if_neg (by omega), if_neg (by omega), if_neg (by omega), e3, if_neg (by omega), if_neg (by omega), if_neg (by omega), hFv j j0 (by omega)]
      unfold insF
      rw [if_pos (by omega)]
    · have hold : Rz 1024 4 D1 (t + 1) = F 3 := by
        rw [e3, if_neg (by omega), if_neg (by omega), if_pos (by omega), show q + 1 + 3 + (t + 1 - (t + 1)) = q + 1 + 3 by omega]
        exact hFv 3 (by omega) (by omega)
      rw [k3, if_neg (by omega)]
      unfold insF
      by_cases z : 3 + j < a
      · rw [if_neg (by omega), if_neg (by omega), if_pos z, show t + 1 + j = t + 1 by omega, hold]
        congr 1
        omega
      · rw [if_neg z]
        by_cases z2 : 3 + j = a
        · rw [if_pos (by omega), if_pos z2]
        · rw [if_neg (by omega), if_pos (by omega), if_neg z2, show t + 1 + j - 1 = t + 1 by omega, hold]
          congr 1
          omega
end PUT
