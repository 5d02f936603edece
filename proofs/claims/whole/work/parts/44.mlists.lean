/-! lists of subkeys in the reference -/
def rk (x : Int) : Int := 10000 * (7 * x % 64) + x
theorem rk_bd {x : Int} (h : 0 ≤ x ∧ x ≤ 9999) : 0 ≤ rk x ∧ rk x ≤ 639999 := by unfold rk; omega
theorem rk_inj {x y : Int} (hx : 0 ≤ x ∧ x ≤ 9999) (hy : 0 ≤ y ∧ y ≤ 9999) (h : rk x = rk y) : x = y := by unfold rk at h; omega
theorem rank_m {x : Int} (h : 0 ≤ x ∧ x ≤ 9999) : pM_rank x = rk x := by
  unfold pM_rank rk
  rw [w32_of (by omega), tmod_pos (by omega)]
theorem rank_c {x : Int} (h : 0 ≤ x ∧ x ≤ 9999) : pL_rankOf x = rk x := by
  unfold pL_rankOf rk
  rw [w32_of (by omega), tmod_pos (by omega), Int.mul_comm]
def mc (D : DD) (k : Int) : Int → Int := fun i => Rz 1920 45 D (8 * k + i)
def ml (D : DD) (k : Int) : Int → Int := fun i => Rz 1920 44 D (8 * k + i)
def me (D : DD) (k : Int) : Int → Int := fun j => Rz 7680 46 D (32 * k + j)
def mn_ (D : DD) (k : Int) : Int → Int := fun j => Rz 7680 47 D (32 * k + j)
def mE (D : DD) (k : Int) : Int → Int := fun j => rk (mn_ D k j) * 80 + me D k j
/-- a list of the reference is in order -/
def MW (D : DD) (k : Int) : Prop := (0 ≤ Rz 240 42 D k ∧ Rz 240 42 D k ≤ 8) ∧ (∀ i, 0 ≤ i → i < Rz 240 42 D k → 1 ≤ mc D k i ∧ mc D k i ≤ 4) ∧
  (∀ j, 0 ≤ j → j < sm (mc D k) (Rz 240 42 D k) → (0 ≤ mn_ D k j ∧ mn_ D k j ≤ 9999) ∧ (0 ≤ me D k j ∧ me D k j < 80)) ∧
  (∀ j j', 0 ≤ j → j < j' → j' < sm (mc D k) (Rz 240 42 D k) → rk (mn_ D k j) < rk (mn_ D k j'))
theorem MW.tot {D : DD} {k i : Int} (h : MW D k) (h0 : 0 ≤ i) (h1 : i ≤ Rz 240 42 D k) : 0 ≤ sm (mc D k) i ∧ sm (mc D k) i ≤ 4 * i :=
  sm_bd (by decide) i.toNat i (by omega) (fun j a b => by have := h.2.1 j a (by omega); omega)
theorem MW.step {D : DD} {k i j : Int} (h : MW D k) (h0 : 0 ≤ i) (h1 : i < j) (h2 : j ≤ Rz 240 42 D k) : sm (mc D k) i + mc D k i ≤ sm (mc D k) j :=
  sm_step h0 h1 (fun x a b => by have := h.2.1 x (by omega) (by omega); omega)
theorem MW.ebd {D : DD} {k j : Int} (h : MW D k) (h0 : 0 ≤ j) (h1 : j < sm (mc D k) (Rz 240 42 D k)) : 0 ≤ mE D k j ∧ mE D k j ≤ 100000000 := by
  obtain ⟨a, b⟩ := h.2.2.1 j h0 h1
  have := rk_bd a
  unfold mE
  omega
theorem MW.emono {D : DD} {k j j' : Int} (h : MW D k) (h0 : 0 ≤ j) (h1 : j < j') (h2 : j' < sm (mc D k) (Rz 240 42 D k)) : mE D k j < mE D k j' := by
  have a := (h.2.2.1 j h0 (by omega)).2
  have b := (h.2.2.1 j' (by omega) h2).2
  have c := h.2.2.2 j j' h0 h1 h2
  unfold mE
  omega
section MLIST
variable {D : DD} {k : Int}
theorem start_loop (hk : 0 ≤ k ∧ k < 80) {n : Int} (hn : 0 ≤ n ∧ n ≤ 9) : ∀ (f : Nat) (i : Int), 0 ≤ i → i ≤ n → (n - i).toNat < f → pM_start_5 k n f (sm (mc D k) i) i D = okR (sm (mc D k) n) D := by
  intro f
  induction f with
  | zero => intro i h1 h2 h3; omega
  | succ f ih =>
    intro i h1 h2 h3
    rw [pM_start_5, w32_of (z := i) (by omega), w32_of (z := n) (by omega)]
    by_cases g : i < n
    · rw [if_pos g, rdA_R ⟨by omega, by omega, by decide⟩]
      simp only [ltR]
      have := ih (i + 1) (by omega) (by omega) (by omega)
      rw [sm_s h1] at this
      exact this
    · rw [if_neg g, show i = n by omega]
theorem start_m (hk : 0 ≤ k ∧ k < 80) {n : Int} (hn : 0 ≤ n ∧ n ≤ 9) : pM_start k n D = okR (sm (mc D k) n) D := by
  unfold pM_start
  exact start_loop hk hn fu 0 (by omega) (by omega) (fu_gt (by omega))
theorem entries_m (hk : 0 ≤ k ∧ k < 80) (hn : 0 ≤ Rz 240 42 D k ∧ Rz 240 42 D k ≤ 9) : pM_entries k D = okR (sm (mc D k) (Rz 240 42 D k)) D := by
  unfold pM_entries
  rw [rdA_R ⟨hk.1, by omega, by decide⟩, start_m hk hn, bnd_ok]
theorem entryOf_loop (hk : 0 ≤ k ∧ k < 80) (h : MW D k) {x : Int} (hx : 0 ≤ x ∧ x ≤ 9999) {r : Int} (hr : (r = -1 ∧ ∀ j, 0 ≤ j → j < sm (mc D k) (Rz 240 42 D k) → mn_ D k j ≠ x) ∨ (0 ≤ r ∧ r < sm (mc D k) (Rz 240 42 D k) ∧ mn_ D k r = x)) :
    ∀ (f : Nat) (a j : Int), 0 ≤ j → j ≤ sm (mc D k) (Rz 240 42 D k) → (sm (mc D k) (Rz 240 42 D k) - j).toNat < f → a = (if r < j then r else -1) → pM_entryOf_5 k x f a j D = okR r D := by
  have hN := h.tot (i := Rz 240 42 D k) h.1.1 (Int.le_refl _)
  have h1 := h.1
  have huq : ∀ j, 0 ≤ j → j < sm (mc D k) (Rz 240 42 D k) → mn_ D k j = x → j = r := fun j a b e => by
    rcases hr with ⟨-, q⟩ | ⟨q1, q2, q3⟩
    · exact absurd e (q j a b)
    · by_cases z : j < r
      · have := h.2.2.2 j r a z q2
        rw [e, q3] at this
        omega
      · by_cases z2 : r < j
        · have := h.2.2.2 r j q1 z2 b
          rw [e, q3] at this
          omega
        · omega
  intro f
  induction f with
  | zero => intro a j b1 b2 b3; omega
  | succ f ih =>
    intro a j b1 b2 b3 ha
    rw [pM_entryOf_5, entries_m hk ⟨h1.1, by omega⟩, bnd_ok, w32_of (z := j) (by omega), w32_of (z := sm (mc D k) (Rz 240 42 D k)) (by omega)]
    by_cases g : j < sm (mc D k) (Rz 240 42 D k)
    · rw [if_pos g, rdA_R ⟨by omega, by omega, by decide⟩]
      simp only [jnR]
      have nb := (h.2.2.1 j b1 g).1
      rw [show Rz 7680 47 D (32 * k + j) = mn_ D k j from rfl, w32_of (z := mn_ D k j) (by omega), w32_of (z := x) (by omega)]
      by_cases q : mn_ D k j = x
      · rw [if_pos q]
        have := huq j b1 g q
        exact ih j (j + 1) (by omega) (by omega) (by omega) (by rw [if_pos (by omega)]; exact this)
      · rw [if_neg q]
        refine ih a (j + 1) (by omega) (by omega) (by omega) ?_
        have hjr : j ≠ r := fun z => by
          rcases hr with ⟨q1, -⟩ | ⟨-, -, q3⟩
          · omega
          · rw [z] at q; exact q q3
        rw [ha]
        by_cases z : r < j
        · rw [if_pos z, if_pos (by omega)]
        · rw [if_neg z, if_neg (by omega)]
    · rw [if_neg g, ha]
      rcases hr with ⟨q1, -⟩ | ⟨q1, q2, -⟩
      · rw [if_pos (by omega)]
      · rw [if_pos (by omega)]
theorem entryOf_m (hk : 0 ≤ k ∧ k < 80) (h : MW D k) {x : Int} (hx : 0 ≤ x ∧ x ≤ 9999) {r : Int} (hr : (r = -1 ∧ ∀ j, 0 ≤ j → j < sm (mc D k) (Rz 240 42 D k) → mn_ D k j ≠ x) ∨ (0 ≤ r ∧ r < sm (mc D k) (Rz 240 42 D k) ∧ mn_ D k r = x)) : pM_entryOf k x D = okR r D := by
  have hN := h.tot (i := Rz 240 42 D k) h.1.1 (Int.le_refl _)
  have := h.1
  unfold pM_entryOf
  have e : (-1 : Int) = if r < 0 then r else -1 := by
    rcases hr with ⟨q, -⟩ | ⟨q, -, -⟩
    · rw [q]; rfl
    · rw [if_neg (by omega)]
  exact entryOf_loop hk h hx hr fu (-1) 0 (by omega) hN.1 (fu_gt (by omega)) e
/-- there is one with this name, or none -/
theorem MW.named (h : MW D k) (x : Int) : ∃ r, (r = -1 ∧ ∀ j, 0 ≤ j → j < sm (mc D k) (Rz 240 42 D k) → mn_ D k j ≠ x) ∨ (0 ≤ r ∧ r < sm (mc D k) (Rz 240 42 D k) ∧ mn_ D k r = x) := by
  by_cases g : ∃ r, 0 ≤ r ∧ r < sm (mc D k) (Rz 240 42 D k) ∧ mn_ D k r = x
  · obtain ⟨r, hr⟩ := g
    exact ⟨r, Or.inr hr⟩
  · exact ⟨-1, Or.inl ⟨rfl, fun j a b e => g ⟨j, a, b, e⟩⟩⟩
theorem leafForm_loop (hk : 0 ≤ k ∧ k < 80) (h : MW D k) {x : Int} (hx : 0 ≤ x ∧ x ≤ 9999) : ∀ (f : Nat) (L i : Int), 0 ≤ i → i ≤ Rz 240 42 D k → (Rz 240 42 D k - i).toNat < f → (0 ≤ L ∧ (L < i ∨ L = 0)) → (L = 0 ∨ rk (mn_ D k (sm (mc D k) L)) < rk x) → (∀ j, L < j → j < i → ¬ rk (mn_ D k (sm (mc D k) j)) < rk x) →
    ∃ L', pM_leafFor_5 k x f L i D = okR L' D ∧ (0 ≤ L' ∧ (L' < Rz 240 42 D k ∨ L' = 0)) ∧ (L' = 0 ∨ rk (mn_ D k (sm (mc D k) L')) < rk x) ∧ ∀ j, L' < j → j < Rz 240 42 D k → ¬ rk (mn_ D k (sm (mc D k) j)) < rk x := by
  have h1 := h.1
  intro f
  induction f with
  | zero => intro L i b1 b2 b3; omega
  | succ f ih =>
    intro L i b1 b2 b3 b4 b5 b6
    rw [pM_leafFor_5, rdA_R ⟨hk.1, by omega, by decide⟩, w32_of (z := i) (by omega), w32_of (z := Rz 240 42 D k) (by omega)]
    by_cases g : i < Rz 240 42 D k
    · have hc := h.2.1 i b1 g
      have hst := h.step (i := i) (j := Rz 240 42 D k) b1 g (Int.le_refl _)
      have ht := h.tot (i := i) b1 b2
      have hnb := (h.2.2.1 (sm (mc D k) i) ht.1 (by omega)).1
      rw [if_pos g, start_m hk ⟨b1, by omega⟩, bnd_ok, rdA_R ⟨by omega, by omega, by decide⟩]
      simp only [jnR]
      rw [show Rz 7680 47 D (32 * k + sm (mc D k) i) = mn_ D k (sm (mc D k) i) from rfl, rank_m hnb, rank_m hx, w32_of (by have := rk_bd hnb; omega), w32_of (by have := rk_bd hx; omega)]
      by_cases q : rk (mn_ D k (sm (mc D k) i)) < rk x
      · rw [if_pos q]
        exact ih i (i + 1) (by omega) (by omega) (by omega) ⟨b1, Or.inl (by omega)⟩ (Or.inr q) (fun j c1 c2 => by omega)
      · rw [if_neg q]
        exact ih L (i + 1) (by omega) (by omega) (by omega) ⟨b4.1, by omega⟩ b5 (fun j c1 c2 => by
          by_cases z : j = i
          · rw [z]; exact q
          · exact b6 j c1 (by omega))
    · rw [if_neg g]
      exact ⟨L, rfl, ⟨b4.1, by omega⟩, b5, fun j c1 c2 => b6 j c1 (by omega)⟩
theorem leafFor_m (hk : 0 ≤ k ∧ k < 80) (h : MW D k) {x : Int} (hx : 0 ≤ x ∧ x ≤ 9999) :
    ∃ L', pM_leafFor k x D = okR L' D ∧ (0 ≤ L' ∧ (L' < Rz 240 42 D k ∨ L' = 0)) ∧ (L' = 0 ∨ rk (mn_ D k (sm (mc D k) L')) < rk x) ∧ ∀ j, L' < j → j < Rz 240 42 D k → ¬ rk (mn_ D k (sm (mc D k) j)) < rk x := by
  have h1 := h.1
  unfold pM_leafFor
  exact leafForm_loop hk h hx fu 0 0 (by omega) h1.1 (fu_gt (by omega)) ⟨by omega, Or.inr rfl⟩ (Or.inl rfl) (fun j a b => by omega)
/-- the place of a new name in its leaf, and what class and reference say of it -/
theorem MW.spot (h : MW D k) {x y : Int} (hx : 0 ≤ x ∧ x ≤ 9999) (hy : 0 ≤ y ∧ y < 80) (hnew : ∀ j, 0 ≤ j → j < sm (mc D k) (Rz 240 42 D k) → mn_ D k j ≠ x) {L : Int}
    (hL : (0 ≤ L ∧ (L < Rz 240 42 D k ∨ L = 0)) ∧ (L = 0 ∨ rk (mn_ D k (sm (mc D k) L)) < rk x) ∧ ∀ j, L < j → j < Rz 240 42 D k → ¬ rk (mn_ D k (sm (mc D k) j)) < rk x) :
    LF (mc D k) (mE D k) (Rz 240 42 D k) (rk x * 80 + y) L ∧ ((Rz 240 42 D k = 0 ∧ L = 0) ∨ (L < Rz 240 42 D k ∧ ∃ a, 0 ≤ a ∧ a ≤ mc D k L ∧ (∀ j, 0 ≤ j → j < sm (mc D k) L + a → rk (mn_ D k j) < rk x) ∧ ∀ j, sm (mc D k) L + a ≤ j → j < sm (mc D k) (Rz 240 42 D k) → rk x < rk (mn_ D k j))) := by
  obtain ⟨⟨a1, a2⟩, a3, a4⟩ := hL
  have h1 := h.1
  have cmp : ∀ j, 0 ≤ j → j < sm (mc D k) (Rz 240 42 D k) → (rk (mn_ D k j) < rk x ∧ mE D k j < rk x * 80 + y) ∨ (rk x < rk (mn_ D k j) ∧ rk x * 80 + y < mE D k j) := fun j b1 b2 => by
    obtain ⟨c1, c2⟩ := h.2.2.1 j b1 b2
    have hne : rk (mn_ D k j) ≠ rk x := fun z => hnew j b1 b2 (rk_inj c1 hx z)
    unfold mE
    omega
  have hS : ∀ i, 0 ≤ i → i < Rz 240 42 D k → 0 ≤ sm (mc D k) i ∧ sm (mc D k) i < sm (mc D k) (Rz 240 42 D k) := fun i b1 b2 => by
    have := h.step (i := i) (j := Rz 240 42 D k) b1 b2 (Int.le_refl _)
    have := h.tot (i := i) b1 (by omega)
    have := h.2.1 i b1 b2
    omega
  refine ⟨⟨⟨a1, a2⟩, ?_, fun j b1 b2 => ?_⟩, ?_⟩
  · by_cases g : L = 0
    · exact Or.inl g
    · right
      have := a3.resolve_left g
      obtain ⟨c1, c2⟩ := hS L a1 (by omega)
      have := cmp _ c1 c2
      omega
  · have := a4 j b1 b2
    obtain ⟨c1, c2⟩ := hS j (by omega) b2
    have := cmp _ c1 c2
    omega
  · by_cases g : Rz 240 42 D k = 0
    · exact Or.inl ⟨g, by omega⟩
    · right
      have hLn : L < Rz 240 42 D k := by omega
      obtain ⟨s1, s2⟩ := hS L a1 hLn
      have hst := h.step (i := L) (j := Rz 240 42 D k) a1 hLn (Int.le_refl _)
      have hcL := h.2.1 L a1 hLn
      refine ⟨hLn, ?_⟩
      -- the first place in the leaf that is not below
      have key : ∀ (m : Nat) (b : Int), b = mc D k L - m → 0 ≤ b → (∀ j, sm (mc D k) L + b ≤ j → j < sm (mc D k) L + mc D k L → rk x < rk (mn_ D k j)) →
          ∃ a, 0 ≤ a ∧ a ≤ b ∧ (∀ j, sm (mc D k) L ≤ j → j < sm (mc D k) L + a → rk (mn_ D k j) < rk x) ∧ ∀ j, sm (mc D k) L + a ≤ j → j < sm (mc D k) L + mc D k L → rk x < rk (mn_ D k j) := by
        intro m b hb hb0
        have : ∀ (q : Nat) (b : Int), b = q → (∀ j, sm (mc D k) L + b ≤ j → j < sm (mc D k) L + mc D k L → rk x < rk (mn_ D k j)) → b ≤ mc D k L →
            ∃ a, 0 ≤ a ∧ a ≤ b ∧ (∀ j, sm (mc D k) L ≤ j → j < sm (mc D k) L + a → rk (mn_ D k j) < rk x) ∧ ∀ j, sm (mc D k) L + a ≤ j → j < sm (mc D k) L + mc D k L → rk x < rk (mn_ D k j) := by
          intro q
          induction q with
          | zero =>
            intro b hb hh _
            exact ⟨0, by omega, by omega, fun j b1 b2 => by omega, fun j b1 b2 => hh j (by omega) b2⟩
          | succ q ih =>
            intro b hb hh hbc
            rcases cmp (sm (mc D k) L + (b - 1)) (by omega) (by omega) with ⟨c1, -⟩ | ⟨c1, -⟩
            · refine ⟨b, by omega, by omega, fun j b1 b2 => ?_, hh⟩
              by_cases z : j = sm (mc D k) L + (b - 1)
              · rw [z]; exact c1
              · have := h.2.2.2 j (sm (mc D k) L + (b - 1)) (by omega) (by omega) (by omega)
                omega
            · obtain ⟨a, e1, e2, e3, e4⟩ := ih (b - 1) (by omega) (fun j b1 b2 => by
                by_cases z : j = sm (mc D k) L + (b - 1)
                · rw [z]; exact c1
                · exact hh j (by omega) b2) (by omega)
              exact ⟨a, e1, by omega, e3, e4⟩
        exact fun hh => this b.toNat b (by omega) hh (by omega)
      obtain ⟨a, e1, e2, e3, e4⟩ := key 0 (mc D k L) (by omega) (by omega) (fun j b1 b2 => by omega)
      refine ⟨a, e1, e2, fun j b1 b2 => ?_, fun j b1 b2 => ?_⟩
      · by_cases z : sm (mc D k) L ≤ j
        · exact e3 j z b2
        · by_cases z2 : L = 0
          · rw [z2, sm_0] at z; omega
          · have := a3.resolve_left z2
            have := h.2.2.2 j (sm (mc D k) L) b1 (by omega) s2
            omega
      · by_cases z : j < sm (mc D k) L + mc D k L
        · exact e4 j b1 z
        · have hL1 : L + 1 < Rz 240 42 D k := by
            refine Int.not_le.mp fun z2 => ?_
            have : sm (mc D k) (Rz 240 42 D k) = sm (mc D k) L + mc D k L := by rw [show Rz 240 42 D k = L + 1 by omega, sm_s a1]
            omega
          obtain ⟨c1, c2⟩ := hS (L + 1) (by omega) hL1
          have e5 := a4 (L + 1) (by omega) hL1
          have e6 := cmp _ c1 c2
          rw [sm_s a1] at e5 e6
          by_cases z2 : j = sm (mc D k) L + mc D k L
          · rw [z2]; omega
          · have := h.2.2.2 (sm (mc D k) L + mc D k L) j (by omega) (by omega) b2
            omega
end MLIST
