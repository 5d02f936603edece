/-! the law's loop -/
section LOOP
theorem dirty_law {D : DD} {m n : Int} (h : Lw D m n) : ∃ v, pM_dirty D = okR v (up2 D 32 42 0) ∧ lcmZ (w64 (pH_dirty D)) (w64 v) = 0 ∧ Lw (up2 D 32 42 0) (m + 0) (n + 0) := by
  obtain ⟨v, k1, k2⟩ := dirty_ok h.1
  have e : ∀ b, b < 32 → up2 D 32 42 0 b = D b := fun b hb => up2_ot (by omega)
  refine ⟨v, k1, by rw [k2]; exact lcm_self _, ?_⟩
  rw [Int.add_zero, Int.add_zero]
  exact ⟨(h.1.thr (x := 0)).cc e (fun _ _ _ => rfl), (h.2.frame (Oc.rf D) (Om.thr D 0)).cc e (fun _ _ _ => rfl)⟩
theorem sectors_law {D : DD} {m n : Int} (h : Lw D m n) : ∃ D3, pM_sectors D = okR (pH_sectors D) D3 ∧ Lw D3 (m + 0) (n + 0) := by
  have e : ∀ b, b < 32 → up2 D 32 42 0 b = D b := fun b hb => up2_ot (by omega)
  refine ⟨up2 D 32 42 0, ?_, ?_⟩
  · unfold pM_sectors pH_sectors
    simp only [gD]
    rw [up2_ot (by decide), h.1.1.1.1.2.2.1]
  · rw [Int.add_zero, Int.add_zero]
    exact ⟨(h.1.thr (x := 0)).cc e (fun _ _ _ => rfl), (h.2.frame (Oc.rf D) (Om.thr D 0)).cc e (fun _ _ _ => rfl)⟩
theorem Lw.mono {D : DD} {m n m' n' : Int} (h : Lw D m n) (hm : m ≤ m') (hm' : m' ≤ 700000) (hn : n ≤ n') : Lw D m' n' := ⟨⟨h.1.1, h.1.2.1, h.1.2.2.1.mono hm, hm'⟩, ⟨h.2.1, ⟨h.2.2.1.1, h.2.2.1.2.1, by have := h.2.2.1.2.2; omega⟩, h.2.2.2⟩⟩
theorem law_loop {X : Nat → Int32} {L : Nat} (hL : L ≤ 2560) : ∀ (f : Nat) (a : Int) (D : DD) (m n : Int), Lw D m n → 0 ≤ a → a ≤ L → (L : Int) < a + 5 * f → m + 80 * f ≤ 600000 → n + f ≤ 600000 → ∃ D', pE_law_23 X L f a D = okR 1 D' := by
  intro f
  induction f with
  | zero => intro a D m n h h0 h1 h2 h3 h4; omega
  | succ f ih =>
    intro a D m n h h0 h1 h2 h3 h4
    rw [pE_law_23, w32_of (z := (L : Int) - 5) (by omega), w32_of (z := a) (by omega)]
    by_cases q : (L : Int) - 5 < a
    · rw [if_pos q]
      exact ⟨D, rfl⟩
    rw [if_neg q, rdX_ok (by omega)]
    simp only [jnR]
    obtain ⟨op, hop⟩ : ∃ op, w32 (iandZ (X a.toNat).toInt 31) = op := ⟨_, rfl⟩
    rw [hop]
    have go : ∀ D3, Lw D3 (m + 80) (n + 1) → ∃ D', pE_law_23 X L f (a + 5) D3 = okR 1 D' := fun D3 g => ih (a + 5) D3 (m + 80) (n + 1) g (by omega) (by omega) (by omega) (by omega) (by omega)
    have go0 : ∀ D3, Lw D3 (m + 0) (n + 0) → ∃ D', pE_law_23 X L f (a + 5) D3 = okR 1 D' := fun D3 g => go D3 (g.mono (by omega) (by omega) (by omega))
    by_cases q0 : op = 0
    · rw [if_pos q0]
      obtain ⟨v4, D2, v7, D3, e1, e2, e3, e4, e5⟩ := law_make (p1 := (X (a + 1).toNat).toInt) (p2 := (X (a + 2).toNat).toInt) h (by omega) (by omega) (i32_bd _) (i32_bd _)
      rw [rdX_ok (by omega), rdX_ok (by omega), e1, bnd_ok, rdX_ok (by omega), rdX_ok (by omega), e2, bnd_ok, if_pos e3]
      by_cases z : w32 v4 = 0
      · rw [if_pos z, e4 z, lcm_self, if_pos rfl]
        exact go D3 e5
      · rw [if_neg z]
        exact go D3 e5
    rw [if_neg q0]
    by_cases q1 : op = 1
    · rw [if_pos q1]
      obtain ⟨v4, D2, v7, D3, e1, e2, e3, e4, e5⟩ := law_makeLink (p1 := (X (a + 1).toNat).toInt) (p2 := (X (a + 2).toNat).toInt) (p3 := (X (a + 3).toNat).toInt) h (by omega) (by omega) (i32_bd _) (i32_bd _) (i32_bd _)
      rw [rdX_ok (by omega), rdX_ok (by omega), rdX_ok (by omega), e1, bnd_ok, rdX_ok (by omega), rdX_ok (by omega), rdX_ok (by omega), e2, bnd_ok, if_pos e3]
      by_cases z : w32 v4 = 0
      · rw [if_pos z, e4 z, lcm_self, if_pos rfl]
        exact go D3 e5
      · rw [if_neg z]
        exact go D3 e5
    rw [if_neg q1]
    by_cases q2 : op = 2
    · rw [if_pos q2]
      obtain ⟨v4, D2, v7, D3, e1, e2, e3, e4, e5⟩ := law_rename (p1 := (X (a + 1).toNat).toInt) (p2 := (X (a + 2).toNat).toInt) h (by omega) (by omega) (i32_bd _) (i32_bd _)
      rw [rdX_ok (by omega), rdX_ok (by omega), e1, bnd_ok, rdX_ok (by omega), rdX_ok (by omega), e2, bnd_ok, if_pos e3]
      by_cases z : w32 v4 = 0
      · rw [if_pos z, e4 z, lcm_self, if_pos rfl]
        exact go D3 e5
      · rw [if_neg z]
        exact go D3 e5
    rw [if_neg q2]
    by_cases q3 : op = 3
    · rw [if_pos q3]
      obtain ⟨v4, D2, v7, D3, e1, e2, e3, e4, e5⟩ := law_delete (p1 := (X (a + 1).toNat).toInt) h (by omega) (by omega) (i32_bd _)
      rw [rdX_ok (by omega), e1, bnd_ok, rdX_ok (by omega), e2, bnd_ok, if_pos e3]
      by_cases z : w32 v4 = 0
      · rw [if_pos z, e4 z, lcm_self, if_pos rfl]
        exact go D3 e5
      · rw [if_neg z]
        exact go D3 e5
    rw [if_neg q3]
    by_cases q4 : op = 4
    · rw [if_pos q4]
      obtain ⟨v4, D2, v7, D3, e1, e2, e3, e4, e5⟩ := law_find (p1 := (X (a + 1).toNat).toInt) (p2 := (X (a + 2).toNat).toInt) h (by omega) (by omega) (i32_bd _) (i32_bd _)
      rw [rdX_ok (by omega), rdX_ok (by omega), e1, bnd_ok, rdX_ok (by omega), rdX_ok (by omega), e2, bnd_ok, if_pos e3]
      by_cases z : w32 v4 = 0
      · rw [if_pos z, e4 z, lcm_self, if_pos rfl]
        exact go D3 e5
      · rw [if_neg z]
        exact go D3 e5
    rw [if_neg q4]
    by_cases q5 : op = 5
    · rw [if_pos q5]
      obtain ⟨v4, D2, v7, D3, e1, e2, e3, e4, e5⟩ := law_subkeyAt (p1 := (X (a + 1).toNat).toInt) (p2 := (X (a + 2).toNat).toInt) h (by omega) (by omega) (i32_bd _) (i32_bd _)
      rw [rdX_ok (by omega), rdX_ok (by omega), e1, bnd_ok, rdX_ok (by omega), rdX_ok (by omega), e2, bnd_ok, if_pos e3]
      by_cases z : w32 v4 = 0
      · rw [if_pos z, e4 z, lcm_self, if_pos rfl]
        exact go D3 e5
      · rw [if_neg z]
        exact go D3 e5
    rw [if_neg q5]
    by_cases q6 : op = 6
    · rw [if_pos q6]
      obtain ⟨v4, D2, v7, D3, e1, e2, e3, e4, e5⟩ := law_list (p1 := (X (a + 1).toNat).toInt) h (by omega) (by omega) (i32_bd _)
      rw [rdX_ok (by omega), e1, bnd_ok, rdX_ok (by omega), e2, bnd_ok, if_pos e3]
      by_cases z : w32 v4 = 0
      · rw [if_pos z, e4 z, lcm_self, if_pos rfl]
        exact go D3 e5
      · rw [if_neg z]
        exact go D3 e5
    rw [if_neg q6]
    by_cases q7 : op = 7
    · rw [if_pos q7]
      obtain ⟨v4, D2, v7, D3, e1, e2, e3, e4, e5⟩ := law_follow (p1 := (X (a + 1).toNat).toInt) h (by omega) (by omega) (i32_bd _)
      rw [rdX_ok (by omega), e1, bnd_ok, rdX_ok (by omega), e2, bnd_ok, if_pos e3]
      by_cases z : w32 v4 = 0
      · rw [if_pos z, e4 z, lcm_self, if_pos rfl]
        exact go D3 e5
      · rw [if_neg z]
        exact go D3 e5
    rw [if_neg q7]
    by_cases q8 : op = 8
    · rw [if_pos q8]
      obtain ⟨v4, D2, v7, D3, e1, e2, e3, e4, e5⟩ := law_setValue (p1 := (X (a + 1).toNat).toInt) (p2 := (X (a + 2).toNat).toInt) (p3 := (X (a + 3).toNat).toInt) (p4 := (X (a + 4).toNat).toInt) h (by omega) (by omega) (i32_bd _) (i32_bd _) (i32_bd _)
      rw [rdX_ok (by omega), rdX_ok (by omega), rdX_ok (by omega), rdX_ok (by omega), e1, bnd_ok, rdX_ok (by omega), rdX_ok (by omega), rdX_ok (by omega), rdX_ok (by omega), e2, bnd_ok, if_pos e3]
      by_cases z : w32 v4 = 0
      · rw [if_pos z, e4 z, lcm_self, if_pos rfl]
        exact go D3 e5
      · rw [if_neg z]
        exact go D3 e5
    rw [if_neg q8]
    by_cases q9 : op = 9
    · rw [if_pos q9]
      obtain ⟨v4, D2, v7, D3, e1, e2, e3, e4, e5⟩ := law_resize (p1 := (X (a + 1).toNat).toInt) (p2 := (X (a + 2).toNat).toInt) (p3 := (X (a + 3).toNat).toInt) h (by omega) (by omega) (i32_bd _) (i32_bd _) (i32_bd _)
      rw [rdX_ok (by omega), rdX_ok (by omega), rdX_ok (by omega), e1, bnd_ok, rdX_ok (by omega), rdX_ok (by omega), rdX_ok (by omega), e2, bnd_ok, if_pos e3]
      by_cases z : w32 v4 = 0
      · rw [if_pos z, e4 z, lcm_self, if_pos rfl]
        exact go D3 e5
      · rw [if_neg z]
        exact go D3 e5
    rw [if_neg q9]
    by_cases q10 : op = 10
    · rw [if_pos q10]
      obtain ⟨v4, D2, v7, D3, e1, e2, e3, e4, e5⟩ := law_dropValue (p1 := (X (a + 1).toNat).toInt) (p2 := (X (a + 2).toNat).toInt) h (by omega) (by omega) (i32_bd _) (i32_bd _)
      rw [rdX_ok (by omega), rdX_ok (by omega), e1, bnd_ok, rdX_ok (by omega), rdX_ok (by omega), e2, bnd_ok, if_pos e3]
      by_cases z : w32 v4 = 0
      · rw [if_pos z, e4 z, lcm_self, if_pos rfl]
        exact go D3 e5
      · rw [if_neg z]
        exact go D3 e5
    rw [if_neg q10]
    by_cases q11 : op = 11
    · rw [if_pos q11]
      obtain ⟨v4, D2, v7, D3, e1, e2, e3, e4, e5⟩ := law_unit (p1 := (X (a + 1).toNat).toInt) (p2 := (X (a + 2).toNat).toInt) (p3 := (X (a + 3).toNat).toInt) h (by omega) (by omega) (i32_bd _) (i32_bd _) (i32_bd _)
      rw [rdX_ok (by omega), rdX_ok (by omega), rdX_ok (by omega), e1, bnd_ok, rdX_ok (by omega), rdX_ok (by omega), rdX_ok (by omega), e2, bnd_ok, if_pos e3]
      by_cases z : w32 v4 = 0
      · rw [if_pos z, e4 z, lcm_self, if_pos rfl]
        exact go D3 e5
      · rw [if_neg z]
        exact go D3 e5
    rw [if_neg q11]
    by_cases q12 : op = 12
    · rw [if_pos q12]
      obtain ⟨v4, D2, v7, D3, e1, e2, e3, e4, e5⟩ := law_setRights (p1 := (X (a + 1).toNat).toInt) (p2 := (X (a + 2).toNat).toInt) h (by omega) (by omega) (i32_bd _) (i32_bd _)
      rw [rdX_ok (by omega), rdX_ok (by omega), e1, bnd_ok, rdX_ok (by omega), rdX_ok (by omega), e2, bnd_ok, if_pos e3]
      by_cases z : w32 v4 = 0
      · rw [if_pos z, e4 z, lcm_self, if_pos rfl]
        exact go D3 e5
      · rw [if_neg z]
        exact go D3 e5
    rw [if_neg q12]
    by_cases q13 : op = 13
    · rw [if_pos q13]
      obtain ⟨v4, D2, v7, D3, e1, e2, e3, e4, e5⟩ := law_sharers (p1 := (X (a + 1).toNat).toInt) h (by omega) (by omega) (i32_bd _)
      rw [rdX_ok (by omega), e1, bnd_ok, rdX_ok (by omega), e2, bnd_ok, if_pos e3]
      by_cases z : w32 v4 = 0
      · rw [if_pos z, e4 z, lcm_self, if_pos rfl]
        exact go D3 e5
      · rw [if_neg z]
        exact go D3 e5
    rw [if_neg q13]
    by_cases q14 : op = 14
    · rw [if_pos q14]
      obtain ⟨D3, e1, e2⟩ := sectors_law h
      rw [e1, bnd_ok, if_pos rfl]
      exact go0 D3 e2
    rw [if_neg q14]
    by_cases q15 : op = 15
    · rw [if_pos q15]
      obtain ⟨v4, D2, v7, D3, e1, e2, e3, e4, e5⟩ := law_cell (p1 := (X (a + 1).toNat).toInt) h (by omega) (by omega) (i32_bd _)
      rw [rdX_ok (by omega), e1, bnd_ok, rdX_ok (by omega), e2, bnd_ok, if_pos e3]
      by_cases z : w32 v4 = 0
      · rw [if_pos z, e4 z, lcm_self, if_pos rfl]
        exact go D3 e5
      · rw [if_neg z]
        exact go D3 e5
    rw [if_neg q15]
    by_cases q16 : op = 16
    · rw [if_pos q16]
      obtain ⟨v4, D2, v7, D3, e1, e2, e3, e4, e5⟩ := law_place (p1 := (X (a + 1).toNat).toInt) h (by omega) (by omega) (i32_bd _)
      rw [rdX_ok (by omega), e1, bnd_ok, rdX_ok (by omega), e2, bnd_ok, if_pos e3]
      by_cases z : w32 v4 = 0
      · rw [if_pos z, e4 z, lcm_self, if_pos rfl]
        exact go D3 e5
      · rw [if_neg z]
        exact go D3 e5
    rw [if_neg q16]
    by_cases q17 : op = 17
    · rw [if_pos q17]
      obtain ⟨v, D2, D3, e1, e2, e3⟩ := law_plain (rc := pH_used) (rm := pM_used) h (by omega) (fun Dc Dm hs hf => by
        have e : pH_used Dc = pC_unitsInUse Dc := by
          unfold pH_used
          obtain ⟨C, M, v, -, -, -, -, y⟩ := used_ok hs
          rcases y with y | ⟨e, y, -⟩
          · rw [y.1, bnd_ok]
          · exact absurd y List.not_mem_nil
        rw [e]
        exact (used_ok hs).okF hf)
      rw [e1, bnd_ok, e2, bnd_ok, if_pos rfl]
      exact go D3 e3
    rw [if_neg q17]
    by_cases q18 : op = 18
    · rw [if_pos q18]
      obtain ⟨v, D2, D3, e1, e2, e3⟩ := law_plain (rc := pH_usedByTree) (rm := pM_usedByTree) h (by omega) (fun Dc Dm hs hf => (usedByTree_ok hs).okF hf)
      rw [e1, bnd_ok, e2, bnd_ok, if_pos rfl]
      exact go D3 e3
    rw [if_neg q18]
    by_cases q19 : op = 19
    · rw [if_pos q19]
      have fin : ∀ d : Int, (d = 0 ∨ d = 1) → ∃ D', (bnd (pE_watch (X (a + 1).toNat).toInt (X (a + 2).toNat).toInt d D) fun v104 D56 => rdX X L (a + 1) D56 fun v105 => rdX X L (a + 2) D56 fun v106 => bnd (pM_watch v105 v106 d D56) fun v108 D58 => if (w32 (pM_thrown D58)) = (w32 v104) then (if (w32 v104) = 0 then (if (w32 v108) = 0 then (if (lcmZ (w64 (D58 68 0)) (w64 0)) = 0 then pE_law_23 X L f (a + 5) D58 else okR 0 D58) else (if (lcmZ (w64 (D58 68 0)) (w64 1)) = 0 then pE_law_23 X L f (a + 5) D58 else okR 0 D58)) else pE_law_23 X L f (a + 5) D58) else okR 0 D58) = okR 1 D' := fun d hd => by
        obtain ⟨v4, D2, v7, D3, e1, e2, e3, e4, e5⟩ := law_watch (p1 := (X (a + 1).toNat).toInt) (p2 := (X (a + 2).toNat).toInt) h (by omega) (by omega) (i32_bd _) (i32_bd _) hd
        rw [e1, bnd_ok, rdX_ok (by omega), rdX_ok (by omega), e2, bnd_ok, if_pos e3]
        by_cases z : w32 v4 = 0
        · have e6 : D3 68 0 = if w32 v7 = 0 then 0 else 1 := e4 z
          by_cases y : w32 v7 = 0
          · rw [if_pos y] at e6
            rw [if_pos z, if_pos y, e6, lcm_self, if_pos rfl]
            exact go D3 e5
          · rw [if_neg y] at e6
            rw [if_pos z, if_neg y, e6, lcm_self, if_pos rfl]
            exact go D3 e5
        · rw [if_neg z]
          exact go D3 e5
      rw [rdX_ok (by omega), rdX_ok (by omega), rdX_ok (by omega)]
      by_cases y : w32 (X (a + 3).toNat).toInt = 0
      · rw [if_pos y]
        have w := fin 0 (Or.inl rfl)
        obtain ⟨v4, D2, v7, D3, e1, e2, e3, e4, e5⟩ := law_watch (p1 := (X (a + 1).toNat).toInt) (p2 := (X (a + 2).toNat).toInt) h (by omega) (by omega) (i32_bd _) (i32_bd _) (Or.inl rfl)
        rw [e1, bnd_ok, rdX_ok (by omega), rdX_ok (by omega)] at w ⊢
        rw [rdX_ok (by omega), if_pos y]
        exact w
      · rw [if_neg y]
        have w := fin 1 (Or.inr rfl)
        obtain ⟨v4, D2, v7, D3, e1, e2, e3, e4, e5⟩ := law_watch (p1 := (X (a + 1).toNat).toInt) (p2 := (X (a + 2).toNat).toInt) h (by omega) (by omega) (i32_bd _) (i32_bd _) (Or.inr rfl)
        rw [e1, bnd_ok, rdX_ok (by omega), rdX_ok (by omega)] at w ⊢
        rw [rdX_ok (by omega), if_neg y]
        exact w
    rw [if_neg q19]
    by_cases q20 : op = 20
    · rw [if_pos q20]
      obtain ⟨v, D2, D3, e1, e2, e3⟩ := law_plain (rc := pH_takeNotice) (rm := pM_takeNotice) h (by omega) (fun Dc Dm hs hf => (takeNotice_ok hs).okF hf)
      rw [e1, bnd_ok, e2, bnd_ok, if_pos rfl]
      exact go D3 e3
    rw [if_neg q20]
    by_cases q21 : op = 21
    · rw [if_pos q21]
      obtain ⟨v, e1, e2, e3⟩ := dirty_law h
      rw [e1, bnd_ok, if_pos e2]
      exact go0 _ e3
    rw [if_neg q21]
    by_cases q22 : op = 22
    · rw [if_pos q22]
      obtain ⟨v4, D2, v7, D3, e1, e2, e3, e4, e5⟩ := law_flush  h (by omega) (by omega) 
      rw [e1, bnd_ok, e2, bnd_ok, if_pos e3]
      by_cases z : w32 v4 = 0
      · rw [if_pos z, e4 z, lcm_self, if_pos rfl]
        exact go D3 e5
      · rw [if_neg z]
        exact go D3 e5
    rw [if_neg q22]
    by_cases q23 : op = 23
    · rw [if_pos q23]
      obtain ⟨v4, D2, v7, D3, e1, e2, e3, e4, e5⟩ := law_write (p1 := (X (a + 1).toNat).toInt) h (by omega) (by omega) (i32_bd _)
      rw [rdX_ok (by omega), e1, bnd_ok, rdX_ok (by omega), e2, bnd_ok, if_pos e3]
      by_cases z : w32 v4 = 0
      · rw [if_pos z, e4 z, lcm_self, if_pos rfl]
        exact go D3 e5
      · rw [if_neg z]
        exact go D3 e5
    rw [if_neg q23]
    by_cases q24 : op = 24
    · rw [if_pos q24]
      obtain ⟨v4, D2, v7, D3, e1, e2, e3, e4, e5⟩ := law_log (p1 := (X (a + 1).toNat).toInt) h (by omega) (by omega) (i32_bd _)
      rw [rdX_ok (by omega), e1, bnd_ok, rdX_ok (by omega), e2, bnd_ok, if_pos e3]
      by_cases z : w32 v4 = 0
      · rw [if_pos z, e4 z, lcm_self, if_pos rfl]
        exact go D3 e5
      · rw [if_neg z]
        exact go D3 e5
    rw [if_neg q24]
    by_cases q25 : op = 25
    · rw [if_pos q25]
      obtain ⟨v, D2, D3, e1, e2, e3⟩ := law_plain (rc := pH_crash) (rm := pM_crash) h (by omega) (fun Dc Dm hs hf => crash_ok hs hf (by omega))
      rw [e1, bnd_ok, e2, bnd_ok, if_pos rfl]
      exact go D3 e3
    rw [if_neg q25]
    exact go0 D (by rw [Int.add_zero, Int.add_zero]; exact h)
end LOOP
