/-! a registry is copied, in the reference -/
section COPIES
/-- array a copied, of n cells, from p to q -/
def Cp (a n p q : Nat) (D D' : DD) : Prop := (∀ b, b ≠ a → D' b = D b) ∧ ∀ k, D' a k = if q * n ≤ k ∧ k < q * n + n then D a (k - q * n + p * n) else D a k
theorem row_loop {m a n p q : Nat} {D0 : DD} (hm : 3 * n = m) (hn : n ≤ 2560) (hp : p < 3) (hq : q < 3) (hpq : p ≠ q) : ∀ (f : Nat) (i : Nat) (D : DD), i ≤ n → n - i < f → (∀ b, b ≠ a → D b = D0 b) → (∀ k, D a k = if q * n ≤ k ∧ k < q * n + i then D0 a (k - q * n + p * n) else D0 a k) → ∃ D', rowF_3 m a (p : Int) (q : Int) (n : Int) f (i : Int) D = okR 0 D' ∧ Cp a n p q D0 D' := by
  intro f
  induction f with
  | zero => intro i D h1 h2; omega
  | succ f ih =>
    intro i D h1 h2 h3 h4
    have hpn : p * n ≤ 2 * n := Nat.mul_le_mul_right n (by omega)
    have hqn : q * n ≤ 2 * n := Nat.mul_le_mul_right n (by omega)
    rw [rowF_3, w32_of (z := (i : Int)) (by omega), w32_of (z := (n : Int)) (by omega)]
    by_cases z : i < n
    · have ep : ((n : Int) * (p : Int) + (i : Int)) = ((p * n + i : Nat) : Int) := by rw [Int.mul_comm]; simp
      have eq : ((n : Int) * (q : Int) + (i : Int)) = ((q * n + i : Nat) : Int) := by rw [Int.mul_comm]; simp
      rw [if_pos (by omega), ep, eq, rdA_R (by omega), R_raw (by omega), wrA_T (by omega)]
      have hrd : D a (p * n + i) = D0 a (p * n + i) := by
        rw [h4]
        by_cases y : q * n ≤ p * n + i ∧ p * n + i < q * n + i
        · exfalso
          have h5 : p < q := Nat.lt_of_mul_lt_mul_right (a := n) (by omega)
          have h6 : (p + 1) * n ≤ q * n := Nat.mul_le_mul_right n h5
          rw [Nat.add_mul, Nat.one_mul] at h6
          omega
        · rw [if_neg y]
      have eT : ∀ b k, Tz m a D ((q * n + i : Nat) : Int) (D a (p * n + i)) b k = if b = a ∧ k = q * n + i then D0 a (p * n + i) else D b k := fun b k => by
        unfold Tz
        rw [if_pos (by omega), Int.toNat_natCast]
        by_cases g : b = a
        · subst g
          by_cases g2 : k = q * n + i
          · subst g2; rw [up2_eq, if_pos ⟨rfl, rfl⟩, hrd]
          · rw [up2_nk g2, if_neg (fun y => g2 y.2)]
        · rw [up2_ot g, if_neg (fun y => g y.1)]
      refine ih (i + 1) _ (by omega) (by omega) (fun b hb => ?_) (fun k => ?_)
      · funext k
        rw [eT, if_neg (fun y => hb y.1), h3 b hb]
      · rw [eT, h4]
        by_cases g : k = q * n + i
        · rw [if_pos ⟨rfl, g⟩, if_pos (by omega), show k - q * n + p * n = p * n + i by omega]
        · rw [if_neg (fun y => g y.2)]
          by_cases g2 : q * n ≤ k ∧ k < q * n + i
          · rw [if_pos g2, if_pos (by omega)]
          · rw [if_neg g2, if_neg (by omega)]
    · have e : i = n := by omega
      subst e
      exact ⟨D, by rw [if_neg (by omega)], h3, h4⟩
theorem row_c {m a n p q : Nat} {D : DD} (hm : 3 * n = m) (hn : n ≤ 2560) (hp : p < 3) (hq : q < 3) (hpq : p ≠ q) : ∃ D', rowF m a (p : Int) (q : Int) (n : Int) D = okR 0 D' ∧ Cp a n p q D D' := by
  unfold rowF
  exact row_loop hm hn hp hq hpq fu 0 D (Nat.zero_le _) (fu_gt (by omega)) (fun _ _ => rfl) (fun k => by rw [if_neg (by omega)])
theorem bool_loop {p q : Nat} {D0 : DD} (hp : p < 3) (hq : q < 3) (hpq : p ≠ q) (h01 : ∀ k, k < 80 → D0 36 (p * 80 + k) = 0 ∨ D0 36 (p * 80 + k) = 1) : ∀ (f : Nat) (i : Nat) (D : DD), i ≤ 80 → 80 - i < f → (∀ b, b ≠ 36 → D b = D0 b) → (∀ k, D 36 k = if q * 80 ≤ k ∧ k < q * 80 + i then D0 36 (k - q * 80 + p * 80) else D0 36 k) → ∃ D', (∀ K, pM_copies_34 (p : Int) (q : Int) f (i : Int) D K = K D') ∧ Cp 36 80 p q D0 D' := by
  intro f
  induction f with
  | zero => intro i D h1 h2; omega
  | succ f ih =>
    intro i D h1 h2 h3 h4
    by_cases z : i < 80
    · have ep : (80 * (p : Int) + (i : Int)) = ((p * 80 + i : Nat) : Int) := by omega
      have eq : (80 * (q : Int) + (i : Int)) = ((q * 80 + i : Nat) : Int) := by omega
      have hrd : D 36 (p * 80 + i) = D0 36 (p * 80 + i) := by
        rw [h4, if_neg (by omega)]
      have eT : ∀ b k, Tz 240 36 D ((q * 80 + i : Nat) : Int) (D 36 (p * 80 + i)) b k = if b = 36 ∧ k = q * 80 + i then D0 36 (p * 80 + i) else D b k := fun b k => by
        unfold Tz
        rw [if_pos (by omega), Int.toNat_natCast]
        by_cases g : b = 36
        · subst g
          by_cases g2 : k = q * 80 + i
          · subst g2; rw [up2_eq, if_pos ⟨rfl, rfl⟩, hrd]
          · rw [up2_nk g2, if_neg (fun y => g2 y.2)]
        · rw [up2_ot g, if_neg (fun y => g y.1)]
      obtain ⟨D', k1, k2⟩ := ih (i + 1) (Tz 240 36 D ((q * 80 + i : Nat) : Int) (D 36 (p * 80 + i))) (by omega) (by omega) (fun b hb => by
        funext k
        rw [eT, if_neg (fun y => hb y.1), h3 b hb]) (fun k => by
        rw [eT, h4]
        by_cases g : k = q * 80 + i
        · rw [if_pos ⟨rfl, g⟩, if_pos (by omega), show k - q * 80 + p * 80 = p * 80 + i by omega]
        · rw [if_neg (fun y => g y.2)]
          by_cases g2 : q * 80 ≤ k ∧ k < q * 80 + i
          · rw [if_pos g2, if_pos (by omega)]
          · rw [if_neg g2, if_neg (by omega)])
      refine ⟨D', fun K => ?_, k2⟩
      rw [pM_copies_34, w32_of (z := (i : Int)) (by omega), if_pos (by omega), ep, eq, rdA_R (by omega), R_raw (by omega), wrZ_T (by omega) (by rw [hrd]; exact h01 i z)]
      exact k1 K
    · have e : i = 80 := by omega
      subst e
      refine ⟨D, fun K => ?_, h3, h4⟩
      rw [pM_copies_34, w32_of (by omega), if_neg (by omega)]
/-- all of a registry is copied -/
theorem copies_m {p q : Nat} {D : DD} (hp : p < 3) (hq : q < 3) (hpq : p ≠ q) (h01 : ∀ k, k < 80 → D 36 (p * 80 + k) = 0 ∨ D 36 (p * 80 + k) = 1) : ∃ D', pM_copies (p : Int) (q : Int) D = okR 0 D' ∧ (∀ b, b < 33 ∨ 57 < b → D' b = D b) ∧ ∀ a k, 33 ≤ a → a ≤ 57 → D' a k = if q * lenA a ≤ k ∧ k < q * lenA a + lenA a then D a (k - q * lenA a + p * lenA a) else D a k := by
  obtain ⟨E1, r1, c1⟩ := row_c (m := 3072) (a := 33) (n := 1024) (D := D) rfl (by decide) hp hq hpq
  obtain ⟨E2, r2, c2⟩ := row_c (m := 3) (a := 34) (n := 1) (D := E1) rfl (by decide) hp hq hpq
  obtain ⟨E3, r3, c3⟩ := row_c (m := 3) (a := 35) (n := 1) (D := E2) rfl (by decide) hp hq hpq
  have h01' : ∀ k, k < 80 → E3 36 (p * 80 + k) = 0 ∨ E3 36 (p * 80 + k) = 1 := fun k hk => by rw [c3.1 36 (by decide), c2.1 36 (by decide), c1.1 36 (by decide)]; exact h01 k hk
  obtain ⟨E4, r4, c4⟩ := bool_loop hp hq hpq h01' fu 0 E3 (Nat.zero_le _) (fu_gt (by decide)) (fun _ _ => rfl) (fun k => by rw [if_neg (by omega)])
  obtain ⟨E5, r5, c5⟩ := row_c (m := 240) (a := 37) (n := 80) (D := E4) rfl (by decide) hp hq hpq
  obtain ⟨E6, r6, c6⟩ := row_c (m := 240) (a := 38) (n := 80) (D := E5) rfl (by decide) hp hq hpq
  obtain ⟨E7, r7, c7⟩ := row_c (m := 240) (a := 39) (n := 80) (D := E6) rfl (by decide) hp hq hpq
  obtain ⟨E8, r8, c8⟩ := row_c (m := 240) (a := 40) (n := 80) (D := E7) rfl (by decide) hp hq hpq
  obtain ⟨E9, r9, c9⟩ := row_c (m := 240) (a := 41) (n := 80) (D := E8) rfl (by decide) hp hq hpq
  obtain ⟨E10, r10, c10⟩ := row_c (m := 240) (a := 42) (n := 80) (D := E9) rfl (by decide) hp hq hpq
  obtain ⟨E11, r11, c11⟩ := row_c (m := 240) (a := 43) (n := 80) (D := E10) rfl (by decide) hp hq hpq
  obtain ⟨E12, r12, c12⟩ := row_c (m := 1920) (a := 44) (n := 640) (D := E11) rfl (by decide) hp hq hpq
  obtain ⟨E13, r13, c13⟩ := row_c (m := 1920) (a := 45) (n := 640) (D := E12) rfl (by decide) hp hq hpq
  obtain ⟨E14, r14, c14⟩ := row_c (m := 7680) (a := 46) (n := 2560) (D := E13) rfl (by decide) hp hq hpq
  obtain ⟨E15, r15, c15⟩ := row_c (m := 7680) (a := 47) (n := 2560) (D := E14) rfl (by decide) hp hq hpq
  obtain ⟨E16, r16, c16⟩ := row_c (m := 240) (a := 48) (n := 80) (D := E15) rfl (by decide) hp hq hpq
  obtain ⟨E17, r17, c17⟩ := row_c (m := 240) (a := 49) (n := 80) (D := E16) rfl (by decide) hp hq hpq
  obtain ⟨E18, r18, c18⟩ := row_c (m := 240) (a := 50) (n := 80) (D := E17) rfl (by decide) hp hq hpq
  obtain ⟨E19, r19, c19⟩ := row_c (m := 1920) (a := 51) (n := 640) (D := E18) rfl (by decide) hp hq hpq
  obtain ⟨E20, r20, c20⟩ := row_c (m := 1920) (a := 52) (n := 640) (D := E19) rfl (by decide) hp hq hpq
  obtain ⟨E21, r21, c21⟩ := row_c (m := 1920) (a := 53) (n := 640) (D := E20) rfl (by decide) hp hq hpq
  obtain ⟨E22, r22, c22⟩ := row_c (m := 1920) (a := 54) (n := 640) (D := E21) rfl (by decide) hp hq hpq
  obtain ⟨E23, r23, c23⟩ := row_c (m := 7680) (a := 55) (n := 2560) (D := E22) rfl (by decide) hp hq hpq
  obtain ⟨E24, r24, c24⟩ := row_c (m := 768) (a := 56) (n := 256) (D := E23) rfl (by decide) hp hq hpq
  obtain ⟨E25, r25, c25⟩ := row_c (m := 768) (a := 57) (n := 256) (D := E24) rfl (by decide) hp hq hpq
  have lo : ∀ b, (b < 33 ∨ 57 < b) → E25 b = D b := fun b hb => by
    rw [c25.1 b (by omega), c24.1 b (by omega), c23.1 b (by omega), c22.1 b (by omega), c21.1 b (by omega), c20.1 b (by omega), c19.1 b (by omega), c18.1 b (by omega), c17.1 b (by omega), c16.1 b (by omega), c15.1 b (by omega), c14.1 b (by omega), c13.1 b (by omega), c12.1 b (by omega), c11.1 b (by omega), c10.1 b (by omega), c9.1 b (by omega), c8.1 b (by omega), c7.1 b (by omega), c6.1 b (by omega), c5.1 b (by omega), c4.1 b (by omega), c3.1 b (by omega), c2.1 b (by omega), c1.1 b (by omega)]
  refine ⟨E25, ?_, lo, fun a k h1 h2 => ?_⟩
  · unfold pM_copies
    refine (congrArg (fun r => bnd r _) r1).trans ?_
    rw [bnd_ok]
    refine (congrArg (fun r => bnd r _) r2).trans ?_
    rw [bnd_ok]
    refine (congrArg (fun r => bnd r _) r3).trans ?_
    rw [bnd_ok]
    refine (r4 _).trans ?_
    refine (congrArg (fun r => bnd r _) r5).trans ?_
    rw [bnd_ok]
    refine (congrArg (fun r => bnd r _) r6).trans ?_
    rw [bnd_ok]
    refine (congrArg (fun r => bnd r _) r7).trans ?_
    rw [bnd_ok]
    refine (congrArg (fun r => bnd r _) r8).trans ?_
    rw [bnd_ok]
    refine (congrArg (fun r => bnd r _) r9).trans ?_
    rw [bnd_ok]
    refine (congrArg (fun r => bnd r _) r10).trans ?_
    rw [bnd_ok]
    refine (congrArg (fun r => bnd r _) r11).trans ?_
    rw [bnd_ok]
    refine (congrArg (fun r => bnd r _) r12).trans ?_
    rw [bnd_ok]
    refine (congrArg (fun r => bnd r _) r13).trans ?_
    rw [bnd_ok]
    refine (congrArg (fun r => bnd r _) r14).trans ?_
    rw [bnd_ok]
    refine (congrArg (fun r => bnd r _) r15).trans ?_
    rw [bnd_ok]
    refine (congrArg (fun r => bnd r _) r16).trans ?_
    rw [bnd_ok]
    refine (congrArg (fun r => bnd r _) r17).trans ?_
    rw [bnd_ok]
    refine (congrArg (fun r => bnd r _) r18).trans ?_
    rw [bnd_ok]
    refine (congrArg (fun r => bnd r _) r19).trans ?_
    rw [bnd_ok]
    refine (congrArg (fun r => bnd r _) r20).trans ?_
    rw [bnd_ok]
    refine (congrArg (fun r => bnd r _) r21).trans ?_
    rw [bnd_ok]
    refine (congrArg (fun r => bnd r _) r22).trans ?_
    rw [bnd_ok]
    refine (congrArg (fun r => bnd r _) r23).trans ?_
    rw [bnd_ok]
    refine (congrArg (fun r => bnd r _) r24).trans ?_
    rw [bnd_ok]
    refine (congrArg (fun r => bnd r _) r25).trans ?_
    rw [bnd_ok]
  · have fin : ∀ (a n : Nat) (X Y : DD), Cp a n p q X Y → lenA a = n → X a = D a → E25 a = Y a → E25 a k = if q * lenA a ≤ k ∧ k < q * lenA a + lenA a then D a (k - q * lenA a + p * lenA a) else D a k := fun a n X Y hc hl hX hY => by
      rw [hl, hY, hc.2 k, hX]
    rcases (show a = 33 ∨ a = 34 ∨ a = 35 ∨ a = 36 ∨ a = 37 ∨ a = 38 ∨ a = 39 ∨ a = 40 ∨ a = 41 ∨ a = 42 ∨ a = 43 ∨ a = 44 ∨ a = 45 ∨ a = 46 ∨ a = 47 ∨ a = 48 ∨ a = 49 ∨ a = 50 ∨ a = 51 ∨ a = 52 ∨ a = 53 ∨ a = 54 ∨ a = 55 ∨ a = 56 ∨ a = 57 by omega) with e | e | e | e | e | e | e | e | e | e | e | e | e | e | e | e | e | e | e | e | e | e | e | e | e
    · subst e
      exact fin 33 1024 D E1 c1 rfl rfl (by rw [c25.1 33 (by decide), c24.1 33 (by decide), c23.1 33 (by decide), c22.1 33 (by decide), c21.1 33 (by decide), c20.1 33 (by decide), c19.1 33 (by decide), c18.1 33 (by decide), c17.1 33 (by decide), c16.1 33 (by decide), c15.1 33 (by decide), c14.1 33 (by decide), c13.1 33 (by decide), c12.1 33 (by decide), c11.1 33 (by decide), c10.1 33 (by decide), c9.1 33 (by decide), c8.1 33 (by decide), c7.1 33 (by decide), c6.1 33 (by decide), c5.1 33 (by decide), c4.1 33 (by decide), c3.1 33 (by decide), c2.1 33 (by decide)])
    · subst e
      exact fin 34 1 E1 E2 c2 rfl (by rw [c1.1 34 (by decide)]) (by rw [c25.1 34 (by decide), c24.1 34 (by decide), c23.1 34 (by decide), c22.1 34 (by decide), c21.1 34 (by decide), c20.1 34 (by decide), c19.1 34 (by decide), c18.1 34 (by decide), c17.1 34 (by decide), c16.1 34 (by decide), c15.1 34 (by decide), c14.1 34 (by decide), c13.1 34 (by decide), c12.1 34 (by decide), c11.1 34 (by decide), c10.1 34 (by decide), c9.1 34 (by decide), c8.1 34 (by decide), c7.1 34 (by decide), c6.1 34 (by decide), c5.1 34 (by decide), c4.1 34 (by decide), c3.1 34 (by decide)])
    · subst e
      exact fin 35 1 E2 E3 c3 rfl (by rw [c2.1 35 (by decide), c1.1 35 (by decide)]) (by rw [c25.1 35 (by decide), c24.1 35 (by decide), c23.1 35 (by decide), c22.1 35 (by decide), c21.1 35 (by decide), c20.1 35 (by decide), c19.1 35 (by decide), c18.1 35 (by decide), c17.1 35 (by decide), c16.1 35 (by decide), c15.1 35 (by decide), c14.1 35 (by decide), c13.1 35 (by decide), c12.1 35 (by decide), c11.1 35 (by decide), c10.1 35 (by decide), c9.1 35 (by decide), c8.1 35 (by decide), c7.1 35 (by decide), c6.1 35 (by decide), c5.1 35 (by decide), c4.1 35 (by decide)])
    · subst e
      exact fin 36 80 E3 E4 c4 rfl (by rw [c3.1 36 (by decide), c2.1 36 (by decide), c1.1 36 (by decide)]) (by rw [c25.1 36 (by decide), c24.1 36 (by decide), c23.1 36 (by decide), c22.1 36 (by decide), c21.1 36 (by decide), c20.1 36 (by decide), c19.1 36 (by decide), c18.1 36 (by decide), c17.1 36 (by decide), c16.1 36 (by decide), c15.1 36 (by decide), c14.1 36 (by decide), c13.1 36 (by decide), c12.1 36 (by decide), c11.1 36 (by decide), c10.1 36 (by decide), c9.1 36 (by decide), c8.1 36 (by decide), c7.1 36 (by decide), c6.1 36 (by decide), c5.1 36 (by decide)])
    · subst e
      exact fin 37 80 E4 E5 c5 rfl (by rw [c4.1 37 (by decide), c3.1 37 (by decide), c2.1 37 (by decide), c1.1 37 (by decide)]) (by rw [c25.1 37 (by decide), c24.1 37 (by decide), c23.1 37 (by decide), c22.1 37 (by decide), c21.1 37 (by decide), c20.1 37 (by decide), c19.1 37 (by decide), c18.1 37 (by decide), c17.1 37 (by decide), c16.1 37 (by decide), c15.1 37 (by decide), c14.1 37 (by decide), c13.1 37 (by decide), c12.1 37 (by decide), c11.1 37 (by decide), c10.1 37 (by decide), c9.1 37 (by decide), c8.1 37 (by decide), c7.1 37 (by decide), c6.1 37 (by decide)])
    · subst e
      exact fin 38 80 E5 E6 c6 rfl (by rw [c5.1 38 (by decide), c4.1 38 (by decide), c3.1 38 (by decide), c2.1 38 (by decide), c1.1 38 (by decide)]) (by rw [c25.1 38 (by decide), c24.1 38 (by decide), c23.1 38 (by decide), c22.1 38 (by decide), c21.1 38 (by decide), c20.1 38 (by decide), c19.1 38 (by decide), c18.1 38 (by decide), c17.1 38 (by decide), c16.1 38 (by decide), c15.1 38 (by decide), c14.1 38 (by decide), c13.1 38 (by decide), c12.1 38 (by decide), c11.1 38 (by decide), c10.1 38 (by decide), c9.1 38 (by decide), c8.1 38 (by decide), c7.1 38 (by decide)])
    · subst e
      exact fin 39 80 E6 E7 c7 rfl (by rw [c6.1 39 (by decide), c5.1 39 (by decide), c4.1 39 (by decide), c3.1 39 (by decide), c2.1 39 (by decide), c1.1 39 (by decide)]) (by rw [c25.1 39 (by decide), c24.1 39 (by decide), c23.1 39 (by decide), c22.1 39 (by decide), c21.1 39 (by decide), c20.1 39 (by decide), c19.1 39 (by decide), c18.1 39 (by decide), c17.1 39 (by decide), c16.1 39 (by decide), c15.1 39 (by decide), c14.1 39 (by decide), c13.1 39 (by decide), c12.1 39 (by decide), c11.1 39 (by decide), c10.1 39 (by decide), c9.1 39 (by decide), c8.1 39 (by decide)])
    · subst e
      exact fin 40 80 E7 E8 c8 rfl (by rw [c7.1 40 (by decide), c6.1 40 (by decide), c5.1 40 (by decide), c4.1 40 (by decide), c3.1 40 (by decide), c2.1 40 (by decide), c1.1 40 (by decide)]) (by rw [c25.1 40 (by decide), c24.1 40 (by decide), c23.1 40 (by decide), c22.1 40 (by decide), c21.1 40 (by decide), c20.1 40 (by decide), c19.1 40 (by decide), c18.1 40 (by decide), c17.1 40 (by decide), c16.1 40 (by decide), c15.1 40 (by decide), c14.1 40 (by decide), c13.1 40 (by decide), c12.1 40 (by decide), c11.1 40 (by decide), c10.1 40 (by decide), c9.1 40 (by decide)])
    · subst e
      exact fin 41 80 E8 E9 c9 rfl (by rw [c8.1 41 (by decide), c7.1 41 (by decide), c6.1 41 (by decide), c5.1 41 (by decide), c4.1 41 (by decide), c3.1 41 (by decide), c2.1 41 (by decide), c1.1 41 (by decide)]) (by rw [c25.1 41 (by decide), c24.1 41 (by decide), c23.1 41 (by decide), c22.1 41 (by decide), c21.1 41 (by decide), c20.1 41 (by decide), c19.1 41 (by decide), c18.1 41 (by decide), c17.1 41 (by decide), c16.1 41 (by decide), c15.1 41 (by decide), c14.1 41 (by decide), c13.1 41 (by decide), c12.1 41 (by decide), c11.1 41 (by decide), c10.1 41 (by decide)])
    · subst e
      exact fin 42 80 E9 E10 c10 rfl (by rw [c9.1 42 (by decide), c8.1 42 (by decide), c7.1 42 (by decide), c6.1 42 (by decide), c5.1 42 (by decide), c4.1 42 (by decide), c3.1 42 (by decide), c2.1 42 (by decide), c1.1 42 (by decide)]) (by rw [c25.1 42 (by decide), c24.1 42 (by decide), c23.1 42 (by decide), c22.1 42 (by decide), c21.1 42 (by decide), c20.1 42 (by decide), c19.1 42 (by decide), c18.1 42 (by decide), c17.1 42 (by decide), c16.1 42 (by decide), c15.1 42 (by decide), c14.1 42 (by decide), c13.1 42 (by decide), c12.1 42 (by decide), c11.1 42 (by decide)])
    · subst e
      exact fin 43 80 E10 E11 c11 rfl (by rw [c10.1 43 (by decide), c9.1 43 (by decide), c8.1 43 (by decide), c7.1 43 (by decide), c6.1 43 (by decide), c5.1 43 (by decide), c4.1 43 (by decide), c3.1 43 (by decide), c2.1 43 (by decide), c1.1 43 (by decide)]) (by rw [c25.1 43 (by decide), c24.1 43 (by decide), c23.1 43 (by decide), c22.1 43 (by decide), c21.1 43 (by decide), c20.1 43 (by decide), c19.1 43 (by decide), c18.1 43 (by decide), c17.1 43 (by decide), c16.1 43 (by decide), c15.1 43 (by decide), c14.1 43 (by decide), c13.1 43 (by decide), c12.1 43 (by decide)])
    · subst e
      exact fin 44 640 E11 E12 c12 rfl (by rw [c11.1 44 (by decide), c10.1 44 (by decide), c9.1 44 (by decide), c8.1 44 (by decide), c7.1 44 (by decide), c6.1 44 (by decide), c5.1 44 (by decide), c4.1 44 (by decide), c3.1 44 (by decide), c2.1 44 (by decide), c1.1 44 (by decide)]) (by rw [c25.1 44 (by decide), c24.1 44 (by decide), c23.1 44 (by decide), c22.1 44 (by decide), c21.1 44 (by decide), c20.1 44 (by decide), c19.1 44 (by decide), c18.1 44 (by decide), c17.1 44 (by decide), c16.1 44 (by decide), c15.1 44 (by decide), c14.1 44 (by decide), c13.1 44 (by decide)])
    · subst e
      exact fin 45 640 E12 E13 c13 rfl (by rw [c12.1 45 (by decide), c11.1 45 (by decide), c10.1 45 (by decide), c9.1 45 (by decide), c8.1 45 (by decide), c7.1 45 (by decide), c6.1 45 (by decide), c5.1 45 (by decide), c4.1 45 (by decide), c3.1 45 (by decide), c2.1 45 (by decide), c1.1 45 (by decide)]) (by rw [c25.1 45 (by decide), c24.1 45 (by decide), c23.1 45 (by decide), c22.1 45 (by decide), c21.1 45 (by decide), c20.1 45 (by decide), c19.1 45 (by decide), c18.1 45 (by decide), c17.1 45 (by decide), c16.1 45 (by decide), c15.1 45 (by decide), c14.1 45 (by decide)])
    · subst e
      exact fin 46 2560 E13 E14 c14 rfl (by rw [c13.1 46 (by decide), c12.1 46 (by decide), c11.1 46 (by decide), c10.1 46 (by decide), c9.1 46 (by decide), c8.1 46 (by decide), c7.1 46 (by decide), c6.1 46 (by decide), c5.1 46 (by decide), c4.1 46 (by decide), c3.1 46 (by decide), c2.1 46 (by decide), c1.1 46 (by decide)]) (by rw [c25.1 46 (by decide), c24.1 46 (by decide), c23.1 46 (by decide), c22.1 46 (by decide), c21.1 46 (by decide), c20.1 46 (by decide), c19.1 46 (by decide), c18.1 46 (by decide), c17.1 46 (by decide), c16.1 46 (by decide), c15.1 46 (by decide)])
    · subst e
      exact fin 47 2560 E14 E15 c15 rfl (by rw [c14.1 47 (by decide), c13.1 47 (by decide), c12.1 47 (by decide), c11.1 47 (by decide), c10.1 47 (by decide), c9.1 47 (by decide), c8.1 47 (by decide), c7.1 47 (by decide), c6.1 47 (by decide), c5.1 47 (by decide), c4.1 47 (by decide), c3.1 47 (by decide), c2.1 47 (by decide), c1.1 47 (by decide)]) (by rw [c25.1 47 (by decide), c24.1 47 (by decide), c23.1 47 (by decide), c22.1 47 (by decide), c21.1 47 (by decide), c20.1 47 (by decide), c19.1 47 (by decide), c18.1 47 (by decide), c17.1 47 (by decide), c16.1 47 (by decide)])
    · subst e
      exact fin 48 80 E15 E16 c16 rfl (by rw [c15.1 48 (by decide), c14.1 48 (by decide), c13.1 48 (by decide), c12.1 48 (by decide), c11.1 48 (by decide), c10.1 48 (by decide), c9.1 48 (by decide), c8.1 48 (by decide), c7.1 48 (by decide), c6.1 48 (by decide), c5.1 48 (by decide), c4.1 48 (by decide), c3.1 48 (by decide), c2.1 48 (by decide), c1.1 48 (by decide)]) (by rw [c25.1 48 (by decide), c24.1 48 (by decide), c23.1 48 (by decide), c22.1 48 (by decide), c21.1 48 (by decide), c20.1 48 (by decide), c19.1 48 (by decide), c18.1 48 (by decide), c17.1 48 (by decide)])
    · subst e
      exact fin 49 80 E16 E17 c17 rfl (by rw [c16.1 49 (by decide), c15.1 49 (by decide), c14.1 49 (by decide), c13.1 49 (by decide), c12.1 49 (by decide), c11.1 49 (by decide), c10.1 49 (by decide), c9.1 49 (by decide), c8.1 49 (by decide), c7.1 49 (by decide), c6.1 49 (by decide), c5.1 49 (by decide), c4.1 49 (by decide), c3.1 49 (by decide), c2.1 49 (by decide), c1.1 49 (by decide)]) (by rw [c25.1 49 (by decide), c24.1 49 (by decide), c23.1 49 (by decide), c22.1 49 (by decide), c21.1 49 (by decide), c20.1 49 (by decide), c19.1 49 (by decide), c18.1 49 (by decide)])
    · subst e
      exact fin 50 80 E17 E18 c18 rfl (by rw [c17.1 50 (by decide), c16.1 50 (by decide), c15.1 50 (by decide), c14.1 50 (by decide), c13.1 50 (by decide), c12.1 50 (by decide), c11.1 50 (by decide), c10.1 50 (by decide), c9.1 50 (by decide), c8.1 50 (by decide), c7.1 50 (by decide), c6.1 50 (by decide), c5.1 50 (by decide), c4.1 50 (by decide), c3.1 50 (by decide), c2.1 50 (by decide), c1.1 50 (by decide)]) (by rw [c25.1 50 (by decide), c24.1 50 (by decide), c23.1 50 (by decide), c22.1 50 (by decide), c21.1 50 (by decide), c20.1 50 (by decide), c19.1 50 (by decide)])
    · subst e
      exact fin 51 640 E18 E19 c19 rfl (by rw [c18.1 51 (by decide), c17.1 51 (by decide), c16.1 51 (by decide), c15.1 51 (by decide), c14.1 51 (by decide), c13.1 51 (by decide), c12.1 51 (by decide), c11.1 51 (by decide), c10.1 51 (by decide), c9.1 51 (by decide), c8.1 51 (by decide), c7.1 51 (by decide), c6.1 51 (by decide), c5.1 51 (by decide), c4.1 51 (by decide), c3.1 51 (by decide), c2.1 51 (by decide), c1.1 51 (by decide)]) (by rw [c25.1 51 (by decide), c24.1 51 (by decide), c23.1 51 (by decide), c22.1 51 (by decide), c21.1 51 (by decide), c20.1 51 (by decide)])
    · subst e
      exact fin 52 640 E19 E20 c20 rfl (by rw [c19.1 52 (by decide), c18.1 52 (by decide), c17.1 52 (by decide), c16.1 52 (by decide), c15.1 52 (by decide), c14.1 52 (by decide), c13.1 52 (by decide), c12.1 52 (by decide), c11.1 52 (by decide), c10.1 52 (by decide), c9.1 52 (by decide), c8.1 52 (by decide), c7.1 52 (by decide), c6.1 52 (by decide), c5.1 52 (by decide), c4.1 52 (by decide), c3.1 52 (by decide), c2.1 52 (by decide), c1.1 52 (by decide)]) (by rw [c25.1 52 (by decide), c24.1 52 (by decide), c23.1 52 (by decide), c22.1 52 (by decide), c21.1 52 (by decide)])
    · subst e
      exact fin 53 640 E20 E21 c21 rfl (by rw [c20.1 53 (by decide), c19.1 53 (by decide), c18.1 53 (by decide), c17.1 53 (by decide), c16.1 53 (by decide), c15.1 53 (by decide), c14.1 53 (by decide), c13.1 53 (by decide), c12.1 53 (by decide), c11.1 53 (by decide), c10.1 53 (by decide), c9.1 53 (by decide), c8.1 53 (by decide), c7.1 53 (by decide), c6.1 53 (by decide), c5.1 53 (by decide), c4.1 53 (by decide), c3.1 53 (by decide), c2.1 53 (by decide), c1.1 53 (by decide)]) (by rw [c25.1 53 (by decide), c24.1 53 (by decide), c23.1 53 (by decide), c22.1 53 (by decide)])
    · subst e
      exact fin 54 640 E21 E22 c22 rfl (by rw [c21.1 54 (by decide), c20.1 54 (by decide), c19.1 54 (by decide), c18.1 54 (by decide), c17.1 54 (by decide), c16.1 54 (by decide), c15.1 54 (by decide), c14.1 54 (by decide), c13.1 54 (by decide), c12.1 54 (by decide), c11.1 54 (by decide), c10.1 54 (by decide), c9.1 54 (by decide), c8.1 54 (by decide), c7.1 54 (by decide), c6.1 54 (by decide), c5.1 54 (by decide), c4.1 54 (by decide), c3.1 54 (by decide), c2.1 54 (by decide), c1.1 54 (by decide)]) (by rw [c25.1 54 (by decide), c24.1 54 (by decide), c23.1 54 (by decide)])
    · subst e
      exact fin 55 2560 E22 E23 c23 rfl (by rw [c22.1 55 (by decide), c21.1 55 (by decide), c20.1 55 (by decide), c19.1 55 (by decide), c18.1 55 (by decide), c17.1 55 (by decide), c16.1 55 (by decide), c15.1 55 (by decide), c14.1 55 (by decide), c13.1 55 (by decide), c12.1 55 (by decide), c11.1 55 (by decide), c10.1 55 (by decide), c9.1 55 (by decide), c8.1 55 (by decide), c7.1 55 (by decide), c6.1 55 (by decide), c5.1 55 (by decide), c4.1 55 (by decide), c3.1 55 (by decide), c2.1 55 (by decide), c1.1 55 (by decide)]) (by rw [c25.1 55 (by decide), c24.1 55 (by decide)])
    · subst e
      exact fin 56 256 E23 E24 c24 rfl (by rw [c23.1 56 (by decide), c22.1 56 (by decide), c21.1 56 (by decide), c20.1 56 (by decide), c19.1 56 (by decide), c18.1 56 (by decide), c17.1 56 (by decide), c16.1 56 (by decide), c15.1 56 (by decide), c14.1 56 (by decide), c13.1 56 (by decide), c12.1 56 (by decide), c11.1 56 (by decide), c10.1 56 (by decide), c9.1 56 (by decide), c8.1 56 (by decide), c7.1 56 (by decide), c6.1 56 (by decide), c5.1 56 (by decide), c4.1 56 (by decide), c3.1 56 (by decide), c2.1 56 (by decide), c1.1 56 (by decide)]) (by rw [c25.1 56 (by decide)])
    · subst e
      exact fin 57 256 E24 E25 c25 rfl (by rw [c24.1 57 (by decide), c23.1 57 (by decide), c22.1 57 (by decide), c21.1 57 (by decide), c20.1 57 (by decide), c19.1 57 (by decide), c18.1 57 (by decide), c17.1 57 (by decide), c16.1 57 (by decide), c15.1 57 (by decide), c14.1 57 (by decide), c13.1 57 (by decide), c12.1 57 (by decide), c11.1 57 (by decide), c10.1 57 (by decide), c9.1 57 (by decide), c8.1 57 (by decide), c7.1 57 (by decide), c6.1 57 (by decide), c5.1 57 (by decide), c4.1 57 (by decide), c3.1 57 (by decide), c2.1 57 (by decide), c1.1 57 (by decide)]) rfl
end COPIES
