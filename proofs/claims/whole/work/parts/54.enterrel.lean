/-! an entry comes into a list: the relation is kept -/
theorem Lk.ms {D D' : DD} {K k : Int} (h : Lk D D' K) (hk : k ≠ K) : MS D D' k := by
  obtain ⟨h1, -, h3, h4, h5⟩ := h
  refine ⟨fun a z => ?_, fun a z i x y => ?_, fun a z i x y => ?_⟩
  · by_cases g : a = 42
    · subst g; exact (h3 k hk).1
    · by_cases g2 : a = 43
      · subst g2; exact (h3 k hk).2
      · exact R_cg (h1 a (by simp only [List.mem_cons, List.not_mem_nil, or_false] at z ⊢; omega)) k
  · by_cases g : a = 44
    · subst g; exact (h4 _ (by omega)).1
    · by_cases g2 : a = 45
      · subst g2; exact (h4 _ (by omega)).2
      · exact R_cg (h1 a (by simp only [List.mem_cons, List.not_mem_nil, or_false] at z ⊢; omega)) _
  · by_cases g : a = 46
    · subst g; exact (h5 _ (by omega)).1
    · by_cases g2 : a = 47
      · subst g2; exact (h5 _ (by omega)).2
      · exact R_cg (h1 a (by simp only [List.mem_cons, List.not_mem_nil, or_false] at z ⊢; omega)) _
section ENTERREL
variable {T : Int → Prop} {R S : Int → Int} {Dc Dm : DD}
/-- a got cell, in class and reference -/
def Gt (T : Int → Prop) (R S : Int → Int) (Dc Dm : DD) (i p s : Int) : Prop := Rz 6 9 Dc i = p ∧ Rz 8 66 Dm i = p ∧ Fs T R S Dc Dm p s
theorem T0.inj44 (h : T0 T R S Dc Dm) {k : Int} (hk : 0 ≤ k ∧ k < 80) (hT : T k) : ∀ i j, 0 ≤ i → i < Rz 240 42 Dm k → 0 ≤ j → j < Rz 240 42 Dm k → ml Dm k i = ml Dm k j → i = j := fun i j a b c d e => by
  have l : Lb T R S Dm 44 (8 * k + i) (ml Dm k i) 5 := Or.inl ⟨k, hk.1, hk.2, hT, LbK.lea a b⟩
  have m : Lb T R S Dm 44 (8 * k + j) (ml Dm k j) 5 := Or.inl ⟨k, hk.1, hk.2, hT, LbK.lea c d⟩
  rw [e] at l
  have := (h.2.2.2.2.2 _ _ _ _ _ _ _ l m).2
  omega
theorem T0.enter (h : T0 T R S Dc Dm) {k x y fr L nl ix' n N : Int} (hk : 0 ≤ k ∧ k < 80) (hT : T k) (hta : Rz 240 39 Dm k = -1) (hn : Rz 240 42 Dm k = n) (hN : sm (mc Dm k) n = N) (hx : 0 ≤ x ∧ x ≤ 9999) (hy : 0 ≤ y ∧ y < 80)
    (hnew : ∀ j, 0 ≤ j → j < N → mn_ Dm k j ≠ x) (hfr : 0 ≤ fr ∧ fr < 5) (hlf : pM_leafFor k x Dm = okR L Dm)
    (hE : (n = 0 ∧ Gt T R S Dc Dm fr nl 5) ∨ (1 ≤ n ∧ mc Dm k L < 4) ∨ (n = 1 ∧ mc Dm k L = 4 ∧ Gt T R S Dc Dm fr ix' 9 ∧ Gt T R S Dc Dm (fr + 1) nl 5 ∧ ix' ≠ nl) ∨ (2 ≤ n ∧ n < 8 ∧ mc Dm k L = 4 ∧ ix' = Rz 240 43 Dm k ∧ Gt T R S Dc Dm fr nl 5)) :
    ∃ Dc' Dm' P n' t, pL_putIn (Rz 240 40 Dm k) (rk x * 80 + y) fr Dc = okR 0 Dc' ∧ pM_enters k y x fr Dm = okR 0 Dm' ∧ T0 T R S Dc' Dm' ∧ Ef Dc Dc' P ∧ Mb Dm Dm' (fun t => P t ∨ (n = 0 ∧ sec nl 5 t)) ∧ Lk Dm Dm' k ∧ Rz 240 42 Dm' k = n' ∧ sm (mc Dm' k) n' = N + 1 ∧ (0 ≤ t ∧ t ≤ N) ∧
      ∀ j, 0 ≤ j → j ≤ N → me Dm' k j = insF (me Dm k) t y j ∧ mn_ Dm' k j = insF (mn_ Dm k) t x j := by
  have hKR := h.2.2.2.1 k hk.1 hk.2 hT
  have inK : ∀ {a i p s}, LbK Dm k a i p s → Lb T R S Dm a i p s := fun z => Or.inl ⟨k, hk.1, hk.2, hT, z⟩
  have hinj := h.inj44 hk hT
  obtain ⟨r1, r2, ⟨r3, r4, r5, r6⟩, ⟨r7, r8, r9, r10⟩, hLC, hW, hVC⟩ := id hKR
  rw [hn] at hLC hinj
  have hn8 := hLC.1
  obtain ⟨L', l1, l2, l3, l4⟩ := leafFor_m hk hW hx
  have eL : L' = L := by
    have := l1.symm.trans hlf
    simp only [okR, Option.some.injEq, Prod.mk.injEq, Sum.inl.injEq] at this
    exact this.1
  subst eL
  obtain ⟨s1, s2⟩ := hW.spot hx hy (by rw [hn, hN]; exact hnew) ⟨l2, l3, l4⟩
  rw [hn] at l2 s1 s2
  have tot := hW.tot (i := n) (by omega) (by omega)
  rw [hN] at tot
  obtain ⟨a, ha0, ha⟩ : ∃ a, (n = 0 → a = 0) ∧ (1 ≤ n → 0 ≤ a ∧ a ≤ mc Dm k L' ∧ (∀ j, 0 ≤ j → j < sm (mc Dm k) L' + a → rk (mn_ Dm k j) < rk x) ∧ ∀ j, sm (mc Dm k) L' + a ≤ j → j < N → rk x < rk (mn_ Dm k j)) := by
    rcases s2 with ⟨z1, z2⟩ | ⟨z1, a, z2, z3, z4, z5⟩
    · exact ⟨0, fun _ => rfl, fun q => by omega⟩
    · rw [hN] at z5
      exact ⟨a, fun q => by omega, fun _ => ⟨z2, z3, z4, z5⟩⟩
  have hmcL : 1 ≤ n → 1 ≤ mc Dm k L' ∧ mc Dm k L' ≤ 4 := fun q => hW.2.1 L' l2.1 (by omega)
  have hstL : 1 ≤ n → sm (mc Dm k) L' + mc Dm k L' ≤ N := fun q => by
    have := hW.step (i := L') (j := n) l2.1 (by omega) (by omega)
    omega
  have hN31 : N ≤ 31 := by
    by_cases q : n = 8
    · have hc4 : mc Dm k L' < 4 := by rcases hE with z | z | z | z <;> omega
      have e1 := hW.tot (i := L') l2.1 (by omega)
      have e2 : sm (mc Dm k) n ≤ sm (mc Dm k) (L' + 1) + 4 * (n - (L' + 1)) := by
        have key : ∀ (r : Nat) (j : Int), j = L' + 1 + r → j ≤ n → sm (mc Dm k) j ≤ sm (mc Dm k) (L' + 1) + 4 * (j - (L' + 1)) := by
          intro r
          induction r with
          | zero => intro j e1 e2; subst e1; simp
          | succ r ih =>
            intro j e1 e2
            have := ih (j - 1) (by omega) (by omega)
            rw [sm_p (by omega)]
            have := (hW.2.1 (j - 1) (by omega) (by omega)).2
            omega
        exact key (n - (L' + 1)).toNat n (by omega) (Int.le_refl _)
      rw [sm_s l2.1, hN] at e2
      omega
    · omega
  have hEnt : Ent Dc Dm k n L' fr ix' nl := by
    rcases hE with ⟨z1, z2, z3, z4⟩ | z | ⟨z1, z2, ⟨z3, z4, z5⟩, ⟨z6, z7, z8⟩, z9⟩ | ⟨z1, z2, z3, z4, ⟨z5, z6, z7⟩⟩
    · exact Or.inl ⟨z1, z2, z3, z4.1⟩
    · exact Or.inr (Or.inl z)
    · exact Or.inr (Or.inr (Or.inl ⟨z1, z2, z3, z6, z4, z7, z5.1, z8.1, fun i a b => z8.ne (inK (LbK.lea a (by omega)))⟩))
    · exact Or.inr (Or.inr (Or.inr ⟨z1, z2, z3, z4, z5, z6, z7.1, fun i a b => z7.ne (inK (LbK.lea a (by omega)))⟩))
  obtain ⟨Dc', Dm', P, n', k1, k2, k3, k4, k5, k6, k7, k8, k9, k10, k11, k12⟩ := enter_both (a := a) h.1 hk rfl r2 hn hN hN31 hLC hinj hW hx hy hfr hlf l2 s1 ha0 ha hEnt
  have hp6 := hKR.lb LbK.key
  have outKey : ∀ i, i < ml Dm k L' ∨ ml Dm k L' + 5 ≤ i ∨ n = 0 → (n' = n + 1 → i < nl ∨ nl + 5 ≤ i) → (n' = n + 1 → 2 ≤ n' → i < ix' ∨ ix' + 9 ≤ i) → i ≠ Rz 240 40 Dm k + 2 → Rz 1024 4 Dc' i = Rz 1024 4 Dc i := fun i c1 c2 c3 c4 => k12 i c4 (fun q => by omega) c2 c3
  have leL : 1 ≤ n → LbK Dm k 44 (8 * k + L') (ml Dm k L') 5 := fun q => LbK.lea l2.1 (by omega)
  -- the cells that change
  have hnl : n' = n + 1 → Fs T R S Dc Dm nl 5 := fun q => by
    rcases k11 with z | ⟨-, z, -⟩
    · omega
    · rcases hE with ⟨z1, z2, z3, z4⟩ | z' | ⟨z1, z2, z3, z6, z9⟩ | ⟨z1, z2, z3, z4, z5⟩
      · exact z4
      · omega
      · exact z6.2.2
      · exact z5.2.2
  have hix : n' = n + 1 → 2 ≤ n' → (n = 1 ∧ Fs T R S Dc Dm ix' 9 ∧ ix' ≠ nl) ∨ (2 ≤ n ∧ ix' = Rz 240 43 Dm k) := fun q q2 => by
    rcases k11 with z | ⟨-, z, -⟩
    · omega
    · rcases hE with ⟨z1, z2, z3, z4⟩ | z' | ⟨z1, z2, z3, z6, z9⟩ | ⟨z1, z2, z3, z4, z5⟩
      · omega
      · omega
      · exact Or.inl ⟨z1, z3.2.2, z9⟩
      · exact Or.inr ⟨z1, z4⟩
  have oth : ∀ a i p s, Lb T R S Dm a i p s → (a ≠ 44 ∨ i ≠ 8 * k + L' ∨ n = 0) → (a ≠ 43 ∨ i ≠ k) → ∀ j, 0 ≤ j → j < s → p + j ≠ Rz 240 40 Dm k + 2 → Rz 1024 4 Dc' (p + j) = Rz 1024 4 Dc (p + j) := fun a i p s l e1 e2 j b1 b2 b3 => by
    refine outKey (p + j) ?_ (fun q => ?_) (fun q q2 => ?_) b3
    · by_cases q : n = 0
      · exact Or.inr (Or.inr q)
      · have := h.dis l (inK (leL (by omega))) (by omega)
        omega
    · have := (hnl q).dis h l
      omega
    · rcases hix q q2 with ⟨z1, z2, z3⟩ | ⟨z1, z2⟩
      · have := z2.dis h l
        omega
      · have := h.dis l (inK (LbK.idx (k := k) (by omega))) (by omega)
        omega
  have hsz : ∀ u, Rz 1024 3 Dc' u = Rz 1024 3 Dc u := k3.sz
  have e40 : Rz 240 40 Dm' k = Rz 240 40 Dm k := R_cg (k5.1 40 (by decide)) k
  have mk : ∀ b, b ∉ [42, 43, 44, 45, 46, 47, 58] → ∀ m i, Rz m b Dm' i = Rz m b Dm i := fun b hb m i => R_cg (k5.1 b hb) i
  have uKey : ∀ j, 0 ≤ j → j < 6 → j ≠ 2 → Rz 1024 4 Dc' (Rz 240 40 Dm k + j) = Rz 1024 4 Dc (Rz 240 40 Dm k + j) := fun j a b c => oth 40 k _ 6 (inK LbK.key) (Or.inl (by decide)) (Or.inl (by decide)) j a b (by omega)
  have uk0 := uKey 0 (by omega) (by omega) (by omega)
  rw [Int.add_zero] at uk0
  -- the key after it
  have hKR' : KR Dc' Dm' k := by
    unfold KR
    rw [e40, mk 38 (by decide), mk 37 (by decide), mk 41 (by decide), mk 39 (by decide), mk 48 (by decide), mk 49 (by decide), mk 50 (by decide), R_cg (k3.1 5 (by decide) (by decide)), hsz, uk0, uKey 1 (by omega) (by omega) (by omega), uKey 4 (by omega) (by omega) (by omega), uKey 5 (by omega) (by omega) (by omega), uKey 3 (by omega) (by omega) (by omega), k7]
    refine ⟨r1, r2, ⟨r3, r4, r5, r6⟩, ⟨r7, r8, Or.inl hta, r10⟩, k8, k6, ?_⟩
    have frV : ∀ a i p s, LbK Dm k a i p s → 49 ≤ a → ∀ j, 0 ≤ j → j < s → Rz 1024 4 Dc' (p + j) = Rz 1024 4 Dc (p + j) := fun a i p s l q j b1 b2 => by
      refine oth a i p s (inK l) (Or.inl (by omega)) (Or.inl (by omega)) j b1 b2 ?_
      have := h.dis (inK l) (inK (LbK.key (k := k))) (Or.inl (by omega))
      omega
    refine hVC.cong rfl (fun _ => ⟨rfl, rfl⟩) (fun j a b => ⟨mk 51 (by decide) _ _, mk 52 (by decide) _ _, mk 53 (by decide) _ _, mk 54 (by decide) _ _⟩) (fun j i a b c d => mk 55 (by decide) _ _) (fun _ => hsz _) (fun j a b => hsz _) (fun j i a b c d => hsz _)
      (fun q i a b => frV _ _ _ _ (LbK.vls q) (by decide) i a (by have := (hVC.2.2.1 q).2.2.2.1; omega)) (fun j i a b c d => frV _ _ _ _ (LbK.val a b) (by decide) i c d) (fun j i a b c d => ?_)
    have := frV _ _ _ _ (LbK.pie a b c d) (by decide) 0 (Int.le_refl _) (by have := upc_bd (hVC.2.2.2.1 j a b).2.1 ⟨c, d⟩; omega)
    rw [Int.add_zero] at this
    exact this
  refine ⟨Dc', Dm', P, n', sm (mc Dm k) L' + a, k1, k2, ?_, k3, k4, k5, k7, k9, ?_, k10⟩
  · refine h.one hk hT (h.1.cong hsz (by rw [k3.1 2 (by decide) (by decide)]) (fun u _ _ => mk 33 (by decide) _ u) (by rw [k5.1 34 (by decide)])) (by rw [k3.1 2 (by decide) (by decide), k5.1 35 (by decide)]; exact h.2.1) (k3.1 5 (by decide) (by decide)) (k3.1 6 (by decide) (by decide))
      (fun k' _ _ q => k5.ms q) hKR' (fun a i p s l q => ⟨hsz p, fun j b1 b2 => ?_⟩)
      (fun a i a' i' => a' = a ∧ ((i' = i ∧ (a = 44 → n' = n + 1 → i < 8 * k + (if n = 0 then 0 else L' + 1))) ∨ (a = 44 ∧ n' = n + 1 ∧ 8 * k + (if n = 0 then 0 else L' + 1) < i ∧ i' = i - 1)))
      (fun a i p => (a = 44 ∧ i = 8 * k + (if n = 0 then 0 else L' + 1) ∧ p = nl) ∨ (a = 43 ∧ i = k ∧ p = ix' ∧ ix' ≠ nl)) (fun a i b j a' i' z1 z2 => by omega) (fun a i b j p z1 z2 => by omega) (fun a i p s l => ?_)
    · have nk : p + j ≠ Rz 240 40 Dm k + 2 := by
        by_cases z : a = 40 ∧ i = k
        · obtain ⟨z1, z2⟩ := z
          subst z1 z2
          exact absurd LbK.key (q _ _)
        · have := h.dis l (inK (LbK.key (k := k))) (by omega)
          omega
      refine oth a i p s l ?_ ?_ j b1 b2 nk
      · by_cases z : n = 0
        · exact Or.inr (Or.inr z)
        · by_cases z2 : a = 44 ∧ i = 8 * k + L'
          · obtain ⟨z3, z4⟩ := z2
            subst z3 z4
            exact absurd (leL (by omega)) (q _ _)
          · omega
      · by_cases z : a = 43 ∧ i = k
        · obtain ⟨z1, z2⟩ := z
          subst z1 z2
          rcases l with ⟨k', a1, a2, a3, l4⟩ | ⟨e, -⟩
          · have : k' = i := by rcases l4 with ⟨z, -⟩ | ⟨-, z, -⟩ | ⟨z, -⟩ | ⟨z, -⟩ | ⟨z, -⟩ | ⟨z, -⟩ <;> omega
            subst this
            exact absurd l4 (q _ _)
          · omega
        · omega
    · rcases l with ⟨m1, m2, m3, m4⟩ | ⟨m1, m2, m3, m4, m5⟩ | ⟨m1, j, m2, m3, m4, m5, m6⟩ | ⟨m1, m2, m3, m4, m5⟩ | ⟨m1, j, m2, m3, m4, m5, m6⟩ | ⟨m1, j, m, m2, m3, m4, m5, m6, m7, m8⟩
      · subst m1 m2 m3 m4
        rw [e40]
        exact Or.inl ⟨40, i, 6, LbK.key, rfl, Or.inl ⟨rfl, by omega⟩⟩
      · subst m1 m2 m4 m5
        rw [k7] at m3
        rcases k11 with ⟨z1, z2, z3, z4⟩ | ⟨z1, z2, z3, z4⟩
        · rw [z3]
          exact Or.inl ⟨43, i, 9, LbK.idx (by omega), rfl, Or.inl ⟨rfl, by omega⟩⟩
        · rw [z4 m3]
          rcases hix z1 m3 with ⟨y1, y2, y3⟩ | ⟨y1, y2⟩
          · exact Or.inr ⟨Or.inr ⟨rfl, rfl, rfl, y3⟩, y2.2.2⟩
          · rw [y2]
            exact Or.inl ⟨43, i, 9, LbK.idx (by omega), rfl, Or.inl ⟨rfl, by omega⟩⟩
      · subst m1 m4 m5 m6
        rw [k7] at m3
        rcases k11 with ⟨z1, z2, z3, z4⟩ | ⟨z1, z2, z3, z4⟩
        · rw [z2]
          exact Or.inl ⟨44, 8 * k + j, 5, LbK.lea m2 (by omega), rfl, Or.inl ⟨rfl, by omega⟩⟩
        · rw [z3 j m2 m3]
          unfold insF
          by_cases y1 : j < (if n = 0 then 0 else L' + 1)
          · rw [if_pos y1]
            have : j < n := by
              by_cases y2 : n = 0
              · rw [if_pos y2] at y1; omega
              · rw [if_neg y2] at y1; omega
            exact Or.inl ⟨44, 8 * k + j, 5, LbK.lea m2 (by omega), rfl, Or.inl ⟨rfl, fun _ _ => by omega⟩⟩
          · rw [if_neg y1]
            by_cases y2 : j = (if n = 0 then 0 else L' + 1)
            · rw [if_pos y2]
              exact Or.inr ⟨Or.inl ⟨rfl, by omega, rfl⟩, (hnl z1).2.2⟩
            · rw [if_neg y2]
              have : 0 ≤ (if n = 0 then 0 else L' + 1) := by split <;> omega
              exact Or.inl ⟨44, 8 * k + (j - 1), 5, LbK.lea (by omega) (by omega), rfl, Or.inr ⟨rfl, z1, by omega, by omega⟩⟩
      · subst m1 m2 m4 m5
        rw [mk 48 (by decide)] at m3
        rw [mk 49 (by decide)]
        exact Or.inl ⟨49, i, _, LbK.vls m3, rfl, Or.inl ⟨rfl, by omega⟩⟩
      · subst m1 m4 m5 m6
        rw [mk 48 (by decide)] at m3
        rw [show vP Dm' k j = vP Dm k j from mk 54 (by decide) _ _]
        exact Or.inl ⟨54, 8 * k + j, 3, LbK.val m2 m3, rfl, Or.inl ⟨rfl, by omega⟩⟩
      · rw [mk 48 (by decide)] at m3
        rw [show vL Dm' k j = vL Dm k j from mk 53 (by decide) _ _] at m5
        subst m1 m6 m7
        rw [show vQ Dm' k j m = vQ Dm k j m from mk 55 (by decide) _ _]
        exact Or.inl ⟨55, 4 * (8 * k + j) + m, _, LbK.pie m2 m3 m4 m5, rfl, Or.inl ⟨rfl, by omega⟩⟩
  · by_cases q : n = 0
    · have := ha0 q
      have : L' = 0 := by omega
      subst this
      rw [sm_0]
      omega
    · have h1 := ha (by omega)
      have h2 := hstL (by omega)
      have h3 := (hW.tot (i := L') l2.1 (by omega)).1
      omega
end ENTERREL
