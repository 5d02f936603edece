/-! an entry goes out of a list: the relation is kept -/
theorem Lg.ms {D D' : DD} {K k : Int} (h : Lg D D' K) (hk : k ≠ K) : MS D D' k := by
  obtain ⟨h1, -, -, h3, h4, h5⟩ := h
  refine ⟨fun a z => ?_, fun a z i x y => ?_, fun a z i x y => ?_⟩
  · by_cases g : a = 42
    · subst g; exact (h3 k hk).1
    · by_cases g2 : a = 43
      · subst g2; exact (h3 k hk).2
      · exact R_cg (h1 a (by simp only [List.mem_cons, List.not_mem_nil, or_false] at z ⊢; omega)) k
  · by_cases g : a = 44
    · subst g; exact (h4 _ (by omega)).1
    · by_cases g2 : a = 45
      · subst g2; exact (h4 _ (by omega)).2
      · exact R_cg (h1 a (by simp only [List.mem_cons, List.not_mem_nil, or_false] at z ⊢; omega)) _
  · by_cases g : a = 46
    · subst g; exact (h5 _ (by omega)).1
    · by_cases g2 : a = 47
      · subst g2; exact (h5 _ (by omega)).2
      · exact R_cg (h1 a (by simp only [List.mem_cons, List.not_mem_nil, or_false] at z ⊢; omega)) _
section GOESREL
variable {T : Int → Prop} {R S : Int → Int} {Dc Dm : DD}
theorem T0.goes (h : T0 T R S Dc Dm) {k x n N t : Int} (hk : 0 ≤ k ∧ k < 80) (hT : T k) (hn : Rz 240 42 Dm k = n) (hN : sm (mc Dm k) n = N) (ht : 0 ≤ t ∧ t < N) (hx : mn_ Dm k t = x) :
    ∃ Dc' Dm' P v n', pL_takeOut (Rz 240 40 Dm k) (mE Dm k t) Dc = okR v Dc' ∧ pM_goes k x Dm = okR 0 Dm' ∧ T0 T R S Dc' Dm' ∧ (∀ b, b ∉ [3, 4, 7] → Dc' b = Dc b) ∧ (∀ j, j ≠ 5 → Dc' 7 j = Dc 7 j) ∧
      (∀ s, 0 ≤ s → s < 64 → (bit (Dc' 7 5) s = true ↔ bit (Dc 7 5) s = true ∨ P s)) ∧ Mb Dm Dm' P ∧ Lg Dm Dm' k ∧ Dm' 32 41 = Dm 32 41 + v ∧ Rz 240 42 Dm' k = n' ∧ sm (mc Dm' k) n' = N - 1 ∧ (∀ j, 0 ≤ j → j < N - 1 → me Dm' k j = delF (me Dm k) t j ∧ mn_ Dm' k j = delF (mn_ Dm k) t j) := by
  have hKR := h.2.2.2.1 k hk.1 hk.2 hT
  have inK : ∀ {a i p s}, LbK Dm k a i p s → Lb T R S Dm a i p s := fun z => Or.inl ⟨k, hk.1, hk.2, hT, z⟩
  have hinj := h.inj44 hk hT
  obtain ⟨r1, r2, ⟨r3, r4, r5, r6⟩, ⟨r7, r8, r9, r10⟩, hLC, hW, hVC⟩ := id hKR
  rw [hn] at hLC hinj
  have hn8 := hLC.1
  obtain ⟨Dc', Dm', P, v, n', L, k1, k2, k3, k4, k5, k6, k7, k8, k9, k10, k11, k12, k13, k14, k15, k16, k17⟩ := goes_both h.1 hk rfl r2 hn hN hLC hinj hW ht hx
  have mk : ∀ b, b ∉ [32, 33, 42, 43, 44, 45, 46, 47, 58] → ∀ m i, Rz m b Dm' i = Rz m b Dm i := fun b hb m i => R_cg (k8.1 b hb) i
  have leL : LbK Dm k 44 (8 * k + L) (ml Dm k L) 5 := LbK.lea k15.1 (by omega)
  have e40 : Rz 240 40 Dm' k = Rz 240 40 Dm k := mk 40 (by decide) _ k
  have hp6 := hKR.lb LbK.key
  have idxno : ∀ i p s, Lb T R S Dm 43 i p s → i = k → LbK Dm k 43 k p s := fun i p s l e => by
    rcases l with ⟨k', a1, a2, a3, l4⟩ | ⟨e, -⟩
    · have : k' = k := by rcases l4 with ⟨z, -⟩ | ⟨-, z, -⟩ | ⟨z, -⟩ | ⟨z, -⟩ | ⟨z, -⟩ | ⟨z, -⟩ <;> omega
      subst this
      subst e
      exact l4
    · omega
  -- cells of others, and of the key but leaf and index
  have sz : ∀ a i p s, Lb T R S Dm a i p s → (a ≠ 44 ∨ i ≠ 8 * k + L) → (a ≠ 43 ∨ i ≠ k) → Rz 1024 3 Dc' p = Rz 1024 3 Dc p := fun a i p s l e1 e2 => by
    have := h.lb l
    rcases k16 with ⟨z1, z2, z3, z4⟩ | ⟨z1, z2, z3, z4⟩
    · exact z4 p (by omega)
    · exact z4 p (by omega) (h.ne l (inK leL) e1) (fun q => h.ne l (inK (LbK.idx (by omega))) e2)
  have un : ∀ a i p s, Lb T R S Dm a i p s → (a ≠ 44 ∨ i ≠ 8 * k + L) → (a ≠ 43 ∨ i ≠ k) → ∀ j, 0 ≤ j → j < s → p + j ≠ Rz 240 40 Dm k + 2 → Rz 1024 4 Dc' (p + j) = Rz 1024 4 Dc (p + j) := fun a i p s l e1 e2 j b1 b2 b3 => by
    refine k17 (p + j) b3 ?_ (fun q => ?_)
    · have := h.dis l (inK leL) e1
      omega
    · have := h.dis l (inK (LbK.idx (k := k) (by omega))) e2
      omega
  have uKey : ∀ j, 0 ≤ j → j < 6 → j ≠ 2 → Rz 1024 4 Dc' (Rz 240 40 Dm k + j) = Rz 1024 4 Dc (Rz 240 40 Dm k + j) := fun j a b c => un 40 k _ 6 (inK LbK.key) (Or.inl (by decide)) (Or.inl (by decide)) j a b (by omega)
  have uk0 := uKey 0 (by omega) (by omega) (by omega)
  rw [Int.add_zero] at uk0
  have hKR' : KR Dc' Dm' k := by
    unfold KR
    rw [e40, mk 38 (by decide), mk 37 (by decide), mk 41 (by decide), mk 39 (by decide), mk 48 (by decide), mk 49 (by decide), mk 50 (by decide), R_cg (k4 5 (by decide)), sz 40 k _ 6 (inK LbK.key) (Or.inl (by decide)) (Or.inl (by decide)), uk0, uKey 1 (by omega) (by omega) (by omega), uKey 4 (by omega) (by omega) (by omega), uKey 5 (by omega) (by omega) (by omega), uKey 3 (by omega) (by omega) (by omega), k11]
    refine ⟨r1, r2, ⟨r3, r4, r5, r6⟩, ⟨r7, r8, ?_, r10⟩, k12, k10, ?_⟩
    · rcases r9 with q | ⟨-, -, q, -⟩
      · exact Or.inl q
      · rw [hn] at q
        omega
    · have frV : ∀ a i p s, LbK Dm k a i p s → 49 ≤ a → Rz 1024 3 Dc' p = Rz 1024 3 Dc p ∧ ∀ j, 0 ≤ j → j < s → Rz 1024 4 Dc' (p + j) = Rz 1024 4 Dc (p + j) := fun a i p s l q => by
        refine ⟨sz a i p s (inK l) (Or.inl (by omega)) (Or.inl (by omega)), fun j b1 b2 => un a i p s (inK l) (Or.inl (by omega)) (Or.inl (by omega)) j b1 b2 ?_⟩
        have := h.dis (inK l) (inK (LbK.key (k := k))) (Or.inl (by omega))
        omega
      refine hVC.cong rfl (fun _ => ⟨rfl, rfl⟩) (fun j a b => ⟨mk 51 (by decide) _ _, mk 52 (by decide) _ _, mk 53 (by decide) _ _, mk 54 (by decide) _ _⟩) (fun j i a b c d => mk 55 (by decide) _ _) (fun q => (frV _ _ _ _ (LbK.vls q) (by decide)).1) (fun j a b => (frV _ _ _ _ (LbK.val a b) (by decide)).1) (fun j i a b c d => (frV _ _ _ _ (LbK.pie a b c d) (by decide)).1)
        (fun q i a b => (frV _ _ _ _ (LbK.vls q) (by decide)).2 i a (by have := (hVC.2.2.1 q).2.2.2.1; omega)) (fun j i a b c d => (frV _ _ _ _ (LbK.val a b) (by decide)).2 i c d) (fun j i a b c d => ?_)
      have := (frV _ _ _ _ (LbK.pie a b c d) (by decide)).2 0 (Int.le_refl _) (by have := upc_bd (hVC.2.2.2.1 j a b).2.1 ⟨c, d⟩; omega)
      rw [Int.add_zero] at this
      exact this
  refine ⟨Dc', Dm', P, v, n', k1, k2, ?_, k4, k5, k6, k7, k8, k9, k11, k13, k14⟩
  refine h.one hk hT k3 (by rw [k4 2 (by decide), k8.1 35 (by decide)]; exact h.2.1) (k4 5 (by decide)) (k4 6 (by decide))
    (fun k' _ _ q => k8.ms q) hKR' (fun a i p s l q => ?_)
    (fun a i a' i' => a' = a ∧ ((i' = i ∧ (a = 44 → n' = n - 1 → i < 8 * k + L)) ∨ (a = 44 ∧ n' = n - 1 ∧ 8 * k + L ≤ i ∧ i' = i + 1)))
    (fun a i p => False) (fun a i b j a' i' z1 z2 => by omega) (fun a i b j p z1 z2 => z1.elim) (fun a i p s l => Or.inl ?_)
  · have e1 : a ≠ 44 ∨ i ≠ 8 * k + L := by
      by_cases z2 : a = 44 ∧ i = 8 * k + L
      · obtain ⟨z3, z4⟩ := z2
        subst z3 z4
        exact absurd leL (q _ _)
      · omega
    have e2 : a ≠ 43 ∨ i ≠ k := by
      by_cases z2 : a = 43 ∧ i = k
      · obtain ⟨z3, z4⟩ := z2
        subst z3
        have := idxno i p s l z4
        rw [z4] at q
        exact absurd this (q _ _)
      · omega
    refine ⟨sz a i p s l e1 e2, fun j b1 b2 => un a i p s l e1 e2 j b1 b2 ?_⟩
    by_cases z : a = 40 ∧ i = k
    · obtain ⟨z1, z2⟩ := z
      subst z1 z2
      exact absurd LbK.key (q _ _)
    · have := h.dis l (inK (LbK.key (k := k))) (by omega)
      omega
  · rcases l with ⟨m1, m2, m3, m4⟩ | ⟨m1, m2, m3, m4, m5⟩ | ⟨m1, j, m2, m3, m4, m5, m6⟩ | ⟨m1, m2, m3, m4, m5⟩ | ⟨m1, j, m2, m3, m4, m5, m6⟩ | ⟨m1, j, m, m2, m3, m4, m5, m6, m7, m8⟩
    · subst m1 m2 m3 m4
      rw [e40]
      exact ⟨40, i, 6, LbK.key, rfl, Or.inl ⟨rfl, by omega⟩⟩
    · subst m1 m2 m4 m5
      rw [k11] at m3
      have : Rz 240 43 Dm' i = Rz 240 43 Dm i := by
        rcases k16 with ⟨z1, z2, z3, z4⟩ | ⟨z1, z2, z3, z4⟩
        · exact z3
        · exact z3 m3
      rw [this]
      exact ⟨43, i, 9, LbK.idx (by omega), rfl, Or.inl ⟨rfl, by omega⟩⟩
    · subst m1 m4 m5 m6
      rw [k11] at m3
      rcases k16 with ⟨z1, z2, z3, z4⟩ | ⟨z1, z2, z3, z4⟩
      · rw [z2]
        exact ⟨44, 8 * k + j, 5, LbK.lea m2 (by omega), rfl, Or.inl ⟨rfl, by omega⟩⟩
      · rw [z2 j m2 m3]
        unfold delF
        by_cases y1 : j < L
        · rw [if_pos y1]
          exact ⟨44, 8 * k + j, 5, LbK.lea m2 (by omega), rfl, Or.inl ⟨rfl, fun _ _ => by omega⟩⟩
        · rw [if_neg y1]
          exact ⟨44, 8 * k + (j + 1), 5, LbK.lea (by omega) (by omega), rfl, Or.inr ⟨rfl, z1, by omega, by omega⟩⟩
    · subst m1 m2 m4 m5
      rw [mk 48 (by decide)] at m3
      rw [mk 49 (by decide)]
      exact ⟨49, i, _, LbK.vls m3, rfl, Or.inl ⟨rfl, by omega⟩⟩
    · subst m1 m4 m5 m6
      rw [mk 48 (by decide)] at m3
      rw [show vP Dm' k j = vP Dm k j from mk 54 (by decide) _ _]
      exact ⟨54, 8 * k + j, 3, LbK.val m2 m3, rfl, Or.inl ⟨rfl, by omega⟩⟩
    · rw [mk 48 (by decide)] at m3
      rw [show vL Dm' k j = vL Dm k j from mk 53 (by decide) _ _] at m5
      subst m1 m6 m7
      rw [show vQ Dm' k j m = vQ Dm k j m from mk 55 (by decide) _ _]
      exact ⟨55, 4 * (8 * k + j) + m, _, LbK.pie m2 m3 m4 m5, rfl, Or.inl ⟨rfl, by omega⟩⟩
end GOESREL
