/-! a key's own cell changes: name and rights -/
section CELL
variable {T : Int → Prop} {R S : Int → Int} {Dc Dm Dc' Dm' : DD}
theorem T0.cell {K p : Int} (h : T0 T R S Dc Dm) (hK : 0 ≤ K ∧ K < 80) (hT : T K) (h2 : Dc' 2 = Dc 2) (h3 : Dc' 3 = Dc 3) (h5 : Dc' 5 = Dc 5) (h6 : Dc' 6 = Dc 6) (hm : ∀ b, 33 ≤ b → b ≤ 55 → b ≠ 38 → b ≠ 41 → Dm' b = Dm b) (hm2 : ∀ i, i ≠ K → Rz 240 38 Dm' i = Rz 240 38 Dm i ∧ Rz 240 41 Dm' i = Rz 240 41 Dm i) (hp : Rz 240 40 Dm K = p)
    (hu : ∀ u, u ≠ p → u ≠ p + 4 → Rz 1024 4 Dc' u = Rz 1024 4 Dc u) (hu0 : Rz 1024 4 Dc' p = Rz 240 38 Dm' K) (hu4 : Rz 1024 4 Dc' (p + 4) = Rz 240 41 Dm' K) (b38 : 0 ≤ Rz 240 38 Dm' K ∧ Rz 240 38 Dm' K ≤ 9999) (b41 : 0 ≤ Rz 240 41 Dm' K ∧ Rz 240 41 Dm' K ≤ 255) : T0 T R S Dc' Dm' := by
  have hkr := h.2.2.2.1 K hK.1 hK.2 hT
  have inK : ∀ {a i p s}, LbK Dm K a i p s → Lb T R S Dm a i p s := fun z => Or.inl ⟨K, hK.1, hK.2, hT, z⟩
  have e40 : Rz 240 40 Dm' = Rz 240 40 Dm := Rz_fn (hm 40 (by decide) (by decide) (by decide) (by decide))
  have m : ∀ b, 36 ≤ b → b ≤ 55 → b ≠ 38 → b ≠ 41 → ∀ n i, Rz n b Dm' i = Rz n b Dm i := fun b x y z w n i => R_cg (hm b (by omega) y z w) i
  have lk : ∀ a i q s, LbK Dm' K a i q s → LbK Dm K a i q s := fun a i q s l => by
    unfold LbK ml vP vL vQ Rz at l ⊢
    rw [hm 40 (by decide) (by decide) (by decide) (by decide), hm 42 (by decide) (by decide) (by decide) (by decide), hm 43 (by decide) (by decide) (by decide) (by decide), hm 44 (by decide) (by decide) (by decide) (by decide), hm 48 (by decide) (by decide) (by decide) (by decide), hm 49 (by decide) (by decide) (by decide) (by decide), hm 50 (by decide) (by decide) (by decide) (by decide), hm 53 (by decide) (by decide) (by decide) (by decide), hm 54 (by decide) (by decide) (by decide) (by decide), hm 55 (by decide) (by decide) (by decide) (by decide)] at l
    exact l
  have off : ∀ a i q s, Lb T R S Dm a i q s → (a ≠ 40 ∨ i ≠ K) → ∀ j, 0 ≤ j → j < s → Rz 1024 4 Dc' (q + j) = Rz 1024 4 Dc (q + j) := fun a i q s l e j x y => by
    have := h.dis l (inK LbK.key) e
    rw [hp] at this
    exact hu _ (by omega) (by omega)
  have hKR : KR Dc' Dm' K := by
    obtain ⟨r1, r2, ⟨u0, u1, u4, u5⟩, ⟨b1, b2, b3, b4⟩, hL, hW, hV⟩ := hkr
    rw [hp] at r1 r2 u0 u1 u4 u5 hL hV
    have n8 := hL.1
    have v8 := hV.1
    have eml : ml Dm' = ml Dm := by funext a b; exact m 44 (by decide) (by decide) (by decide) (by decide) _ _
    have emc : mc Dm' = mc Dm := by funext a b; exact m 45 (by decide) (by decide) (by decide) (by decide) _ _
    have eme : me Dm' = me Dm := by funext a b; exact m 46 (by decide) (by decide) (by decide) (by decide) _ _
    have emn : mn_ Dm' = mn_ Dm := by funext a b; exact m 47 (by decide) (by decide) (by decide) (by decide) _ _
    have emE : mE Dm' = mE Dm := by funext a b; unfold mE; rw [eme, emn]
    have evN : vN Dm' = vN Dm := by funext a b; exact m 51 (by decide) (by decide) (by decide) (by decide) _ _
    have evS : vS Dm' = vS Dm := by funext a b; exact m 52 (by decide) (by decide) (by decide) (by decide) _ _
    have evL : vL Dm' = vL Dm := by funext a b; exact m 53 (by decide) (by decide) (by decide) (by decide) _ _
    have evP : vP Dm' = vP Dm := by funext a b; exact m 54 (by decide) (by decide) (by decide) (by decide) _ _
    have evQ : vQ Dm' = vQ Dm := by funext a b c; exact m 55 (by decide) (by decide) (by decide) (by decide) _ _
    have hW' : MW Dm' K := by
      unfold MW at hW ⊢
      rw [emc, eme, emn, m 42 (by decide) (by decide) (by decide) (by decide)]
      exact hW
    unfold KR
    rw [eml, emc, emE, evN, evS, evL, evP, evQ, e40, hp, R_cg h5, Rz_fn h3, m 37 (by decide) (by decide) (by decide) (by decide), m 39 (by decide) (by decide) (by decide) (by decide), m 42 (by decide) (by decide) (by decide) (by decide), m 43 (by decide) (by decide) (by decide) (by decide), m 48 (by decide) (by decide) (by decide) (by decide), m 49 (by decide) (by decide) (by decide) (by decide), m 50 (by decide) (by decide) (by decide) (by decide), hu0, hu4, hu (p + 1) (by omega) (by omega), hu (p + 2) (by omega) (by omega), hu (p + 3) (by omega) (by omega), hu (p + 5) (by omega) (by omega)]
    refine ⟨r1, r2, ⟨rfl, u1, rfl, u5⟩, ⟨b38, b41, b3, b4⟩, ?_, hW', ?_⟩
    · exact hL.cong rfl (fun _ _ _ => ⟨rfl, rfl⟩) (fun _ _ _ => rfl) (fun _ => rfl) (fun i a b => (hL.2.2.1 i a b).1) (fun q => (hL.2.2.2 q).1) (fun i j a b c d => off _ _ _ _ (inK (LbK.lea a b)) (Or.inl (by decide)) j c d) (fun q j c d => off _ _ _ _ (inK (LbK.idx q)) (Or.inl (by decide)) j c d)
    · refine hV.cong rfl (fun _ => ⟨rfl, rfl⟩) (fun _ _ _ => ⟨rfl, rfl, rfl, rfl⟩) (fun _ _ _ _ _ _ => rfl) (fun _ => rfl) (fun _ _ _ => rfl) (fun _ _ _ _ _ _ => rfl) (fun q i a b => off _ _ _ _ (inK (LbK.vls q)) (Or.inl (by decide)) i a (by have := (hV.2.2.1 q).2.2.2.1; omega)) (fun j i a b c d => off _ _ _ _ (inK (LbK.val a b)) (Or.inl (by decide)) i c d) (fun j i a b c d => ?_)
      have := off _ _ _ _ (inK (LbK.pie a b c d)) (Or.inl (by decide)) 0 (Int.le_refl _) (by have := upc_bd (hV.2.2.2.1 j a b).2.1 ⟨c, d⟩; omega)
      rw [Int.add_zero] at this
      exact this
  refine h.one hK hT (h.1.cong (fun u => R_cg h3 u) (by rw [h2]) (fun u _ _ => R_cg (hm 33 (by decide) (by decide) (by decide) (by decide)) u) (by rw [hm 34 (by decide) (by decide) (by decide) (by decide)])) (by rw [h2, hm 35 (by decide) (by decide) (by decide) (by decide)]; exact h.2.1) h5 h6 (fun k _ _ q => ⟨fun a z => ?_, fun a z i _ _ => ?_, fun a z i _ _ => ?_⟩) hKR (fun a i q s l e => ⟨R_cg h3 q, off a i q s l ?_⟩) (fun a i a' i' => a = a' ∧ i = i') (fun _ _ _ => False) (fun a i b j a' i' z1 z2 => ⟨z1.1.trans z2.1.symm, z1.2.trans z2.2.symm⟩) (fun _ _ _ _ _ z => z.elim) (fun a i q s l => Or.inl ⟨a, i, s, lk _ _ _ _ l, rfl, rfl⟩)
  · by_cases g : a = 38
    · subst g; exact (hm2 k q).1
    · by_cases g2 : a = 41
      · subst g2; exact (hm2 k q).2
      · exact m a (by simp only [List.mem_cons, List.not_mem_nil, or_false] at z; omega) (by simp only [List.mem_cons, List.not_mem_nil, or_false] at z; omega) g g2 _ _
  · exact m a (by simp only [List.mem_cons, List.not_mem_nil, or_false] at z; omega) (by simp only [List.mem_cons, List.not_mem_nil, or_false] at z; omega) (by simp only [List.mem_cons, List.not_mem_nil, or_false] at z; omega) (by simp only [List.mem_cons, List.not_mem_nil, or_false] at z; omega) _ _
  · exact m a (by simp only [List.mem_cons, List.not_mem_nil, or_false] at z; omega) (by simp only [List.mem_cons, List.not_mem_nil, or_false] at z; omega) (by simp only [List.mem_cons, List.not_mem_nil, or_false] at z; omega) (by simp only [List.mem_cons, List.not_mem_nil, or_false] at z; omega) _ _
  · by_cases g : a = 40 ∧ i = K
    · obtain ⟨g1, g2⟩ := g
      subst g1 g2
      exact absurd LbK.key (e _ _)
    · omega
end CELL
/-! an entry put in anew and the old one taken out -/
section LISTS2
variable {N t j0 t' : Int}
theorem ren_a (hj0 : 0 ≤ j0 ∧ j0 < N) (ht : 0 ≤ t ∧ t ≤ N) (ht' : t' = if j0 < t then j0 else j0 + 1) : ∀ j, 0 ≤ j → j < N → (∀ (E : Int → Int) (y : Int), delF (insF E t y) t' j = y) ∨ ∃ i, 0 ≤ i ∧ i < N ∧ i ≠ j0 ∧ ∀ (E : Int → Int) (y : Int), delF (insF E t y) t' j = E i := fun j a b => by
  have h1 : (j0 < t ∧ t' = j0) ∨ (t ≤ j0 ∧ t' = j0 + 1) := by
    by_cases q : j0 < t
    · rw [if_pos q] at ht'; exact Or.inl ⟨q, ht'⟩
    · rw [if_neg q] at ht'; exact Or.inr ⟨by omega, ht'⟩
  obtain ⟨j', hj', hd⟩ : ∃ j', ((j < t' ∧ j' = j) ∨ (t' ≤ j ∧ j' = j + 1)) ∧ ∀ E : Int → Int, delF E t' j = E j' := by
    unfold delF
    by_cases q : j < t'
    · exact ⟨j, Or.inl ⟨q, rfl⟩, fun E => if_pos q⟩
    · exact ⟨j + 1, Or.inr ⟨by omega, rfl⟩, fun E => if_neg q⟩
  by_cases q : j' < t
  · exact Or.inr ⟨j', by omega, by omega, by omega, fun E y => by rw [hd, insF_lo q]⟩
  · by_cases q2 : j' = t
    · exact Or.inl (fun E y => by rw [hd, q2, insF_eq])
    · exact Or.inr ⟨j' - 1, by omega, by omega, by omega, fun E y => by rw [hd, insF_hi (by omega)]⟩
theorem ren_b (hj0 : 0 ≤ j0 ∧ j0 < N) (ht : 0 ≤ t ∧ t ≤ N) (ht' : t' = if j0 < t then j0 else j0 + 1) : ∃ j, 0 ≤ j ∧ j < N ∧ ∀ (E : Int → Int) (y : Int), delF (insF E t y) t' j = y := by
  by_cases q : j0 < t
  · rw [if_pos q] at ht'
    refine ⟨t - 1, by omega, by omega, fun E y => ?_⟩
    unfold delF
    rw [if_neg (by omega), show t - 1 + 1 = t by omega, insF_eq]
  · rw [if_neg q] at ht'
    refine ⟨t, by omega, by omega, fun E y => ?_⟩
    unfold delF
    rw [if_pos (by omega), insF_eq]
theorem ren_c (hj0 : 0 ≤ j0 ∧ j0 < N) (ht : 0 ≤ t ∧ t ≤ N) (ht' : t' = if j0 < t then j0 else j0 + 1) : ∀ i, 0 ≤ i → i < N → i ≠ j0 → ∃ j, 0 ≤ j ∧ j < N ∧ ∀ (E : Int → Int) (y : Int), delF (insF E t y) t' j = E i := fun i a b c => by
  have h1 : (j0 < t ∧ t' = j0) ∨ (t ≤ j0 ∧ t' = j0 + 1) := by
    by_cases q : j0 < t
    · rw [if_pos q] at ht'; exact Or.inl ⟨q, ht'⟩
    · rw [if_neg q] at ht'; exact Or.inr ⟨by omega, ht'⟩
  obtain ⟨i', hi', hd⟩ : ∃ i', ((i < t ∧ i' = i) ∨ (t ≤ i ∧ i' = i + 1)) ∧ ∀ (E : Int → Int) (y : Int), insF E t y i' = E i := by
    by_cases q : i < t
    · exact ⟨i, Or.inl ⟨q, rfl⟩, fun E y => insF_lo q⟩
    · exact ⟨i + 1, Or.inr ⟨by omega, rfl⟩, fun E y => by rw [insF_hi (by omega), show i + 1 - 1 = i by omega]⟩
  unfold delF
  by_cases q : i' < t'
  · exact ⟨i', by omega, by omega, fun E y => by rw [if_pos q, hd]⟩
  · exact ⟨i' - 1, by omega, by omega, fun E y => by rw [if_neg (by omega), show i' - 1 + 1 = i' by omega, hd]⟩
/-- where the old entry lies after the new one has come -/
theorem ren_d {E : Int → Int} {y : Int} (ht' : t' = if j0 < t then j0 else j0 + 1) : insF E t y t' = E j0 := by
  by_cases q : j0 < t
  · rw [if_pos q] at ht'
    rw [ht', insF_lo q]
  · rw [if_neg q] at ht'
    rw [ht', insF_hi (by omega), show j0 + 1 - 1 = j0 by omega]
end LISTS2
