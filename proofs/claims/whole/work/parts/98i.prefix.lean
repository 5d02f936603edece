/-! what counts of a state: the first registry's cells -/
section PREFIX
variable {Dc Dm Dc' Dm' : DD}
theorem R_pre {D D' : DD} (hm : ∀ a k, 33 ≤ a → a ≤ 57 → k < lenA a → D' a k = D a k) {N a : Nat} {i : Int} (h1 : 33 ≤ a) (h2 : a ≤ 57) (h3 : i < lenA a) : Rz N a D' i = Rz N a D i := by
  unfold Rz
  by_cases q : 0 ≤ i ∧ i < N
  · rw [if_pos q, if_pos q, hm a i.toNat h1 h2 (by omega)]
  · rw [if_neg q, if_neg q]
theorem MS.pre {D D' : DD} (hm : ∀ a k, 33 ≤ a → a ≤ 57 → k < lenA a → D' a k = D a k) {k : Int} (hk : k < 80) : MS D D' k := by
  refine ⟨fun a z => R_pre hm (by simp only [List.mem_cons, List.not_mem_nil, or_false] at z; omega) (by simp only [List.mem_cons, List.not_mem_nil, or_false] at z; omega) ?_, fun a z i x y => R_pre hm (by simp only [List.mem_cons, List.not_mem_nil, or_false] at z; omega) (by simp only [List.mem_cons, List.not_mem_nil, or_false] at z; omega) ?_, fun a z i x y => R_pre hm (by simp only [List.mem_cons, List.not_mem_nil, or_false] at z; omega) (by simp only [List.mem_cons, List.not_mem_nil, or_false] at z; omega) ?_⟩
  · have : lenA a = 80 := by
      simp only [List.mem_cons, List.not_mem_nil, or_false] at z
      rcases z with z | z | z | z | z | z | z | z | z | z <;> subst z <;> rfl
    omega
  · have : lenA a = 640 := by
      simp only [List.mem_cons, List.not_mem_nil, or_false] at z
      rcases z with z | z | z | z | z | z <;> subst z <;> rfl
    omega
  · have : lenA a = 2560 := by
      simp only [List.mem_cons, List.not_mem_nil, or_false] at z
      rcases z with z | z | z <;> subst z <;> rfl
    omega
theorem MT.pre {D D' : DD} (h : MT D) (hW : ∀ i, 0 ≤ i → i < 80 → th D i → MW D i) (hm : ∀ a k, 33 ≤ a → a ≤ 57 → k < lenA a → D' a k = D a k) : MT D' := by
  have r36 : ∀ i, i < 80 → Rz 240 36 D' i = Rz 240 36 D i := fun i hi => R_pre hm (by decide) (by decide) (by rw [show lenA 36 = 80 from rfl]; omega)
  have r37 : ∀ i, i < 80 → Rz 240 37 D' i = Rz 240 37 D i := fun i hi => (MS.pre hm hi).1 37 (by decide)
  have r38 : ∀ i, i < 80 → Rz 240 38 D' i = Rz 240 38 D i := fun i hi => (MS.pre hm hi).1 38 (by decide)
  have r39 : ∀ i, i < 80 → Rz 240 39 D' i = Rz 240 39 D i := fun i hi => (MS.pre hm hi).1 39 (by decide)
  have r41 : ∀ i, i < 80 → Rz 240 41 D' i = Rz 240 41 D i := fun i hi => (MS.pre hm hi).1 41 (by decide)
  have e35 : D' 35 0 = D 35 0 := hm 35 0 (by decide) (by decide) (by decide)
  obtain ⟨a1, a2, a3, a4, a5, a6⟩ := h
  refine ⟨by rw [e35]; exact a1, fun i x y => by rw [r36 i y, e35]; exact a2 i x y, by rw [r36 0 (by omega), r37 0 (by omega), r39 0 (by omega)]; exact a3, fun i x y z => ?_, fun i j x y z u v => ?_, fun r x y => ?_⟩
  · rw [r36 i y] at z
    obtain ⟨b1, b2, j, b3, b4, b5⟩ := a4 i x y z
    rw [r37 i y, r36 _ (by omega)]
    obtain ⟨l1, l2⟩ := (MS.pre hm (k := Rz 240 37 D i) (by omega)).list (hW _ b1.1 (by omega) b2)
    rw [l1]
    exact ⟨b1, b2, j, b3, b4, by rw [(l2 j b3 b4).1]; exact b5⟩
  · rw [r36 i y] at z
    obtain ⟨l1, l2⟩ := (MS.pre hm (k := i) (by omega)).list (hW i x y z)
    rw [l1] at v
    obtain ⟨y1, y2, y3⟩ := a5 i j x y z u v
    have hb := ((hW i x y z).2.2.1 j u v).2
    rw [(l2 j u v).1, (l2 j u v).2, r36 _ hb.2, r37 _ hb.2, r38 _ hb.2]
    exact ⟨y1, y2, y3⟩
  · rw [R_pre hm (by decide) (by decide) (by rw [show lenA 57 = 256 from rfl]; omega), a6 r x y]
    exact sm_cong (fun k p q => by rw [r36 k q, r41 k q])
theorem Tr.pre (h : Tr Dc Dm) (c4 : Dc' 2 4 = Dc 2 4) (c5 : Dc' 2 5 = Dc 2 5) (r3 : ∀ i, Rz 1024 3 Dc' i = Rz 1024 3 Dc i) (r4 : ∀ i, Rz 1024 4 Dc' i = Rz 1024 4 Dc i) (r5 : ∀ i, Rz 80 5 Dc' i = Rz 80 5 Dc i) (r6 : ∀ i, Rz 256 6 Dc' i = Rz 256 6 Dc i) (hm : ∀ a k, 33 ≤ a → a ≤ 57 → k < lenA a → Dm' a k = Dm a k) : Tr Dc' Dm' := by
  have r36 : ∀ i, i < 80 → Rz 240 36 Dm' i = Rz 240 36 Dm i := fun i hi => R_pre hm (by decide) (by decide) (by rw [show lenA 36 = 80 from rfl]; omega)
  have tt : ∀ i, i < 80 → (th Dm' i ↔ th Dm i) := fun i hi => by unfold th; rw [r36 i hi]
  have r56 : ∀ r, r < 256 → Rz 768 56 Dm' r = Rz 768 56 Dm r ∧ Rz 768 57 Dm' r = Rz 768 57 Dm r := fun r hr => ⟨R_pre hm (by decide) (by decide) (by rw [show lenA 56 = 256 from rfl]; omega), R_pre hm (by decide) (by decide) (by rw [show lenA 57 = 256 from rfl]; omega)⟩
  have fr : ∀ p s, Fr Dc Dc' p s := fun p s => ⟨r3 p, fun j _ _ => r4 _⟩
  have cls : ∀ {a i p s}, Lb (th Dm') (Rz 768 56 Dm') (Rz 768 57 Dm') Dm' a i p s → Lb (th Dm) (Rz 768 56 Dm) (Rz 768 57 Dm) Dm a i p s := fun l => by
    rcases l with ⟨k, l1, l2, l3, l4⟩ | ⟨l1, l2, l3, l4, l5, l6⟩
    · have tk := (tt k l2).1 l3
      have hkr := St.kr h ⟨l1, l2⟩ tk
      exact Or.inl ⟨k, l1, l2, tk, LbK.cong (MS.pre hm l2) hkr.2.2.2.2.1.1.2 hkr.2.2.2.2.2.2.1.2 (fun j a b => (hkr.2.2.2.2.2.2.2.2.2.1 j a b).2.1) l4⟩
    · rw [(r56 _ l3).2] at l4
      rw [(r56 _ l3).1] at l5
      exact Or.inr ⟨l1, l2, l3, l4, l5, l6⟩
  refine ⟨⟨?_, ?_, fun k a b c => ?_, fun k a b c => ?_, fun r a b => ?_, fun a i p s b j t l l' => h.1.2.2.2.2.2 _ _ _ _ _ _ _ (cls l) (cls l')⟩, h.2.pre (fun i x y z => (St.kr h ⟨x, y⟩ z).2.2.2.2.2.1) hm⟩
  · exact h.1.1.cong r3 c4 (fun u x y => R_pre hm (by decide) (by decide) (by rw [show lenA 33 = 1024 from rfl]; omega)) (hm 34 0 (by decide) (by decide) (by decide))
  · rw [c5, hm 35 0 (by decide) (by decide) (by decide)]
    exact h.1.2.1
  · rw [r5]
    exact h.1.2.2.1 k a b (fun z => c ((tt k b).2 z))
  · exact (St.kr h ⟨a, b⟩ ((tt k b).1 c)).frame (r5 k) (MS.pre hm b) (fun _ _ p s _ => fr p s)
  · obtain ⟨f1, f2⟩ := h.1.2.2.2.2.1 r a b
    unfold RR
    rw [(r56 r b).1, (r56 r b).2, r6, r3, r4]
    exact ⟨f1, f2⟩
/-- an image of the class as a state; a registry of the reference as a state -/
def cI (o : Nat) (D : DD) : DD := fun b => if b = 2 then D o else if b = 3 then D (o + 1) else if b = 4 then D (o + 2) else if b = 5 then D (o + 3) else if b = 6 then D (o + 4) else fun _ => 0
def mI (w : Nat) (D : DD) : DD := fun b k => if k < lenA b then D b (w * lenA b + k) else 0
theorem mI_at {w : Nat} {D : DD} {b k : Nat} (h : k < lenA b) : mI w D b k = D b (w * lenA b + k) := if_pos h
theorem mI_0 {D : DD} {b k : Nat} (h : k < lenA b) : mI 0 D b k = D b k := by rw [mI_at h, Nat.zero_mul, Nat.zero_add]
/-- behind the first registry nothing changed -/
theorem mI_hi {D D' : DD} (h : HiEq D D') {w : Nat} (hw : 1 ≤ w) : ∀ a k, 33 ≤ a → a ≤ 57 → k < lenA a → mI w D' a k = mI w D a k := fun a k h1 h2 h3 => by
  have : lenA a ≤ w * lenA a := Nat.le_mul_of_pos_left _ hw
  rw [mI_at h3, mI_at h3, h a _ h1 h2 (by omega)]
end PREFIX
