/-! a call's end: the change is told -/
section TOLD
variable {Dc Dm : DD} {m : Int}
theorem Tr.pth (h : Tr Dc Dm) : Pth (th Dm) Dc Dm := fun k a b c => by
  obtain ⟨p1, p2, p3⟩ := h.place ⟨a, b⟩ c
  have hkr := St.kr h ⟨a, b⟩ c
  refine ⟨p1, ⟨p2, p3⟩, hkr.2.2.1.2.1, ?_⟩
  by_cases g : k = 0
  · subst g
    exact Or.inl h.2.2.2.1.2.1
  · obtain ⟨z1, z2, -⟩ := h.2.2.2.2.1 k (by omega) b c
    exact Or.inr ⟨z1.1, z1.2, z2⟩
/-- the end of a call that changes the tree at a key -/
theorem told_both {k x : Int} (hT : Tr Dc Dm) (hD : Dy Dc Dm) (hW : Wt Dc Dm m) (hm : m ≤ 800000) (hk : 0 ≤ k ∧ k < 80) (ht : th Dm k) (hx : 1 ≤ x ∧ x ≤ 7) : ∃ Dc' Dm', pH_tellUpwards k x Dc = okR 0 Dc' ∧ pM_changes k x Dm = okR 0 Dm' ∧ Tr Dc' Dm' ∧ Dy Dc' Dm' ∧ Wt Dc' Dm' (m + 80) ∧ Oc Dc Dc' ∧ Om Dm Dm' ∧ Dm' 32 42 = Dm 32 42 ∧ (∀ b, b ∉ [15, 18, 19] → Dc' b = Dc b) ∧ (∀ b, b ∉ [32, 61, 62, 63] → Dm' b = Dm b) ∧ ∀ j, j ≠ 29 → Dm' 32 j = Dm 32 j := by
  obtain ⟨Dc', Dm', k1, k2, k3, k4, k5⟩ := changes_both hx hk ht hT.pth hW hm
  refine ⟨Dc', Dm', k1, k2, hT.eqv (fun b x y => k4.1 b (by simp only [List.mem_cons, List.not_mem_nil, or_false]; omega)) (fun b x y => k5.1 b (by simp only [List.mem_cons, List.not_mem_nil, or_false]; omega)), hD.cong (by rw [k4.1 7 (by decide)]) (k5.1 58 (by decide)), k3, fun b hb => k4.1 b (by simp only [List.mem_cons, List.not_mem_nil, or_false]; omega), ⟨fun b hb => k5.1 b (by simp only [List.mem_cons, List.not_mem_nil, or_false]; omega), fun j x y => k5.2 j (by omega), fun a i x y z => by rw [k5.1 a (by simp only [List.mem_cons, List.not_mem_nil, or_false]; omega)]⟩, k5.2 42 (by decide), k4.1, k5.1, k5.2⟩
end TOLD
