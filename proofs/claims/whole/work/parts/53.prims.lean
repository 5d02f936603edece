/-! steps that keep the relation -/
section STEPS
variable {T : Int → Prop} {R S : Int → Int} {Dc Dm Dc' Dm' : DD}
theorem LbK.eqv {k : Int} {a : Nat} {i p s : Int} (hm : ∀ b, 36 ≤ b → b ≤ 55 → Dm' b = Dm b) : LbK Dm' k a i p s ↔ LbK Dm k a i p s := by
  unfold LbK ml vP vL vQ Rz
  rw [hm 40 (by omega) (by omega), hm 42 (by omega) (by omega), hm 43 (by omega) (by omega), hm 44 (by omega) (by omega), hm 48 (by omega) (by omega), hm 49 (by omega) (by omega), hm 50 (by omega) (by omega), hm 53 (by omega) (by omega), hm 54 (by omega) (by omega), hm 55 (by omega) (by omega)]
theorem Lb.eqv {a : Nat} {i p s : Int} (hm : ∀ b, 36 ≤ b → b ≤ 55 → Dm' b = Dm b) : Lb T R S Dm' a i p s ↔ Lb T R S Dm a i p s := by
  unfold Lb
  constructor
  · rintro (⟨k, a, b, c, d⟩ | h)
    · exact Or.inl ⟨k, a, b, c, (LbK.eqv hm).1 d⟩
    · exact Or.inr h
  · rintro (⟨k, a, b, c, d⟩ | h)
    · exact Or.inl ⟨k, a, b, c, (LbK.eqv hm).2 d⟩
    · exact Or.inr h
theorem MS.eqv (hm : ∀ b, 36 ≤ b → b ≤ 55 → Dm' b = Dm b) (k : Int) : MS Dm Dm' k :=
  ⟨fun a z => R_cg (hm a (by simp only [List.mem_cons, List.not_mem_nil, or_false] at z; omega) (by simp only [List.mem_cons, List.not_mem_nil, or_false] at z; omega)) k,
   fun a z i _ _ => R_cg (hm a (by simp only [List.mem_cons, List.not_mem_nil, or_false] at z; omega) (by simp only [List.mem_cons, List.not_mem_nil, or_false] at z; omega)) _,
   fun a z i _ _ => R_cg (hm a (by simp only [List.mem_cons, List.not_mem_nil, or_false] at z; omega) (by simp only [List.mem_cons, List.not_mem_nil, or_false] at z; omega)) _⟩
/-- the labels stay, and their cells -/
theorem T0.stay (h : T0 T R S Dc Dm) (hC : CR Dc' Dm') (h25 : Dc' 2 5 = Dm' 35 0) (h5 : Dc' 5 = Dc 5) (h6 : Dc' 6 = Dc 6) (hm : ∀ b, 36 ≤ b → b ≤ 55 → Dm' b = Dm b) (hF : ∀ a i p s, Lb T R S Dm a i p s → Fr Dc Dc' p s) : T0 T R S Dc' Dm' := by
  refine ⟨hC, h25, fun k a b c => ?_, fun k a b c => ?_, fun r a b => ?_, fun a i p s b j t l m => ?_⟩
  · rw [R_cg h5]; exact h.2.2.1 k a b c
  · exact (h.2.2.2.1 k a b c).frame (R_cg h5 k) (MS.eqv hm k) (fun x i p s l => hF x i p s (Or.inl ⟨k, a, b, c, l⟩))
  · obtain ⟨f1, f2⟩ := h.2.2.2.2.1 r a b
    unfold RR
    rw [R_cg h6]
    refine ⟨f1, fun q => ?_⟩
    obtain ⟨f3, f4, f5⟩ := f2 q
    obtain ⟨g1, g2⟩ := hF 56 r (R r) 2 (Or.inr ⟨rfl, a, b, q, rfl, rfl⟩)
    have := g2 0 (by omega) (by omega)
    rw [Int.add_zero] at this
    exact ⟨f3, by rw [g1, f4], by rw [this, f5]⟩
  · exact h.2.2.2.2.2 a i p s b j t ((Lb.eqv hm).1 l) ((Lb.eqv hm).1 m)
theorem T0.eqv (h : T0 T R S Dc Dm) (h2 : Dc' 2 = Dc 2) (h3 : Dc' 3 = Dc 3) (h4 : Dc' 4 = Dc 4) (h5 : Dc' 5 = Dc 5) (h6 : Dc' 6 = Dc 6) (hm : ∀ b, 33 ≤ b → b ≤ 55 → Dm' b = Dm b) : T0 T R S Dc' Dm' :=
  h.stay (h.1.cong (fun u => R_cg h3 u) (by rw [h2]) (fun u _ _ => R_cg (hm 33 (by omega) (by omega)) u) (by rw [hm 34 (by omega) (by omega)])) (by rw [h2, hm 35 (by omega) (by omega)]; exact h.2.1) h5 h6 (fun b x y => hm b (by omega) y) (fun _ _ _ _ _ => Fr.of h3 h4)
theorem Fs.eqv {p n : Int} (h : Fs T R S Dc Dm p n) (h3 : Dc' 3 = Dc 3) (hm : ∀ b, 36 ≤ b → b ≤ 55 → Dm' b = Dm b) : Fs T R S Dc' Dm' p n := ⟨by rw [R_cg h3]; exact h.1, h.2.1, fun a i s l => h.2.2 a i s ((Lb.eqv hm).1 l)⟩
theorem Fs.dis {p n q t : Int} {a : Nat} {i : Int} (h : T0 T R S Dc Dm) (f : Fs T R S Dc Dm p n) (l : Lb T R S Dm a i q t) : p + n ≤ q ∨ q + t ≤ p := by
  obtain ⟨l1, l2⟩ := h.lb l
  exact h.1.apart f.1 l1 f.2.1 (by omega) (fun e => by subst e; exact f.2.2 _ _ _ l)
theorem Fs.ne {p n q t : Int} {a : Nat} {i : Int} (f : Fs T R S Dc Dm p n) (l : Lb T R S Dm a i q t) : p ≠ q := fun e => by subst e; exact f.2.2 _ _ _ l
/-- all that is wanted is got, or nothing -/
theorem T0.gets {c : Int} {w : Int → Int} (h : T0 T R S Dc Dm) (hW : Wn Dc Dm c w) (hc : 0 ≤ c ∧ c ≤ 6) :
    ∃ Dc' Dm', T0 T R S Dc' Dm' ∧ (∀ b, b ∉ [2, 3, 7, 9, 10] → Dc' b = Dc b) ∧ Dc' 2 5 = Dc 2 5 ∧ (∀ k, k ≠ 5 → Dc' 7 k = Dc 7 k) ∧ (∀ b, b ∉ [33, 34, 66, 67] → Dm' b = Dm b) ∧ HiEq Dm Dm' ∧
      ((pC_getAllWanted Dc = okR 1 Dc' ∧ pM_gets Dm = okR 1 Dm' ∧ ∃ g : Int → Int, (∀ i, 0 ≤ i → i < c → Rz 6 9 Dc' i = g i ∧ Rz 8 66 Dm' i = g i ∧ Fs T R S Dc' Dm' (g i) (w i) ∧ (4 ≤ g i ∧ g i + w i ≤ 1024)) ∧ (∀ i j, 0 ≤ i → i < j → j < c → g i ≠ g j) ∧
        ∀ t, 0 ≤ t → t < 64 → (bit (Dc' 7 5) t = true ↔ bit (Dc 7 5) t = true ∨ ∃ i, 0 ≤ i ∧ i < c ∧ sec (g i) (w i) t)) ∨
       (pC_getAllWanted Dc = okR 0 Dc' ∧ pM_gets Dm = okR 0 Dm' ∧ Dc' 7 5 = Dc 7 5)) := by
  obtain ⟨Dc', Dm', k1, k2, k3, k4, k5, k6, k7⟩ := gets_both h.1 hc hW.1 hW.2.1 (fun i a b => by
    obtain ⟨a1, a2, a3, a4⟩ := hW.2.2 i a b
    exact ⟨by rw [a1, a2], by omega, by omega⟩)
  have hm : ∀ b, 36 ≤ b → b ≤ 55 → Dm' b = Dm b := fun b x y => k5 b (by intro z; simp only [List.mem_cons, List.not_mem_nil, or_false] at z; omega)
  have hs : ∀ u, 0 < Rz 1024 3 Dc u → Rz 1024 3 Dc' u = Rz 1024 3 Dc u := by
    rcases k7 with ⟨-, -, q, -⟩ | ⟨-, -, q, -⟩
    · exact q
    · exact fun u _ => q u
  have h4 : Dc' 4 = Dc 4 := k2 4 (by decide)
  have hT : T0 T R S Dc' Dm' := h.stay k1 (by rw [k3, h.2.1, k5 35 (by decide)]) (k2 5 (by decide)) (k2 6 (by decide)) hm (fun a i p s l => ⟨hs p (by have := h.lb l; omega), fun j _ _ => R_cg h4 _⟩)
  refine ⟨Dc', Dm', hT, k2, k3, k4, k5, k6, ?_⟩
  rcases k7 with ⟨q1, q2, q3, q4, q5⟩ | ⟨q1, q2, q3, q4, q5⟩
  · refine Or.inl ⟨q1, q2, Rz 6 9 Dc', fun i a b => ?_, fun i j a b c => ?_, fun t a b => ?_⟩
    · obtain ⟨a1, a2, a3, a4⟩ := hW.2.2 i a b
      obtain ⟨b1, b2, b3, b4, b5⟩ := q4 i a b
      rw [a1] at b4
      have := k1.1.1 (Rz 6 9 Dc' i) (by omega)
      have := k1.2.1
      refine ⟨rfl, b1, ⟨b4, a3, fun a' i' s l => ?_⟩, b2, by omega⟩
      have := (h.lb ((Lb.eqv hm).1 l))
      omega
    · exact (q4 j (by omega) c).2.2.2.2 i a b
    · rw [q5 t a b]
      constructor
      · rintro (z | ⟨i, z1, z2, z3⟩)
        · exact Or.inl z
        · rw [(hW.2.2 i z1 z2).1] at z3
          exact Or.inr ⟨i, z1, z2, z3⟩
      · rintro (z | ⟨i, z1, z2, z3⟩)
        · exact Or.inl z
        · rw [← (hW.2.2 i z1 z2).1] at z3
          exact Or.inr ⟨i, z1, z2, z3⟩
  · exact Or.inr ⟨q1, q2, q5⟩
end STEPS
