/-! a value comes into a key's list of values -/
section ADDV
variable {T : Int → Prop} {R S : Int → Int} {Dc Dm E : DD}
theorem listFor_m {D : DD} {k n z : Int} (hk : 0 ≤ k ∧ k < 80) (hn : Rz 240 48 D k = n) (hn0 : 0 ≤ n ∧ n ≤ 8) (h49 : (n = 0 → Rz 240 49 D k = -1) ∧ (1 ≤ n → 0 ≤ Rz 240 49 D k ∧ Rz 240 49 D k ≤ 1024)) (hz : 1 ≤ n → Rz 240 50 D k = z ∧ (z = 5 ∨ z = 9)) : pM_listFor k D = okR (if n = 0 then 5 else if n = 4 ∧ z = 5 then 9 else 0) D := by
  unfold pM_listFor
  rw [rdA_R (by omega)]
  by_cases q : n = 0
  · rw [h49.1 q, w32_m1, if_pos rfl, if_pos q]
  · obtain ⟨z1, z2⟩ := hz (by omega)
    have := h49.2 (by omega)
    rw [w32_of (by omega), if_neg (by omega), rdA_R (by omega), hn, w32_of (by omega), if_neg q]
    by_cases q2 : n = 4
    · rw [if_pos q2, rdA_R (by omega), z1, w32_of (by omega)]
      by_cases q3 : z = 5
      · rw [if_pos q3, if_pos ⟨q2, q3⟩]
      · rw [if_neg q3, if_neg (fun y => q3 y.2)]
    · rw [if_neg q2, if_neg (fun y => q2 y.1)]
theorem add_both {k n p v lg l z x7 : Int} (h : T0 T R S Dc Dm) (hk : 0 ≤ k ∧ k < 80) (hT : T k) (hn : Rz 240 48 Dm k = n) (hn8 : n < 8) (hp : Rz 240 40 Dm k = p) (hCE : CR Dc E)
    (hl : (1 ≤ n ∧ ¬ (n = 4 ∧ Rz 240 50 Dm k = 5) ∧ l = Rz 240 49 Dm k ∧ z = Rz 240 50 Dm k ∧ x7 = -1) ∨ (n = 0 ∧ l = lg ∧ z = 5 ∧ Fs T R S Dc Dm lg 5 ∧ x7 = -1) ∨ (n = 4 ∧ Rz 240 50 Dm k = 5 ∧ l = lg ∧ z = 9 ∧ Fs T R S Dc Dm lg 9 ∧ x7 = Rz 240 49 Dm k)) :
    ∃ D5 E5 P, pV_addToList p v lg Dc = okR 0 D5 ∧ (∀ J : DD → Res, (if (w32 x7) = (-1) then J E else bnd (pM_gives x7 E) fun _ D16 => J D16) = J E5) ∧ CR D5 E5 ∧ (∀ b, b ∉ [3, 4, 7] → D5 b = Dc b) ∧ (∀ j, j ≠ 5 → D5 7 j = Dc 7 j) ∧ (∀ b, b ∉ [32, 33, 58] → E5 b = E b) ∧ (∀ j, j ≠ 41 → E5 32 j = E 32 j) ∧ HiEq E E5 ∧
      (∀ u, (1 ≤ n → l ≠ Rz 240 49 Dm k → u ≠ Rz 240 49 Dm k) → 0 < Rz 1024 3 Dc u → Rz 1024 3 D5 u = Rz 1024 3 Dc u) ∧
      Rz 1024 4 D5 (p + 3) = l ∧ Rz 1024 4 D5 l = n + 1 ∧ (∀ j, 0 ≤ j → j < n → Rz 1024 4 D5 (l + 1 + j) = vP Dm k j) ∧ Rz 1024 4 D5 (l + 1 + n) = v ∧ (∀ u, u ≠ p + 3 → (u < l ∨ l + z ≤ u) → (1 ≤ n → l ≠ Rz 240 49 Dm k → u ≠ Rz 240 49 Dm k) → Rz 1024 4 D5 u = Rz 1024 4 Dc u) ∧
      (∀ t, 0 ≤ t → t < 64 → (bit (D5 7 5) t = true ↔ (bit (Dc 7 5) t = true ∨ P t) ∨ sec l z t)) ∧ Mb E E5 P := by
  have hkr := h.2.2.2.1 k hk.1 hk.2 hT
  have inK : ∀ {a i p s}, LbK Dm k a i p s → Lb T R S Dm a i p s := fun z => Or.inl ⟨k, hk.1, hk.2, hT, z⟩
  have hV := hkr.2.2.2.2.2.2
  rw [hn, hp] at hV
  have v8 := hV.1
  have hsc := h.1.2.1
  have lk : Lb T R S Dm 40 k p 6 := by rw [← hp]; exact inK LbK.key
  have k6 := h.lb lk
  have pt := h.1.1.1 p (by omega)
  have ll : 1 ≤ n → Lb T R S Dm 49 k (Rz 240 49 Dm k) (Rz 240 50 Dm k) := fun e => inK (LbK.vls (by omega))
  have u3 : Rz 1024 4 Dc (p + 3) = if n = 0 then 0 else Rz 240 49 Dm k := hV.2.1
  have x1 : pI_unitAt (p + 3) Dc = if n = 0 then 0 else Rz 240 49 Dm k := by
    unfold pI_unitAt
    rw [rd_R (by omega), u3]
  rcases hl with ⟨e1, e2, e3, e4, e5⟩ | ⟨e1, e2, e3, e4, e5⟩ | ⟨e1, e2, e3, e4, e5, e6⟩
  · -- the list has room
    obtain ⟨c1, c2, c3, c4, c5⟩ := hV.2.2.1 e1
    rw [← e3, ← e4] at c2
    rw [← e3] at c3 c5
    rw [← e4] at c1 c4 e2
    have lt := h.1.1.1 l (by omega)
    rw [if_neg (by omega), ← e3] at x1 u3
    have need : pV_needsListForOneMore p Dc = 0 := by
      unfold pV_needsListForOneMore pI_itemCount pI_sizeAt
      simp only [ltR]
      rw [x1, w32_of (by omega), if_neg (by omega), rd_R (by omega), c3, rd_R (by omega), c2, w32_of (by omega), w32_of (by omega), if_neg (by omega)]
    obtain ⟨D1, a1, a2, a3⟩ := insert_c (D := Dc) (q := l) (m := n) (c := n) (x := v) (by omega) ⟨by omega, Int.le_refl _⟩ (by omega) c3
    obtain ⟨D2, b1, b2⟩ := mark_class (D := D1) (p := l) (n := z) (by rw [R_cg (a2 3 (by decide))]; exact c2) (by omega) (by omega) (by omega)
    have un : ∀ u, Rz 1024 4 D2 u = if u = l then n + 1 else if u = l + 1 + n then v else Rz 1024 4 Dc u := fun u => by
      rw [R_cg (b2.1 4 (by decide)), a3]
      by_cases y : u = l
      · rw [if_pos y, if_pos y]
      · rw [if_neg y, if_neg y]
        by_cases y2 : u = l + 1 + n
        · rw [if_pos y2, if_pos y2]
        · rw [if_neg y2, if_neg y2, if_neg (by omega)]
    have dk := h.dis lk (ll e1) (Or.inl (by decide))
    rw [← e3, ← e4] at dk
    refine ⟨D2, E, fun _ => False, ?_, fun J => by rw [e5, w32_m1, if_pos rfl], hCE.cong (fun u => by rw [R_cg (b2.1 3 (by decide)), R_cg (a2 3 (by decide))]) (by rw [b2.1 2 (by decide), a2 2 (by decide)]) (fun _ _ _ => rfl) rfl, fun b hb => by rw [b2.1 b (nin hb (by decide)), a2 b (nin hb (by decide))], fun j hj => by rw [b2.2.1 j hj, a2 7 (by decide)], fun _ _ => rfl, fun _ _ => rfl, HiEq.rf _, fun u _ _ => by rw [R_cg (b2.1 3 (by decide)), R_cg (a2 3 (by decide))], ?_, ?_, fun j y1 y2 => ?_, ?_, fun u y1 y2 y3 => ?_, fun t t1 t2 => ?_, fun t _ _ => by simp⟩
    · unfold pV_addToList
      simp only [ltR, jnR]
      rw [need, if_pos rfl, x1]
      unfold pI_itemCount
      rw [rd_R (by omega), c3, a1, bnd_ok, b1, bnd_ok]
    · rw [un, if_neg (by omega), if_neg (by omega), u3]
    · rw [un, if_pos rfl]
    · rw [un, if_neg (by omega), if_neg (by omega)]
      exact c5 j y1 y2
    · rw [un, if_neg (by omega), if_pos rfl]
    · rw [un, if_neg (by omega), if_neg (by omega)]
    · rw [b2.2.2 t t1 t2, a2 7 (by decide)]
      simp
  · -- the first list
    rw [if_pos e1] at x1 u3
    rw [← e2] at e4
    have f1 := e4.1
    have lt := h.1.1.1 l (by omega)
    have dk := e4.dis h lk
    have need : pV_needsListForOneMore p Dc = 1 := by
      unfold pV_needsListForOneMore
      simp only [ltR]
      rw [x1, w32_k0, if_pos rfl]
    obtain ⟨D1, a1, a2, a3⟩ := insert_c (D := Tz 1024 4 (Tz 1024 4 Dc l 0) (p + 3) l) (q := l) (m := 0) (c := 0) (x := v) (by omega) ⟨Int.le_refl _, Int.le_refl _⟩ (by omega) (by rw [R_T_ne (by omega), R_T_eq (by omega)])
    have o1 : ∀ b, b ≠ 4 → D1 b = Dc b := fun b hb => by rw [a2 b hb, T_ot hb, T_ot hb]
    obtain ⟨D2, b1, b2⟩ := mark_class (D := D1) (p := l) (n := 5) (by rw [R_cg (o1 3 (by decide))]; exact f1) (by omega) (by omega) (by omega)
    have un : ∀ u, Rz 1024 4 D2 u = if u = l then 1 else if u = l + 1 then v else if u = p + 3 then l else Rz 1024 4 Dc u := fun u => by
      rw [R_cg (b2.1 4 (by decide)), a3]
      by_cases y : u = l
      · rw [if_pos y, if_pos y]; rfl
      · rw [if_neg y, if_neg y]
        by_cases y2 : u = l + 1
        · rw [if_pos (by omega), if_pos y2]
        · rw [if_neg (by omega), if_neg (by omega), if_neg y2, R_T]
          by_cases y3 : u = p + 3
          · rw [if_pos ⟨by omega, y3⟩, if_pos y3]
          · rw [if_neg (fun z => y3 z.2), if_neg y3, R_T_ne y]
    refine ⟨D2, E, fun _ => False, ?_, fun J => by rw [e5, w32_m1, if_pos rfl], hCE.cong (fun u => by rw [R_cg (b2.1 3 (by decide)), R_cg (o1 3 (by decide))]) (by rw [b2.1 2 (by decide), o1 2 (by decide)]) (fun _ _ _ => rfl) rfl, fun b hb => by rw [b2.1 b (nin hb (by decide)), o1 b (nin hb (by decide))], fun j hj => by rw [b2.2.1 j hj, o1 7 (by decide)], fun _ _ => rfl, fun _ _ => rfl, HiEq.rf _, fun u _ _ => by rw [R_cg (b2.1 3 (by decide)), R_cg (o1 3 (by decide))], ?_, ?_, fun j y1 y2 => by omega, ?_, fun u y1 y2 y3 => ?_, fun t t1 t2 => ?_, fun t _ _ => by simp⟩
    · unfold pV_addToList
      simp only [ltR, jnR, gD]
      rw [need, if_neg (by decide), x1, w32_k0, if_pos rfl]
      unfold pI_putUnit pI_itemCount
      simp only [gD]
      rw [sto_T (i := lg) (by omega), sto_T (i := p + 3) (by omega), ← e2, rd_R (by omega), R_T_ne (by omega), R_T_eq (by omega), a1, bnd_ok, b1, bnd_ok]
    · rw [un, if_neg (by omega), if_neg (by omega), if_pos rfl]
    · rw [un, if_pos rfl, e1]; rfl
    · rw [un, if_neg (by omega), if_pos (by omega)]
    · rw [un, if_neg (by omega), if_neg (by omega), if_neg y1]
    · rw [b2.2.2 t t1 t2, o1 7 (by decide), e3]
      simp
  · -- a longer list
    obtain ⟨c1, c2, c3, c4, c5⟩ := hV.2.2.1 (by omega)
    have l0t := h.1.1.1 (Rz 240 49 Dm k) (by omega)
    obtain ⟨l0, hl0⟩ : ∃ l0, Rz 240 49 Dm k = l0 := ⟨_, rfl⟩
    have lld := ll (by omega)
    rw [e2] at c2 lld
    rw [hl0] at c2 c3 c5 l0t x1 u3 lld e6
    rw [if_neg (by omega)] at x1 u3
    rw [← e3] at e5
    have f1 := e5.1
    have lt := h.1.1.1 l (by omega)
    have dk := e5.dis h lk
    have dl := e5.dis h lld
    have dkl := h.dis lk lld (Or.inl (by decide))
    have need : pV_needsListForOneMore p Dc = 1 := by
      unfold pV_needsListForOneMore pI_itemCount pI_sizeAt
      simp only [ltR]
      rw [x1, w32_of (by omega), if_neg (by omega), rd_R (by omega), c3, rd_R (by omega), c2, e1, if_pos (by decide)]
    obtain ⟨D0, m1, m2, m3⟩ := move_c (D := Tz 1024 4 Dc l 0) (q := l0) (m := 0) (c := n) (t := l) (by omega) (by omega) ⟨Int.le_refl _, by omega⟩ (by omega) (by omega) (by omega) (by rw [R_T_ne (by omega)]; exact c3)
    have o0 : ∀ b, b ≠ 4 → D0 b = Dc b := fun b hb => by rw [m2 b hb, T_ot hb]
    have hC0 : CR D0 E := hCE.cong (fun u => R_cg (o0 3 (by decide)) u) (by rw [o0 2 (by decide)]) (fun _ _ _ => rfl) rfl
    obtain ⟨D1, E1, g1, g2, G1, G2, G3, G4, G5, G6, G7, G8, Gu', G9, G10⟩ := Gu.give hC0 (p := l0) (n := 5) (by rw [R_cg (o0 3 (by decide))]; exact c2) (by decide)
    have s1 : ∀ u, u ≠ l0 → 0 < Rz 1024 3 Dc u → Rz 1024 3 D1 u = Rz 1024 3 Dc u := fun u y1 y2 => by
      rw [G8 u y1 (by rw [R_cg (o0 3 (by decide))]; exact y2), R_cg (o0 3 (by decide))]
    have n0 : ∀ u, Rz 1024 4 D1 u = if u = l0 then 0 else if u = l then n else if l + 1 ≤ u ∧ u < l + 1 + n then Rz 1024 4 Dc (l0 + 1 + (u - (l + 1))) else Rz 1024 4 Dc u := fun u => by
      rw [Gu' u (fun y => y), m3]
      by_cases y : u = l0
      · rw [if_pos y, if_pos y]
      · rw [if_neg y, if_neg y]
        by_cases y2 : u = l
        · rw [if_pos y2, if_pos y2, Int.sub_zero]
        · rw [if_neg y2, if_neg y2, Int.sub_zero, Int.add_zero]
          by_cases y3 : l + 1 ≤ u ∧ u < l + 1 + n
          · rw [if_pos y3, if_pos y3, R_T_ne (by omega)]
          · rw [if_neg y3, if_neg y3, R_T_ne y2]
    obtain ⟨D3, a1, a2, a3⟩ := insert_c (D := Tz 1024 4 D1 (p + 3) l) (q := l) (m := n) (c := n) (x := v) (by omega) ⟨by omega, Int.le_refl _⟩ (by omega) (by rw [R_T_ne (by omega), n0, if_neg (by omega), if_pos rfl])
    have o3 : ∀ b, b ≠ 4 → D3 b = D1 b := fun b hb => by rw [a2 b hb, T_ot hb]
    obtain ⟨D2, b1, b2⟩ := mark_class (D := D3) (p := l) (n := 9) (by rw [R_cg (o3 3 (by decide)), s1 l (by omega) (by omega)]; exact f1) (by omega) (by omega) (by omega)
    have un : ∀ u, Rz 1024 4 D2 u = if u = l then n + 1 else if u = l + 1 + n then v else if u = p + 3 then l else Rz 1024 4 D1 u := fun u => by
      rw [R_cg (b2.1 4 (by decide)), a3]
      by_cases y : u = l
      · rw [if_pos y, if_pos y]
      · rw [if_neg y, if_neg y]
        by_cases y2 : u = l + 1 + n
        · rw [if_pos (by omega), if_pos y2]
        · rw [if_neg (by omega), if_neg (by omega), if_neg y2, R_T]
          by_cases y3 : u = p + 3
          · rw [if_pos ⟨by omega, y3⟩, if_pos y3]
          · rw [if_neg (fun z => y3 z.2), if_neg y3]
    rw [hl0]
    refine ⟨D2, E1, sec l0 5, ?_, fun J => ?_, G1.cong (fun u => by rw [R_cg (b2.1 3 (by decide)), R_cg (o3 3 (by decide))]) (by rw [b2.1 2 (by decide), o3 2 (by decide)]) (fun _ _ _ => rfl) rfl, fun b hb => by rw [b2.1 b (nin hb (by decide)), o3 b (nin hb (by decide)), G2 b hb, o0 b (nin hb (by decide))], fun j hj => by rw [b2.2.1 j hj, o3 7 (by decide), G3 j hj, o0 7 (by decide)], G4, G5, G7, fun u y1 y2 => by rw [R_cg (b2.1 3 (by decide)), R_cg (o3 3 (by decide))]; exact s1 u (y1 (by omega) (by omega)) y2, ?_, ?_, fun j y1 y2 => ?_, ?_, fun u y1 y2 y3 => ?_, fun t t1 t2 => ?_, G10⟩
    · unfold pV_addToList
      simp only [ltR, jnR, gD]
      rw [need, if_neg (by decide), x1, w32_of (z := l0) (by omega), if_neg (show ¬ l0 = 0 by omega)]
      unfold pI_putUnit pI_itemCount
      simp only [gD]
      rw [sto_T (i := lg) (by omega), ← e3, m1, bnd_ok, g1, bnd_ok, sto_T (i := p + 3) (by omega), rd_R (by omega), R_T_ne (by omega), n0, if_neg (by omega), if_pos rfl, a1, bnd_ok, b1, bnd_ok]
    · rw [e6, w32_of (by omega), if_neg (by omega), g2, bnd_ok]
    · rw [un, if_neg (by omega), if_neg (by omega), if_pos rfl]
    · rw [un, if_pos rfl]
    · rw [un, if_neg (by omega), if_neg (by omega), if_neg (by omega), n0, if_neg (by omega), if_neg (by omega), if_pos (by omega), show l0 + 1 + (l + 1 + j - (l + 1)) = l0 + 1 + j by omega]
      exact c5 j y1 y2
    · rw [un, if_neg (by omega), if_pos rfl]
    · rw [un, if_neg (by omega), if_neg (by omega), if_neg y1, n0, if_neg (y3 (by omega) (by omega)), if_neg (by omega), if_neg (by omega)]
    · rw [b2.2.2 t t1 t2, o3 7 (by decide), G9 t t1 t2, o0 7 (by decide), e4]
end ADDV
