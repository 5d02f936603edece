/-! dropValue -/
section DROP
variable {Dc Dm : DD} {m : Int}
theorem mv_loop {a : Int} (ha : 0 ≤ a ∧ a < 639) : ∀ (f : Nat) (j : Int) (D : DD), 0 ≤ j → j ≤ 4 → (4 - j).toNat < f → ∃ D', pM_moves_50 a (a + 1) f j D = okR 0 D' ∧ (∀ b, b ≠ 55 → D' b = D b) ∧ HiEq D D' ∧ ∀ i, Rz 7680 55 D' i = if 4 * a + j ≤ i ∧ i < 4 * a + 4 then Rz 7680 55 D (i + 4) else Rz 7680 55 D i := by
  intro f
  induction f with
  | zero => intro j D h1 h2 h3; omega
  | succ f ih =>
    intro j D h1 h2 h3
    by_cases q : j < 4
    · obtain ⟨D', k1, k2, k3, k4⟩ := ih (j + 1) (Tz 7680 55 D (4 * a + j) (Rz 7680 55 D (4 * (a + 1) + j))) (by omega) (by omega) (by omega)
      refine ⟨D', ?_, fun b hb => (k2 b hb).trans (T_ot hb), (HiEq.T (n := 7680) (a := 55) (m := 2560) (by decide) (by omega)).trans k3, fun i => ?_⟩
      · rw [pM_moves_50, w32_of (z := j) (by omega), if_pos q, rdA_R (by omega), wrA_T (by omega)]
        exact k1
      · rw [k4, R_T, R_T]
        by_cases z : i = 4 * a + j
        · rw [if_neg (by omega), if_pos ⟨by omega, z⟩, if_pos (by omega), show 4 * (a + 1) + j = i + 4 by omega]
        · by_cases z2 : 4 * a + (j + 1) ≤ i ∧ i < 4 * a + 4
          · rw [if_pos z2, if_neg (by omega), if_pos (by omega)]
          · rw [if_neg z2, if_neg (fun y => z y.2), if_neg (by omega)]
    · refine ⟨D, ?_, fun _ _ => rfl, HiEq.rf _, fun i => by rw [if_neg (by omega)]⟩
      rw [pM_moves_50, w32_of (z := j) (by omega), if_neg q]
theorem moves_m {a : Int} {D : DD} (ha : 0 ≤ a ∧ a < 639) : ∃ D', pM_moves a (a + 1) D = okR 0 D' ∧ (∀ b, b ∉ [51, 52, 53, 54, 55] → D' b = D b) ∧ HiEq D D' ∧ (∀ b, b ∈ [51, 52, 53, 54] → ∀ i, Rz 1920 b D' i = if i = a then Rz 1920 b D (a + 1) else Rz 1920 b D i) ∧ ∀ i, Rz 7680 55 D' i = if 4 * a ≤ i ∧ i < 4 * a + 4 then Rz 7680 55 D (i + 4) else Rz 7680 55 D i := by
  obtain ⟨D', k1, k2, k3, k4⟩ := mv_loop ha fu 0 (Tz 1920 52 (Tz 1920 53 (Tz 1920 54 (Tz 1920 51 D a (Rz 1920 51 D (a + 1))) a (Rz 1920 54 D (a + 1))) a (Rz 1920 53 D (a + 1))) a (Rz 1920 52 D (a + 1))) (Int.le_refl _) (by omega) (fu_gt (by omega))
  have st : ∀ {E : DD} {b : Nat} {v : Int}, lenA b = 640 → HiEq E (Tz 1920 b E a v) := fun h => HiEq.T h (by omega)
  refine ⟨D', ?_, fun b hb => ?_, ((((st (b := 51) (by decide)).trans (st (b := 54) (by decide))).trans (st (b := 53) (by decide))).trans (st (b := 52) (by decide))).trans k3, fun b hb i => ?_, fun i => ?_⟩
  · unfold pM_moves
    rw [rdA_R (by omega), wrA_T (by omega), rdA_R (by omega), R_T_ot (by decide), wrA_T (by omega), rdA_R (by omega), R_T_ot (by decide), R_T_ot (by decide), wrA_T (by omega), rdA_R (by omega), R_T_ot (by decide), R_T_ot (by decide), R_T_ot (by decide), wrA_T (by omega)]
    exact k1
  · rw [k2 b (nin hb (by decide)), T_ot (nin hb (by decide)), T_ot (nin hb (by decide)), T_ot (nin hb (by decide)), T_ot (nin hb (by decide))]
  · have hT : ∀ (b : Nat) (E : DD), Rz 1920 b (Tz 1920 b E a (Rz 1920 b D (a + 1))) i = if i = a then Rz 1920 b D (a + 1) else Rz 1920 b E i := fun b E => by
      rw [R_T]
      by_cases q : i = a
      · rw [if_pos ⟨by omega, q⟩, if_pos q]
      · rw [if_neg (fun y => q y.2), if_neg q]
    rw [R_cg (k2 b (by intro e; subst e; revert hb; decide))]
    rcases (show b = 51 ∨ b = 52 ∨ b = 53 ∨ b = 54 by simp only [List.mem_cons, List.not_mem_nil, or_false] at hb; omega) with e | e | e | e
    · subst e; rw [R_T_ot (by decide), R_T_ot (by decide), R_T_ot (by decide), hT]
    · subst e; rw [hT, R_T_ot (by decide), R_T_ot (by decide), R_T_ot (by decide)]
    · subst e; rw [R_T_ot (by decide), hT, R_T_ot (by decide), R_T_ot (by decide)]
    · subst e; rw [R_T_ot (by decide), R_T_ot (by decide), hT, R_T_ot (by decide)]
  · rw [k4, R_T_ot (j := i + 4) (by decide), R_T_ot (j := i + 4) (by decide), R_T_ot (j := i + 4) (by decide), R_T_ot (j := i + 4) (by decide), R_T_ot (j := i) (by decide), R_T_ot (j := i) (by decide), R_T_ot (j := i) (by decide), R_T_ot (j := i) (by decide), Int.add_zero]
theorem dv_loop {k n : Int} (hk : 0 ≤ k ∧ k < 80) (hn : 0 ≤ n ∧ n < 8) : ∀ (f : Nat) (a : Int) (D : DD), 8 * k ≤ a → a ≤ 8 * k + n → (8 * k + n - a).toNat < f → Rz 240 48 D k = n → ∃ D', (∀ K, pM_dropValue_87 k f a D K = K D') ∧ (∀ b, b ∉ [51, 52, 53, 54, 55] → D' b = D b) ∧ HiEq D D' ∧ (∀ b, b ∈ [51, 52, 53, 54] → ∀ i, Rz 1920 b D' i = if a ≤ i ∧ i < 8 * k + n then Rz 1920 b D (i + 1) else Rz 1920 b D i) ∧ ∀ i, Rz 7680 55 D' i = if 4 * a ≤ i ∧ i < 4 * (8 * k + n) then Rz 7680 55 D (i + 4) else Rz 7680 55 D i := by
  intro f
  induction f with
  | zero => intro a D h1 h2 h3; omega
  | succ f ih =>
    intro a D h1 h2 h3 h4
    by_cases q : a < 8 * k + n
    · obtain ⟨D1, k1, k2, k3, k4, k5⟩ := moves_m (a := a) (D := D) (by omega)
      obtain ⟨D', g1, g2, g3, g4, g5⟩ := ih (a + 1) D1 (by omega) (by omega) (by omega) (by rw [R_cg (k2 48 (by decide))]; exact h4)
      refine ⟨D', fun K => ?_, fun b hb => (g2 b hb).trans (k2 b hb), k3.trans g3, fun b hb i => ?_, fun i => ?_⟩
      · rw [pM_dropValue_87, rdA_R (by omega), h4, w32_of (z := a) (by omega), w32_of (z := 8 * k + n) (by omega), if_pos q, k1, bnd_ok]
        exact g1 K
      · rw [g4 b hb, k4 b hb, k4 b hb]
        by_cases z : a + 1 ≤ i ∧ i < 8 * k + n
        · rw [if_pos z, if_neg (by omega), if_pos (by omega)]
        · rw [if_neg z]
          by_cases z2 : i = a
          · rw [if_pos z2, if_pos (by omega), z2]
          · rw [if_neg z2, if_neg (by omega)]
      · rw [g5, k5, k5]
        by_cases z : 4 * (a + 1) ≤ i ∧ i < 4 * (8 * k + n)
        · rw [if_pos z, if_neg (by omega), if_pos (by omega)]
        · rw [if_neg z]
          by_cases z2 : 4 * a ≤ i ∧ i < 4 * a + 4
          · rw [if_pos z2, if_pos (by omega)]
          · rw [if_neg z2, if_neg (by omega)]
    · refine ⟨D, fun K => ?_, fun _ _ => rfl, HiEq.rf _, fun b _ i => by rw [if_neg (by omega)], fun i => by rw [if_neg (by omega)]⟩
      rw [pM_dropValue_87, rdA_R (by omega), h4, w32_of (z := a) (by omega), w32_of (z := 8 * k + n) (by omega), if_neg q]
theorem drops_both {k n r l z p v : Int} (h : Tr Dc Dm) (hD : Dy Dc Dm) (hW : Wt Dc Dm m) (hm : m ≤ 700000) (hk : 0 ≤ k ∧ k < 80) (ht : th Dm k) (hn : Rz 240 48 Dm k = n) (hr : 0 ≤ r ∧ r < n) (hp : Rz 240 40 Dm k = p) (hl : Rz 240 49 Dm k = l) (hz : Rz 240 50 Dm k = z) (hv : vP Dm k r = v) (h41 : Dm 32 41 = 0) :
    ∃ Dc1 Dc' Dm' V, pV_drop p v Dc = okR V Dc1 ∧ pH_tellUpwards k 2 Dc1 = okR 0 Dc' ∧
      (bnd (pM_givesPieces (8 * k + r) 0 Dm) fun _ D7 => rdA 1920 54 (8 * k + r) D7 fun v4 => bnd (pM_gives v4 D7) fun _ D8 => rdA 240 48 k D8 fun v5 => wrA 240 48 k (v5 - 1) D8 fun D9 => pM_dropValue_87 k fu (8 * k + r) D9 fun D10 => rdA 240 49 k D10 fun v6 => bnd (pM_writes v6 D10) fun _ D11 => rdA 240 48 k D11 fun v7 => jnR (fun (D12 : DD) => rdA 240 40 k D12 fun v8 => bnd (pM_writes v8 D12) fun _ D13 => bnd (pM_changes k 2 D13) fun _ D14 => okR (D14 32 41) D14) fun J3 => if (w32 v7) = 0 then (rdA 240 49 k D11 fun v9 => bnd (pM_gives v9 D11) fun _ D15 => wrA 240 49 k (-1) D15 fun D16 => J3 D16) else J3 D11) = okR V Dm' ∧
      Tr Dc' Dm' ∧ Dy Dc' Dm' ∧ Wt Dc' Dm' (m + 80) ∧ Oc Dc Dc' ∧ Om Dm Dm' ∧ Dm' 32 42 = Dm 32 42 := by
  have hkr := St.kr h hk ht
  have inK : ∀ {a i p s}, LbK Dm k a i p s → Lb (th Dm) (Rz 768 56 Dm) (Rz 768 57 Dm) Dm a i p s := fun z => Or.inl ⟨k, hk.1, hk.2, ht, z⟩
  obtain ⟨pk1, pk2, pk3⟩ := h.place hk ht
  rw [hp] at pk1 pk2 pk3
  have hV := hkr.2.2.2.2.2.2
  rw [hn, hl, hz, hp] at hV
  have v8 := hV.1
  obtain ⟨d1, d2, d3, d4, d5⟩ := hV.2.2.1 (by omega)
  obtain ⟨c1, c2, c3, c4, c5, c6, c7⟩ := hV.2.2.2.1 r hr.1 hr.2
  rw [hv] at c3 c4 c5 c6
  have hT := h.1.1.1
  have hsc := h.1.1.2.1
  have vt := hT.1 v (by omega)
  have lt := hT.1 l (by omega)
  have hp0 := pcs_bd c2
  have lk : Lb (th Dm) (Rz 768 56 Dm) (Rz 768 57 Dm) Dm 40 k p 6 := by rw [← hp]; exact inK LbK.key
  have ll : Lb (th Dm) (Rz 768 56 Dm) (Rz 768 57 Dm) Dm 49 k l z := by
    have := LbK.vls (D := Dm) (k := k) (by omega)
    rw [hl, hz] at this
    exact inK this
  have lvs : ∀ j, 0 ≤ j → j < n → Lb (th Dm) (Rz 768 56 Dm) (Rz 768 57 Dm) Dm 54 (8 * k + j) (vP Dm k j) 3 := fun j a b => inK (LbK.val a (by omega))
  have lv := lvs r hr.1 hr.2
  rw [hv] at lv
  have lq : ∀ i, 0 ≤ i → i < pcs (vL Dm k r) → Lb (th Dm) (Rz 768 56 Dm) (Rz 768 57 Dm) Dm 55 (4 * (8 * k + r) + i) (vQ Dm k r i) (2 + upc (vL Dm k r) i) := fun i a b => inK (LbK.pie hr.1 (by omega) a b)
  have dkl := h.1.dis lk ll (Or.inl (by decide))
  -- the value's cells are given back
  obtain ⟨D1, E1, V, PV, a1, a2, g1, g2, g3, g4, g5, g6, g7, g8, g9, g10⟩ := value_gives (Dc := Dc) (Dm := Dm) (c := k) (j := r) (L := vL Dm k r) (v := v) (q := vQ Dm k r) h.1.1 hk (by omega) c2 rfl hv c3 c6 (fun _ _ _ => rfl) (fun i x y => (c7 i x y).1) (fun i x y => (c7 i x y).2) (fun i i' x y w => h.1.ne (lq i x (by omega)) (lq i' (by omega) w) (Or.inr (by omega))) (fun i x y => h.1.ne (lq i x y) lv (Or.inl (by decide)))
  have e4 : ∀ u, Rz 1024 4 D1 u = Rz 1024 4 Dc u := fun u => R_cg (g2 4 (by decide)) u
  have s1 : ∀ u, u ≠ v → (∀ t, 0 ≤ t → t < pcs (vL Dm k r) → u ≠ vQ Dm k r t) → 0 < Rz 1024 3 Dc u → Rz 1024 3 D1 u = Rz 1024 3 Dc u := fun u x y w => g8 u (fun b => by
    rcases b with ⟨i, b1, b2, b3⟩ | b
    · exact y i b1 b2 b3
    · exact x b) w
  have sl : Rz 1024 3 D1 l = z := by rw [s1 l (h.1.ne ll lv (Or.inl (by decide))) (fun t x y => h.1.ne ll (lq t x y) (Or.inl (by decide))) (by omega), d2]
  have k6 := h.1.lb lk
  have sp : Rz 1024 3 D1 p = 6 := by rw [s1 p (h.1.ne lk lv (Or.inl (by decide))) (fun t x y => h.1.ne lk (lq t x y) (Or.inl (by decide))) (by omega), k6.1]
  -- its place leaves the list
  have num := number_c (D := D1) (q := l) (c := n) (x := v) (m := r) (by omega) (by omega) (by rw [e4]; exact d3) (fun j x y => by
    rw [e4, d5 j x y]
    have := hV.vpos hT (by omega) x y
    omega) hr (by rw [e4, d5 r hr.1 hr.2, hv]) (fun j x y => by rw [e4, d5 j x (by omega)]; exact h.1.ne (lvs j x (by omega)) lv (Or.inr (by omega)))
  obtain ⟨D2, b1, b2, b3⟩ := remove_c (D := D1) (q := l) (m := r) (c := n) (by omega) hr (by omega) (by rw [e4]; exact d3)
  obtain ⟨D3, y1, y2⟩ := mark_class (D := D2) (p := l) (n := z) (by rw [R_cg (b2 3 (by decide))]; exact sl) (by omega) (by omega) (by omega)
  obtain ⟨D4, y3, y4⟩ := mark_class (D := D3) (p := p) (n := 6) (by rw [R_cg (y2.1 3 (by decide)), R_cg (b2 3 (by decide))]; exact sp) (by decide) (by omega) (by omega)
  have o4 : ∀ b, b ∉ [4, 7] → D4 b = D1 b := fun b hb => by rw [y4.1 b (nin hb (by decide)), y2.1 b (nin hb (by decide)), b2 b (nin hb (by decide))]
  have u4 : ∀ u, Rz 1024 4 D4 u = if u = l then n - 1 else if l + 1 + r ≤ u ∧ u < l + n then Rz 1024 4 Dc (u + 1) else Rz 1024 4 Dc u := fun u => by
    rw [R_cg (y4.1 4 (by decide)), R_cg (y2.1 4 (by decide)), b3, e4, e4]
  -- the reference: the row, the list's mark
  obtain ⟨E3, f1, f2, f3, f4, f5⟩ := dv_loop (k := k) (n := n - 1) hk (by omega) fu (8 * k + r) (Tz 240 48 E1 k (n - 1)) (by omega) (by omega) (fu_gt (by omega)) (R_T_eq (by omega))
  have em3 : ∀ b, b ∉ [32, 33, 48, 51, 52, 53, 54, 55, 58] → E3 b = Dm b := fun b hb => by rw [f2 b (nsub hb (by decide)), T_ot (nin hb (by decide)), g4 b (nsub hb (by decide))]
  have sE3 : ∀ u, Rz 3072 33 E3 u = Rz 3072 33 E1 u := fun u => by rw [R_cg (f2 33 (by decide)), R_T_ot (by decide)]
  obtain ⟨E4, z1, z2⟩ := mark_model (D := E3) (p := l) (n := z) (by rw [sE3, g1.2.2.2 _ (by omega) (by omega)]; exact sl) (by omega) (by omega) (by omega)
  have hC4 : ∀ x, CR (Tz 1024 4 D4 (p + 3) x) E4 := fun x => g1.cong (fun u => by rw [R_T_ot (by decide), R_cg (o4 3 (by decide))]) (by rw [T_ot (by decide), o4 2 (by decide)]) (fun u _ _ => by rw [R_cg (z2.1 33 (by decide)), sE3]) (by rw [z2.1 34 (by decide), f2 34 (by decide), T_ot (by decide)])
  -- the list goes if it is empty
  obtain ⟨D5, E6, W, PW, w1, w2, w3, w4, w5, w6, w7, w8, w9, w10, w11, w12, w13⟩ : ∃ D5 E6 W PW, (∀ K : Int → DD → Res, (if 0 < (w32 (pI_itemCount l D4)) then K 0 D4 else bnd (pV_giveBackList p D4) fun v3 D7 => K v3 D7) = K W D5) ∧ (∀ J : DD → Res, (if (w32 (n - 1)) = 0 then (rdA 240 49 k E4 fun v9 => bnd (pM_gives v9 E4) fun _ D15 => wrA 240 49 k (-1) D15 fun D16 => J D16) else J E4) = J E6) ∧ CR D5 E6 ∧ (∀ b, b ∉ [3, 4, 7] → D5 b = D4 b) ∧ (∀ j, j ≠ 5 → D5 7 j = D4 7 j) ∧ (∀ b, b ∉ [32, 33, 49, 58] → E6 b = E4 b) ∧ ((∀ j, j ≠ 41 → E6 32 j = E4 32 j) ∧ E6 32 41 = E4 32 41 + W) ∧ HiEq E4 E6 ∧
      (∀ u, (n = 1 → u ≠ l) → 0 < Rz 1024 3 D4 u → Rz 1024 3 D5 u = Rz 1024 3 D4 u) ∧ (∀ u, Rz 1024 4 D5 u = if n = 1 ∧ u = p + 3 then 0 else Rz 1024 4 D4 u) ∧ (∀ t, 0 ≤ t → t < 64 → (bit (D5 7 5) t = true ↔ bit (D4 7 5) t = true ∨ PW t)) ∧ Mb E4 E6 PW ∧ ∀ i, Rz 240 49 E6 i = if n = 1 ∧ i = k then -1 else Rz 240 49 Dm i := by
    have e49 : ∀ i, Rz 240 49 E4 i = Rz 240 49 Dm i := fun i => by rw [R_cg (z2.1 49 (by decide)), R_cg (em3 49 (by decide))]
    have ic : pI_itemCount l D4 = n - 1 := by
      unfold pI_itemCount
      rw [rd_R (by omega), u4, if_pos rfl]
    by_cases e : n = 1
    · obtain ⟨D5, E5, k1, k2, G1, G2, G3, G4, G5, G6, G7, G8, Gu', G9, G10⟩ := Gu.give (hC4 0) (p := l) (n := z) (by rw [R_T_ot (by decide), R_cg (o4 3 (by decide))]; exact sl) (by omega)
      have up3 : Rz 1024 4 D4 (p + 3) = l := by
        rw [u4, if_neg (by omega), if_neg (by omega), hV.2.1, if_neg (by omega)]
      refine ⟨D5, Tz 240 49 E5 k (-1), z, sec l z, fun K => ?_, fun J => ?_, G1.cong (fun _ => rfl) rfl (fun u _ _ => R_T_ot (by decide)) (by rw [T_ot (by decide)]), fun b hb => by rw [G2 b hb, T_ot (nin hb (by decide))], fun j hj => by rw [G3 j hj, T_ot (by decide)], fun b hb => by rw [T_ot (nin hb (by decide)), G4 b (nsub hb (by decide))], ⟨fun j hj => by rw [T_ot (by decide), G5 j hj], by rw [T_ot (by decide), G6]⟩, G7.trans (HiEq.T (n := 240) (a := 49) (m := 80) (by decide) (by omega)), fun u x y => ?_, fun u => ?_, fun t t1 t2 => ?_, fun t t1 t2 => ?_, fun i => ?_⟩
      · rw [ic, e, if_neg (by decide)]
        unfold pV_giveBackList pI_putUnit pI_unitAt
        simp only [ltR, gD]
        rw [rd_R (by omega), up3, sto_T (by omega), k1, bnd_ok, bnd_ok]
      · rw [e, if_pos (by decide), rdA_R (by omega), e49, hl, k2, bnd_ok, wrA_T (by omega)]
      · rw [G8 u (x e) (by rw [R_T_ot (by decide)]; exact y), R_T_ot (by decide)]
      · rw [Gu' u (fun b => b), R_T]
        by_cases q : u = p + 3
        · rw [if_pos ⟨by omega, q⟩, if_pos ⟨e, q⟩]
        · rw [if_neg (fun b => q b.2), if_neg (fun b => q b.2)]
      · rw [G9 t t1 t2, T_ot (by decide)]
      · rw [R_T_ot (by decide), G10 t t1 t2]
      · rw [R_T, R_cg (G4 49 (by decide)), e49]
        by_cases q : i = k
        · rw [if_pos ⟨by omega, q⟩, if_pos ⟨e, q⟩]
        · rw [if_neg (fun b => q b.2), if_neg (fun b => q b.2)]
    · refine ⟨D4, E4, 0, fun _ => False, fun K => ?_, fun J => ?_, g1.cong (fun u => R_cg (o4 3 (by decide)) u) (by rw [o4 2 (by decide)]) (fun u _ _ => by rw [R_cg (z2.1 33 (by decide)), sE3]) (by rw [z2.1 34 (by decide), f2 34 (by decide), T_ot (by decide)]), fun _ _ => rfl, fun _ _ => rfl, fun _ _ => rfl, ⟨fun _ _ => rfl, by omega⟩, HiEq.rf _, fun _ _ _ => rfl, fun u => by rw [if_neg (fun b => e b.1)], fun t _ _ => by simp, fun t _ _ => by simp, fun i => by rw [if_neg (fun b => e b.1), e49]⟩
      · rw [ic, w32_of (by omega), if_pos (by omega)]
      · rw [w32_of (by omega), if_neg (by omega)]
  have sp5 : Rz 1024 3 D5 p = 6 := by rw [w9 p (fun _ => by omega) (by rw [R_cg (o4 3 (by decide)), sp]; decide), R_cg (o4 3 (by decide)), sp]
  obtain ⟨E7, z7, z8⟩ := mark_model (D := E6) (p := p) (n := 6) (by rw [w3.2.2.2 _ (by omega) (by omega)]; exact sp5) (by decide) (by omega) (by omega)
  have om : ∀ b, b ∉ [32, 33, 48, 49, 51, 52, 53, 54, 55, 58] → E7 b = Dm b := fun b hb => by rw [z8.1 b (nin hb (by decide)), w6 b (nsub hb (by decide)), z2.1 b (nin hb (by decide)), em3 b (nsub hb (by decide))]
  have oc : ∀ b, b ∉ [3, 4, 7] → D5 b = Dc b := fun b hb => by rw [w4 b hb, o4 b (nsub hb (by decide)), g2 b (nsub hb (by decide))]
  have o32 : ∀ j, j ≠ 41 → E7 32 j = Dm 32 j := fun j hj => by rw [z8.1 32 (by decide), w7.1 j hj, z2.1 32 (by decide), f2 32 (by decide), T_ot (by decide), g5 j hj]
  have c41 : E7 32 41 = V + W := by rw [z8.1 32 (by decide), w7.2, z2.1 32 (by decide), f2 32 (by decide), T_ot (by decide), g6, h41]; omega
  have n48 : ∀ i, Rz 240 48 E7 i = if i = k then n - 1 else Rz 240 48 Dm i := fun i => by
    rw [R_cg (z8.1 48 (by decide)), R_cg (w6 48 (by decide)), R_cg (z2.1 48 (by decide)), R_cg (f2 48 (by decide)), R_T, R_cg (g4 48 (by decide))]
    by_cases e : i = k
    · rw [if_pos ⟨by omega, e⟩, if_pos e]
    · rw [if_neg (fun u => e u.2), if_neg e]
  have n49 : ∀ i, Rz 240 49 E7 i = if n = 1 ∧ i = k then -1 else Rz 240 49 Dm i := fun i => by rw [R_cg (z8.1 49 (by decide)), w13]
  have nv : ∀ b, b ∈ [51, 52, 53, 54] → ∀ i, Rz 1920 b E7 i = if 8 * k + r ≤ i ∧ i < 8 * k + (n - 1) then Rz 1920 b Dm (i + 1) else Rz 1920 b Dm i := fun b hb i => by
    have hb2 := hb
    simp only [List.mem_cons, List.not_mem_nil, or_false] at hb2
    have e1 : ∀ i, Rz 1920 b (Tz 240 48 E1 k (n - 1)) i = Rz 1920 b Dm i := fun i => by rw [R_T_ot (by omega), R_cg (g4 b (by simp only [List.mem_cons, List.not_mem_nil, or_false]; omega))]
    rw [R_cg (z8.1 b (by omega)), R_cg (w6 b (by simp only [List.mem_cons, List.not_mem_nil, or_false]; omega)), R_cg (z2.1 b (by omega)), f4 b hb, e1, e1]
  have n55 : ∀ i, Rz 7680 55 E7 i = if 4 * (8 * k + r) ≤ i ∧ i < 4 * (8 * k + (n - 1)) then Rz 7680 55 Dm (i + 4) else Rz 7680 55 Dm i := fun i => by
    have e1 : ∀ i, Rz 7680 55 (Tz 240 48 E1 k (n - 1)) i = Rz 7680 55 Dm i := fun i => by rw [R_T_ot (by decide), R_cg (g4 55 (by decide))]
    rw [R_cg (z8.1 55 (by decide)), R_cg (w6 55 (by decide)), R_cg (z2.1 55 (by decide)), f5, e1, e1]
  have nk : ∀ b, b ∈ [51, 52, 53, 54] → ∀ i, 0 ≤ i → i < n - 1 → Rz 1920 b E7 (8 * k + i) = Rz 1920 b Dm (8 * k + dl r i) := fun b hb i x y => by
    rw [nv b hb]
    rcases dl_cs r i with ⟨q1, q2⟩ | ⟨q1, q2⟩
    · rw [if_neg (by omega), q2]
    · rw [if_pos (by omega), q2, Int.add_assoc]
  have un : ∀ u, Rz 1024 4 D5 u = if n = 1 ∧ u = p + 3 then 0 else if u = l then n - 1 else if l + 1 + r ≤ u ∧ u < l + n then Rz 1024 4 Dc (u + 1) else Rz 1024 4 Dc u := fun u => by rw [w10, u4]
  have hC7 : CR D5 E7 := w3.cong (fun _ => rfl) rfl (fun u _ _ => R_cg (z8.1 33 (by decide)) u) (by rw [z8.1 34 (by decide)])
  have hT5 : T0 (th Dm) (Rz 768 56 Dm) (Rz 768 57 Dm) D5 E7 := by
    refine h.1.fewer (k := k) (n := n) (r := r) (l := l) (z := z) (p := p) (v := v) (L0 := vL Dm k r) hk ht hn hr hp hl hz hv rfl hC7 (by rw [oc 2 (by decide), om 35 (by decide)]; exact h.1.2.1) (oc 5 (by decide)) (oc 6 (by decide)) (fun b u1 u2 => om b (by simp only [List.mem_cons, List.not_mem_nil, or_false]; omega)) (fun i i1 i2 i3 => ⟨fun a y => ?_, fun a y t t1 t2 => ?_, fun a y t t1 t2 => ?_⟩)
      (by rw [n48, if_pos rfl]) ?_ (by rw [R_cg (om 50 (by decide))]; exact hz) (fun i i1 i2 => ⟨nk 51 (by decide) i i1 i2, nk 52 (by decide) i i1 i2, nk 53 (by decide) i i1 i2, nk 54 (by decide) i i1 i2⟩) (fun i t i1 i2 t1 t2 => ?_) (fun u u1 u2 u3 u5 => ?_) ?_ (fun q => ?_) (fun q j j1 j2 => ?_) (fun u u1 u2 => ?_)
    · by_cases q1 : a = 48
      · subst q1; rw [n48, if_neg i3]
      · by_cases q2 : a = 49
        · subst q2; rw [n49, if_neg (fun b => i3 b.2)]
        · exact R_cg (om a (by simp only [List.mem_cons, List.not_mem_nil, or_false] at y ⊢; omega)) i
    · by_cases q : a ∈ [51, 52, 53, 54]
      · rw [nv a q, if_neg (by omega)]
      · exact R_cg (om a (by simp only [List.mem_cons, List.not_mem_nil, or_false] at y q ⊢; omega)) _
    · by_cases e : a = 55
      · subst e
        rw [n55, if_neg (by omega)]
      · exact R_cg (om a (by simp only [List.mem_cons, List.not_mem_nil, or_false] at y ⊢; omega)) _
    · rw [n49]
      by_cases e : n = 1
      · rw [if_pos ⟨e, rfl⟩, if_pos e]
      · rw [if_neg (fun b => e b.1), if_neg e]; exact hl
    · show Rz 7680 55 E7 (4 * (8 * k + i) + t) = Rz 7680 55 Dm (4 * (8 * k + dl r i) + t)
      rw [n55]
      rcases dl_cs r i with ⟨q1, q2⟩ | ⟨q1, q2⟩
      · rw [if_neg (by omega), q2]
      · rw [if_pos (by omega), q2, show 4 * (8 * k + i) + t + 4 = 4 * (8 * k + (i + 1)) + t by omega]
    · have e1 := s1 u u1 u2 u5
      rw [w9 u u3 (by rw [R_cg (o4 3 (by decide)), e1]; exact u5), R_cg (o4 3 (by decide)), e1]
    · rw [un]
      by_cases e : n = 1
      · rw [if_pos ⟨e, rfl⟩, if_pos e]
      · rw [if_neg (fun b => e b.1), if_neg e, if_neg (by omega), if_neg (by omega), hV.2.1, if_neg (by omega)]
    · rw [un, if_neg (by omega), if_pos rfl]
    · rw [un, if_neg (by omega), if_neg (by omega)]
      rcases dl_cs r j with ⟨q1, q2⟩ | ⟨q1, q2⟩
      · rw [if_neg (by omega), q2, d5 j j1 (by omega)]
      · rw [if_pos (by omega), q2, show l + 1 + j + 1 = l + 1 + (j + 1) by omega, d5 (j + 1) (by omega) (by omega)]
    · rw [un, if_neg (by omega), if_neg (by omega), if_neg (by omega)]
  have eth : th E7 = th Dm := th_fn (om 36 (by decide))
  have hTr : Tr D5 E7 := ⟨by rw [eth, Rz_fn (om 56 (by decide)), Rz_fn (om 57 (by decide))]; exact hT5, h.2.of (fun b hb => om b (by simp only [List.mem_cons, List.not_mem_nil, or_false] at hb ⊢; omega))⟩
  have hDy5 : Dy D5 E7 := fun t t1 t2 => by
    have q1 : Rz 64 58 E3 t = Rz 64 58 E1 t := by rw [R_cg (f2 58 (by decide)), R_T_ot (by decide)]
    have q2 : bit (D2 7 5) t = bit (D1 7 5) t := by rw [b2 7 (by decide)]
    rw [w11 t t1 t2, y4.2.2 t t1 t2, y2.2.2 t t1 t2, q2, g9 t t1 t2, hD t t1 t2, z8.2 t t1 t2, w12 t t1 t2, z2.2 t t1 t2, q1, g10 t t1 t2]
    constructor
    · rintro (((y | y) | y) | y)
      · exact Or.inl (Or.inl (Or.inl y))
      · exact Or.inl (Or.inl (Or.inr y))
      · exact Or.inr y
      · exact Or.inl (Or.inr y)
    · rintro (((y | y) | y) | y)
      · exact Or.inl (Or.inl (Or.inl y))
      · exact Or.inl (Or.inl (Or.inr y))
      · exact Or.inr y
      · exact Or.inl (Or.inr y)
  have hhi : HiEq Dm E7 := ((g7.trans ((HiEq.T (n := 240) (a := 48) (m := 80) (by decide) (by omega)).trans f3)).trans ((HiEq.ot (fun b u1 u2 => z2.1 b (by omega))).trans w8)).trans (HiEq.ot (fun b u1 u2 => z8.1 b (by omega)))
  have hW5 : Wt D5 E7 m := hW.cong (oc 16 (by decide)) (oc 17 (by decide)) (oc 18 (by decide)) (oc 19 (by decide)) (by rw [oc 15 (by decide)]) (om 59 (by decide)) (om 60 (by decide)) (om 61 (by decide)) (om 62 (by decide)) (om 63 (by decide)) (o32 29 (by decide))
  obtain ⟨D6, E8, x1, x2, x3, x4, x5, x6, x7, x8, -, x9, x10⟩ := told_both hTr hDy5 hW5 (by omega) hk (by rw [eth]; exact ht) (x := 2) (by omega)
  refine ⟨D5, D6, E8, V + W, ?_, x1, ?_, x3, x4, x5, fun b hb => (x6 b hb).trans (oc b (by simp only [List.mem_cons, List.not_mem_nil, or_false]; omega)), (show Om Dm E7 from ⟨fun b hb => om b (by simp only [List.mem_cons, List.not_mem_nil, or_false]; omega), fun j _ _ => o32 j (by omega), hhi⟩).trans x7, by rw [x8, o32 42 (by decide)]⟩
  · have x3' : pI_unitAt (p + 3) Dc = l := by
      unfold pI_unitAt
      rw [rd_R (by omega), hV.2.1, if_neg (by omega)]
    unfold pV_drop
    simp only [ltR, jnR]
    rw [x3', a1, bnd_ok, num, bnd_ok, b1, bnd_ok, y1, bnd_ok, y3, bnd_ok]
    exact w1 (fun x2 D6 => okR (V + x2) D6)
  · refine (a2 (fun D8 => rdA 240 48 k D8 fun v5 => wrA 240 48 k (v5 - 1) D8 fun D9 => pM_dropValue_87 k fu (8 * k + r) D9 fun D10 => rdA 240 49 k D10 fun v6 => bnd (pM_writes v6 D10) fun _ D11 => rdA 240 48 k D11 fun v7 => jnR (fun (D12 : DD) => rdA 240 40 k D12 fun v8 => bnd (pM_writes v8 D12) fun _ D13 => bnd (pM_changes k 2 D13) fun _ D14 => okR (D14 32 41) D14) fun J3 => if (w32 v7) = 0 then (rdA 240 49 k D11 fun v9 => bnd (pM_gives v9 D11) fun _ D15 => wrA 240 49 k (-1) D15 fun D16 => J3 D16) else J3 D11)).trans ?_
    simp only [jnR]
    have s48 : Rz 240 48 E4 k = n - 1 := by rw [R_cg (z2.1 48 (by decide)), R_cg (f2 48 (by decide)), R_T_eq (by omega)]
    rw [rdA_R (by omega), R_cg (g4 48 (by decide)), hn, wrA_T (by omega), f1, rdA_R (by omega), R_cg (em3 49 (by decide)), hl, z1, bnd_ok, rdA_R (by omega), s48]
    refine (w2 (fun D12 => rdA 240 40 k D12 fun v8 => bnd (pM_writes v8 D12) fun _ D13 => bnd (pM_changes k 2 D13) fun _ D14 => okR (D14 32 41) D14)).trans ?_
    rw [rdA_R (by omega), R_cg (w6 40 (by decide)), R_cg (z2.1 40 (by decide)), R_cg (em3 40 (by decide)), hp, z7, bnd_ok, x2, bnd_ok, x10 41 (by decide), c41]
theorem dropValue_ok {k x : Int} (h : St Dc Dm m) (hk : -2147483648 ≤ k ∧ k ≤ 2147483647) (hx : -2147483648 ≤ x ∧ x ≤ 2147483647) : Ok [(0, 1)] Dc Dm m (pH_dropValue k x Dc) (pM_dropValue k x Dm) := by
  rcases key_both h.1 hk with ⟨g, t, c0, c, d⟩ | ⟨g, c0, c, d⟩
  · obtain ⟨p1, p2, p3⟩ := h.1.place g t
    have hV := (St.kr h.1 g t).2.2.2.2.2.2
    have hT := h.1.1.1.1
    have hsc := h.1.1.1.2.1
    obtain ⟨r, hr, e1, e2⟩ := val_both h.1 g t hx
    rcases hr with ⟨r1, r2⟩ | ⟨r1, r2, r3⟩
    · rw [if_pos r1] at e1 e2
      refine Ok.err (v := 0) (e := 0) (x := 1) h (by decide) ?_ ?_
      · unfold pM_dropValue
        rw [d, bnd_ok]
        simp only [jnR]
        rw [w32_k1, if_neg (by decide), e2, bnd_ok, w32_m1, if_pos rfl, w32_k0, if_pos rfl, failsP (by omega), bnd_ok, w32_k1, if_neg (by decide)]
      · unfold pH_dropValue pI_placeOfKey pH_requireValue
        simp only [ltR]
        rw [c, bnd_ok, rd_R hk, p1, e1, bnd_ok, w32_k0, if_pos rfl, bnd_er]
    · rw [if_neg (by omega)] at e1 e2
      have hv := hV.vpos hT (by omega) r1 r2
      have n8 := hV.1
      have rv : pH_requireValue (vP Dm k r) Dc = okR 0 Dc := by
        unfold pH_requireValue
        rw [w32_of (by omega), if_neg (by omega)]
      have hB : Tr Dc (up2 (up2 Dm 32 42 0) 32 41 0) := h.1.eqv (fun _ _ _ => rfl) (fun b _ _ => by rw [up2_ot (by omega), up2_ot (by omega)])
      have e : ∀ a, a ≠ 32 → ∀ n i, Rz n a (up2 (up2 Dm 32 42 0) 32 41 0) i = Rz n a Dm i := fun a ha n i => by rw [R_up2_ot ha, R_up2_ot ha]
      obtain ⟨D1, Dc', Dm', V, k1, k2, k3, k4, k5, k6, k7, k8, k9⟩ := drops_both (m := m) (k := k) (r := r) (v := vP Dm k r) (p := Rz 240 40 Dm k) (n := Rz 240 48 Dm k) (l := Rz 240 49 Dm k) (z := Rz 240 50 Dm k) hB (h.2.1.cong rfl (by rw [up2_ot (by decide), up2_ot (by decide)])) (h.2.2.1.cong rfl rfl rfl rfl rfl (by rw [up2_ot (by decide), up2_ot (by decide)]) (by rw [up2_ot (by decide), up2_ot (by decide)]) (by rw [up2_ot (by decide), up2_ot (by decide)]) (by rw [up2_ot (by decide), up2_ot (by decide)]) (by rw [up2_ot (by decide), up2_ot (by decide)]) (by rw [up2_nk (by decide), up2_nk (by decide)])) h.2.2.2 g (by
          unfold th
          rw [e 36 (by decide)]
          exact t) (e 48 (by decide) _ _) ⟨r1, r2⟩ (e 40 (by decide) _ _) (e 49 (by decide) _ _) (e 50 (by decide) _ _) (e 54 (by decide) _ _) (up2_eq ..)
      refine ⟨Dc', Dm', V, ?_, ⟨k4, k5, k6⟩, k7, ((Om.thr Dm 0).trans (show Om (up2 Dm 32 42 0) (up2 (up2 Dm 32 42 0) 32 41 0) from ⟨fun b hb => up2_ot (by omega), fun j a b => up2_nk (by omega), fun a k h1 h2 _ => by rw [up2_ot (by omega)]⟩)).trans k8, Or.inl ⟨?_, by rw [k9, up2_nk (by decide), up2_eq]⟩⟩
      · have h2 := (h.thr (x := 0)).1
        have e2' : pM_valueOf k x (up2 Dm 32 42 0) = okR (8 * k + r) (up2 Dm 32 42 0) := by
          have hvE : vN (up2 Dm 32 42 0) = vN Dm := by funext a b; exact R_up2_ot (by decide)
          have := valueOf_m (D := up2 Dm 32 42 0) (r := r) g (R_up2_ot (by decide)) n8 (by rw [hvE]; exact fun j a b => (hV.2.2.2.1 j a b).1) (by rw [hvE]; exact hV.2.2.2.2) hx (Or.inr ⟨r1, r2, by rw [hvE]; exact r3⟩)
          rw [if_neg (by omega)] at this
          exact this
        unfold pM_dropValue
        rw [d, bnd_ok]
        simp only [jnR, gD]
        rw [w32_k1, if_neg (by decide), e2, bnd_ok, w32_of (z := 8 * k + r) (by omega), if_neg (by omega), if_neg (show ¬ (1 : Int) = 0 by decide), fails0, bnd_ok, w32_k0, if_pos rfl, e2', bnd_ok]
        exact k3
      · unfold pH_dropValue pI_placeOfKey
        simp only [ltR]
        rw [c, bnd_ok, rd_R hk, p1, e1, bnd_ok, rv, bnd_ok, k1, bnd_ok, k2, bnd_ok]
  · refine Ok.err (v := 0) (e := 0) (x := 1) h (by decide) ?_ ?_
    · unfold pM_dropValue
      rw [d, bnd_ok]
      simp only [jnR]
      rw [w32_k0, if_pos rfl, if_pos rfl, failsP (by omega), bnd_ok, w32_k1, if_neg (by decide)]
    · unfold pH_dropValue
      rw [c, bnd_er]
end DROP
