/-! cells given back, side by side -/
/-- from D to D' cells were given back: V units, sectors P, places Q -/
def Gb (Dc Dm Dc' Dm' : DD) (V : Int) (P Q : Int → Prop) : Prop :=
  CR Dc' Dm' ∧ (∀ b, b ∉ [3, 7] → Dc' b = Dc b) ∧ (∀ k, k ≠ 5 → Dc' 7 k = Dc 7 k) ∧ (∀ b, b ∉ [32, 33, 58] → Dm' b = Dm b) ∧ (∀ k, k ≠ 41 → Dm' 32 k = Dm 32 k) ∧ Dm' 32 41 = Dm 32 41 + V ∧ HiEq Dm Dm' ∧
  (∀ u, ¬ Q u → 0 < Rz 1024 3 Dc u → Rz 1024 3 Dc' u = Rz 1024 3 Dc u) ∧
  (∀ t, 0 ≤ t → t < 64 → (bit (Dc' 7 5) t = true ↔ bit (Dc 7 5) t = true ∨ P t)) ∧ Mb Dm Dm' P
theorem Gb.rf {Dc Dm : DD} (h : CR Dc Dm) : Gb Dc Dm Dc Dm 0 (fun _ => False) (fun _ => False) :=
  ⟨h, fun _ _ => rfl, fun _ _ => rfl, fun _ _ => rfl, fun _ _ => rfl, by omega, HiEq.rf _, fun _ _ _ => rfl, fun t _ _ => by simp, fun t _ _ => by simp⟩
theorem Gb.trans {Dc Dm D1 E1 D2 E2 : DD} {V W : Int} {P Q P' Q' : Int → Prop} (h : Gb Dc Dm D1 E1 V P Q) (g : Gb D1 E1 D2 E2 W P' Q') : Gb Dc Dm D2 E2 (V + W) (fun t => P t ∨ P' t) (fun u => Q u ∨ Q' u) := by
  obtain ⟨-, h2, h3, h4, h5, h6, h7, h8, h9, h10⟩ := h
  obtain ⟨g1, g2, g3, g4, g5, g6, g7, g8, g9, g10⟩ := g
  refine ⟨g1, fun b hb => (g2 b hb).trans (h2 b hb), fun k hk => (g3 k hk).trans (h3 k hk), fun b hb => (g4 b hb).trans (h4 b hb), fun k hk => (g5 k hk).trans (h5 k hk), by rw [g6, h6]; omega, h7.trans g7, fun u a b => ?_, fun t a b => by rw [g9 t a b, h9 t a b, or_assoc], h10.trans g10⟩
  have e := h8 u (fun z => a (Or.inl z)) b
  rw [g8 u (fun z => a (Or.inr z)) (by rw [e]; exact b), e]
theorem Gb.give {Dc Dm : DD} {p n : Int} (hC : CR Dc Dm) (hn : Rz 1024 3 Dc p = n) (h1 : 1 ≤ n) : ∃ Dc' Dm', pC_giveBack p Dc = okR n Dc' ∧ pM_gives p Dm = okR 0 Dm' ∧ Gb Dc Dm Dc' Dm' n (sec p n) (fun u => u = p) := by
  obtain ⟨Dc', Dm', a1, a2, a3, a4, a5, a6, a7, a8, a9, a10, a11, a12, -⟩ := give_both hC hn h1
  exact ⟨Dc', Dm', a1, a2, a3, a4, a5, a6, a7, a8, a9, a10, a11, a12⟩
/-- a value's cells are given back -/
theorem value_gives {Dc Dm : DD} {c j L v : Int} {q : Int → Int} (hC : CR Dc Dm) (hc : 0 ≤ c ∧ c < 80) (hj : 0 ≤ j ∧ j < 8) (hL : 0 ≤ L ∧ L ≤ 30) (eL : vL Dm c j = L) (eP : vP Dm c j = v) (h3 : Rz 1024 3 Dc v = 3) (h2 : Rz 1024 4 Dc (v + 2) = if pcs L = 0 then 0 else q 0)
    (eQ : ∀ i, 0 ≤ i → i < pcs L → vQ Dm c j i = q i) (hs : ∀ i, 0 ≤ i → i < pcs L → Rz 1024 3 Dc (q i) = 2 + upc L i) (hu : ∀ i, 0 ≤ i → i < pcs L → Rz 1024 4 Dc (q i) = if i + 1 < pcs L then q (i + 1) else 0) (hd : ∀ i i', 0 ≤ i → i < i' → i' < pcs L → q i ≠ q i') (hv : ∀ i, 0 ≤ i → i < pcs L → q i ≠ v) :
    ∃ Dc' Dm' V P, pV_giveBackValue v Dc = okR V Dc' ∧ (∀ K : DD → Res, (bnd (pM_givesPieces (8 * c + j) 0 Dm) fun _ D1 => rdA 1920 54 (8 * c + j) D1 fun v2 => bnd (pM_gives v2 D1) fun _ D2 => K D2) = K Dm') ∧ Gb Dc Dm Dc' Dm' V P (fun u => (∃ i, 0 ≤ i ∧ i < pcs L ∧ u = q i) ∨ u = v) := by
  have hp := pcs_bd hL
  have vt := hC.1.1 v (by omega)
  have vs := hC.2.1
  have e53 : Rz 1920 53 Dm (8 * c + j) = L := eL
  obtain ⟨D1, E1, V, a1, a2, a3, a4, a5, a6, a7, a8, a9, a10, a11, a12⟩ := pieces_loop (q := q) (w := fun i => 2 + upc L i) (x := 8 * c + j) (fr := 0) (m := pcs L) (by omega) (by omega) hp.1 (by omega) (pcs L).toNat fu fu 0 0 Dc Dm (fu_gt (by omega)) (fu_gt (by omega)) (by omega) (by omega) hC
    (fun i x y => by have := upc_bd hL (i := i) ⟨x, y⟩; exact ⟨hs i x y, by omega, by omega⟩) hu hd (by rw [e53]; exact hL) (by rw [e53]; omega) (fun i x y => by rw [Int.zero_add]; exact eQ i x y)
  have G1 : Gb Dc Dm D1 E1 V (fun t => ∃ i, 0 ≤ i ∧ i < pcs L ∧ sec (q i) (2 + upc L i) t) (fun u => ∃ i, 0 ≤ i ∧ i < pcs L ∧ u = q i) :=
    ⟨a3, a4, a5, a6, a7, a8, a9, fun u x y => a10 u (fun i x1 x2 e => x ⟨i, x1, x2, e⟩) y, a11, a12⟩
  have s1 : Rz 1024 3 D1 v = 3 := by
    rw [a10 v (fun i x y e => hv i x y e.symm) (by omega), h3]
  obtain ⟨D2, E2, b1, b2, b3⟩ := Gb.give a3 s1 (by decide)
  refine ⟨D2, E2, V + 3, _, ?_, fun K => ?_, G1.trans b3⟩
  · unfold pV_giveBackValue pV_giveBackPieces pI_unitAt
    rw [rd_R (by omega), h2]
    have e : (if pcs L = 0 then (0 : Int) else q 0) = if 0 < pcs L then q 0 else 0 := by
      by_cases z : pcs L = 0
      · rw [if_pos z, if_neg (by omega)]
      · rw [if_neg z, if_pos (by omega)]
    rw [e, a1, bnd_ok, b1, bnd_ok, Int.zero_add]
  · unfold pM_givesPieces
    rw [show (0 : Int) + 0 = 0 by decide] at a2
    rw [a2, bnd_ok, rdA_R (by omega), R_cg (a6 54 (by decide)), show Rz 1920 54 Dm (8 * c + j) = v from eP, b2, bnd_ok]
section LESS
variable {T : Int → Prop} {R S : Int → Int} {Dc Dm Dc' Dm' : DD}
/-- a key less: its cells are no one's any more -/
theorem T0.less {c : Int} (h : T0 T R S Dc Dm) (hc : 0 ≤ c ∧ c < 80) (hT : T c) (hC : CR Dc' Dm') (h25 : Dc' 2 5 = Dm' 35 0) (h5c : Rz 80 5 Dc' c = 0) (h5 : ∀ k, k ≠ c → Rz 80 5 Dc' k = Rz 80 5 Dc k) (h6 : Dc' 6 = Dc 6) (hm : ∀ b, 36 ≤ b → b ≤ 55 → Dm' b = Dm b)
    (hF : ∀ a i p s, Lb T R S Dm a i p s → (∀ q t, ¬ LbK Dm c a i q t) → Fr Dc Dc' p s) : T0 (fun j => T j ∧ j ≠ c) R S Dc' Dm' := by
  have hkc := h.2.2.2.1 c hc.1 hc.2 hT
  have low : ∀ {a i p s}, Lb (fun j => T j ∧ j ≠ c) R S Dm' a i p s → Lb T R S Dm a i p s := fun l => by
    rcases (Lb.eqv hm).1 l with ⟨k, a, b, d, e⟩ | z
    · exact Or.inl ⟨k, a, b, d.1, e⟩
    · exact Or.inr z
  refine ⟨hC, h25, fun k a b d => ?_, fun k a b d => ?_, fun r a b => ?_, fun a i p s b j t l l' => h.2.2.2.2.2 _ _ _ _ _ _ _ (low l) (low l')⟩
  · by_cases e : k = c
    · rw [e, h5c]
    · rw [h5 k e]
      exact h.2.2.1 k a b (fun z => d ⟨z, e⟩)
  · obtain ⟨d1, d2⟩ := d
    have hk := h.2.2.2.1 k a b d1
    exact hk.frame (h5 k d2) (MS.eqv hm k) (fun x i p s l => hF x i p s (Or.inl ⟨k, a, b, d1, l⟩) (fun q t z => d2 (hk.same hkc l z).1))
  · obtain ⟨f1, f2⟩ := h.2.2.2.2.1 r a b
    unfold RR
    rw [R_cg h6]
    refine ⟨f1, fun q => ?_⟩
    obtain ⟨f3, f4, f5⟩ := f2 q
    obtain ⟨g1, g2⟩ := hF 56 r (R r) 2 (Or.inr ⟨rfl, a, b, q, rfl, rfl⟩) (fun q t z => z.ne56 rfl)
    have := g2 0 (by omega) (by omega)
    rw [Int.add_zero] at this
    exact ⟨f3, by rw [g1, f4], by rw [this, f5]⟩
/-- all values of a key are given back -/
theorem drop_loop {c n p : Int} {Bc Bm : DD} (h : T0 T R S Bc Bm) (hc : 0 ≤ c ∧ c < 80) (hT : T c) (hn : Rz 240 48 Bm c = n) (hp : Rz 240 40 Bm c = p) : ∀ (r f g : Nat) (j V : Int) (P Q : Int → Prop) (Dc Dm : DD), r < f → r < g → 0 ≤ j → j + r = n → Gb Bc Bm Dc Dm V P Q →
    (∀ u, Q u → ∃ i s, (LbK Bm c 54 i u s ∧ i < 8 * c + j) ∨ (LbK Bm c 55 i u s ∧ i < 4 * (8 * c + j))) →
    ∃ Dc' Dm' V' P' Q', (∀ K, pV_dropAll_11 p n f V j Dc K = K V' Dc') ∧ (∀ K, pM_delete_48 c g j Dm K = K Dm') ∧ Gb Bc Bm Dc' Dm' V' P' Q' ∧ (∀ u, Q' u → ∃ i s, LbK Bm c 54 i u s ∨ LbK Bm c 55 i u s) := by
  have hkr := h.2.2.2.1 c hc.1 hc.2 hT
  have inK : ∀ {a i p s}, LbK Bm c a i p s → Lb T R S Bm a i p s := fun z => Or.inl ⟨c, hc.1, hc.2, hT, z⟩
  have hV := hkr.2.2.2.2.2.2
  rw [hn] at hV
  have v8 := hV.1
  have hk6 := hkr.lb LbK.key
  rw [hp] at hk6
  have pt := h.1.1.1 p (by omega)
  have ps := h.1.2.1
  intro r
  induction r with
  | zero =>
    intro f g j V P Q Dc Dm hf hg j0 hj hG hQ
    match f, g, hf, hg with
    | f + 1, g + 1, _, _ =>
      refine ⟨Dc, Dm, V, P, Q, fun K => ?_, fun K => ?_, hG, fun u z => ?_⟩
      · rw [pV_dropAll_11, w32_of (z := j) (by omega), w32_of (z := n) (by omega), if_neg (by omega)]
      · rw [pM_delete_48, rdA_R (by omega), R_cg (hG.2.2.2.1 48 (by decide)), hn, w32_of (z := j) (by omega), w32_of (z := n) (by omega), if_neg (by omega)]
      · obtain ⟨i, s, z | z⟩ := hQ u z
        · exact ⟨i, s, Or.inl z.1⟩
        · exact ⟨i, s, Or.inr z.1⟩
  | succ r ih =>
    intro f g j V P Q Dc Dm hf hg j0 hj hG hQ
    match f, g, hf, hg with
    | f + 1, g + 1, hf, hg =>
      obtain ⟨b1, b2, b3, b4, b5, b6, b7⟩ := hV.2.2.2.1 j j0 (by omega)
      obtain ⟨G1, G2, G3, G4, G5, G6, G7, G8, G9, G10⟩ := id hG
      have e4 : ∀ u, Rz 1024 4 Dc u = Rz 1024 4 Bc u := fun u => R_cg (G2 4 (by decide)) u
      have lv : LbK Bm c 54 (8 * c + j) (vP Bm c j) 3 := LbK.val j0 (by omega)
      have lq : ∀ i, 0 ≤ i → i < pcs (vL Bm c j) → LbK Bm c 55 (4 * (8 * c + j) + i) (vQ Bm c j i) (2 + upc (vL Bm c j) i) := fun i x y => LbK.pie j0 (by omega) x y
      have nQ : ∀ (a : Nat) i u s, LbK Bm c a i u s → (a = 54 ∧ 8 * c + j ≤ i) ∨ (a = 55 ∧ 4 * (8 * c + j) ≤ i) → ¬ Q u := fun a i u s l e z => by
        obtain ⟨i1, s1, ⟨y, y2⟩ | ⟨y, y2⟩⟩ := hQ u z
        · obtain ⟨e1, e2⟩ := h.2.2.2.2.2 _ _ _ _ _ _ _ (inK l) (inK y)
          omega
        · obtain ⟨e1, e2⟩ := h.2.2.2.2.2 _ _ _ _ _ _ _ (inK l) (inK y)
          omega
      have sz : ∀ (a : Nat) i u s, LbK Bm c a i u s → (a = 54 ∧ 8 * c + j ≤ i) ∨ (a = 55 ∧ 4 * (8 * c + j) ≤ i) → Rz 1024 3 Dc u = s := fun a i u s l e => by
        obtain ⟨z1, z2⟩ := hkr.lb l
        rw [G8 u (nQ a i u s l e) (by omega), z1]
      have em : ∀ b, b ∉ [32, 33, 58] → ∀ m i, Rz m b Dm i = Rz m b Bm i := fun b hb m i => R_cg (G4 b hb) i
      obtain ⟨D1, E1, W, P1, k1, k2, k3⟩ := value_gives (Dc := Dc) (Dm := Dm) (c := c) (j := j) (L := vL Bm c j) (v := vP Bm c j) (q := vQ Bm c j) G1 hc (by omega) b2 (em 53 (by decide) _ _) (em 54 (by decide) _ _) (sz _ _ _ _ lv (Or.inl ⟨rfl, Int.le_refl _⟩)) (by rw [e4]; exact b6)
        (fun i x y => em 55 (by decide) _ _) (fun i x y => sz _ _ _ _ (lq i x y) (Or.inr ⟨rfl, by omega⟩)) (fun i x y => by rw [e4]; exact (b7 i x y).2) (fun i i' x y z => h.ne (inK (lq i x (by omega))) (inK (lq i' (by omega) z)) (Or.inr (by omega))) (fun i x y => h.ne (inK (lq i x y)) (inK lv) (Or.inl (by decide)))
      obtain ⟨D2, E2, V2, P2, Q2, l1, l2, l3, l4⟩ := ih f g (j + 1) (V + W) _ _ D1 E1 (by omega) (by omega) (by omega) (by omega) (hG.trans k3) (fun u z => by
        rcases z with z | ⟨i, x, y, z⟩ | z
        · obtain ⟨i1, s1, ⟨y, y2⟩ | ⟨y, y2⟩⟩ := hQ u z
          · exact ⟨i1, s1, Or.inl ⟨y, by omega⟩⟩
          · exact ⟨i1, s1, Or.inr ⟨y, by omega⟩⟩
        · rw [z]
          have := pcs_bd b2
          exact ⟨_, _, Or.inr ⟨lq i x y, by omega⟩⟩
        · rw [z]
          exact ⟨_, _, Or.inl ⟨lv, by omega⟩⟩)
      refine ⟨D2, E2, V2, P2, Q2, fun K => ?_, fun K => ?_, l3, l4⟩
      · have cn : pV_cellNumbered p j Dc = vP Bm c j := by
          have e0 := cellNumbered_c hV h.1.1 (by omega) (p := p) (by omega) (by rw [hp]) j0 (by omega)
          unfold pV_cellNumbered pI_item pI_unitAt rd at e0 ⊢
          rw [G2 4 (by decide)]
          exact e0
        rw [pV_dropAll_11, w32_of (z := j) (by omega), w32_of (z := n) (by omega), if_pos (by omega), cn, k1, bnd_ok]
        exact l1 K
      · rw [pM_delete_48, rdA_R (by omega), em 48 (by decide), hn, w32_of (z := j) (by omega), w32_of (z := n) (by omega), if_pos (by omega)]
        refine (k2 (fun D2 => pM_delete_48 c g (j + 1) D2 K)).trans ?_
        exact l2 K
end LESS
/-- given back, and some units changed -/
def Gu (Dc Dm Dc' Dm' : DD) (V : Int) (P Q U : Int → Prop) : Prop :=
  CR Dc' Dm' ∧ (∀ b, b ∉ [3, 4, 7] → Dc' b = Dc b) ∧ (∀ k, k ≠ 5 → Dc' 7 k = Dc 7 k) ∧ (∀ b, b ∉ [32, 33, 58] → Dm' b = Dm b) ∧ (∀ k, k ≠ 41 → Dm' 32 k = Dm 32 k) ∧ Dm' 32 41 = Dm 32 41 + V ∧ HiEq Dm Dm' ∧
  (∀ u, ¬ Q u → 0 < Rz 1024 3 Dc u → Rz 1024 3 Dc' u = Rz 1024 3 Dc u) ∧ (∀ u, ¬ U u → Rz 1024 4 Dc' u = Rz 1024 4 Dc u) ∧
  (∀ t, 0 ≤ t → t < 64 → (bit (Dc' 7 5) t = true ↔ bit (Dc 7 5) t = true ∨ P t)) ∧ Mb Dm Dm' P
theorem Gb.gu {Dc Dm Dc' Dm' : DD} {V : Int} {P Q : Int → Prop} (h : Gb Dc Dm Dc' Dm' V P Q) : Gu Dc Dm Dc' Dm' V P Q (fun _ => False) := by
  obtain ⟨h1, h2, h3, h4, h5, h6, h7, h8, h9, h10⟩ := h
  exact ⟨h1, fun b hb => h2 b (nsub hb (by decide)), h3, h4, h5, h6, h7, h8, fun u _ => R_cg (h2 4 (by decide)) u, h9, h10⟩
theorem Gu.put {Dc Dm : DD} {u v : Int} (h : CR Dc Dm) : Gu Dc Dm (Tz 1024 4 Dc u v) Dm 0 (fun _ => False) (fun _ => False) (fun x => x = u) :=
  ⟨h.cong (fun x => R_T_ot (by decide)) (by rw [T_ot (by decide)]) (fun _ _ _ => rfl) rfl, fun b hb => T_ot (nin hb (by decide)), fun k hk => by rw [T_ot (by decide)], fun _ _ => rfl, fun _ _ => rfl, by omega, HiEq.rf _, fun x _ _ => R_T_ot (by decide), fun x hx => R_T_ne hx, fun t _ _ => by rw [T_ot (by decide)]; simp, fun t _ _ => by simp⟩
theorem Gu.trans {Dc Dm D1 E1 D2 E2 : DD} {V W : Int} {P Q U P' Q' U' : Int → Prop} (h : Gu Dc Dm D1 E1 V P Q U) (g : Gu D1 E1 D2 E2 W P' Q' U') : Gu Dc Dm D2 E2 (V + W) (fun t => P t ∨ P' t) (fun u => Q u ∨ Q' u) (fun u => U u ∨ U' u) := by
  obtain ⟨-, h2, h3, h4, h5, h6, h7, h8, hu, h9, h10⟩ := h
  obtain ⟨g1, g2, g3, g4, g5, g6, g7, g8, gu, g9, g10⟩ := g
  refine ⟨g1, fun b hb => (g2 b hb).trans (h2 b hb), fun k hk => (g3 k hk).trans (h3 k hk), fun b hb => (g4 b hb).trans (h4 b hb), fun k hk => (g5 k hk).trans (h5 k hk), by rw [g6, h6]; omega, h7.trans g7, fun u a b => ?_, fun u a => ?_, fun t a b => by rw [g9 t a b, h9 t a b, or_assoc], h10.trans g10⟩
  · have e := h8 u (fun z => a (Or.inl z)) b
    rw [g8 u (fun z => a (Or.inr z)) (by rw [e]; exact b), e]
  · rw [gu u (fun z => a (Or.inr z)), hu u (fun z => a (Or.inl z))]
theorem Gu.give {Dc Dm : DD} {p n : Int} (hC : CR Dc Dm) (hn : Rz 1024 3 Dc p = n) (h1 : 1 ≤ n) : ∃ Dc' Dm', pC_giveBack p Dc = okR n Dc' ∧ pM_gives p Dm = okR 0 Dm' ∧ Gu Dc Dm Dc' Dm' n (sec p n) (fun u => u = p) (fun _ => False) := by
  obtain ⟨Dc', Dm', a1, a2, a3⟩ := Gb.give hC hn h1
  exact ⟨Dc', Dm', a1, a2, a3.gu⟩
