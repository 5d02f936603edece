/-! setValue of a new name -/
section SETNEW
variable {Dc Dm : DD} {m : Int}
theorem gives0_m {X : Int} {E : DD} (hX : 0 ≤ X ∧ X < 640) (h : Rz 1920 53 E X = 0) : pM_givesPieces X 0 E = okR 0 E := by
  obtain ⟨f, hf⟩ : ∃ f, fu = f + 1 := ⟨fu - 1, by have := fu_gt (x := 0) (by decide); omega⟩
  unfold pM_givesPieces
  rw [hf, pM_givesPieces_2, rdA_R (by omega), h, piecesFor_m (by omega), w32_k0, if_neg (by decide)]
theorem gives0_c {D : DD} : pV_giveBackPieces 0 D = okR 0 D := by
  obtain ⟨f, hf⟩ : ∃ f, fu = f + 1 := ⟨fu - 1, by have := fu_gt (x := 0) (by decide); omega⟩
  unfold pV_giveBackPieces
  rw [hf, pV_giveBackPieces_7, w32_k0, if_pos (by decide), if_pos rfl]
theorem sets_new {k n x L P p c sd' lf : Int} {g w : Int → Int} (h : Tr Dc Dm) (hk : 0 ≤ k ∧ k < 80) (ht : th Dm k) (hn : Rz 240 48 Dm k = n) (hn8 : n < 8) (hnl : Rz 240 39 Dm k = -1) (hp : Rz 240 40 Dm k = p) (hx : 0 ≤ x ∧ x ≤ 99) (hnew : ∀ j, 0 ≤ j → j < n → vN Dm k j ≠ x) (hL : 0 ≤ L ∧ L ≤ 30) (hP : P = pcs L)
    (hlf : lf = if n = 0 then 5 else if n = 4 ∧ Rz 240 50 Dm k = 5 then 9 else 0) (hc : (lf = 0 ∧ c = P + 1) ∨ (0 < lf ∧ c = P + 2 ∧ w (P + 1) = lf)) (hw1 : ∀ i, 0 ≤ i → i < P → w i = 2 + upc L i) (hw2 : w P = 3) (h37 : Dm 32 37 = c)
    (hg : ∀ i, 0 ≤ i → i < c → Rz 6 9 Dc i = g i ∧ Rz 8 66 Dm i = g i ∧ Fs (th Dm) (Rz 768 56 Dm) (Rz 768 57 Dm) Dc Dm (g i) (w i) ∧ (4 ≤ g i ∧ g i + w i ≤ 1024)) (hgn : ∀ i i', 0 ≤ i → i < i' → i' < c → g i ≠ g i')
    (hDy : ∀ t, 0 ≤ t → t < 64 → (bit (Dc 7 5) t = true ↔ w32 (Rz 64 58 Dm t) ≠ 0 ∨ ∃ i, 0 ≤ i ∧ i < c ∧ sec (g i) (w i) t)) (hW : Wt Dc Dm m) (hm : m ≤ 700000) :
    ∃ Dc1 Dc' E1 Dm', (bnd (pV_addToList p (pC_got P Dc) (pC_got (P + 1) Dc) Dc) fun _ D14 => gD (pV_putHead (pC_got P Dc) x L D14) fun D8 => gD (pI_putUnit (pC_got P Dc + 1) sd' D8) fun D9 => bnd (pV_chainPieces (pC_got P Dc + 2) P D9) fun _ D10 => bnd (pV_giveBackPieces 0 D10) fun v3 D11 => bnd (pC_markWritten (pC_got P Dc) D11) fun _ D12 => bnd (pC_markWritten p D12) fun _ D13 => okR 1 D13) = okR 1 Dc1 ∧ pH_tellUpwards k 2 Dc1 = okR 0 Dc' ∧
      pM_writesGot Dm = okR 0 E1 ∧ (∀ b, b ≠ 58 → E1 b = Dm b) ∧
      (wrA 1920 51 (8 * k + n) x E1 fun D17 => rdA 8 66 P D17 fun v8 => wrA 1920 54 (8 * k + n) v8 D17 fun D18 => wrA 1920 53 (8 * k + n) 0 D18 fun D19 => bnd (pM_listFor k D19) fun v9 D20 => jnR (fun (x7 : Int) (D21 : DD) => rdA 240 48 k D21 fun v10 => wrA 240 48 k (v10 + 1) D21 fun D22 => rdA 240 49 k D22 fun v11 => bnd (pM_writes v11 D22) fun _ D23 =>
        bnd (pM_givesPieces (8 * k + n) 0 D23) fun _ D8 => jnR (fun (D9 : DD) => pM_setValue_231 (8 * k + n) P fu 0 D9 fun D10 => wrA 1920 53 (8 * k + n) L D10 fun D11 => wrA 1920 52 (8 * k + n) sd' D11 fun D12 => rdA 1920 54 (8 * k + n) D12 fun v4 => bnd (pM_writes v4 D12) fun _ D13 => rdA 240 40 k D13 fun v5 => bnd (pM_writes v5 D13) fun _ D14 => bnd (pM_changes k 2 D14) fun _ D15 => rdA 240 48 k D15 fun v6 => okR v6 D15) fun J4 => if (w32 x7) = (-1) then J4 D8 else (bnd (pM_gives x7 D8) fun _ D16 => J4 D16)) fun J5 => if 0 < (w32 v9) then (rdA 240 49 k D20 fun v12 => rdA 8 66 (P + 1) D20 fun v13 => wrA 240 49 k v13 D20 fun D24 => wrA 240 50 k v9 D24 fun D25 => J5 v12 D25) else J5 (-1) D20) = okR (n + 1) Dm' ∧
      Tr Dc' Dm' ∧ Dy Dc' Dm' ∧ Wt Dc' Dm' (m + 80) ∧ Oc Dc Dc' ∧ Om Dm Dm' ∧ Dm' 32 42 = Dm 32 42 ∧ Rz 240 48 Dm' k = n + 1 ∧ Rz 240 40 Dm' k = p ∧ th Dm' k := by
  have hkr := St.kr h hk ht
  have inK : ∀ {a i p s}, LbK Dm k a i p s → Lb (th Dm) (Rz 768 56 Dm) (Rz 768 57 Dm) Dm a i p s := fun z => Or.inl ⟨k, hk.1, hk.2, ht, z⟩
  obtain ⟨pk1, pk2, pk3⟩ := h.place hk ht
  rw [hp] at pk1 pk2 pk3
  have hV := hkr.2.2.2.2.2.2
  rw [hn] at hV
  have v8 := hV.1
  have hT := h.1.1.1
  have hsc := h.1.1.2.1
  have hp1 := pcs_bd hL
  have ub' : ∀ i, 0 ≤ i → i < P → 1 ≤ upc L i ∧ upc L i ≤ 8 := fun i a b => upc_bd hL ⟨a, by omega⟩
  have h49 := hkr.2.2.2.1.2.2.2
  rw [hn] at h49
  have hlf9 : lf = 0 ∨ lf = 5 ∨ lf = 9 := by
    rw [hlf]
    by_cases e : n = 0
    · rw [if_pos e]; omega
    · rw [if_neg e]
      by_cases e2 : n = 4 ∧ Rz 240 50 Dm k = 5
      · rw [if_pos e2]; omega
      · rw [if_neg e2]; omega
  have cb : P + 1 ≤ c ∧ c ≤ 6 := by omega
  obtain ⟨v, hv⟩ : ∃ v, g P = v := ⟨_, rfl⟩
  obtain ⟨gv1, gv2, gv3, gv4⟩ := hg P (by omega) (by omega)
  rw [hv, hw2] at gv3 gv4
  rw [hv] at gv1 gv2
  have got1 : pC_got P Dc = v := by
    unfold pC_got
    rw [rd_R (by omega), gv1]
  obtain ⟨lg, hlg⟩ : ∃ lg, pC_got (P + 1) Dc = lg := ⟨_, rfl⟩
  rw [got1, hlg]
  have ll : 1 ≤ n → Lb (th Dm) (Rz 768 56 Dm) (Rz 768 57 Dm) Dm 49 k (Rz 240 49 Dm k) (Rz 240 50 Dm k) := fun e => inK (LbK.vls (by omega))
  -- the reference: marks, the row
  obtain ⟨E1, r1, r2⟩ := writesGot_m (g := g) (w := w) (D := Dm) (by omega) h37 (fun i x1 x2 => by
    obtain ⟨y1, y2, y3, y4⟩ := hg i x1 x2
    exact ⟨y2, by rw [h.1.1.2.2.2 _ (by omega) (by have := y3.2.1; omega)]; exact y3.1, y3.2.1, by omega, y4.2⟩)
  have f1 : ∀ b, b ≠ 58 → E1 b = Dm b := r2.1
  obtain ⟨E2, hE2⟩ : ∃ E2, E2 = Tz 1920 53 (Tz 1920 54 (Tz 1920 51 E1 (8 * k + n) x) (8 * k + n) v) (8 * k + n) 0 := ⟨_, rfl⟩
  have f2 : ∀ b, b ∉ [51, 53, 54, 58] → E2 b = Dm b := fun b hb => by rw [hE2, T_ot (nin hb (by decide)), T_ot (nin hb (by decide)), T_ot (nin hb (by decide)), f1 b (nin hb (by decide))]
  have hi2 : HiEq Dm E2 := by
    rw [hE2]
    exact (((HiEq.ot (fun b u1 u2 => f1 b (by omega))).trans (HiEq.T (n := 1920) (a := 51) (m := 640) (by decide) (by omega))).trans (HiEq.T (n := 1920) (a := 54) (m := 640) (by decide) (by omega))).trans (HiEq.T (n := 1920) (a := 53) (m := 640) (by decide) (by omega))
  have lfm : pM_listFor k E2 = okR lf E2 := by
    rw [hlf]
    refine listFor_m hk (by rw [R_cg (f2 48 (by decide)), hn]) ⟨v8.1, v8.2⟩ ⟨fun e => by rw [R_cg (f2 49 (by decide))]; exact h49 e, fun e => ?_⟩ (fun e => ⟨R_cg (f2 50 (by decide)) k, (hV.2.2.1 e).1⟩)
    rw [R_cg (f2 49 (by decide))]
    have := (h.1.lb (ll e))
    have := hT.1 (Rz 240 49 Dm k) (by omega)
    omega
  -- old list or new list
  obtain ⟨l, z, x7, E3, e1, e2, e3, e4, e5, e6, e7, e8⟩ : ∃ l z x7 E3, (∀ J5 : Int → DD → Res, (if 0 < (w32 lf) then (rdA 240 49 k E2 fun v12 => rdA 8 66 (P + 1) E2 fun v13 => wrA 240 49 k v13 E2 fun D24 => wrA 240 50 k lf D24 fun D25 => J5 v12 D25) else J5 (-1) E2) = J5 x7 E3) ∧ (∀ b, b ∉ [49, 50] → E3 b = E2 b) ∧ (∀ i, i ≠ k → Rz 240 49 E3 i = Rz 240 49 E2 i ∧ Rz 240 50 E3 i = Rz 240 50 E2 i) ∧ Rz 240 49 E3 k = l ∧ Rz 240 50 E3 k = z ∧ HiEq E2 E3 ∧
      ((1 ≤ n ∧ ¬ (n = 4 ∧ Rz 240 50 Dm k = 5) ∧ l = Rz 240 49 Dm k ∧ z = Rz 240 50 Dm k ∧ x7 = -1) ∨ (n = 0 ∧ l = lg ∧ z = 5 ∧ Fs (th Dm) (Rz 768 56 Dm) (Rz 768 57 Dm) Dc Dm lg 5 ∧ x7 = -1) ∨ (n = 4 ∧ Rz 240 50 Dm k = 5 ∧ l = lg ∧ z = 9 ∧ Fs (th Dm) (Rz 768 56 Dm) (Rz 768 57 Dm) Dc Dm lg 9 ∧ x7 = Rz 240 49 Dm k)) ∧
      ((1 ≤ n ∧ l = Rz 240 49 Dm k ∧ z = Rz 240 50 Dm k ∧ n + 2 ≤ z) ∨ (Fs (th Dm) (Rz 768 56 Dm) (Rz 768 57 Dm) Dc Dm l z ∧ (z = 5 ∨ z = 9) ∧ n + 2 ≤ z ∧ l = g (P + 1) ∧ c = P + 2 ∧ w (P + 1) = z)) := by
    rcases hc with ⟨c1, c2⟩ | ⟨c1, c2, c3⟩
    · have nz : ¬ n = 0 := fun e => by rw [hlf, if_pos e] at c1; omega
      have nz2 : ¬ (n = 4 ∧ Rz 240 50 Dm k = 5) := fun e => by rw [hlf, if_neg nz, if_pos e] at c1; omega
      obtain ⟨d1, d2, d3, d4, d5⟩ := hV.2.2.1 (by omega)
      exact ⟨_, _, -1, E2, fun J5 => by rw [c1, w32_k0, if_neg (by decide)], fun _ _ => rfl, fun _ _ => ⟨rfl, rfl⟩, R_cg (f2 49 (by decide)) k, R_cg (f2 50 (by decide)) k, HiEq.rf _, Or.inl ⟨by omega, nz2, rfl, rfl, rfl⟩, Or.inl ⟨by omega, rfl, rfl, by omega⟩⟩
    · obtain ⟨d1, d2, d3, d4⟩ := hg (P + 1) (by omega) (by omega)
      have elg : lg = g (P + 1) := by
        rw [← hlg]
        unfold pC_got
        rw [rd_R (by omega), d1]
      rw [c3] at d3
      refine ⟨g (P + 1), lf, Rz 240 49 Dm k, Tz 240 50 (Tz 240 49 E2 k (g (P + 1))) k lf, fun J5 => ?_, fun b hb => by rw [T_ot (nin hb (by decide)), T_ot (nin hb (by decide))], fun i hi => ⟨by rw [R_T_ot (by decide), R_T_ne hi], by rw [R_T_ne hi, R_T_ot (by decide)]⟩, by rw [R_T_ot (by decide), R_T_eq (by omega)], R_T_eq (by omega), (HiEq.T (n := 240) (a := 49) (m := 80) (by decide) (by omega)).trans (HiEq.T (n := 240) (a := 50) (m := 80) (by decide) (by omega)), ?_, ?_⟩
      · rw [w32_of (by omega), if_pos c1, rdA_R (by omega), R_cg (f2 49 (by decide)), rdA_R (by omega), R_cg (f2 66 (by decide)), d2, wrA_T (by omega), wrA_T (by omega)]
      · by_cases e : n = 0
        · have z5 : lf = 5 := by rw [hlf, if_pos e]
          rw [z5] at d3 ⊢
          exact Or.inr (Or.inl ⟨e, elg.symm, rfl, by rw [elg]; exact d3, h49 e⟩)
        · by_cases e2 : n = 4 ∧ Rz 240 50 Dm k = 5
          · have z9 : lf = 9 := by rw [hlf, if_neg e, if_pos e2]
            rw [z9] at d3 ⊢
            exact Or.inr (Or.inr ⟨e2.1, e2.2, elg.symm, rfl, by rw [elg]; exact d3, rfl⟩)
          · rw [if_neg e, if_neg e2] at hlf
            omega
      · refine Or.inr ⟨d3, by omega, ?_, rfl, c2, c3⟩
        by_cases e : n = 0
        · rw [if_pos e] at hlf; omega
        · rw [if_neg e] at hlf
          by_cases e2 : n = 4 ∧ Rz 240 50 Dm k = 5
          · rw [if_pos e2] at hlf; omega
          · rw [if_neg e2] at hlf; omega
  -- the list, its size, its mark
  have szl : Rz 1024 3 Dc l = z ∧ (z = 5 ∨ z = 9) := by
    rcases e8 with ⟨d1, d2, d3, d4⟩ | ⟨d1, d2, -⟩
    · obtain ⟨y1, y2, -⟩ := hV.2.2.1 d1
      rw [d2, d3]
      exact ⟨y2, y1⟩
    · exact ⟨d1.1, d2⟩
  have lt := hT.1 l (by omega)
  have f4 : ∀ b, b ∉ [48, 49, 50, 51, 53, 54, 58] → Tz 240 48 E3 k (n + 1) b = Dm b := fun b hb => by rw [T_ot (nin hb (by decide)), e2 b (nsub hb (by decide)), f2 b (nsub hb (by decide))]
  obtain ⟨E5, k1, k2⟩ := mark_model (D := Tz 240 48 E3 k (n + 1)) (p := l) (n := z) (by rw [R_cg (f4 33 (by decide)), h.1.1.2.2.2 _ (by omega) (by omega)]; exact szl.1) (by omega) (by omega) (by omega)
  have f5 : ∀ b, b ∉ [48, 49, 50, 51, 53, 54, 58] → E5 b = Dm b := fun b hb => by rw [k2.1 b (nin hb (by decide)), f4 b hb]
  have hCE : CR Dc E5 := h.1.1.cong (fun _ => rfl) rfl (fun u _ _ => R_cg (f5 33 (by decide)) u) (by rw [f5 34 (by decide)])
  obtain ⟨D5, E6, PP, a1, a2, a3, a4, a5, a6, a7, a8, a9, a10, a11, a12, a13, a14, a15, a16⟩ := add_both (v := v) (lg := lg) h.1 hk ht hn hn8 hp hCE e7
  -- apartness
  have lkey : Lb (th Dm) (Rz 768 56 Dm) (Rz 768 57 Dm) Dm 40 k p 6 := by rw [← hp]; exact inK LbK.key
  have fq : ∀ i, 0 ≤ i → i < P → Fs (th Dm) (Rz 768 56 Dm) (Rz 768 57 Dm) Dc Dm (g i) (2 + upc L i) := fun i a b => by
    have := (hg i a (by omega)).2.2.1
    rw [hw1 i a b] at this
    exact this
  have apf : ∀ {q s q' s'}, Fs (th Dm) (Rz 768 56 Dm) (Rz 768 57 Dm) Dc Dm q s → Fs (th Dm) (Rz 768 56 Dm) (Rz 768 57 Dm) Dc Dm q' s' → q ≠ q' → q + s ≤ q' ∨ q' + s' ≤ q := fun a b c => h.1.1.apart a.1 b.1 a.2.1 b.2.1 c
  have lne : ∀ i, 0 ≤ i → i < P + 1 → (Fs (th Dm) (Rz 768 56 Dm) (Rz 768 57 Dm) Dc Dm (g i) (w i)) ∧ (g i + w i ≤ l ∨ l + z ≤ g i) := fun i a b => by
    have fi := (hg i a (by omega)).2.2.1
    refine ⟨fi, ?_⟩
    rcases e8 with ⟨d1, d2, d3, d4⟩ | ⟨d1, d2, d3, d4, d5, d6⟩
    · rw [d2, d3]
      exact fi.dis h.1 (ll d1)
    · have := apf fi d1 (by rw [d4]; exact hgn i (P + 1) a (by omega) (by omega))
      omega
  have vl : v + 3 ≤ l ∨ l + z ≤ v := by
    have := (lne P (by omega) (by omega)).2
    rw [hv, hw2] at this
    exact this
  have ql : ∀ i, 0 ≤ i → i < P → g i + (2 + upc L i) ≤ l ∨ l + z ≤ g i := fun i a b => by
    have := (lne i a (by omega)).2
    rw [hw1 i a b] at this
    exact this
  have vq : ∀ i, 0 ≤ i → i < P → v + 3 ≤ g i ∨ g i + (2 + upc L i) ≤ v := fun i a b => apf gv3 (fq i a b) (fun e => hgn i P a b (by omega) (by rw [← e, hv]))
  have vk : v + 3 ≤ p ∨ p + 6 ≤ v := gv3.dis h.1 lkey
  have qk : ∀ i, 0 ≤ i → i < P → g i + (2 + upc L i) ≤ p ∨ p + 6 ≤ g i := fun i a b => (fq i a b).dis h.1 lkey
  have l0v : ∀ q s, Fs (th Dm) (Rz 768 56 Dm) (Rz 768 57 Dm) Dc Dm q s → (1 ≤ n → l ≠ Rz 240 49 Dm k → q ≠ Rz 240 49 Dm k) := fun q s f y _ => f.ne (ll y)
  -- the class: head, seed, chain
  obtain ⟨D6, hD6⟩ : ∃ D6, D6 = Tz 1024 4 (Tz 1024 4 D5 v (x * 31 + L)) (v + 1) sd' := ⟨_, rfl⟩
  have o6 : ∀ b, b ≠ 4 → D6 b = D5 b := fun b hb => by rw [hD6, T_ot hb, T_ot hb]
  have n6 : ∀ u, Rz 1024 4 D6 u = if u = v then x * 31 + L else if u = v + 1 then sd' else Rz 1024 4 D5 u := fun u => by
    rw [hD6, R_T, R_T]
    by_cases e : u = v
    · rw [if_neg (by omega), if_pos ⟨by omega, e⟩, if_pos e]
    · rw [if_neg e]
      by_cases e2 : u = v + 1
      · rw [if_pos ⟨by omega, e2⟩, if_pos e2]
      · rw [if_neg (fun z => e2 z.2), if_neg (fun z => e z.2), if_neg e2]
  obtain ⟨D7, b1, b2, b3, b4, b5⟩ := chain_c (q := g) (m := P) (l := v + 2) (D := D6) (by omega) (fun i a b => by
    obtain ⟨q1, -, -, q2⟩ := hg i a (by omega)
    have := ub' i a b
    rw [hw1 i a b] at q2
    exact ⟨by rw [R_cg (o6 9 (by decide)), R_cg (a4 9 (by decide))]; exact q1, by omega, by omega⟩) (fun i i' a b d => hgn i i' a b (by omega)) (by omega) (fun i a b => by have := vq i a b; have := ub' i a b; omega)
  have o7 : ∀ b, b ≠ 4 → D7 b = D5 b := fun b hb => (b2 b hb).trans (o6 b hb)
  have szv : ∀ q s, Fs (th Dm) (Rz 768 56 Dm) (Rz 768 57 Dm) Dc Dm q s → Rz 1024 3 D7 q = s := fun q s f => by
    rw [R_cg (o7 3 (by decide)), a9 q (l0v q s f) (by have := f.1; have := f.2.1; omega), f.1]
  have szk : Rz 1024 3 D7 p = 6 := by
    have := h.1.lb lkey
    rw [R_cg (o7 3 (by decide)), a9 p (fun y _ => h.1.ne lkey (ll y) (Or.inl (by decide))) (by omega), this.1]
  obtain ⟨D8, y1, y2⟩ := mark_class (D := D7) (p := v) (n := 3) (szv v 3 gv3) (by decide) (by omega) (by omega)
  obtain ⟨D9, y3, y4⟩ := mark_class (D := D8) (p := p) (n := 6) (by rw [R_cg (y2.1 3 (by decide))]; exact szk) (by decide) (by omega) (by omega)
  -- the reference: pieces, length, seed, marks
  obtain ⟨E7, z1, z2, z3, z4⟩ := st_loop (X := 8 * k + n) (L := L) (by omega) hL fu 0 E6 (Int.le_refl _) hp1.1 (fu_gt (by omega))
  rw [← hP] at z1 z4
  have c6 : ∀ u, 0 ≤ u → u < 1024 → Rz 3072 33 E6 u = Rz 1024 3 D7 u := fun u u1 u2 => by rw [a3.2.2.2 u u1 u2, R_cg (o7 3 (by decide))]
  obtain ⟨E8, z5, z6⟩ := mark_model (D := Tz 1920 52 (Tz 1920 53 E7 (8 * k + n) L) (8 * k + n) sd') (p := v) (n := 3) (by rw [R_T_ot (by decide), R_T_ot (by decide), R_cg (z2 33 (by decide)), c6 _ (by omega) (by omega)]; exact szv v 3 gv3) (by decide) (by omega) (by omega)
  obtain ⟨E9, z7, z8⟩ := mark_model (D := E8) (p := p) (n := 6) (by rw [R_cg (z6.1 33 (by decide)), R_T_ot (by decide), R_T_ot (by decide), R_cg (z2 33 (by decide)), c6 _ (by omega) (by omega)]; exact szk) (by decide) (by omega) (by omega)
  have g9 : ∀ b, b ∉ [52, 53, 55, 58] → E9 b = E6 b := fun b hb => by rw [z8.1 b (nin hb (by decide)), z6.1 b (nin hb (by decide)), T_ot (nin hb (by decide)), T_ot (nin hb (by decide)), z2 b (nin hb (by decide))]
  have om : ∀ b, b ∉ [32, 33, 48, 49, 50, 51, 52, 53, 54, 55, 58] → E9 b = Dm b := fun b hb => by
    rw [g9 b (nsub hb (by decide)), a6 b (nsub hb (by decide)), f5 b (nsub hb (by decide))]
  have oc : ∀ b, b ∉ [3, 4, 7] → D9 b = Dc b := fun b hb => by
    rw [y4.1 b (nin hb (by decide)), y2.1 b (nin hb (by decide)), o7 b (nin hb (by decide)), a4 b hb]
  have o32 : ∀ j, j ≠ 41 → E9 32 j = Dm 32 j := fun j hj => by
    rw [g9 32 (by decide), a7 j hj, f5 32 (by decide)]
  have e6' : ∀ b, b ∉ [32, 33, 58] → ∀ N i, Rz N b E6 i = Rz N b (Tz 240 48 E3 k (n + 1)) i := fun b hb N i => by rw [R_cg (a6 b hb), R_cg (k2.1 b (nin hb (by decide)))]
  have n48 : ∀ i, Rz 240 48 E9 i = if i = k then n + 1 else Rz 240 48 Dm i := fun i => by
    rw [R_cg (g9 48 (by decide)), e6' 48 (by decide), R_T, R_cg (e2 48 (by decide)), R_cg (f2 48 (by decide))]
    by_cases e : i = k
    · rw [if_pos ⟨by omega, e⟩, if_pos e]
    · rw [if_neg (fun u => e u.2), if_neg e]
  have n49 : Rz 240 49 E9 k = l ∧ Rz 240 50 E9 k = z := by
    rw [R_cg (g9 49 (by decide)), R_cg (g9 50 (by decide)), e6' 49 (by decide), e6' 50 (by decide), R_T_ot (by decide), R_T_ot (by decide)]
    exact ⟨e4, e5⟩
  have n49o : ∀ i, i ≠ k → Rz 240 49 E9 i = Rz 240 49 Dm i ∧ Rz 240 50 E9 i = Rz 240 50 Dm i := fun i hi => by
    rw [R_cg (g9 49 (by decide)), R_cg (g9 50 (by decide)), e6' 49 (by decide), e6' 50 (by decide), R_T_ot (by decide), R_T_ot (by decide), (e3 i hi).1, (e3 i hi).2]
    exact ⟨R_cg (f2 49 (by decide)) i, R_cg (f2 50 (by decide)) i⟩
  have row : ∀ b, b ∈ [51, 54] → ∀ i, Rz 1920 b E9 i = Rz 1920 b E2 i := fun b hb i => by
    rw [R_cg (g9 b (by simp only [List.mem_cons, List.not_mem_nil, or_false] at hb ⊢; omega)), e6' b (by simp only [List.mem_cons, List.not_mem_nil, or_false] at hb ⊢; omega), R_T_ot (by simp only [List.mem_cons, List.not_mem_nil, or_false] at hb; omega), R_cg (e2 b (by simp only [List.mem_cons, List.not_mem_nil, or_false] at hb ⊢; omega))]
  have n51 : ∀ i, Rz 1920 51 E9 i = if i = 8 * k + n then x else Rz 1920 51 Dm i := fun i => by
    rw [row 51 (by decide), hE2, R_T_ot (by decide), R_T_ot (by decide), R_T, R_cg (f1 51 (by decide))]
    by_cases e : i = 8 * k + n
    · rw [if_pos ⟨by omega, e⟩, if_pos e]
    · rw [if_neg (fun u => e u.2), if_neg e]
  have n54 : ∀ i, Rz 1920 54 E9 i = if i = 8 * k + n then v else Rz 1920 54 Dm i := fun i => by
    rw [row 54 (by decide), hE2, R_T_ot (by decide), R_T, R_T_ot (by decide), R_cg (f1 54 (by decide))]
    by_cases e : i = 8 * k + n
    · rw [if_pos ⟨by omega, e⟩, if_pos e]
    · rw [if_neg (fun u => e u.2), if_neg e]
  have m53 : ∀ i, i ≠ 8 * k + n → Rz 1920 53 E6 i = Rz 1920 53 Dm i := fun i hi => by
    rw [e6' 53 (by decide), R_T_ot (by decide), R_cg (e2 53 (by decide)), hE2, R_T_ne hi, R_T_ot (by decide), R_T_ot (by decide), R_cg (f1 53 (by decide))]
  have n53 : ∀ i, Rz 1920 53 E9 i = if i = 8 * k + n then L else Rz 1920 53 Dm i := fun i => by
    rw [R_cg (z8.1 53 (by decide)), R_cg (z6.1 53 (by decide)), R_T_ot (by decide), R_T, R_cg (z2 53 (by decide))]
    by_cases e : i = 8 * k + n
    · rw [if_pos ⟨by omega, e⟩, if_pos e]
    · rw [if_neg (fun u => e u.2), if_neg e, m53 i e]
  have n52 : ∀ i, Rz 1920 52 E9 i = if i = 8 * k + n then sd' else Rz 1920 52 Dm i := fun i => by
    rw [R_cg (z8.1 52 (by decide)), R_cg (z6.1 52 (by decide)), R_T, R_T_ot (by decide), R_cg (z2 52 (by decide)), R_cg (a6 52 (by decide)), R_cg (f5 52 (by decide))]
    by_cases e : i = 8 * k + n
    · rw [if_pos ⟨by omega, e⟩, if_pos e]
    · rw [if_neg (fun u => e u.2), if_neg e]
  have n55 : ∀ u, Rz 7680 55 E9 u = if 4 * (8 * k + n) ≤ u ∧ u < 4 * (8 * k + n) + P then Rz 8 66 Dm (u - 4 * (8 * k + n)) else Rz 7680 55 Dm u := fun u => by
    rw [R_cg (z8.1 55 (by decide)), R_cg (z6.1 55 (by decide)), R_T_ot (by decide), R_T_ot (by decide), z4 u, R_cg (a6 66 (by decide)), R_cg (a6 55 (by decide)), R_cg (f5 66 (by decide)), R_cg (f5 55 (by decide)), Int.add_zero]
  have un9 : ∀ u, Rz 1024 4 D9 u = Rz 1024 4 D7 u := fun u => by rw [R_cg (y4.1 4 (by decide)), R_cg (y2.1 4 (by decide))]
  have uu : ∀ u, u ≠ v + 2 → (∀ i, 0 ≤ i → i < P → u ≠ g i) → u ≠ v → u ≠ v + 1 → Rz 1024 4 D9 u = Rz 1024 4 D5 u := fun u u1 u2 u3 u4 => by rw [un9, b5 u u1 u2, n6, if_neg u3, if_neg u4]
  have ul : ∀ j, 0 ≤ j → j < z → Rz 1024 4 D9 (l + j) = Rz 1024 4 D5 (l + j) := fun j j1 j2 => uu _ (by omega) (fun i i1 i2 => by have := ql i i1 i2; have := ub' i i1 i2; omega) (by omega) (by omega)
  have ul0 : Rz 1024 4 D9 l = Rz 1024 4 D5 l := by
    have := ul 0 (Int.le_refl _) (by omega)
    rw [Int.add_zero] at this
    exact this
  have nz : n + 2 ≤ z := by rcases e8 with d | d <;> omega
  have hC9 : CR D9 E9 := a3.cong (fun u => by rw [R_cg (y4.1 3 (by decide)), R_cg (y2.1 3 (by decide)), R_cg (o7 3 (by decide))]) (by rw [oc 2 (by decide), a4 2 (by decide)]) (fun u _ _ => R_cg (g9 33 (by decide)) u) (by rw [g9 34 (by decide)])
  have hT9 : T0 (th Dm) (Rz 768 56 Dm) (Rz 768 57 Dm) D9 E9 := by
    refine h.1.more (k := k) (n := n) (x := x) (L := L) (P := P) (v := v) (l := l) (z := z) (sd' := sd') (p := p) (q := g) hk ht hn hn8 hnl hp hx hnew hL hP gv3 fq (fun i i' a b d => hgn i i' a b (by omega)) (fun i a b => by have := vq i a b; have := ub' i a b; omega) ?_ hC9 (by rw [oc 2 (by decide), om 35 (by decide)]; exact h.1.2.1) (oc 5 (by decide)) (oc 6 (by decide)) (fun b u1 u2 => om b (by simp only [List.mem_cons, List.not_mem_nil, or_false]; omega)) (fun i i1 i2 i3 => ⟨fun a z => ?_, fun a z t t1 t2 => ?_, fun a z t t1 t2 => ?_⟩)
      (by rw [n48, if_pos rfl]) n49.1 n49.2 (fun i i1 i2 => ?_) (fun i i1 i2 => ?_) (fun i i1 i2 => ?_) (fun i i1 i2 => ?_) (fun i t i1 i2 t1 t2 => ?_) (fun t t1 t2 => ?_) (fun u u1 u2 => ?_) ?_ ?_ (fun j j1 j2 => ?_) ?_ ?_ ?_ ?_ (fun i i1 i2 => ?_) (fun u u1 u2 u3 u4 u5 => ?_)
    · rcases e8 with d | ⟨d1, d2, d3, d4, d5, d6⟩
      · exact Or.inl d
      · refine Or.inr ⟨d1, d2, d3, by omega, fun i i1 i2 => by rw [d4]; exact fun e => hgn i (P + 1) i1 (by omega) (by omega) e.symm⟩
    · by_cases q1 : a = 48
      · subst q1
        rw [n48, if_neg i3]
      · by_cases q2 : a = 49
        · subst q2; exact (n49o i i3).1
        · by_cases q3 : a = 50
          · subst q3; exact (n49o i i3).2
          · exact R_cg (om a (by simp only [List.mem_cons, List.not_mem_nil, or_false] at z ⊢; omega)) i
    · by_cases q1 : a = 51
      · subst q1; rw [n51, if_neg (by omega)]
      · by_cases q2 : a = 52
        · subst q2; rw [n52, if_neg (by omega)]
        · by_cases q3 : a = 53
          · subst q3; rw [n53, if_neg (by omega)]
          · by_cases q4 : a = 54
            · subst q4; rw [n54, if_neg (by omega)]
            · exact R_cg (om a (by simp only [List.mem_cons, List.not_mem_nil, or_false] at z ⊢; omega)) _
    · by_cases e : a = 55
      · subst e
        rw [n55, if_neg (by omega)]
      · exact R_cg (om a (by simp only [List.mem_cons, List.not_mem_nil, or_false] at z ⊢; omega)) _
    · show Rz 1920 51 E9 (8 * k + i) = _
      rw [n51]
      by_cases e : i = n
      · rw [if_pos (by omega), if_pos e]
      · rw [if_neg (by omega), if_neg e]; rfl
    · show Rz 1920 52 E9 (8 * k + i) = _
      rw [n52]
      by_cases e : i = n
      · rw [if_pos (by omega), if_pos e]
      · rw [if_neg (by omega), if_neg e]; rfl
    · show Rz 1920 53 E9 (8 * k + i) = _
      rw [n53]
      by_cases e : i = n
      · rw [if_pos (by omega), if_pos e]
      · rw [if_neg (by omega), if_neg e]; rfl
    · show Rz 1920 54 E9 (8 * k + i) = _
      rw [n54]
      by_cases e : i = n
      · rw [if_pos (by omega), if_pos e]
      · rw [if_neg (by omega), if_neg e]; rfl
    · show Rz 7680 55 E9 (4 * (8 * k + i) + t) = _
      rw [n55, if_neg (by omega)]; rfl
    · show Rz 7680 55 E9 (4 * (8 * k + n) + t) = _
      rw [n55, if_pos (by omega), show 4 * (8 * k + n) + t - 4 * (8 * k + n) = t by omega]
      exact (hg t t1 (by omega)).2.1
    · rw [R_cg (y4.1 3 (by decide)), R_cg (y2.1 3 (by decide)), R_cg (o7 3 (by decide))]
      exact a9 u u1 u2
    · rw [uu _ (by omega) (fun i i1 i2 => by have := qk i i1 i2; have := ub' i i1 i2; omega) (by omega) (by omega)]
      exact a10
    · rw [ul0]; exact a11
    · rw [Int.add_assoc, ul _ (by omega) (by omega), ← Int.add_assoc]
      exact a12 j j1 j2
    · rw [Int.add_assoc, ul _ (by omega) (by omega), ← Int.add_assoc]
      exact a13
    · rw [un9, b5 v (by omega) (fun i i1 i2 => by have := vq i i1 i2; have := ub' i i1 i2; omega), n6, if_pos rfl]
    · rw [un9, b5 _ (by omega) (fun i i1 i2 => by have := vq i i1 i2; have := ub' i i1 i2; omega), n6, if_neg (by omega), if_pos rfl]
    · rw [un9, b3]
    · rw [un9, b4 i i1 i2]
    · rw [uu u (by omega) u4 (by omega) (by omega)]
      exact a14 u u1 u2 u5
  have eth : th E9 = th Dm := th_fn (om 36 (by decide))
  have hTr : Tr D9 E9 := ⟨by rw [eth, Rz_fn (om 56 (by decide)), Rz_fn (om 57 (by decide))]; exact hT9, h.2.of (fun b hb => om b (by simp only [List.mem_cons, List.not_mem_nil, or_false] at hb ⊢; omega))⟩
  have hDy9 : Dy D9 E9 := fun t t1 t2 => by
    have d2 : bit (D7 7 5) t = bit (D5 7 5) t := by rw [o7 7 (by decide)]
    have d3 : Rz 64 58 (Tz 1920 52 (Tz 1920 53 E7 (8 * k + n) L) (8 * k + n) sd') t = Rz 64 58 E6 t := by rw [R_T_ot (by decide), R_T_ot (by decide), R_cg (z2 58 (by decide))]
    have d4 : Rz 64 58 (Tz 240 48 E3 k (n + 1)) t = Rz 64 58 E1 t := by rw [R_T_ot (by decide), R_cg (e2 58 (by decide)), hE2, R_T_ot (by decide), R_T_ot (by decide), R_T_ot (by decide)]
    rw [y4.2.2 t t1 t2, y2.2.2 t t1 t2, d2, a15 t t1 t2, hDy t t1 t2, z8.2 t t1 t2, z6.2 t t1 t2, d3, a16 t t1 t2, k2.2 t t1 t2, d4, r2.2 t t1 t2]
    constructor
    · rintro ((((y | y) | y) | y) | y)
      · exact Or.inl (Or.inl (Or.inl (Or.inl y)))
      · exact Or.inl (Or.inl (Or.inr y))
      · exact Or.inl (Or.inl (Or.inl (Or.inr y)))
      · exact Or.inl (Or.inr y)
      · exact Or.inr y
    · rintro ((((y | y) | y) | y) | y)
      · exact Or.inl (Or.inl (Or.inl (Or.inl y)))
      · exact Or.inl (Or.inl (Or.inr y))
      · exact Or.inl (Or.inl (Or.inl (Or.inr y)))
      · exact Or.inl (Or.inr y)
      · exact Or.inr y
  have hhi : HiEq Dm E9 := ((((hi2.trans e6).trans (HiEq.T (n := 240) (a := 48) (m := 80) (by decide) (by omega))).trans (HiEq.ot (fun b u1 u2 => k2.1 b (by omega)))).trans (a8.trans z3)).trans ((((HiEq.T (n := 1920) (a := 53) (m := 640) (by decide) (by omega)).trans (HiEq.T (n := 1920) (a := 52) (m := 640) (by decide) (by omega))).trans (HiEq.ot (fun b u1 u2 => z6.1 b (by omega)))).trans (HiEq.ot (fun b u1 u2 => z8.1 b (by omega))))
  have hW9 : Wt D9 E9 m := hW.cong (oc 16 (by decide)) (oc 17 (by decide)) (oc 18 (by decide)) (oc 19 (by decide)) (by rw [oc 15 (by decide)]) (om 59 (by decide)) (om 60 (by decide)) (om 61 (by decide)) (om 62 (by decide)) (om 63 (by decide)) (o32 29 (by decide))
  obtain ⟨Da, Ea, v1, v2, v3, v4, v5, v6, v7, v8', -, v9, -⟩ := told_both hTr hDy9 hW9 (by omega) hk (by rw [eth]; exact ht) (x := 2) (by omega)
  refine ⟨D9, Da, E1, Ea, ?_, v1, r1, f1, ?_, v3, v4, v5, fun b hb => (v6 b hb).trans (oc b (by simp only [List.mem_cons, List.not_mem_nil, or_false]; omega)), (show Om Dm E9 from ⟨fun b hb => om b (by simp only [List.mem_cons, List.not_mem_nil, or_false]; omega), fun j _ _ => o32 j (by omega), hhi⟩).trans v7, by rw [v8', o32 42 (by decide)], by rw [R_cg (v9 48 (by decide)), n48, if_pos rfl], by rw [R_cg (v9 40 (by decide)), R_cg (om 40 (by decide)), hp], by unfold th; rw [R_cg (v9 36 (by decide)), R_cg (om 36 (by decide))]; exact ht⟩
  · rw [a1, bnd_ok]
    unfold pV_putHead pI_putUnit
    simp only [gD]
    rw [sto_T (i := v + 0) (by omega), Int.add_zero, sto_T (by omega), ← hD6, b1, bnd_ok, gives0_c, bnd_ok, y1, bnd_ok, y3, bnd_ok]
  · rw [wrA_T (by omega), rdA_R (by omega), R_T_ot (by decide), R_cg (f1 66 (by decide)), gv2, wrA_T (by omega), wrA_T (by omega), ← hE2, lfm, bnd_ok]
    simp only [jnR]
    refine (e1 _).trans ?_
    have s53 : Rz 1920 53 E5 (8 * k + n) = 0 := by
      rw [R_cg (k2.1 53 (by decide)), R_T_ot (by decide), R_cg (e2 53 (by decide)), hE2, R_T_eq (by omega)]
    have s48 : Rz 240 48 E3 k = n := by rw [R_cg (e2 48 (by decide)), R_cg (f2 48 (by decide)), hn]
    rw [rdA_R (by omega), s48, wrA_T (by omega), rdA_R (by omega), R_T_ot (by decide), e4, k1, bnd_ok, gives0_m (by omega) s53, bnd_ok]
    refine (a2 (fun D9 => pM_setValue_231 (8 * k + n) P fu 0 D9 fun D10 => wrA 1920 53 (8 * k + n) L D10 fun D11 => wrA 1920 52 (8 * k + n) sd' D11 fun D12 => rdA 1920 54 (8 * k + n) D12 fun v4 => bnd (pM_writes v4 D12) fun _ D13 => rdA 240 40 k D13 fun v5 => bnd (pM_writes v5 D13) fun _ D14 => bnd (pM_changes k 2 D14) fun _ D15 => rdA 240 48 k D15 fun v6 => okR v6 D15)).trans ?_
    have s54 : Rz 1920 54 E6 (8 * k + n) = v := by
      have := n54 (8 * k + n)
      rw [if_pos rfl, R_cg (g9 54 (by decide))] at this
      exact this
    have s40 : Rz 240 40 E6 k = p := by rw [R_cg (a6 40 (by decide)), R_cg (f5 40 (by decide)), hp]
    rw [z1, wrA_T (by omega), wrA_T (by omega), rdA_R (by omega), R_T_ot (by decide), R_T_ot (by decide), R_cg (z2 54 (by decide)), s54, z5, bnd_ok, rdA_R (by omega), R_cg (z6.1 40 (by decide)), R_T_ot (by decide), R_T_ot (by decide), R_cg (z2 40 (by decide)), s40, z7, bnd_ok, v2, bnd_ok, rdA_R (by omega), R_cg (v9 48 (by decide)), n48, if_pos rfl]
end SETNEW
