/-! one value less -/
section FEWER
variable {T : Int → Prop} {R S : Int → Int} {Dc Dm Dc' Dm' : DD}
def dl (r i : Int) : Int := if i < r then i else i + 1
theorem dl_cs (r i : Int) : (i < r ∧ dl r i = i) ∨ (r ≤ i ∧ dl r i = i + 1) := by
  unfold dl
  by_cases q : i < r
  · rw [if_pos q]; exact Or.inl ⟨q, rfl⟩
  · rw [if_neg q]; exact Or.inr ⟨by omega, rfl⟩
theorem T0.fewer {k n r l z p v L0 : Int} (h : T0 T R S Dc Dm) (hk : 0 ≤ k ∧ k < 80) (hT : T k) (hn : Rz 240 48 Dm k = n) (hr : 0 ≤ r ∧ r < n) (hp : Rz 240 40 Dm k = p) (hl : Rz 240 49 Dm k = l) (hz0 : Rz 240 50 Dm k = z) (hv : vP Dm k r = v) (hL0 : vL Dm k r = L0)
    (hC : CR Dc' Dm') (h25 : Dc' 2 5 = Dm' 35 0) (h5 : Dc' 5 = Dc 5) (h6 : Dc' 6 = Dc 6) (hm : ∀ b, 36 ≤ b → b ≤ 47 → Dm' b = Dm b) (hMS : ∀ i, 0 ≤ i → i < 80 → i ≠ k → MS Dm Dm' i)
    (h48 : Rz 240 48 Dm' k = n - 1) (h49 : Rz 240 49 Dm' k = if n = 1 then -1 else l) (h50 : Rz 240 50 Dm' k = z) (hvv : ∀ i, 0 ≤ i → i < n - 1 → vN Dm' k i = vN Dm k (dl r i) ∧ vS Dm' k i = vS Dm k (dl r i) ∧ vL Dm' k i = vL Dm k (dl r i) ∧ vP Dm' k i = vP Dm k (dl r i))
    (hvQ : ∀ i t, 0 ≤ i → i < n - 1 → 0 ≤ t → t < 4 → vQ Dm' k i t = vQ Dm k (dl r i) t)
    (hz : ∀ u, u ≠ v → (∀ t, 0 ≤ t → t < pcs L0 → u ≠ vQ Dm k r t) → (n = 1 → u ≠ l) → 0 < Rz 1024 3 Dc u → Rz 1024 3 Dc' u = Rz 1024 3 Dc u)
    (u3 : Rz 1024 4 Dc' (p + 3) = if n = 1 then 0 else l) (ul : 2 ≤ n → Rz 1024 4 Dc' l = n - 1) (ui : 2 ≤ n → ∀ j, 0 ≤ j → j < n - 1 → Rz 1024 4 Dc' (l + 1 + j) = vP Dm k (dl r j)) (uo : ∀ u, u ≠ p + 3 → (u < l ∨ l + z ≤ u) → Rz 1024 4 Dc' u = Rz 1024 4 Dc u) : T0 T R S Dc' Dm' := by
  have hkr := h.2.2.2.1 k hk.1 hk.2 hT
  have inK : ∀ {a i p s}, LbK Dm k a i p s → Lb T R S Dm a i p s := fun z => Or.inl ⟨k, hk.1, hk.2, hT, z⟩
  obtain ⟨r1, r2, ⟨w0, w1, w4, w5⟩, ⟨b1, b2, b3, b4⟩, hLC, hW, hV⟩ := id hkr
  rw [hn, hl, hz0] at hV
  have n8 := hLC.1
  have v8 := hV.1
  have vb := hV.2.2.2.1
  have lk : Lb T R S Dm 40 k p 6 := by rw [← hp]; exact inK LbK.key
  have ll : Lb T R S Dm 49 k l z := by
    have := LbK.vls (D := Dm) (k := k) (by omega)
    rw [hl, hz0] at this
    exact inK this
  have lv : LbK Dm k 54 (8 * k + r) v 3 := by
    have := LbK.val (D := Dm) (k := k) hr.1 (by omega)
    rw [hv] at this
    exact this
  have c2 := (vb r hr.1 hr.2).2.1
  rw [hL0] at c2
  have hp4 := pcs_bd c2
  have lq : ∀ t, 0 ≤ t → t < pcs L0 → LbK Dm k 55 (4 * (8 * k + r) + t) (vQ Dm k r t) (2 + upc L0 t) := fun t a b => by
    have := LbK.pie (D := Dm) (k := k) (j := r) (m := t) hr.1 (by omega) a (by rw [hL0]; exact b)
    rw [hL0] at this
    exact this
  have off : ∀ a i p' t, Lb T R S Dm a i p' t → (a ≠ 49 ∨ i ≠ k) → ∀ y, 0 ≤ y → y < t → (a ≠ 40 ∨ i ≠ k ∨ y ≠ 3) → Rz 1024 4 Dc' (p' + y) = Rz 1024 4 Dc (p' + y) := fun a i p' t e e1 y y1 y2 e2 => by
    have d1 := h.dis e ll e1
    refine uo _ ?_ (by omega)
    by_cases g : a = 40 ∧ i = k
    · obtain ⟨g1, g2⟩ := g
      subst g1 g2
      have : p' = p := by
        rcases e with ⟨k', x1, x2, x3, e⟩ | ⟨e, -⟩
        · rcases e with ⟨y1, y2, y3, y4⟩ | ⟨y1, -⟩ | ⟨y1, -⟩ | ⟨y1, -⟩ | ⟨y1, -⟩ | ⟨y1, -⟩
          · rw [y3, ← y2, hp]
          all_goals omega
        · omega
      omega
    · have := h.dis e lk (by omega)
      omega
  have off0 : ∀ a i p' t, Lb T R S Dm a i p' t → (a ≠ 49 ∨ i ≠ k) → Rz 1024 4 Dc' p' = Rz 1024 4 Dc p' := fun a i p' t e e1 => by
    have := off a i p' t e e1 0 (Int.le_refl _) (by have := h.lb e; omega) (by omega)
    rw [Int.add_zero] at this
    exact this
  have sz : ∀ a i p' t, Lb T R S Dm a i p' t → (a ≠ 49 ∨ i ≠ k ∨ 2 ≤ n) → (a ≠ 54 ∨ i ≠ 8 * k + r) → (a ≠ 55 ∨ i < 4 * (8 * k + r) ∨ 4 * (8 * k + r) + 4 ≤ i) → Rz 1024 3 Dc' p' = Rz 1024 3 Dc p' := fun a i p' t e e1 e2 e3 =>
    hz p' (h.ne e (inK lv) e2) (fun t t1 t2 => h.ne e (inK (lq t t1 t2)) (by omega)) (fun q => h.ne e ll (by omega)) (by have := h.lb e; omega)
  have m : ∀ b, 36 ≤ b → b ≤ 47 → ∀ n i, Rz n b Dm' i = Rz n b Dm i := fun b x y n i => R_cg (hm b x y) i
  have eml : ml Dm' = ml Dm := by funext a b; exact m 44 (by decide) (by decide) _ _
  have emc : mc Dm' = mc Dm := by funext a b; exact m 45 (by decide) (by decide) _ _
  have eme : me Dm' = me Dm := by funext a b; exact m 46 (by decide) (by decide) _ _
  have emn : mn_ Dm' = mn_ Dm := by funext a b; exact m 47 (by decide) (by decide) _ _
  have emE : mE Dm' = mE Dm := by funext a b; unfold mE; rw [eme, emn]
  have e40 : Rz 240 40 Dm' k = p := by rw [m 40 (by decide) (by decide), hp]
  have uk0 := off0 _ _ _ _ lk (Or.inl (by decide))
  have uk := fun y a b c => off _ _ _ _ lk (Or.inl (by decide)) y a b c
  have hKR : KR Dc' Dm' k := by
    have hW' : MW Dm' k := by
      unfold MW at hW ⊢
      rw [emc, eme, emn, m 42 (by decide) (by decide)]
      exact hW
    rw [hp] at r1 r2 w0 w1 w4 w5 hLC hV
    unfold KR
    rw [eml, emc, emE, e40, R_cg h5, m 37 (by decide) (by decide), m 38 (by decide) (by decide), m 39 (by decide) (by decide), m 41 (by decide) (by decide), m 42 (by decide) (by decide), m 43 (by decide) (by decide), h48, h49, h50, sz _ _ _ _ lk (Or.inl (by decide)) (Or.inl (by decide)) (Or.inl (by decide)), uk0, uk 1 (by omega) (by omega) (by omega), uk 2 (by omega) (by omega) (by omega), u3, uk 4 (by omega) (by omega) (by omega), uk 5 (by omega) (by omega) (by omega)]
    refine ⟨r1, r2, ⟨w0, w1, w4, w5⟩, ⟨b1, b2, ?_, fun e => by rw [if_pos (by omega)]⟩, ?_, hW', ⟨by omega, ?_, fun q => ?_, fun i x1 x2 => ?_, fun i i' x1 x2 x3 => ?_⟩⟩
    · rcases b3 with y | y
      · exact Or.inl y
      · omega
    · exact hLC.cong rfl (fun _ _ _ => ⟨rfl, rfl⟩) (fun _ _ _ => rfl) (fun _ => rfl) (fun i a b => by rw [sz _ _ _ _ (inK (LbK.lea a b)) (Or.inl (by decide)) (Or.inl (by decide)) (Or.inl (by decide))]; exact (hLC.2.2.1 i a b).1) (fun q => by rw [sz _ _ _ _ (inK (LbK.idx q)) (Or.inl (by decide)) (Or.inl (by decide)) (Or.inl (by decide))]; exact (hLC.2.2.2 q).1) (fun i y a b c d => off _ _ _ _ (inK (LbK.lea a b)) (Or.inl (by decide)) y c d (Or.inl (by decide))) (fun q y c d => off _ _ _ _ (inK (LbK.idx q)) (Or.inl (by decide)) y c d (Or.inl (by decide)))
    · by_cases e : n = 1
      · rw [if_pos e, if_pos (by omega)]
      · rw [if_neg e, if_neg (by omega), if_neg e]
    · obtain ⟨f1, f2, f3, f4, f5⟩ := hV.2.2.1 (by omega)
      rw [if_neg (by omega)]
      refine ⟨f1, by rw [sz _ _ _ _ ll (Or.inr (Or.inr (by omega))) (Or.inl (by decide)) (Or.inl (by decide))]; exact f2, ul (by omega), by omega, fun j x1 x2 => ?_⟩
      rw [ui (by omega) j x1 x2, (hvv j x1 x2).2.2.2]
    · obtain ⟨y1, y2, y3, y4⟩ := hvv i x1 x2
      have hd := dl_cs r i
      obtain ⟨d1, d2, d3, d4, d5, d6, d7⟩ := vb (dl r i) (by omega) (by omega)
      have p4 := pcs_bd d2
      have li : Lb T R S Dm 54 (8 * k + dl r i) (vP Dm k (dl r i)) 3 := inK (LbK.val (by omega) (by omega))
      have uu := fun y a b => off _ _ _ _ li (Or.inl (by decide)) y a b (Or.inl (by decide))
      rw [y1, y2, y3, y4, sz _ _ _ _ li (Or.inl (by decide)) (Or.inr (by omega)) (Or.inl (by decide)), off0 _ _ _ _ li (Or.inl (by decide)), uu 1 (by omega) (by omega), uu 2 (by omega) (by omega)]
      refine ⟨d1, d2, d3, d4, d5, ?_, fun t t1 t2 => ?_⟩
      · rw [d6]
        by_cases y : pcs (vL Dm k (dl r i)) = 0
        · rw [if_pos y, if_pos y]
        · rw [if_neg y, if_neg y, hvQ i 0 x1 x2 (by omega) (by omega)]
      · have lt := inK (LbK.pie (D := Dm) (k := k) (j := dl r i) (by omega) (by omega) t1 t2)
        rw [hvQ i t x1 x2 t1 (by omega), sz _ _ _ _ lt (Or.inl (by decide)) (Or.inl (by decide)) (Or.inr (by omega)), off0 _ _ _ _ lt (Or.inl (by decide))]
        refine ⟨(d7 t t1 t2).1, ?_⟩
        rw [(d7 t t1 t2).2]
        by_cases y : t + 1 < pcs (vL Dm k (dl r i))
        · rw [if_pos y, if_pos y, hvQ i (t + 1) x1 x2 (by omega) (by omega)]
        · rw [if_neg y, if_neg y]
    · rw [(hvv i x1 (by omega)).1, (hvv i' (by omega) x3).1]
      have hd := dl_cs r i
      have hd' := dl_cs r i'
      exact hV.2.2.2.2 _ _ (by omega) (by omega) (by omega)
  refine h.one hk hT hC h25 h5 h6 hMS hKR (fun a i p' t l' e => ⟨sz a i p' t l' ?_ ?_ ?_, fun y y1 y2 => off a i p' t l' ?_ y y1 y2 ?_⟩) (fun a i a' i' => a = a' ∧ ((a ≠ 54 ∧ a ≠ 55 ∧ i = i') ∨ (a = 54 ∧ ((i < 8 * k + r ∧ i' = i) ∨ (8 * k + r ≤ i ∧ i' = i + 1))) ∨ (a = 55 ∧ ((i < 4 * (8 * k + r) ∧ i' = i) ∨ (4 * (8 * k + r) ≤ i ∧ i' = i + 4))))) (fun _ _ _ => False) (fun a i b j a' i' z1 z2 => ?_) (fun _ _ _ _ _ y => y.elim) (fun a i p' t l' => Or.inl ?_)
  · by_cases y : a = 49 ∧ i = k
    · obtain ⟨y1, y2⟩ := y
      subst y1 y2
      rcases l' with ⟨k', x1, x2, x3, l'⟩ | ⟨y, -⟩
      · have : k' = i := by rcases l' with ⟨y1, -⟩ | ⟨y1, -⟩ | ⟨y1, -⟩ | ⟨-, y1, -⟩ | ⟨y1, -⟩ | ⟨y1, -⟩ <;> omega
        subst this
        exact absurd l' (e _ _)
      · omega
    · omega
  · by_cases y : a = 54 ∧ i = 8 * k + r
    · obtain ⟨y1, y2⟩ := y
      subst y1 y2
      exact absurd lv (e _ _)
    · omega
  · by_cases y : a = 55 ∧ 4 * (8 * k + r) ≤ i ∧ i < 4 * (8 * k + r) + 4
    · obtain ⟨y1, y2, y3⟩ := y
      subst y1
      rcases l' with ⟨k', x1, x2, x3, l'⟩ | ⟨y, -⟩
      · rcases l' with ⟨y1, -⟩ | ⟨y1, -⟩ | ⟨y1, -⟩ | ⟨y1, -⟩ | ⟨y1, -⟩ | ⟨y1, j', t', y4, y5, y6, y7, y8, y9, y10⟩
        all_goals try omega
        have hk' := h.2.2.2.1 k' x1 x2 x3
        have := pcs_le4 (hk'.2.2.2.2.2.2.2.2.2.1 j' y4 y5).2.1
        have := hk'.2.2.2.2.2.2.1
        have : k' = k := by omega
        subst this
        exact absurd (LbK.pie y4 y5 y6 y7) (by rw [← y8]; exact e _ _)
      · omega
    · omega
  · by_cases y : a = 49 ∧ i = k
    · obtain ⟨y1, y2⟩ := y
      subst y1 y2
      rcases l' with ⟨k', x1, x2, x3, l'⟩ | ⟨y, -⟩
      · have : k' = i := by rcases l' with ⟨y1, -⟩ | ⟨y1, -⟩ | ⟨y1, -⟩ | ⟨-, y1, -⟩ | ⟨y1, -⟩ | ⟨y1, -⟩ <;> omega
        subst this
        exact absurd l' (e _ _)
      · omega
    · omega
  · by_cases y : a = 40 ∧ i = k
    · obtain ⟨y1, y2⟩ := y
      subst y1 y2
      rcases l' with ⟨k', x1, x2, x3, l'⟩ | ⟨y, -⟩
      · have : k' = i := by rcases l' with ⟨-, y1, -⟩ | ⟨y1, -⟩ | ⟨y1, -⟩ | ⟨y1, -⟩ | ⟨y1, -⟩ | ⟨y1, -⟩ <;> omega
        subst this
        exact absurd l' (e _ _)
      · omega
    · omega
  · omega
  · rcases l' with ⟨m1, m2, m3, m4⟩ | ⟨m1, m2, m3, m4, m5⟩ | ⟨m1, j', m2, m3, m4, m5, m6⟩ | ⟨m1, m2, m3, m4, m5⟩ | ⟨m1, j', m2, m3, m4, m5, m6⟩ | ⟨m1, j', t', m2, m3, m4, m5, m6, m7, m8⟩
    · subst m1 m2 m3 m4
      rw [m 40 (by decide) (by decide)]
      exact ⟨40, i, 6, LbK.key, rfl, Or.inl ⟨by decide, by decide, rfl⟩⟩
    · subst m1 m2 m4 m5
      rw [m 42 (by decide) (by decide)] at m3
      rw [m 43 (by decide) (by decide)]
      exact ⟨43, i, 9, LbK.idx m3, rfl, Or.inl ⟨by decide, by decide, rfl⟩⟩
    · subst m1 m4 m5 m6
      rw [m 42 (by decide) (by decide)] at m3
      rw [eml]
      exact ⟨44, _, 5, LbK.lea m2 m3, rfl, Or.inl ⟨by decide, by decide, rfl⟩⟩
    · subst m1 m2 m4 m5
      rw [h48] at m3
      rw [h49, if_neg (by omega), ← hl]
      exact ⟨49, i, _, LbK.vls (by omega), rfl, Or.inl ⟨by decide, by decide, rfl⟩⟩
    · rw [h48] at m3
      subst m1 m4 m5 m6
      rw [(hvv j' m2 m3).2.2.2]
      have hd := dl_cs r j'
      exact ⟨54, _, 3, LbK.val (j := dl r j') (by omega) (by omega), rfl, Or.inr (Or.inl ⟨rfl, by omega⟩)⟩
    · rw [h48] at m3
      have hd := dl_cs r j'
      rw [(hvv j' m2 m3).2.2.1] at m5
      have p4 := pcs_bd (vb (dl r j') (by omega) (by omega)).2.1
      subst m1 m6 m7
      rw [hvQ j' t' m2 m3 m4 (by omega)]
      exact ⟨55, _, _, LbK.pie (j := dl r j') (by omega) (by omega) m4 m5, rfl, Or.inr (Or.inr ⟨rfl, by omega⟩)⟩
end FEWER
