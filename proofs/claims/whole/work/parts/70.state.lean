/-! the state, related; what a call must do -/
def th (D : DD) : Int → Prop := fun k => Rz 240 36 D k = 1
def Tr (Dc Dm : DD) : Prop := T0 (th Dm) (Rz 768 56 Dm) (Rz 768 57 Dm) Dc Dm ∧ MT Dm
def Dy (Dc Dm : DD) : Prop := ∀ t, 0 ≤ t → t < 64 → (bit (Dc 7 5) t = true ↔ w32 (Rz 64 58 Dm t) ≠ 0)
def Oc (D D' : DD) : Prop := ∀ b, 20 ≤ b → D' b = D b
def Om (D D' : DD) : Prop := (∀ b, (b < 32 ∨ b = 64 ∨ 68 ≤ b) → D' b = D b) ∧ (∀ j, 32 ≤ j → j ≤ 36 → D' 32 j = D 32 j) ∧ HiEq D D'
def St (Dc Dm : DD) (m : Int) : Prop := Tr Dc Dm ∧ Dy Dc Dm ∧ Wt Dc Dm m ∧ m ≤ 700000
def Ok (L : List (Nat × Int)) (Dc Dm : DD) (m : Int) (rc rm : Res) : Prop :=
  ∃ Dc' Dm' v, rm = okR v Dm' ∧ (Tr Dc' Dm' ∧ Dy Dc' Dm' ∧ Wt Dc' Dm' (m + 80)) ∧ Oc Dc Dc' ∧ Om Dm Dm' ∧ ((rc = okR v Dc' ∧ Dm' 32 42 = 0) ∨ ∃ e, e ∈ L ∧ rc = erR e.1 Dc' ∧ Dm' 32 42 = e.2)
theorem Oc.rf (D : DD) : Oc D D := fun _ _ => rfl
theorem Oc.trans {D D1 D2 : DD} (h : Oc D D1) (g : Oc D1 D2) : Oc D D2 := fun b hb => (g b hb).trans (h b hb)
theorem Om.rf (D : DD) : Om D D := ⟨fun _ _ => rfl, fun _ _ _ => rfl, HiEq.rf D⟩
theorem Om.trans {D D1 D2 : DD} (h : Om D D1) (g : Om D1 D2) : Om D D2 := ⟨fun b hb => (g.1 b hb).trans (h.1 b hb), fun j a b => (g.2.1 j a b).trans (h.2.1 j a b), h.2.2.trans g.2.2⟩
theorem Om.thr (D : DD) (x : Int) : Om D (up2 D 32 42 x) := ⟨fun b hb => up2_ot (by omega), fun j a b => up2_nk (by omega), fun a k h1 h2 _ => by rw [up2_ot (by omega)]⟩
theorem MT.eqv {D D' : DD} (h : MT D) (hm : ∀ b, 33 ≤ b → b ≤ 57 → D' b = D b) : MT D' := by
  unfold MT mc me mn_ Rz at h ⊢
  rw [hm 35 (by omega) (by omega), hm 36 (by omega) (by omega), hm 37 (by omega) (by omega), hm 38 (by omega) (by omega), hm 39 (by omega) (by omega), hm 41 (by omega) (by omega), hm 42 (by omega) (by omega), hm 45 (by omega) (by omega), hm 46 (by omega) (by omega), hm 47 (by omega) (by omega), hm 57 (by omega) (by omega)]
  exact h
theorem Rz_fn {n a : Nat} {D D' : DD} (h : D' a = D a) : Rz n a D' = Rz n a D := funext (fun i => R_cg h i)
theorem th_fn {D D' : DD} (h : D' 36 = D 36) : th D' = th D := by
  unfold th Rz
  rw [h]
theorem Tr.eqv {Dc Dm Dc' Dm' : DD} (h : Tr Dc Dm) (hc : ∀ b, 2 ≤ b → b ≤ 6 → Dc' b = Dc b) (hm : ∀ b, 33 ≤ b → b ≤ 57 → Dm' b = Dm b) : Tr Dc' Dm' := by
  refine ⟨?_, h.2.eqv hm⟩
  rw [th_fn (hm 36 (by omega) (by omega)), Rz_fn (hm 56 (by omega) (by omega)), Rz_fn (hm 57 (by omega) (by omega))]
  exact h.1.eqv (hc 2 (by omega) (by omega)) (hc 3 (by omega) (by omega)) (hc 4 (by omega) (by omega)) (hc 5 (by omega) (by omega)) (hc 6 (by omega) (by omega)) (fun b x y => hm b x (by omega))
theorem Dy.cong {Dc Dm Dc' Dm' : DD} (h : Dy Dc Dm) (h7 : Dc' 7 5 = Dc 7 5) (h58 : Dm' 58 = Dm 58) : Dy Dc' Dm' := fun t a b => by
  rw [h7, R_cg h58]
  exact h t a b
theorem Wt.thr {Dc Dm : DD} {m x : Int} (h : Wt Dc Dm m) : Wt Dc (up2 Dm 32 42 x) m := h.cong rfl rfl rfl rfl rfl (up2_ot (by decide)) (up2_ot (by decide)) (up2_ot (by decide)) (up2_ot (by decide)) (up2_ot (by decide)) (up2_nk (by decide))
theorem Tr.thr {Dc Dm : DD} {x : Int} (h : Tr Dc Dm) : Tr Dc (up2 Dm 32 42 x) := h.eqv (fun _ _ _ => rfl) (fun b _ _ => up2_ot (by omega))
theorem Dy.thr {Dc Dm : DD} {x : Int} (h : Dy Dc Dm) : Dy Dc (up2 Dm 32 42 x) := h.cong rfl (up2_ot (by decide))
theorem St.thr {Dc Dm : DD} {m x : Int} (h : St Dc Dm m) : St Dc (up2 Dm 32 42 x) m := ⟨h.1.thr, h.2.1.thr, h.2.2.1.thr, h.2.2.2⟩
theorem fails0 (D : DD) : pM_fails 0 D = okR 0 (up2 D 32 42 0) := by
  unfold pM_fails
  simp only [gD]
  rw [w32_k0, if_neg (by decide)]
theorem failsP {x : Int} (hx : 1 ≤ x ∧ x ≤ 3) (D : DD) : pM_fails x D = okR 1 (up2 D 32 42 x) := by
  unfold pM_fails
  simp only [gD]
  rw [w32_of (by omega), if_pos (by omega)]
section CALLS
variable {L : List (Nat × Int)} {Dc Dm : DD} {m : Int} {rc rm : Res}
/-- nothing but what was thrown is changed -/
theorem Ok.same {v : Int} (h : St Dc Dm m) (hm : rm = okR v (up2 Dm 32 42 0)) (hc : rc = okR v Dc) : Ok L Dc Dm m rc rm :=
  ⟨Dc, _, v, hm, ⟨h.1.thr, h.2.1.thr, h.2.2.1.thr.mono (by omega)⟩, Oc.rf _, Om.thr _ _, Or.inl ⟨hc, up2_eq ..⟩⟩
theorem Ok.err {v : Int} {e : Nat} {x : Int} (h : St Dc Dm m) (hL : (e, x) ∈ L) (hm : rm = okR v (up2 Dm 32 42 x)) (hc : rc = erR e Dc) : Ok L Dc Dm m rc rm :=
  ⟨Dc, _, v, hm, ⟨h.1.thr, h.2.1.thr, h.2.2.1.thr.mono (by omega)⟩, Oc.rf _, Om.thr _ _, Or.inr ⟨(e, x), hL, hc, up2_eq ..⟩⟩
theorem St.kr {k : Int} (h : Tr Dc Dm) (hk : 0 ≤ k ∧ k < 80) (ht : th Dm k) : KR Dc Dm k := h.1.2.2.2.1 k hk.1 hk.2 ht
theorem Tr.place {k : Int} (h : Tr Dc Dm) (hk : 0 ≤ k ∧ k < 80) (ht : th Dm k) : Rz 80 5 Dc k = Rz 240 40 Dm k ∧ 4 ≤ Rz 240 40 Dm k ∧ Rz 240 40 Dm k + 6 ≤ 1024 := by
  have hkr := St.kr h hk ht
  have h1 := hkr.lb LbK.key
  have h2 := h.1.1.1.1 (Rz 240 40 Dm k) (by omega)
  have h3 := h.1.1.2.1
  exact ⟨hkr.1, by omega, by omega⟩
theorem key_both {k : Int} (h : Tr Dc Dm) (hk : -2147483648 ≤ k ∧ k ≤ 2147483647) : ((0 ≤ k ∧ k < 80) ∧ th Dm k ∧ pH_hasKey k Dc = 1 ∧ pH_requireKey k Dc = okR 0 Dc ∧ pM_isKey k Dm = okR 1 Dm) ∨ (¬ ((0 ≤ k ∧ k < 80) ∧ th Dm k) ∧ pH_hasKey k Dc = 0 ∧ pH_requireKey k Dc = erR 0 Dc ∧ pM_isKey k Dm = okR 0 Dm) := by
  have hcls : ∀ z, Rz 80 5 Dc k = z → (0 ≤ z ∧ z ≤ 1024) → pH_hasKey k Dc = (if z = 0 then 0 else 1) ∧ pH_requireKey k Dc = (if z = 0 then erR 0 Dc else okR 0 Dc) := fun z hz hz2 => by
    have e : pH_hasKey k Dc = if z = 0 then 0 else 1 := by
      unfold pH_hasKey pI_placeOfKey
      rw [rd_R hk, hz, w32_of (by omega)]
    refine ⟨e, ?_⟩
    unfold pH_requireKey
    rw [e]
    by_cases g : z = 0
    · rw [if_pos g, if_pos rfl, if_pos g]
    · rw [if_neg g, if_neg (by decide), if_neg g]
  by_cases g : 0 ≤ k ∧ k < 80
  · have hin : pM_isIn k 0 79 = 1 := by
      unfold pM_isIn
      rw [w32_of hk, w32_k0, w32_of (z := 79) (by omega), if_neg (by omega), if_neg (by omega)]
    have hmod : pM_isKey k Dm = if w32 (Rz 240 36 Dm k) = 0 then okR 0 Dm else okR 1 Dm := by
      unfold pM_isKey
      rw [hin, if_neg (by decide), rdA_R (by omega)]
    rcases (h.2.2.1 k g.1 g.2).1 with z | z
    · right
      have h0 := h.1.2.2.1 k g.1 g.2 (show ¬ th Dm k by unfold th; omega)
      obtain ⟨c1, c2⟩ := hcls 0 h0 (by omega)
      refine ⟨fun y => by have := y.2; unfold th at this; omega, c1, c2, ?_⟩
      rw [hmod, z, w32_k0, if_pos rfl]
    · left
      obtain ⟨p1, p2, p3⟩ := h.place g z
      obtain ⟨c1, c2⟩ := hcls _ p1 (by omega)
      rw [if_neg (by omega)] at c1 c2
      refine ⟨g, z, c1, c2, ?_⟩
      rw [hmod, z, w32_k1, if_neg (by decide)]
  · right
    have hin : pM_isIn k 0 79 = 0 := by
      unfold pM_isIn
      rw [w32_of hk, w32_k0, w32_of (z := 79) (by omega)]
      by_cases q : k < 0
      · rw [if_pos q]
      · rw [if_neg q, if_pos (by omega)]
    obtain ⟨c1, c2⟩ := hcls 0 (R_out (by omega)) (by omega)
    refine ⟨fun y => g y.1, c1, c2, ?_⟩
    unfold pM_isKey
    rw [hin, if_pos rfl]
theorem isIn_m {x a b : Int} (hx : -2147483648 ≤ x ∧ x ≤ 2147483647) (ha : -2147483648 ≤ a ∧ a ≤ 2147483647) (hb : -2147483648 ≤ b ∧ b ≤ 2147483647) : pM_isIn x a b = if a ≤ x ∧ x ≤ b then 1 else 0 := by
  unfold pM_isIn
  rw [w32_of hx, w32_of ha, w32_of hb]
  by_cases g : x < a
  · rw [if_pos g, if_neg (by omega)]
  · rw [if_neg g]
    by_cases q : b < x
    · rw [if_pos q, if_neg (by omega)]
    · rw [if_neg q, if_pos (by omega)]
/-- place, sectors, cell, list -/
theorem place_ok {k : Int} (h : St Dc Dm m) (hk : -2147483648 ≤ k ∧ k ≤ 2147483647) : Ok [(0, 1)] Dc Dm m (pH_place k Dc) (pM_place k Dm) := by
  rcases key_both h.1 hk with ⟨g, t, c0, c, d⟩ | ⟨g, c0, c, d⟩
  · obtain ⟨p1, p2, p3⟩ := h.1.place g t
    refine Ok.same (v := Rz 240 40 Dm k) h ?_ ?_
    · unfold pM_place
      rw [d, bnd_ok]
      simp only [jnR]
      rw [w32_k1, if_neg (by decide), fails0, bnd_ok, w32_k0, if_pos rfl, rdA_R (by omega), R_up2_ot (by decide)]
    · unfold pH_place pI_placeOfKey
      rw [c, bnd_ok, rd_R hk, p1]
  · refine Ok.err (v := 0) (e := 0) (x := 1) h (by decide) ?_ ?_
    · unfold pM_place
      rw [d, bnd_ok]
      simp only [jnR]
      rw [w32_k0, if_pos rfl, failsP (by omega), bnd_ok, w32_k1, if_neg (by decide)]
    · unfold pH_place
      rw [c, bnd_er]
theorem sectors_ok (h : St Dc Dm m) : Ok [] Dc Dm m (okR (pH_sectors Dc) Dc) (pM_sectors Dm) := by
  refine Ok.same (v := Dc 2 4) h ?_ rfl
  unfold pM_sectors
  simp only [gD]
  rw [up2_ot (by decide), h.1.1.1.2.2.1]
theorem cell_ok {u : Int} (h : St Dc Dm m) (hu : -2147483648 ≤ u ∧ u ≤ 2147483647) : Ok [(0, 1)] Dc Dm m (pH_cell u Dc) (pM_cell u Dm) := by
  obtain ⟨a, b, c, d⟩ := h.1.1.1
  have hun : pM_units Dm = 16 * Dc 2 4 := by unfold pM_units; rw [c]
  have hin : pM_isIn u 0 (pM_units Dm - 1) = if 0 ≤ u ∧ u ≤ 16 * Dc 2 4 - 1 then 1 else 0 := by rw [hun]; exact isIn_m hu (by omega) (by omega)
  by_cases g : 0 ≤ u ∧ u ≤ 16 * Dc 2 4 - 1
  · refine Ok.same (v := Rz 1024 3 Dc u) h ?_ ?_
    · unfold pM_cell
      simp only [jnR]
      rw [hin, if_pos g, if_neg (by decide), fails0, bnd_ok, w32_k0, if_pos rfl, rdA_R (by omega), R_up2_ot (by decide), d u (by omega) (by omega)]
    · unfold pH_cell pI_end pI_sizeAt
      simp only [jnR]
      rw [w32_of hu, w32_of (by omega), if_neg (by omega), if_pos (by omega), rd_R hu]
  · refine Ok.err (v := 0) (e := 0) (x := 1) h (by decide) ?_ ?_
    · unfold pM_cell
      simp only [jnR]
      rw [hin, if_neg g, if_pos rfl, failsP (by omega), bnd_ok, w32_k1, if_neg (by decide)]
    · unfold pH_cell pI_end pI_sizeAt
      simp only [jnR]
      rw [w32_of hu, w32_of (by omega)]
      by_cases q : u < 0
      · rw [if_pos q]
      · rw [if_neg q, if_neg (by omega)]
theorem sharers_ok {r : Int} (h : St Dc Dm m) (hr : -2147483648 ≤ r ∧ r ≤ 2147483647) : Ok [(1, 1)] Dc Dm m (pH_sharers r Dc) (pM_sharers r Dm) := by
  have hin : pM_isIn r 0 255 = if 0 ≤ r ∧ r ≤ 255 then 1 else 0 := isIn_m hr (by omega) (by omega)
  by_cases g : 0 ≤ r ∧ r ≤ 255
  · obtain ⟨f1, f2⟩ := h.1.1.2.2.2.2.1 r g.1 (by omega)
    have hs := h.1.2.2.2.2.2.2 r g.1 (by omega)
    have hb := sm_bd (f := fun k => if Rz 240 36 Dm k = 1 ∧ Rz 240 41 Dm k = r then 1 else 0) (b := 1) (by decide) 80 80 rfl (fun k _ _ => by split <;> omega)
    refine Ok.same (v := Rz 768 57 Dm r) h ?_ ?_
    · unfold pM_sharers
      simp only [jnR]
      rw [hin, if_pos g, if_neg (by decide), fails0, bnd_ok, w32_k0, if_pos rfl, rdA_R (by omega), R_up2_ot (by decide)]
    · have hq : pH_requireRights r Dc = okR 0 Dc := by
        unfold pH_requireRights
        simp only [jnR]
        rw [w32_of hr, if_neg (by omega), if_neg (by omega)]
      unfold pH_sharers
      rw [hq, bnd_ok]
      congr 1
      unfold pS_keysWith pI_placeOfRights pI_unitAt
      simp only [ltR]
      rw [rd_R hr]
      by_cases q : Rz 768 57 Dm r = 0
      · rw [f1 q, w32_k0, if_pos rfl, q]
      · obtain ⟨q1, q2, q3⟩ := f2 (by omega)
        have h2 := h.1.1.1.1.1 (Rz 768 56 Dm r) (by omega)
        have h3 := h.1.1.1.2.1
        rw [q1, w32_of (by omega), if_neg (by omega), rd_R (by omega), q3]
  · refine Ok.err (v := 0) (e := 1) (x := 1) h (by decide) ?_ ?_
    · unfold pM_sharers
      simp only [jnR]
      rw [hin, if_neg g, if_pos rfl, failsP (by omega), bnd_ok, w32_k1, if_neg (by decide)]
    · have hq : pH_requireRights r Dc = erR 1 Dc := by
        unfold pH_requireRights
        simp only [jnR]
        rw [w32_of hr]
        by_cases q : r < 0
        · rw [if_pos q]
        · rw [if_neg q, if_pos (by omega)]
      unfold pH_sharers
      rw [hq, bnd_er]
end CALLS
