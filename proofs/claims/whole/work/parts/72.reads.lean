/-! find, subkeyAt, list, as calls -/
section READS
variable {Dc Dm : DD} {m : Int}
theorem th_thr {x k : Int} (h : th Dm k) : th (up2 Dm 32 42 x) k := by
  rw [th_fn (up2_ot (by decide))]
  exact h
theorem requireName_c {x : Int} (hx : -2147483648 ≤ x ∧ x ≤ 2147483647) : pH_requireName x Dc = if 0 ≤ x ∧ x ≤ 9999 then okR 0 Dc else erR 1 Dc := by
  unfold pH_requireName
  simp only [jnR]
  rw [w32_of hx]
  by_cases q : x < 0
  · rw [if_pos q, if_neg (by omega)]
  · rw [if_neg q]
    by_cases q2 : 9999 < x
    · rw [if_pos q2, if_neg (by omega)]
    · rw [if_neg q2, if_pos (by omega)]
theorem isName_m {x : Int} (hx : -2147483648 ≤ x ∧ x ≤ 2147483647) : pM_isName x = if 0 ≤ x ∧ x ≤ 9999 then 1 else 0 := isIn_m hx (by omega) (by omega)
theorem find_ok {k x : Int} (h : St Dc Dm m) (hk : -2147483648 ≤ k ∧ k ≤ 2147483647) (hx : -2147483648 ≤ x ∧ x ≤ 2147483647) : Ok [(0, 1), (1, 2)] Dc Dm m (pH_find k x Dc) (pM_find k x Dm) := by
  rcases key_both h.1 hk with ⟨g, t, c0, c, d⟩ | ⟨g, c0, c, d⟩
  · by_cases q : 0 ≤ x ∧ x ≤ 9999
    · have h2 := (h.thr (x := 0)).1
      have t2 := th_thr (x := 0) t
      have hkr := St.kr h2 g t2
      obtain ⟨p1, p2, p3⟩ := h2.place g t2
      have hT := h2.1.1.1
      have hsc := h2.1.1.2.1
      obtain ⟨r, hr⟩ := hkr.2.2.2.2.2.1.named x
      have hr2 := hr
      have cl := subkeyNamed_c rfl hkr.2.2.2.2.1 hkr.2.2.2.2.2.1 hT (by omega) (by omega) q hr
      have mo := entryOf_m g hkr.2.2.2.2.2.1 q hr
      have tot := hkr.tot
      refine Ok.same (v := if r = -1 then -1 else me (up2 Dm 32 42 0) k r) h ?_ ?_
      · unfold pM_find
        rw [d, bnd_ok]
        simp only [jnR]
        rw [w32_k1, if_neg (by decide), isName_m hx, if_pos q, if_neg (by decide), fails0, bnd_ok, w32_k0, if_pos rfl, mo, bnd_ok]
        rcases hr2 with ⟨r1, r2⟩ | ⟨r1, r2, r3⟩
        · rw [r1, w32_m1, if_pos rfl, if_pos rfl]
        · rw [w32_of (by omega), if_neg (show ¬ r = -1 by omega), if_neg (show ¬ r = -1 by omega), rdA_R (by omega)]
          rfl
      · unfold pH_find pI_placeOfKey
        rw [c, bnd_ok, requireName_c hx, if_pos q, bnd_ok, rd_R hk, p1, cl, bnd_ok]
    · refine Ok.err (v := 0) (e := 1) (x := 2) h (by decide) ?_ ?_
      · unfold pM_find
        rw [d, bnd_ok]
        simp only [jnR]
        rw [w32_k1, if_neg (by decide), isName_m hx, if_neg q, if_pos rfl, failsP (by omega), bnd_ok, w32_k1, if_neg (by decide)]
      · unfold pH_find
        rw [c, bnd_ok, requireName_c hx, if_neg q, bnd_er]
  · refine Ok.err (v := 0) (e := 0) (x := 1) h (by decide) ?_ ?_
    · unfold pM_find
      rw [d, bnd_ok]
      simp only [jnR]
      rw [w32_k0, if_pos rfl, failsP (by omega), bnd_ok, w32_k1, if_neg (by decide)]
    · unfold pH_find
      rw [c, bnd_er]
theorem list_ok {k : Int} (h : St Dc Dm m) (hk : -2147483648 ≤ k ∧ k ≤ 2147483647) : Ok [(0, 1)] Dc Dm m (pH_list k Dc) (pM_list k Dm) := by
  rcases key_both h.1 hk with ⟨g, t, c0, c, d⟩ | ⟨g, c0, c, d⟩
  · have h2 := (h.thr (x := 0)).1
    have t2 := th_thr (x := 0) t
    have hkr := St.kr h2 g t2
    obtain ⟨p1, p2, p3⟩ := h2.place g t2
    have hT := h2.1.1.1
    have hsc := h2.1.1.2.1
    have hn := hkr.2.2.2.2.2.1.1
    refine Ok.same (v := 10 * sm (mc (up2 Dm 32 42 0) k) (Rz 240 42 (up2 Dm 32 42 0) k) + Rz 240 42 (up2 Dm 32 42 0) k) h ?_ ?_
    · unfold pM_list
      rw [d, bnd_ok]
      simp only [jnR]
      rw [w32_k1, if_neg (by decide), fails0, bnd_ok, w32_k0, if_pos rfl, entries_m g (by omega), bnd_ok, rdA_R (by omega)]
    · unfold pH_list pI_placeOfKey
      simp only [ltR]
      rw [c, bnd_ok, rd_R hk, p1, entryCount_c hkr.2.2.2.2.1 hT (by omega) (by omega) rfl, bnd_ok, leafCount_c hkr.2.2.2.2.1 hT (by omega) (by omega) rfl]
  · refine Ok.err (v := 0) (e := 0) (x := 1) h (by decide) ?_ ?_
    · unfold pM_list
      rw [d, bnd_ok]
      simp only [jnR]
      rw [w32_k0, if_pos rfl, failsP (by omega), bnd_ok, w32_k1, if_neg (by decide)]
    · unfold pH_list
      rw [c, bnd_er]
theorem subkeyAt_ok {k x : Int} (h : St Dc Dm m) (hk : -2147483648 ≤ k ∧ k ≤ 2147483647) (hx : -2147483648 ≤ x ∧ x ≤ 2147483647) : Ok [(0, 1)] Dc Dm m (pH_subkeyAt k x Dc) (pM_subkeyAt k x Dm) := by
  rcases key_both h.1 hk with ⟨g, t, c0, c, d⟩ | ⟨g, c0, c, d⟩
  · have hkr := St.kr h.1 g t
    obtain ⟨p1, p2, p3⟩ := h.1.place g t
    have hT := h.1.1.1.1
    have hsc := h.1.1.1.2.1
    have hn := hkr.2.2.2.2.2.1.1
    have tot := hkr.tot
    have ec := entryCount_c hkr.2.2.2.2.1 hT (by omega) (by omega) rfl
    have hin : pM_isIn x 0 (sm (mc Dm k) (Rz 240 42 Dm k) - 1) = if 0 ≤ x ∧ x ≤ sm (mc Dm k) (Rz 240 42 Dm k) - 1 then 1 else 0 := isIn_m hx (by omega) (by omega)
    by_cases q : 0 ≤ x ∧ x ≤ sm (mc Dm k) (Rz 240 42 Dm k) - 1
    · refine Ok.same (v := me Dm k x) h ?_ ?_
      · unfold pM_subkeyAt
        rw [d, bnd_ok]
        simp only [jnR]
        rw [w32_k1, if_neg (by decide), entries_m g (by omega), bnd_ok, hin, if_pos q, if_neg (by decide), fails0, bnd_ok, w32_k0, if_pos rfl, rdA_R (by omega), R_up2_ot (by decide)]
        rfl
      · unfold pH_subkeyAt pI_placeOfKey
        simp only [ltR, jnR]
        rw [c, bnd_ok, rd_R hk, p1, w32_of hx, if_neg (by omega), ec, bnd_ok, w32_of (by omega), if_pos (by omega), subkeyNumbered_c rfl hkr.2.2.2.2.1 hkr.2.2.2.2.2.1 hT (by omega) (by omega) (by omega), bnd_ok]
    · refine Ok.err (v := 0) (e := 0) (x := 1) h (by decide) ?_ ?_
      · unfold pM_subkeyAt
        rw [d, bnd_ok]
        simp only [jnR]
        rw [w32_k1, if_neg (by decide), entries_m g (by omega), bnd_ok, hin, if_neg q, if_pos rfl, w32_k0, if_pos rfl, failsP (by omega), bnd_ok, w32_k1, if_neg (by decide)]
      · unfold pH_subkeyAt pI_placeOfKey
        simp only [ltR, jnR]
        rw [c, bnd_ok, rd_R hk, p1, w32_of hx]
        by_cases q2 : x < 0
        · rw [if_pos q2]
        · rw [if_neg q2, ec, bnd_ok, w32_of (by omega), if_neg (by omega)]
  · refine Ok.err (v := 0) (e := 0) (x := 1) h (by decide) ?_ ?_
    · unfold pM_subkeyAt
      rw [d, bnd_ok]
      simp only [jnR]
      rw [w32_k0, if_pos rfl, if_pos rfl, failsP (by omega), bnd_ok, w32_k1, if_neg (by decide)]
    · unfold pH_subkeyAt
      rw [c, bnd_er]
end READS
