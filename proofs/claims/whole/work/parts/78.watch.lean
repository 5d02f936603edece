/-! watch, as a call -/
section WATCH
variable {Dc Dm : DD} {m : Int}
theorem watch_ok {k w d : Int} (h : St Dc Dm m) (hk : -2147483648 ≤ k ∧ k ≤ 2147483647) (hw : -2147483648 ≤ w ∧ w ≤ 2147483647) (hd : d = 0 ∨ d = 1) : Ok [(0, 1), (1, 2)] Dc Dm m (pH_watch k w d Dc) (pM_watch k w d Dm) := by
  rcases key_both h.1 hk with ⟨g, t, c0, c, e⟩ | ⟨g, c0, c, e⟩
  · have hin : pM_isIn w 1 7 = if 1 ≤ w ∧ w ≤ 7 then 1 else 0 := isIn_m hw (by omega) (by omega)
    by_cases q : 1 ≤ w ∧ w ≤ 7
    · obtain ⟨a1, a2, a3⟩ := (h.2.2.1.1 k g.1 g.2).1
      obtain ⟨Dm1, k1, k2, k3, k4, k5, k6⟩ := start_both (k := k) (h.thr (x := 0)).2.2.1 g
      obtain ⟨W, fc⟩ := k6 w d (Tz 80 60 (Tz 80 59 Dm1 k w) k d) (by omega) hd (fun b hb => by rw [T_ot (nin hb (by decide)), T_ot (nin hb (by decide))]) (fun i x y => by
        rw [R_T_ot (by decide), R_T]
        by_cases z : i = k
        · rw [if_pos ⟨by omega, z⟩, if_pos z]
        · rw [if_neg (fun y => z y.2), if_neg z]) (fun i x y => by
        rw [R_T, R_T_ot (by decide)]
        by_cases z : i = k
        · rw [if_pos ⟨by omega, z⟩, if_pos z]
        · rw [if_neg (fun y => z y.2), if_neg z])
      have fm : ∀ b, b ∉ [32, 59, 60, 61, 62, 63] → Tz 80 60 (Tz 80 59 Dm1 k w) k d b = Dm b := fun b hb => by
        rw [T_ot (nin hb (by decide)), T_ot (nin hb (by decide)), k2 b hb, up2_ot (nin hb (by decide))]
      have f32 : ∀ j, j ≠ 29 → Tz 80 60 (Tz 80 59 Dm1 k w) k d 32 j = up2 Dm 32 42 0 32 j := fun j hj => by
        rw [T_ot (by decide), T_ot (by decide), k3 j hj]
      refine ⟨pW_start k w d Dc, Tz 80 60 (Tz 80 59 Dm1 k w) k d, if 0 < Rz 80 16 Dc k then 0 else 1, ?_, ⟨h.1.eqv (fun b x y => fc b (by simp only [List.mem_cons, List.not_mem_nil, or_false]; omega)) (fun b x y => fm b (by simp only [List.mem_cons, List.not_mem_nil, or_false]; omega)), h.2.1.cong (by rw [fc 7 (by decide)]) (fm 58 (by decide)), W.mono (by omega)⟩, fun b hb => fc b (by simp only [List.mem_cons, List.not_mem_nil, or_false]; omega),
        ⟨fun b hb => fm b (by simp only [List.mem_cons, List.not_mem_nil, or_false]; omega), fun j x y => by rw [f32 j (by omega), up2_nk (by omega)], fun a i x y z => by rw [fm a (by simp only [List.mem_cons, List.not_mem_nil, or_false]; omega)]⟩, Or.inl ⟨?_, by rw [f32 42 (by decide), up2_eq]⟩⟩
      · unfold pM_watch
        rw [e, bnd_ok]
        simp only [jnR]
        rw [w32_k1, if_neg (by decide), hin, if_pos q, if_neg (by decide), fails0, bnd_ok, w32_k0, if_pos rfl, rdA_R (by omega), R_up2_ot (by decide), a1, w32_of (by omega)]
        have tl : ∀ x : Int, (x = 0 ∨ x = 1) → (bnd (pM_forgets k (up2 Dm 32 42 0)) fun _ D5 => wrA 80 59 k w D5 fun D6 => wrZ 80 60 k d D6 fun D7 => if x = 0 then okR 1 D7 else okR 0 D7) = okR (if x = 0 then 1 else 0) (Tz 80 60 (Tz 80 59 Dm1 k w) k d) := fun x hx => by
          rw [k1, bnd_ok, wrA_T (by omega), wrZ_T (by omega) hd]
          rcases hx with z | z
          · subst z; rfl
          · subst z; rfl
        by_cases z : 0 < Rz 80 16 Dc k
        · rw [if_pos z, if_pos z, tl 1 (Or.inr rfl), if_neg (by decide)]
        · rw [if_neg z, if_neg z, tl 0 (Or.inl rfl), if_pos rfl]
      · unfold pH_watch pW_isWatched
        simp only [jnR, gD]
        rw [c, bnd_ok, w32_of hw, if_neg (by omega), if_neg (by omega), rd_R hk, w32_of (by omega)]
        by_cases z : 0 < Rz 80 16 Dc k
        · rw [if_neg (show ¬ Rz 80 16 Dc k = 0 by omega), if_neg (by decide), if_pos z, okZ_ok (Or.inl rfl)]
        · rw [if_pos (show Rz 80 16 Dc k = 0 by omega), if_pos rfl, if_neg z, okZ_ok (Or.inr rfl)]
    · refine Ok.err (v := 0) (e := 1) (x := 2) h (by decide) ?_ ?_
      · unfold pM_watch
        rw [e, bnd_ok]
        simp only [jnR]
        rw [w32_k1, if_neg (by decide), hin, if_neg q, if_pos rfl, failsP (by omega), bnd_ok, w32_k1, if_neg (by decide)]
      · unfold pH_watch
        simp only [jnR]
        rw [c, bnd_ok, w32_of hw]
        by_cases z : w < 1
        · rw [if_pos z]
        · rw [if_neg z, if_pos (by omega)]
  · refine Ok.err (v := 0) (e := 0) (x := 1) h (by decide) ?_ ?_
    · unfold pM_watch
      rw [e, bnd_ok]
      simp only [jnR]
      rw [w32_k0, if_pos rfl, failsP (by omega), bnd_ok, w32_k1, if_neg (by decide)]
    · unfold pH_watch
      rw [c, bnd_er]
end WATCH
