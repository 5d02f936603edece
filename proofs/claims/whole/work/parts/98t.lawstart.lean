/-! the law's start -/
def Dz : DD := fun _ _ => 0
def W2 (X : Nat → Int32) (L : Nat) (Φ : OT → DD → Prop) (D1 : DD) : Prop := (∀ a, 32 ≤ a → ∀ k, D1 a k = 0) ∧ WP none 0 (fun o D2 => o = .inl none ∧ (∀ a, 68 ≤ a → ∀ k, D2 a k = 0) ∧ WP (some .boolean) 0 Φ (pE_law_23 X L 513 0 D2)) (pM_ini D1)
theorem d_L_law_0 : decode cL_law 0 = .ok (.new 8, 3) := by decide +kernel
theorem d_L_law_3 : decode cL_law 3 = .ok (.dup, 1) := by decide +kernel
theorem d_L_law_4 : decode cL_law 4 = .ok (.invokespecial 81, 3) := by decide +kernel
theorem d_L_law_7 : decode cL_law 7 = .ok (.astore_n 1, 1) := by decide +kernel
theorem d_L_law_8 : decode cL_law 8 = .ok (.new 82, 3) := by decide +kernel
theorem d_L_law_11 : decode cL_law 11 = .ok (.dup, 1) := by decide +kernel
theorem d_L_law_12 : decode cL_law 12 = .ok (.invokespecial 84, 3) := by decide +kernel
theorem d_L_law_15 : decode cL_law 15 = .ok (.astore_n 2, 1) := by decide +kernel
theorem d_L_law_16 : decode cL_law 16 = .ok (.iconst 1, 1) := by decide +kernel
theorem d_L_law_17 : decode cL_law 17 = .ok (.newarray .long, 2) := by decide +kernel
theorem d_L_law_19 : decode cL_law 19 = .ok (.astore_n 3, 1) := by decide +kernel
theorem d_L_law_20 : decode cL_law 20 = .ok (.iconst 0, 1) := by decide +kernel
theorem d_L_law_21 : decode cL_law 21 = .ok (.istore 4, 2) := by decide +kernel
theorem nk_RL_8_0 : NK RL 8 7 8 [5, 10, 14, 15, 16, 18, 23, 4] := ⟨RX7, TX7, tyX7, rfl, ws_X7, tyX7_ok, KW.at (i := 94) (by decide +kernel) rfl, KW.at (i := 95) (by decide +kernel) rfl, KW.at (i := 75) (by decide +kernel) rfl, rfl, rfl⟩
theorem nk_RL_82_32 : NK RL 82 8 43 [36, 37, 38, 39, 40, 41, 42, 43, 44, 45, 46, 47, 48, 49, 50, 51, 52, 53, 54, 55, 56, 57, 58, 59, 60, 61, 62, 63, 64, 0, 65, 66, 1, 0, 0, 0, 67, 0, 68, 69, 70, 0, 0] := ⟨RX8, TX8, tyX8, rfl, ws_X8, tyX8_ok, KW.at (i := 1069) (by decide +kernel) rfl, KW.at (i := 1070) (by decide +kernel) rfl, KW.at (i := 85) (by decide +kernel) rfl, rfl, rfl⟩
theorem mk_X7_init : MK Y_X7_init 0 := ⟨KW.at (i := 75) (by decide +kernel) rfl, KW.at (i := 98) (by decide +kernel) rfl, ⟨by decide +kernel, by decide +kernel⟩, by decide +kernel, by decide +kernel, rfl, by decide⟩
theorem cki_RL_81 : CKI RL 81 Y_X7_init 0 := ⟨rfl, rfl, KW.at (i := 96) (by decide +kernel) rfl, KW.at (i := 97) (by decide +kernel) rfl, mk_X7_init⟩
theorem mk_X8_init : MK Y_X8_init 0 := ⟨KW.at (i := 85) (by decide +kernel) rfl, KW.at (i := 1073) (by decide +kernel) rfl, ⟨by decide +kernel, by decide +kernel⟩, by decide +kernel, by decide +kernel, rfl, by decide⟩
theorem cki_RL_84 : CKI RL 84 Y_X8_init 0 := ⟨rfl, rfl, KW.at (i := 1071) (by decide +kernel) rfl, KW.at (i := 1072) (by decide +kernel) rfl, mk_X8_init⟩
set_option maxRecDepth 20000 in
theorem law_run {Γ : GG} (hL : gL Γ < 2147483648) {Φ : OT → DD → Prop} (h : WP none 0 (fun o D1 => o = .inl none ∧ W2 (gX Γ) (gL Γ) Φ D1) (pH_ini (img (img (img Dz 2) 21) 26))) :
    RunN Γ 0 1116 60591 (Qcc Γ (fun a => Nat.blt a 69) Φ) (XCc Γ (fun a => Nat.blt a 69) Φ) Y_L_law 0 [(7, 0), (5, 0), (5, 0), (5, 0), (5, 0), (5, 0), (5, 0)] [] 0 [] Dz := by
  have zD : ∀ a, 0 ≤ a → ∀ k, Dz a k = 0 := fun _ _ _ => rfl
  refine n_new (n := 0) d_L_law_0 nk_RL_8_0 sh_0 (by decide) (by decide) (by decide +kernel) (zD 0 (by decide)) (by decide) ?_
  refine n_dup d_L_law_3 (by decide) ?_
  refine n_callI (a := 0) (z := 0) (as := []) (rest := [(8, 0)]) (ls' := [(8, 0), (5, 0), (5, 0)]) (n := 1) (n1 := 32) (M1 := [(0, 6), (20, 2), (20, 1), (26, 3), (26, 2), (26, 1), (26, 0), (20, 0), (21, 3), (21, 2), (21, 1), (21, 0), (0, 5), (15, 3), (15, 2), (15, 1), (15, 0), (0, 4), (13, 1), (13, 0), (13, 2), (0, 3), (12, 1), (12, 0), (0, 2), (11, 1), (11, 0), (0, 1), (0, 0), (7, 0), (7, 3), (7, 2), (7, 1), (2, 3), (2, 2), (2, 1), (2, 0), (0, 7)]) (Ψ := W2 (gX Γ) (gL Γ) Φ) d_L_law_4 cki_RL_81 rfl rfl rfl (by decide) (Nat.le_of_ble_eq_true rfl) (by decide) rfl (by decide) (by decide) (by decide) (by decide +kernel) (ini_X7_0 (fun a h => zD a (Nat.le_trans (by decide) h)) h) (fun D1 e => ?_)
  obtain ⟨zD1, h1⟩ := e
  refine n_astore_n d_L_law_7 (by decide) rfl (by decide) ?_
  refine n_new (n := 32) d_L_law_8 nk_RL_82_32 sh_32 (by decide) (by decide) (by decide +kernel) (zD1 32 (by decide)) (by decide) ?_
  refine n_dup d_L_law_11 (by decide) ?_
  refine n_callI (a := 32) (z := 0) (as := []) (rest := [(40, 0)]) (ls' := [(40, 0), (5, 0)]) (n := 33) (n1 := 68) (M1 := [(32, 40), (32, 39), (32, 38), (32, 36), (32, 31), (32, 30), (32, 28), (32, 27), (32, 26), (32, 25), (32, 24), (32, 23), (32, 22), (32, 21), (32, 20), (32, 19), (32, 18), (32, 17), (32, 16), (32, 15), (32, 14), (32, 13), (32, 12), (32, 11), (32, 10), (32, 9), (32, 8), (32, 7), (32, 6), (32, 5), (32, 4), (32, 3), (32, 2), (32, 1), (32, 0), (0, 6), (20, 2), (20, 1), (26, 3), (26, 2), (26, 1), (26, 0), (20, 0), (21, 3), (21, 2), (21, 1), (21, 0), (0, 5), (15, 3), (15, 2), (15, 1), (15, 0), (0, 4), (13, 1), (13, 0), (13, 2), (0, 3), (12, 1), (12, 0), (0, 2), (11, 1), (11, 0), (0, 1), (0, 0), (7, 0), (7, 3), (7, 2), (7, 1), (2, 3), (2, 2), (2, 1), (2, 0), (0, 7)]) (Ψ := fun D2 => (∀ a, 68 ≤ a → ∀ k, D2 a k = 0) ∧ WP (some .boolean) 0 Φ (pE_law_23 (gX Γ) (gL Γ) 513 0 D2)) d_L_law_12 cki_RL_84 rfl rfl rfl (by decide) (Nat.le_of_ble_eq_true rfl) (by decide) rfl (by decide) (by decide) (by decide) (by decide +kernel) (ini_X8_32 (fun a h => zD1 a (Nat.le_trans (by decide) h)) h1) (fun D2 e => ?_)
  obtain ⟨zD2, h2⟩ := e
  refine n_astore_n d_L_law_15 (by decide) rfl (by decide) ?_
  refine n_iconst d_L_law_16 ?_
  refine n_newJ (n := 68) (len := 1) d_L_law_17 sh_68 (by decide) (by decide) (by decide) (by decide +kernel) (zD2 68 (by decide)) ?_
  refine n_astore_n d_L_law_19 (by decide) rfl (by decide) ?_
  refine n_iconst d_L_law_20 ?_
  refine n_istore d_L_law_21 (by decide) rfl ?_
  refine n_run (κ := 513) (by decide +kernel) (by decide) (by decide) (by decide +kernel) ?_
  exact run_pE_law_23 (fun a h => h) hL 513 0 D2 h2
