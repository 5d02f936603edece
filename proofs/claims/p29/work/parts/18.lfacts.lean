/-! rows that the law's own methods need -/
section LAWROWS
variable {Γ : GG} {rg : Nat → Bool} {κ : Nat} {y : YT} {pc : Nat} {ls st : List PV} {D : DD} {Φ : OT → DD → Prop} {t : Option FieldType}
theorem c_callVi0 {y' : YT} {as rest ls' : List PV} {a idx ci n N : Nat} {cs : List Nat} {TT : u_T} {z : Int} {t' : Option FieldType} {r : Res} {c : Int → DD → Res} (hd : decode (yB y) pc = .ok (.invokevirtual idx, 3)) (hC : CKV (yN y).cls idx y' n) (hn : as.length = n) (hs : SH.getD a (9, 0, []) = (0, ci, cs)) (hci : vwCl[ci]? = some ((yN y').cls, TT, N)) (ha : a < NA) (hr : rg a = true) (hst : st = as.reverse ++ (a + 8, z) :: rest) (hok : argok as = true) (hrest : (rest.map pcat).sum ≤ 8) (hfit : (lg_sl (((a + 8, z) :: as).map (mv Γ 0))).length ≤ yL y') (hk : yK y' < yK y) (hh : yH y = []) (hls : ent (yL y') ((a + 8, z) :: as) = ls') (ht' : ∀ v, rvo t' v = some (0, v)) (hR : ∀ (κ' : Nat) (Ψ : OT → DD → Prop), WP t' κ' Ψ r → Run Γ rg κ' y' 0 ls' [] D Ψ) (h : WP t 0 Φ (bnd r c)) (kk : ∀ v D1, WP t 0 Φ (c v D1) → Run Γ rg κ y (pc + 3) ls ((0, v) :: rest) D1 Φ) : Run Γ rg κ y pc ls st D Φ := by
  rcases bnd_case h with ⟨v, D1, e, h2⟩ | ⟨n1, D1, e, h1, hΦ⟩
  · exact r_callV (κ1 := 0) (κ2 := κ) (Ψ := fun o2 D2 => o2 = .inl (rvo t' v) ∧ D2 = D1) hd hC hn hs hci ha hr hst hok hrest hfit hk (Nat.zero_add κ) hh hls (hR 0 _ ⟨_, _, e, Nat.le_refl _, rfl, rfl⟩) (fun v2 D2 hq => by obtain ⟨e1, rfl⟩ := hq; rw [ht'] at e1; cases e1; exact kk v _ h2) (fun n2 D2 hq => by cases hq.1)
  · exact absurd h1 (by decide)
theorem c_callVv0 {y' : YT} {as rest ls' : List PV} {a idx ci n N : Nat} {cs : List Nat} {TT : u_T} {z : Int}  {r : Res} {c : Int → DD → Res} (hd : decode (yB y) pc = .ok (.invokevirtual idx, 3)) (hC : CKV (yN y).cls idx y' n) (hn : as.length = n) (hs : SH.getD a (9, 0, []) = (0, ci, cs)) (hci : vwCl[ci]? = some ((yN y').cls, TT, N)) (ha : a < NA) (hr : rg a = true) (hst : st = as.reverse ++ (a + 8, z) :: rest) (hok : argok as = true) (hrest : (rest.map pcat).sum ≤ 8) (hfit : (lg_sl (((a + 8, z) :: as).map (mv Γ 0))).length ≤ yL y') (hk : yK y' < yK y) (hh : yH y = []) (hls : ent (yL y') ((a + 8, z) :: as) = ls') (hR : ∀ (κ' : Nat) (Ψ : OT → DD → Prop), WP none κ' Ψ r → Run Γ rg κ' y' 0 ls' [] D Ψ) (h : WP t 0 Φ (bnd r c)) (kk : ∀ v D1, WP t 0 Φ (c v D1) → Run Γ rg κ y (pc + 3) ls (rest) D1 Φ) : Run Γ rg κ y pc ls st D Φ := by
  rcases bnd_case h with ⟨v, D1, e, h2⟩ | ⟨n1, D1, e, h1, hΦ⟩
  · exact r_callV (κ1 := 0) (κ2 := κ) (Ψ := fun o2 D2 => o2 = .inl (rvo none v) ∧ D2 = D1) hd hC hn hs hci ha hr hst hok hrest hfit hk (Nat.zero_add κ) hh hls (hR 0 _ ⟨_, _, e, Nat.le_refl _, rfl, rfl⟩) (fun v2 D2 hq => by obtain ⟨e1, rfl⟩ := hq; cases e1; exact kk v _ h2) (fun n2 D2 hq => by cases hq.1)
  · exact absurd h1 (by decide)
theorem c_callVj0 {y' : YT} {as rest ls' : List PV} {a idx ci n N : Nat} {cs : List Nat} {TT : u_T} {z : Int}  {r : Res} {c : Int → DD → Res} (hd : decode (yB y) pc = .ok (.invokevirtual idx, 3)) (hC : CKV (yN y).cls idx y' n) (hn : as.length = n) (hs : SH.getD a (9, 0, []) = (0, ci, cs)) (hci : vwCl[ci]? = some ((yN y').cls, TT, N)) (ha : a < NA) (hr : rg a = true) (hst : st = as.reverse ++ (a + 8, z) :: rest) (hok : argok as = true) (hrest : (rest.map pcat).sum ≤ 8) (hfit : (lg_sl (((a + 8, z) :: as).map (mv Γ 0))).length ≤ yL y') (hk : yK y' < yK y) (hh : yH y = []) (hls : ent (yL y') ((a + 8, z) :: as) = ls') (hR : ∀ (κ' : Nat) (Ψ : OT → DD → Prop), WP (some .long) κ' Ψ r → Run Γ rg κ' y' 0 ls' [] D Ψ) (h : WP t 0 Φ (bnd r c)) (kk : ∀ v D1, WP t 0 Φ (c v D1) → Run Γ rg κ y (pc + 3) ls ((1, v) :: rest) D1 Φ) : Run Γ rg κ y pc ls st D Φ := by
  rcases bnd_case h with ⟨v, D1, e, h2⟩ | ⟨n1, D1, e, h1, hΦ⟩
  · exact r_callV (κ1 := 0) (κ2 := κ) (Ψ := fun o2 D2 => o2 = .inl (rvo (some .long) v) ∧ D2 = D1) hd hC hn hs hci ha hr hst hok hrest hfit hk (Nat.zero_add κ) hh hls (hR 0 _ ⟨_, _, e, Nat.le_refl _, rfl, rfl⟩) (fun v2 D2 hq => by obtain ⟨e1, rfl⟩ := hq; cases e1; exact kk v _ h2) (fun n2 D2 hq => by cases hq.1)
  · exact absurd h1 (by decide)
theorem c_callSi0 {y' : YT} {as rest ls' : List PV} {idx n : Nat} {t' : Option FieldType} {r : Res} {c : Int → DD → Res} (hd : decode (yB y) pc = .ok (.invokestatic idx, 3)) (hC : CKS (yN y).cls idx y' n) (hn : as.length = n) (hst : st = as.reverse ++ rest) (hok : argok as = true) (hrest : (rest.map pcat).sum ≤ 8) (hfit : (lg_sl (as.map (mv Γ 0))).length ≤ yL y') (hk : yK y' < yK y) (hh : yH y = []) (hls : ent (yL y') as = ls') (ht' : ∀ v, rvo t' v = some (0, v)) (hR : ∀ (κ' : Nat) (Ψ : OT → DD → Prop), WP t' κ' Ψ r → Run Γ rg κ' y' 0 ls' [] D Ψ) (h : WP t 0 Φ (bnd r c)) (kk : ∀ v D1, WP t 0 Φ (c v D1) → Run Γ rg κ y (pc + 3) ls ((0, v) :: rest) D1 Φ) : Run Γ rg κ y pc ls st D Φ := by
  rcases bnd_case h with ⟨v, D1, e, h2⟩ | ⟨n1, D1, e, h1, hΦ⟩
  · exact r_callS (κ1 := 0) (κ2 := κ) (Ψ := fun o2 D2 => o2 = .inl (rvo t' v) ∧ D2 = D1) hd hC hn hst hok hrest hfit hk (Nat.zero_add κ) hh hls (hR 0 _ ⟨_, _, e, Nat.le_refl _, rfl, rfl⟩) (fun v2 D2 hq => by obtain ⟨e1, rfl⟩ := hq; rw [ht'] at e1; cases e1; exact kk v _ h2) (fun n2 D2 hq => by cases hq.1)
  · exact absurd h1 (by decide)
theorem c_callSv0 {y' : YT} {as rest ls' : List PV} {idx n : Nat}  {r : Res} {c : Int → DD → Res} (hd : decode (yB y) pc = .ok (.invokestatic idx, 3)) (hC : CKS (yN y).cls idx y' n) (hn : as.length = n) (hst : st = as.reverse ++ rest) (hok : argok as = true) (hrest : (rest.map pcat).sum ≤ 8) (hfit : (lg_sl (as.map (mv Γ 0))).length ≤ yL y') (hk : yK y' < yK y) (hh : yH y = []) (hls : ent (yL y') as = ls') (hR : ∀ (κ' : Nat) (Ψ : OT → DD → Prop), WP none κ' Ψ r → Run Γ rg κ' y' 0 ls' [] D Ψ) (h : WP t 0 Φ (bnd r c)) (kk : ∀ v D1, WP t 0 Φ (c v D1) → Run Γ rg κ y (pc + 3) ls (rest) D1 Φ) : Run Γ rg κ y pc ls st D Φ := by
  rcases bnd_case h with ⟨v, D1, e, h2⟩ | ⟨n1, D1, e, h1, hΦ⟩
  · exact r_callS (κ1 := 0) (κ2 := κ) (Ψ := fun o2 D2 => o2 = .inl (rvo none v) ∧ D2 = D1) hd hC hn hst hok hrest hfit hk (Nat.zero_add κ) hh hls (hR 0 _ ⟨_, _, e, Nat.le_refl _, rfl, rfl⟩) (fun v2 D2 hq => by obtain ⟨e1, rfl⟩ := hq; cases e1; exact kk v _ h2) (fun n2 D2 hq => by cases hq.1)
  · exact absurd h1 (by decide)
theorem c_callSj0 {y' : YT} {as rest ls' : List PV} {idx n : Nat}  {r : Res} {c : Int → DD → Res} (hd : decode (yB y) pc = .ok (.invokestatic idx, 3)) (hC : CKS (yN y).cls idx y' n) (hn : as.length = n) (hst : st = as.reverse ++ rest) (hok : argok as = true) (hrest : (rest.map pcat).sum ≤ 8) (hfit : (lg_sl (as.map (mv Γ 0))).length ≤ yL y') (hk : yK y' < yK y) (hh : yH y = []) (hls : ent (yL y') as = ls') (hR : ∀ (κ' : Nat) (Ψ : OT → DD → Prop), WP (some .long) κ' Ψ r → Run Γ rg κ' y' 0 ls' [] D Ψ) (h : WP t 0 Φ (bnd r c)) (kk : ∀ v D1, WP t 0 Φ (c v D1) → Run Γ rg κ y (pc + 3) ls ((1, v) :: rest) D1 Φ) : Run Γ rg κ y pc ls st D Φ := by
  rcases bnd_case h with ⟨v, D1, e, h2⟩ | ⟨n1, D1, e, h1, hΦ⟩
  · exact r_callS (κ1 := 0) (κ2 := κ) (Ψ := fun o2 D2 => o2 = .inl (rvo (some .long) v) ∧ D2 = D1) hd hC hn hst hok hrest hfit hk (Nat.zero_add κ) hh hls (hR 0 _ ⟨_, _, e, Nat.le_refl _, rfl, rfl⟩) (fun v2 D2 hq => by obtain ⟨e1, rfl⟩ := hq; cases e1; exact kk v _ h2) (fun n2 D2 hq => by cases hq.1)
  · exact absurd h1 (by decide)
theorem c_callSLi {y' : YT} {as rest ls' : List PV} {idx n : Nat} {κ1 κ2 : Nat} {r : Res} {c : Int → DD → Res} (hd : decode (yB y) pc = .ok (.invokestatic idx, 3)) (hC : CKS (yN y).cls idx y' n) (hn : as.length = n) (hst : st = as.reverse ++ rest) (hok : argok as = true) (hrest : (rest.map pcat).sum ≤ 8) (hfit : (lg_sl (as.map (mv Γ 0))).length ≤ yL y') (hk : yK y' < yK y) (hh : yH y = []) (hls : ent (yL y') as = ls') (hκ : κ1 + κ2 = κ) (hR : ∀ (Ψ : OT → DD → Prop), WP (some .boolean) 0 Ψ r → Run Γ rg κ1 y' 0 ls' [] D Ψ) (h : WP t 0 Φ (bnd r c)) (kk : ∀ v D1, WP t 0 Φ (c v D1) → Run Γ rg κ2 y (pc + 3) ls ((0, v) :: rest) D1 Φ) : Run Γ rg κ y pc ls st D Φ := by
  rcases bnd_case h with ⟨v, D1, e, h2⟩ | ⟨n1, D1, e, h1, hΦ⟩
  · exact r_callS (κ1 := κ1) (κ2 := κ2) (Ψ := fun o2 D2 => o2 = .inl (rvo (some .boolean) v) ∧ D2 = D1) hd hC hn hst hok hrest hfit hk hκ hh hls (hR _ ⟨_, _, e, Nat.le_refl _, rfl, rfl⟩) (fun v2 D2 hq => by obtain ⟨e1, rfl⟩ := hq; cases e1; exact kk v _ h2) (fun n2 D2 hq => by cases hq.1)
  · exact absurd h1 (by decide)
theorem c_callSLj {y' : YT} {as rest ls' : List PV} {idx n : Nat} {κ1 κ2 : Nat} {r : Res} {c : Int → DD → Res} (hd : decode (yB y) pc = .ok (.invokestatic idx, 3)) (hC : CKS (yN y).cls idx y' n) (hn : as.length = n) (hst : st = as.reverse ++ rest) (hok : argok as = true) (hrest : (rest.map pcat).sum ≤ 8) (hfit : (lg_sl (as.map (mv Γ 0))).length ≤ yL y') (hk : yK y' < yK y) (hh : yH y = []) (hls : ent (yL y') as = ls') (hκ : κ1 + κ2 = κ) (hR : ∀ (Ψ : OT → DD → Prop), WP (some .long) 0 Ψ r → Run Γ rg κ1 y' 0 ls' [] D Ψ) (h : WP t 0 Φ (bnd r c)) (kk : ∀ v D1, WP t 0 Φ (c v D1) → Run Γ rg κ2 y (pc + 3) ls ((1, v) :: rest) D1 Φ) : Run Γ rg κ y pc ls st D Φ := by
  rcases bnd_case h with ⟨v, D1, e, h2⟩ | ⟨n1, D1, e, h1, hΦ⟩
  · exact r_callS (κ1 := κ1) (κ2 := κ2) (Ψ := fun o2 D2 => o2 = .inl (rvo (some .long) v) ∧ D2 = D1) hd hC hn hst hok hrest hfit hk hκ hh hls (hR _ ⟨_, _, e, Nat.le_refl _, rfl, rfl⟩) (fun v2 D2 hq => by obtain ⟨e1, rfl⟩ := hq; cases e1; exact kk v _ h2) (fun n2 D2 hq => by cases hq.1)
  · exact absurd h1 (by decide)
end LAWROWS
abbrev Y_L_part : YT := (cL_part, 4, (some .int), yL_part, [], 1)
theorem d_L_part_0 : decode cL_part 0 = .ok (.iload_n 1, 1) := by decide +kernel
theorem d_L_part_1 : decode cL_part 1 = .ok (.aload_n 0, 1) := by decide +kernel
theorem d_L_part_2 : decode cL_part 2 = .ok (.arraylength, 1) := by decide +kernel
theorem d_L_part_3 : decode cL_part 3 = .ok (.if_icmp .ge 9, 3) := by decide +kernel
theorem d_L_part_25 : decode cL_part 25 = .ok (.istore_n 3, 1) := by decide +kernel
theorem d_L_part_26 : decode cL_part 26 = .ok (.iload_n 3, 1) := by decide +kernel
theorem d_L_part_27 : decode cL_part 27 = .ok (.ldc 7, 2) := by decide +kernel
theorem kc_RL_7 : KW (.constant RL 7 (Int32.ofInt 2147483647)) := KW.at (i := 515) (by decide +kernel) rfl
theorem d_L_part_29 : decode cL_part 29 = .ok (.iand, 1) := by decide +kernel
theorem d_L_part_30 : decode cL_part 30 = .ok (.iload_n 2, 1) := by decide +kernel
theorem d_L_part_31 : decode cL_part 31 = .ok (.irem, 1) := by decide +kernel
theorem d_L_part_32 : decode cL_part 32 = .ok (.ireturn, 1) := by decide +kernel
theorem d_L_part_12 : decode cL_part 12 = .ok (.sipush 557, 3) := by decide +kernel
theorem d_L_part_15 : decode cL_part 15 = .ok (.iload_n 1, 1) := by decide +kernel
theorem d_L_part_16 : decode cL_part 16 = .ok (.imul, 1) := by decide +kernel
theorem d_L_part_17 : decode cL_part 17 = .ok (.sipush 409, 3) := by decide +kernel
theorem d_L_part_20 : decode cL_part 20 = .ok (.iload_n 1, 1) := by decide +kernel
theorem d_L_part_21 : decode cL_part 21 = .ok (.imul, 1) := by decide +kernel
theorem d_L_part_22 : decode cL_part 22 = .ok (.iload_n 1, 1) := by decide +kernel
theorem d_L_part_23 : decode cL_part 23 = .ok (.imul, 1) := by decide +kernel
theorem d_L_part_24 : decode cL_part 24 = .ok (.iadd, 1) := by decide +kernel
theorem d_L_part_6 : decode cL_part 6 = .ok (.aload_n 0, 1) := by decide +kernel
theorem d_L_part_7 : decode cL_part 7 = .ok (.iload_n 1, 1) := by decide +kernel
theorem d_L_part_8 : decode cL_part 8 = .ok (.iaload, 1) := by decide +kernel
theorem d_L_part_9 : decode cL_part 9 = .ok (.goto 16, 3) := by decide +kernel
abbrev Y_L_key : YT := (cL_key, 4, (some .long), yL_key, [], 1)
theorem d_L_key_0 : decode cL_key 0 = .ok (.lconst 1, 1) := by decide +kernel
theorem d_L_key_1 : decode cL_key 1 = .ok (.ldc2_w 82, 3) := by decide +kernel
theorem kl_RL_82 : KW (.constantLong RL 82 (Int64.ofInt 2)) := KW.at (i := 937) (by decide +kernel) rfl
theorem d_L_key_4 : decode cL_key 4 = .ok (.iload_n 0, 1) := by decide +kernel
theorem d_L_key_5 : decode cL_key 5 = .ok (.i2l, 1) := by decide +kernel
theorem d_L_key_6 : decode cL_key 6 = .ok (.ldc2_w 84, 3) := by decide +kernel
theorem kl_RL_84 : KW (.constantLong RL 84 (Int64.ofInt 64)) := KW.at (i := 938) (by decide +kernel) rfl
theorem d_L_key_9 : decode cL_key 9 = .ok (.iload_n 1, 1) := by decide +kernel
theorem d_L_key_10 : decode cL_key 10 = .ok (.i2l, 1) := by decide +kernel
theorem d_L_key_11 : decode cL_key 11 = .ok (.ldc2_w 88, 3) := by decide +kernel
theorem kl_RL_88 : KW (.constantLong RL 88 (Int64.ofInt 10000)) := KW.at (i := 939) (by decide +kernel) rfl
theorem d_L_key_14 : decode cL_key 14 = .ok (.iload_n 2, 1) := by decide +kernel
theorem d_L_key_15 : decode cL_key 15 = .ok (.i2l, 1) := by decide +kernel
theorem d_L_key_16 : decode cL_key 16 = .ok (.lconst 1, 1) := by decide +kernel
theorem d_L_key_17 : decode cL_key 17 = .ok (.ladd, 1) := by decide +kernel
theorem d_L_key_18 : decode cL_key 18 = .ok (.ldc2_w 84, 3) := by decide +kernel
theorem d_L_key_21 : decode cL_key 21 = .ok (.iload_n 3, 1) := by decide +kernel
theorem d_L_key_22 : decode cL_key 22 = .ok (.i2l, 1) := by decide +kernel
theorem d_L_key_23 : decode cL_key 23 = .ok (.lmul, 1) := by decide +kernel
theorem d_L_key_24 : decode cL_key 24 = .ok (.ladd, 1) := by decide +kernel
theorem d_L_key_25 : decode cL_key 25 = .ok (.lmul, 1) := by decide +kernel
theorem d_L_key_26 : decode cL_key 26 = .ok (.ladd, 1) := by decide +kernel
theorem d_L_key_27 : decode cL_key 27 = .ok (.lmul, 1) := by decide +kernel
theorem d_L_key_28 : decode cL_key 28 = .ok (.ladd, 1) := by decide +kernel
theorem d_L_key_29 : decode cL_key 29 = .ok (.lmul, 1) := by decide +kernel
theorem d_L_key_30 : decode cL_key 30 = .ok (.ladd, 1) := by decide +kernel
theorem d_L_key_31 : decode cL_key 31 = .ok (.lreturn, 1) := by decide +kernel
abbrev Y_L_parent : YT := (cL_parent, 2, (some .int), yL_parent, [], 1)
theorem d_L_parent_0 : decode cL_parent 0 = .ok (.aload_n 0, 1) := by decide +kernel
theorem d_L_parent_1 : decode cL_parent 1 = .ok (.iload_n 1, 1) := by decide +kernel
theorem d_L_parent_2 : decode cL_parent 2 = .ok (.laload, 1) := by decide +kernel
theorem sh_32 : SH.getD 32 (9, 0, []) = (3, 60, []) := rfl
theorem d_L_parent_3 : decode cL_parent 3 = .ok (.ldc2_w 82, 3) := by decide +kernel
theorem d_L_parent_6 : decode cL_parent 6 = .ok (.ldiv, 1) := by decide +kernel
theorem d_L_parent_7 : decode cL_parent 7 = .ok (.ldc2_w 84, 3) := by decide +kernel
theorem d_L_parent_10 : decode cL_parent 10 = .ok (.lrem, 1) := by decide +kernel
theorem d_L_parent_11 : decode cL_parent 11 = .ok (.l2i, 1) := by decide +kernel
theorem d_L_parent_12 : decode cL_parent 12 = .ok (.ireturn, 1) := by decide +kernel
abbrev Y_L_name : YT := (cL_name, 2, (some .int), yL_name, [], 1)
theorem d_L_name_0 : decode cL_name 0 = .ok (.aload_n 0, 1) := by decide +kernel
theorem d_L_name_1 : decode cL_name 1 = .ok (.iload_n 1, 1) := by decide +kernel
theorem d_L_name_2 : decode cL_name 2 = .ok (.laload, 1) := by decide +kernel
theorem d_L_name_3 : decode cL_name 3 = .ok (.ldc2_w 86, 3) := by decide +kernel
theorem kl_RL_86 : KW (.constantLong RL 86 (Int64.ofInt 128)) := KW.at (i := 1008) (by decide +kernel) rfl
theorem d_L_name_6 : decode cL_name 6 = .ok (.ldiv, 1) := by decide +kernel
theorem d_L_name_7 : decode cL_name 7 = .ok (.ldc2_w 88, 3) := by decide +kernel
theorem d_L_name_10 : decode cL_name 10 = .ok (.lrem, 1) := by decide +kernel
theorem d_L_name_11 : decode cL_name 11 = .ok (.l2i, 1) := by decide +kernel
theorem d_L_name_12 : decode cL_name 12 = .ok (.ireturn, 1) := by decide +kernel
abbrev Y_L_rights : YT := (cL_rights, 2, (some .int), yL_rights, [], 1)
theorem d_L_rights_0 : decode cL_rights 0 = .ok (.aload_n 0, 1) := by decide +kernel
theorem d_L_rights_1 : decode cL_rights 1 = .ok (.iload_n 1, 1) := by decide +kernel
theorem d_L_rights_2 : decode cL_rights 2 = .ok (.laload, 1) := by decide +kernel
theorem d_L_rights_3 : decode cL_rights 3 = .ok (.ldc2_w 92, 3) := by decide +kernel
theorem kl_RL_92 : KW (.constantLong RL 92 (Int64.ofInt 81920000)) := KW.at (i := 1012) (by decide +kernel) rfl
theorem d_L_rights_6 : decode cL_rights 6 = .ok (.ldiv, 1) := by decide +kernel
theorem d_L_rights_7 : decode cL_rights 7 = .ok (.l2i, 1) := by decide +kernel
theorem d_L_rights_8 : decode cL_rights 8 = .ok (.ireturn, 1) := by decide +kernel
abbrev Y_L_isKey : YT := (cL_isKey, 2, (some .boolean), yL_isKey, [], 1)
theorem d_L_isKey_0 : decode cL_isKey 0 = .ok (.iload_n 1, 1) := by decide +kernel
theorem d_L_isKey_1 : decode cL_isKey 1 = .ok (.ifCond .lt 21, 3) := by decide +kernel
theorem d_L_isKey_22 : decode cL_isKey 22 = .ok (.iconst 0, 1) := by decide +kernel
theorem d_L_isKey_23 : decode cL_isKey 23 = .ok (.ireturn, 1) := by decide +kernel
theorem d_L_isKey_4 : decode cL_isKey 4 = .ok (.iload_n 1, 1) := by decide +kernel
theorem d_L_isKey_5 : decode cL_isKey 5 = .ok (.bipush 60, 2) := by decide +kernel
theorem d_L_isKey_7 : decode cL_isKey 7 = .ok (.if_icmp .ge 15, 3) := by decide +kernel
theorem d_L_isKey_10 : decode cL_isKey 10 = .ok (.aload_n 0, 1) := by decide +kernel
theorem d_L_isKey_11 : decode cL_isKey 11 = .ok (.iload_n 1, 1) := by decide +kernel
theorem d_L_isKey_12 : decode cL_isKey 12 = .ok (.laload, 1) := by decide +kernel
theorem d_L_isKey_13 : decode cL_isKey 13 = .ok (.lconst 0, 1) := by decide +kernel
theorem d_L_isKey_14 : decode cL_isKey 14 = .ok (.lcmp, 1) := by decide +kernel
theorem d_L_isKey_15 : decode cL_isKey 15 = .ok (.ifCond .le 7, 3) := by decide +kernel
theorem d_L_isKey_18 : decode cL_isKey 18 = .ok (.iconst 1, 1) := by decide +kernel
theorem d_L_isKey_19 : decode cL_isKey 19 = .ok (.goto 4, 3) := by decide +kernel
abbrev Y_L_values : YT := (cL_values, 5, (some .int), yL_values, [], 1)
theorem d_L_values_0 : decode cL_values 0 = .ok (.iconst 0, 1) := by decide +kernel
theorem d_L_values_1 : decode cL_values 1 = .ok (.istore_n 3, 1) := by decide +kernel
theorem d_L_values_2 : decode cL_values 2 = .ok (.iconst 0, 1) := by decide +kernel
theorem d_L_values_3 : decode cL_values 3 = .ok (.istore 4, 2) := by decide +kernel
theorem d_L_values_5 : decode cL_values 5 = .ok (.iload 4, 2) := by decide +kernel
theorem d_L_values_7 : decode cL_values 7 = .ok (.aload_n 1, 1) := by decide +kernel
theorem d_L_values_8 : decode cL_values 8 = .ok (.iconst 1, 1) := by decide +kernel
theorem d_L_values_9 : decode cL_values 9 = .ok (.iaload, 1) := by decide +kernel
theorem sh_41 : SH.getD 41 (9, 0, []) = (1, 13, []) := rfl
theorem d_L_values_10 : decode cL_values 10 = .ok (.if_icmp .ge 31, 3) := by decide +kernel
theorem d_L_values_41 : decode cL_values 41 = .ok (.iload_n 3, 1) := by decide +kernel
theorem d_L_values_42 : decode cL_values 42 = .ok (.ireturn, 1) := by decide +kernel
theorem d_L_values_13 : decode cL_values 13 = .ok (.iload_n 3, 1) := by decide +kernel
theorem d_L_values_14 : decode cL_values 14 = .ok (.aload_n 0, 1) := by decide +kernel
theorem d_L_values_15 : decode cL_values 15 = .ok (.iload 4, 2) := by decide +kernel
theorem d_L_values_17 : decode cL_values 17 = .ok (.laload, 1) := by decide +kernel
theorem sh_35 : SH.getD 35 (9, 0, []) = (3, 40, []) := rfl
theorem d_L_values_18 : decode cL_values 18 = .ok (.ldc2_w 84, 3) := by decide +kernel
theorem d_L_values_21 : decode cL_values 21 = .ok (.lrem, 1) := by decide +kernel
theorem d_L_values_22 : decode cL_values 22 = .ok (.iload_n 2, 1) := by decide +kernel
theorem d_L_values_23 : decode cL_values 23 = .ok (.i2l, 1) := by decide +kernel
theorem d_L_values_24 : decode cL_values 24 = .ok (.lcmp, 1) := by decide +kernel
theorem d_L_values_25 : decode cL_values 25 = .ok (.ifCond .ne 7, 3) := by decide +kernel
theorem d_L_values_33 : decode cL_values 33 = .ok (.iadd, 1) := by decide +kernel
theorem d_L_values_34 : decode cL_values 34 = .ok (.istore_n 3, 1) := by decide +kernel
theorem d_L_values_35 : decode cL_values 35 = .ok (.iinc 4 1, 3) := by decide +kernel
theorem d_L_values_38 : decode cL_values 38 = .ok (.goto (-33), 3) := by decide +kernel
theorem d_L_values_32 : decode cL_values 32 = .ok (.iconst 0, 1) := by decide +kernel
theorem d_L_values_28 : decode cL_values 28 = .ok (.iconst 1, 1) := by decide +kernel
theorem d_L_values_29 : decode cL_values 29 = .ok (.goto 4, 3) := by decide +kernel
abbrev Y_L_size : YT := (cL_size, 1, (some .int), yL_size, [], 1)
theorem d_L_size_0 : decode cL_size 0 = .ok (.iload_n 0, 1) := by decide +kernel
theorem d_L_size_1 : decode cL_size 1 = .ok (.iconst 2, 1) := by decide +kernel
theorem d_L_size_2 : decode cL_size 2 = .ok (.if_icmp .ge 7, 3) := by decide +kernel
theorem d_L_size_9 : decode cL_size 9 = .ok (.iconst 3, 1) := by decide +kernel
theorem d_L_size_10 : decode cL_size 10 = .ok (.iload_n 0, 1) := by decide +kernel
theorem d_L_size_11 : decode cL_size 11 = .ok (.iadd, 1) := by decide +kernel
theorem d_L_size_12 : decode cL_size 12 = .ok (.iconst 2, 1) := by decide +kernel
theorem d_L_size_13 : decode cL_size 13 = .ok (.iload_n 0, 1) := by decide +kernel
theorem d_L_size_14 : decode cL_size 14 = .ok (.bipush 7, 2) := by decide +kernel
theorem d_L_size_16 : decode cL_size 16 = .ok (.iadd, 1) := by decide +kernel
theorem d_L_size_17 : decode cL_size 17 = .ok (.bipush 8, 2) := by decide +kernel
theorem d_L_size_19 : decode cL_size 19 = .ok (.idiv, 1) := by decide +kernel
theorem d_L_size_20 : decode cL_size 20 = .ok (.imul, 1) := by decide +kernel
theorem d_L_size_21 : decode cL_size 21 = .ok (.iadd, 1) := by decide +kernel
theorem d_L_size_22 : decode cL_size 22 = .ok (.ireturn, 1) := by decide +kernel
theorem d_L_size_5 : decode cL_size 5 = .ok (.iconst 3, 1) := by decide +kernel
theorem d_L_size_6 : decode cL_size 6 = .ok (.goto 16, 3) := by decide +kernel
abbrev Y_L_asks : YT := (cL_asks, 6, (some .int), yL_asks, [(0, 115, 116, 49), (0, 115, 122, 51)], 8)
theorem d_L_asks_0 : decode cL_asks 0 = .ok (.iload_n 1, 1) := by decide +kernel
theorem d_L_asks_1 : decode cL_asks 1 = .ok (.ifCond .ne 12, 3) := by decide +kernel
theorem d_L_asks_13 : decode cL_asks 13 = .ok (.iload_n 1, 1) := by decide +kernel
theorem d_L_asks_14 : decode cL_asks 14 = .ok (.iconst 1, 1) := by decide +kernel
theorem d_L_asks_15 : decode cL_asks 15 = .ok (.if_icmp .ne 12, 3) := by decide +kernel
theorem d_L_asks_27 : decode cL_asks 27 = .ok (.iload_n 1, 1) := by decide +kernel
theorem d_L_asks_28 : decode cL_asks 28 = .ok (.iconst 2, 1) := by decide +kernel
theorem d_L_asks_29 : decode cL_asks 29 = .ok (.if_icmp .ne 11, 3) := by decide +kernel
theorem d_L_asks_40 : decode cL_asks 40 = .ok (.iload_n 1, 1) := by decide +kernel
theorem d_L_asks_41 : decode cL_asks 41 = .ok (.iconst 3, 1) := by decide +kernel
theorem d_L_asks_42 : decode cL_asks 42 = .ok (.if_icmp .ne 11, 3) := by decide +kernel
theorem d_L_asks_53 : decode cL_asks 53 = .ok (.iload_n 1, 1) := by decide +kernel
theorem d_L_asks_54 : decode cL_asks 54 = .ok (.iconst 4, 1) := by decide +kernel
theorem d_L_asks_55 : decode cL_asks 55 = .ok (.if_icmp .ne 14, 3) := by decide +kernel
theorem d_L_asks_69 : decode cL_asks 69 = .ok (.iload_n 1, 1) := by decide +kernel
theorem d_L_asks_70 : decode cL_asks 70 = .ok (.iconst 5, 1) := by decide +kernel
theorem d_L_asks_71 : decode cL_asks 71 = .ok (.if_icmp .ne 11, 3) := by decide +kernel
theorem d_L_asks_82 : decode cL_asks 82 = .ok (.iload_n 1, 1) := by decide +kernel
theorem d_L_asks_83 : decode cL_asks 83 = .ok (.bipush 6, 2) := by decide +kernel
theorem d_L_asks_85 : decode cL_asks 85 = .ok (.if_icmp .ne 11, 3) := by decide +kernel
theorem d_L_asks_96 : decode cL_asks 96 = .ok (.iload_n 1, 1) := by decide +kernel
theorem d_L_asks_97 : decode cL_asks 97 = .ok (.bipush 7, 2) := by decide +kernel
theorem d_L_asks_99 : decode cL_asks 99 = .ok (.if_icmp .ne 11, 3) := by decide +kernel
theorem d_L_asks_110 : decode cL_asks 110 = .ok (.aload_n 0, 1) := by decide +kernel
theorem d_L_asks_111 : decode cL_asks 111 = .ok (.iload_n 2, 1) := by decide +kernel
theorem d_L_asks_112 : decode cL_asks 112 = .ok (.invokevirtual 79, 3) := by decide +kernel
theorem mk_X7_log : MK Y_X7_log 1 := ⟨KW.at (i := 36) (by decide +kernel) rfl, KW.at (i := 458) (by decide +kernel) rfl, ⟨by decide +kernel, by decide +kernel⟩, by decide +kernel, by decide +kernel, rfl, by decide⟩
theorem vm_X7_log : KW (.instanceMethod (yN Y_X7_log)) ∧ KW (.selects (yN Y_X7_log).cls (yN Y_X7_log) (yN Y_X7_log)) := ⟨KW.at (i := 456) (by decide +kernel) rfl, KW.at (i := 457) (by decide +kernel) rfl⟩
theorem ck_RL_79 : CKV RL 79 Y_X7_log 1 := ⟨KW.at (i := 455) (by decide +kernel) rfl, vm_X7_log.1, vm_X7_log.2, mk_X7_log⟩
theorem d_L_asks_115 : decode cL_asks 115 = .ok (.ireturn, 1) := by decide +kernel
theorem d_L_asks_116 : decode cL_asks 116 = .ok (.astore 5, 2) := by decide +kernel
theorem d_L_asks_118 : decode cL_asks 118 = .ok (.sipush (-300), 3) := by decide +kernel
theorem d_L_asks_121 : decode cL_asks 121 = .ok (.ireturn, 1) := by decide +kernel
theorem d_L_asks_122 : decode cL_asks 122 = .ok (.astore 5, 2) := by decide +kernel
theorem d_L_asks_124 : decode cL_asks 124 = .ok (.sipush (-200), 3) := by decide +kernel
theorem d_L_asks_127 : decode cL_asks 127 = .ok (.ireturn, 1) := by decide +kernel
theorem hk_L_asks_112_0 : HK Y_L_asks 112 0 116 := ⟨[], (0, 115, 116, 49), [(0, 115, 122, 51)], rfl, (fun z hz => by cases hz), ⟨by decide, by decide⟩, rfl, by decide, KW.at (i := 519) (by decide +kernel) rfl, KW.at (i := 366) (by decide +kernel) rfl⟩
theorem hk_L_asks_112_1 : HK Y_L_asks 112 1 122 := ⟨[(0, 115, 116, 49)], (0, 115, 122, 51), [], rfl, (List.forall_mem_cons.mpr ⟨⟨by decide, exn 0, KW.at (i := 519) (by decide +kernel) rfl, by decide +kernel⟩, fun _ h => by cases h⟩), ⟨by decide, by decide⟩, rfl, by decide, KW.at (i := 520) (by decide +kernel) rfl, KW.at (i := 461) (by decide +kernel) rfl⟩
theorem d_L_asks_102 : decode cL_asks 102 = .ok (.aload_n 0, 1) := by decide +kernel
theorem d_L_asks_103 : decode cL_asks 103 = .ok (.iload_n 2, 1) := by decide +kernel
theorem d_L_asks_104 : decode cL_asks 104 = .ok (.invokevirtual 76, 3) := by decide +kernel
theorem mk_X7_place : MK Y_X7_place 1 := ⟨KW.at (i := 36) (by decide +kernel) rfl, KW.at (i := 933) (by decide +kernel) rfl, ⟨by decide +kernel, by decide +kernel⟩, by decide +kernel, by decide +kernel, rfl, by decide⟩
theorem vm_X7_place : KW (.instanceMethod (yN Y_X7_place)) ∧ KW (.selects (yN Y_X7_place).cls (yN Y_X7_place) (yN Y_X7_place)) := ⟨KW.at (i := 931) (by decide +kernel) rfl, KW.at (i := 932) (by decide +kernel) rfl⟩
theorem ck_RL_76 : CKV RL 76 Y_X7_place 1 := ⟨KW.at (i := 930) (by decide +kernel) rfl, vm_X7_place.1, vm_X7_place.2, mk_X7_place⟩
theorem d_L_asks_107 : decode cL_asks 107 = .ok (.goto 8, 3) := by decide +kernel
theorem hk_L_asks_104_0 : HK Y_L_asks 104 0 116 := ⟨[], (0, 115, 116, 49), [(0, 115, 122, 51)], rfl, (fun z hz => by cases hz), ⟨by decide, by decide⟩, rfl, by decide, KW.at (i := 519) (by decide +kernel) rfl, KW.at (i := 366) (by decide +kernel) rfl⟩
theorem hk_L_asks_104_1 : HK Y_L_asks 104 1 122 := ⟨[(0, 115, 116, 49)], (0, 115, 122, 51), [], rfl, (List.forall_mem_cons.mpr ⟨⟨by decide, exn 0, KW.at (i := 519) (by decide +kernel) rfl, by decide +kernel⟩, fun _ h => by cases h⟩), ⟨by decide, by decide⟩, rfl, by decide, KW.at (i := 520) (by decide +kernel) rfl, KW.at (i := 461) (by decide +kernel) rfl⟩
theorem d_L_asks_88 : decode cL_asks 88 = .ok (.aload_n 0, 1) := by decide +kernel
theorem d_L_asks_89 : decode cL_asks 89 = .ok (.iload_n 2, 1) := by decide +kernel
theorem d_L_asks_90 : decode cL_asks 90 = .ok (.invokevirtual 73, 3) := by decide +kernel
theorem mk_X7_cell : MK Y_X7_cell 1 := ⟨KW.at (i := 36) (by decide +kernel) rfl, KW.at (i := 926) (by decide +kernel) rfl, ⟨by decide +kernel, by decide +kernel⟩, by decide +kernel, by decide +kernel, rfl, by decide⟩
theorem vm_X7_cell : KW (.instanceMethod (yN Y_X7_cell)) ∧ KW (.selects (yN Y_X7_cell).cls (yN Y_X7_cell) (yN Y_X7_cell)) := ⟨KW.at (i := 924) (by decide +kernel) rfl, KW.at (i := 925) (by decide +kernel) rfl⟩
theorem ck_RL_73 : CKV RL 73 Y_X7_cell 1 := ⟨KW.at (i := 923) (by decide +kernel) rfl, vm_X7_cell.1, vm_X7_cell.2, mk_X7_cell⟩
theorem d_L_asks_93 : decode cL_asks 93 = .ok (.goto 22, 3) := by decide +kernel
theorem hk_L_asks_90_0 : HK Y_L_asks 90 0 116 := ⟨[], (0, 115, 116, 49), [(0, 115, 122, 51)], rfl, (fun z hz => by cases hz), ⟨by decide, by decide⟩, rfl, by decide, KW.at (i := 519) (by decide +kernel) rfl, KW.at (i := 366) (by decide +kernel) rfl⟩
theorem hk_L_asks_90_1 : HK Y_L_asks 90 1 122 := ⟨[(0, 115, 116, 49)], (0, 115, 122, 51), [], rfl, (List.forall_mem_cons.mpr ⟨⟨by decide, exn 0, KW.at (i := 519) (by decide +kernel) rfl, by decide +kernel⟩, fun _ h => by cases h⟩), ⟨by decide, by decide⟩, rfl, by decide, KW.at (i := 520) (by decide +kernel) rfl, KW.at (i := 461) (by decide +kernel) rfl⟩
theorem d_L_asks_74 : decode cL_asks 74 = .ok (.aload_n 0, 1) := by decide +kernel
theorem d_L_asks_75 : decode cL_asks 75 = .ok (.iload_n 2, 1) := by decide +kernel
theorem d_L_asks_76 : decode cL_asks 76 = .ok (.invokevirtual 70, 3) := by decide +kernel
theorem mk_X7_sharers : MK Y_X7_sharers 1 := ⟨KW.at (i := 36) (by decide +kernel) rfl, KW.at (i := 921) (by decide +kernel) rfl, ⟨by decide +kernel, by decide +kernel⟩, by decide +kernel, by decide +kernel, rfl, by decide⟩
theorem vm_X7_sharers : KW (.instanceMethod (yN Y_X7_sharers)) ∧ KW (.selects (yN Y_X7_sharers).cls (yN Y_X7_sharers) (yN Y_X7_sharers)) := ⟨KW.at (i := 919) (by decide +kernel) rfl, KW.at (i := 920) (by decide +kernel) rfl⟩
theorem ck_RL_70 : CKV RL 70 Y_X7_sharers 1 := ⟨KW.at (i := 918) (by decide +kernel) rfl, vm_X7_sharers.1, vm_X7_sharers.2, mk_X7_sharers⟩
theorem d_L_asks_79 : decode cL_asks 79 = .ok (.goto 36, 3) := by decide +kernel
theorem hk_L_asks_76_0 : HK Y_L_asks 76 0 116 := ⟨[], (0, 115, 116, 49), [(0, 115, 122, 51)], rfl, (fun z hz => by cases hz), ⟨by decide, by decide⟩, rfl, by decide, KW.at (i := 519) (by decide +kernel) rfl, KW.at (i := 366) (by decide +kernel) rfl⟩
theorem hk_L_asks_76_1 : HK Y_L_asks 76 1 122 := ⟨[(0, 115, 116, 49)], (0, 115, 122, 51), [], rfl, (List.forall_mem_cons.mpr ⟨⟨by decide, exn 0, KW.at (i := 519) (by decide +kernel) rfl, by decide +kernel⟩, fun _ h => by cases h⟩), ⟨by decide, by decide⟩, rfl, by decide, KW.at (i := 520) (by decide +kernel) rfl, KW.at (i := 461) (by decide +kernel) rfl⟩
theorem d_L_asks_58 : decode cL_asks 58 = .ok (.aload_n 0, 1) := by decide +kernel
theorem d_L_asks_59 : decode cL_asks 59 = .ok (.iload_n 2, 1) := by decide +kernel
theorem d_L_asks_60 : decode cL_asks 60 = .ok (.iload_n 3, 1) := by decide +kernel
theorem d_L_asks_61 : decode cL_asks 61 = .ok (.iload 4, 2) := by decide +kernel
theorem d_L_asks_63 : decode cL_asks 63 = .ok (.invokevirtual 67, 3) := by decide +kernel
theorem mk_X7_unit : MK Y_X7_unit 3 := ⟨KW.at (i := 36) (by decide +kernel) rfl, KW.at (i := 912) (by decide +kernel) rfl, ⟨by decide +kernel, by decide +kernel⟩, by decide +kernel, by decide +kernel, rfl, by decide⟩
theorem vm_X7_unit : KW (.instanceMethod (yN Y_X7_unit)) ∧ KW (.selects (yN Y_X7_unit).cls (yN Y_X7_unit) (yN Y_X7_unit)) := ⟨KW.at (i := 910) (by decide +kernel) rfl, KW.at (i := 911) (by decide +kernel) rfl⟩
theorem ck_RL_67 : CKV RL 67 Y_X7_unit 3 := ⟨KW.at (i := 909) (by decide +kernel) rfl, vm_X7_unit.1, vm_X7_unit.2, mk_X7_unit⟩
theorem d_L_asks_66 : decode cL_asks 66 = .ok (.goto 49, 3) := by decide +kernel
theorem hk_L_asks_63_0 : HK Y_L_asks 63 0 116 := ⟨[], (0, 115, 116, 49), [(0, 115, 122, 51)], rfl, (fun z hz => by cases hz), ⟨by decide, by decide⟩, rfl, by decide, KW.at (i := 519) (by decide +kernel) rfl, KW.at (i := 366) (by decide +kernel) rfl⟩
theorem hk_L_asks_63_1 : HK Y_L_asks 63 1 122 := ⟨[(0, 115, 116, 49)], (0, 115, 122, 51), [], rfl, (List.forall_mem_cons.mpr ⟨⟨by decide, exn 0, KW.at (i := 519) (by decide +kernel) rfl, by decide +kernel⟩, fun _ h => by cases h⟩), ⟨by decide, by decide⟩, rfl, by decide, KW.at (i := 520) (by decide +kernel) rfl, KW.at (i := 461) (by decide +kernel) rfl⟩
theorem d_L_asks_45 : decode cL_asks 45 = .ok (.aload_n 0, 1) := by decide +kernel
theorem d_L_asks_46 : decode cL_asks 46 = .ok (.iload_n 2, 1) := by decide +kernel
theorem d_L_asks_47 : decode cL_asks 47 = .ok (.invokevirtual 64, 3) := by decide +kernel
theorem mk_X7_follow : MK Y_X7_follow 1 := ⟨KW.at (i := 36) (by decide +kernel) rfl, KW.at (i := 351) (by decide +kernel) rfl, ⟨by decide +kernel, by decide +kernel⟩, by decide +kernel, by decide +kernel, rfl, by decide⟩
theorem vm_X7_follow : KW (.instanceMethod (yN Y_X7_follow)) ∧ KW (.selects (yN Y_X7_follow).cls (yN Y_X7_follow) (yN Y_X7_follow)) := ⟨KW.at (i := 349) (by decide +kernel) rfl, KW.at (i := 350) (by decide +kernel) rfl⟩
theorem ck_RL_64 : CKV RL 64 Y_X7_follow 1 := ⟨KW.at (i := 348) (by decide +kernel) rfl, vm_X7_follow.1, vm_X7_follow.2, mk_X7_follow⟩
theorem d_L_asks_50 : decode cL_asks 50 = .ok (.goto 65, 3) := by decide +kernel
theorem hk_L_asks_47_0 : HK Y_L_asks 47 0 116 := ⟨[], (0, 115, 116, 49), [(0, 115, 122, 51)], rfl, (fun z hz => by cases hz), ⟨by decide, by decide⟩, rfl, by decide, KW.at (i := 519) (by decide +kernel) rfl, KW.at (i := 366) (by decide +kernel) rfl⟩
theorem hk_L_asks_47_1 : HK Y_L_asks 47 1 122 := ⟨[(0, 115, 116, 49)], (0, 115, 122, 51), [], rfl, (List.forall_mem_cons.mpr ⟨⟨by decide, exn 0, KW.at (i := 519) (by decide +kernel) rfl, by decide +kernel⟩, fun _ h => by cases h⟩), ⟨by decide, by decide⟩, rfl, by decide, KW.at (i := 520) (by decide +kernel) rfl, KW.at (i := 461) (by decide +kernel) rfl⟩
theorem d_L_asks_32 : decode cL_asks 32 = .ok (.aload_n 0, 1) := by decide +kernel
theorem d_L_asks_33 : decode cL_asks 33 = .ok (.iload_n 2, 1) := by decide +kernel
theorem d_L_asks_34 : decode cL_asks 34 = .ok (.invokevirtual 61, 3) := by decide +kernel
theorem mk_X7_list : MK Y_X7_list 1 := ⟨KW.at (i := 36) (by decide +kernel) rfl, KW.at (i := 908) (by decide +kernel) rfl, ⟨by decide +kernel, by decide +kernel⟩, by decide +kernel, by decide +kernel, rfl, by decide⟩
theorem vm_X7_list : KW (.instanceMethod (yN Y_X7_list)) ∧ KW (.selects (yN Y_X7_list).cls (yN Y_X7_list) (yN Y_X7_list)) := ⟨KW.at (i := 906) (by decide +kernel) rfl, KW.at (i := 907) (by decide +kernel) rfl⟩
theorem ck_RL_61 : CKV RL 61 Y_X7_list 1 := ⟨KW.at (i := 905) (by decide +kernel) rfl, vm_X7_list.1, vm_X7_list.2, mk_X7_list⟩
theorem d_L_asks_37 : decode cL_asks 37 = .ok (.goto 78, 3) := by decide +kernel
theorem hk_L_asks_34_0 : HK Y_L_asks 34 0 116 := ⟨[], (0, 115, 116, 49), [(0, 115, 122, 51)], rfl, (fun z hz => by cases hz), ⟨by decide, by decide⟩, rfl, by decide, KW.at (i := 519) (by decide +kernel) rfl, KW.at (i := 366) (by decide +kernel) rfl⟩
theorem hk_L_asks_34_1 : HK Y_L_asks 34 1 122 := ⟨[(0, 115, 116, 49)], (0, 115, 122, 51), [], rfl, (List.forall_mem_cons.mpr ⟨⟨by decide, exn 0, KW.at (i := 519) (by decide +kernel) rfl, by decide +kernel⟩, fun _ h => by cases h⟩), ⟨by decide, by decide⟩, rfl, by decide, KW.at (i := 520) (by decide +kernel) rfl, KW.at (i := 461) (by decide +kernel) rfl⟩
theorem d_L_asks_18 : decode cL_asks 18 = .ok (.aload_n 0, 1) := by decide +kernel
theorem d_L_asks_19 : decode cL_asks 19 = .ok (.iload_n 2, 1) := by decide +kernel
theorem d_L_asks_20 : decode cL_asks 20 = .ok (.iload_n 3, 1) := by decide +kernel
theorem d_L_asks_21 : decode cL_asks 21 = .ok (.invokevirtual 58, 3) := by decide +kernel
theorem mk_X7_subkeyAt : MK Y_X7_subkeyAt 2 := ⟨KW.at (i := 36) (by decide +kernel) rfl, KW.at (i := 895) (by decide +kernel) rfl, ⟨by decide +kernel, by decide +kernel⟩, by decide +kernel, by decide +kernel, rfl, by decide⟩
theorem vm_X7_subkeyAt : KW (.instanceMethod (yN Y_X7_subkeyAt)) ∧ KW (.selects (yN Y_X7_subkeyAt).cls (yN Y_X7_subkeyAt) (yN Y_X7_subkeyAt)) := ⟨KW.at (i := 893) (by decide +kernel) rfl, KW.at (i := 894) (by decide +kernel) rfl⟩
theorem ck_RL_58 : CKV RL 58 Y_X7_subkeyAt 2 := ⟨KW.at (i := 892) (by decide +kernel) rfl, vm_X7_subkeyAt.1, vm_X7_subkeyAt.2, mk_X7_subkeyAt⟩
theorem d_L_asks_24 : decode cL_asks 24 = .ok (.goto 91, 3) := by decide +kernel
theorem hk_L_asks_21_0 : HK Y_L_asks 21 0 116 := ⟨[], (0, 115, 116, 49), [(0, 115, 122, 51)], rfl, (fun z hz => by cases hz), ⟨by decide, by decide⟩, rfl, by decide, KW.at (i := 519) (by decide +kernel) rfl, KW.at (i := 366) (by decide +kernel) rfl⟩
theorem hk_L_asks_21_1 : HK Y_L_asks 21 1 122 := ⟨[(0, 115, 116, 49)], (0, 115, 122, 51), [], rfl, (List.forall_mem_cons.mpr ⟨⟨by decide, exn 0, KW.at (i := 519) (by decide +kernel) rfl, by decide +kernel⟩, fun _ h => by cases h⟩), ⟨by decide, by decide⟩, rfl, by decide, KW.at (i := 520) (by decide +kernel) rfl, KW.at (i := 461) (by decide +kernel) rfl⟩
theorem d_L_asks_4 : decode cL_asks 4 = .ok (.aload_n 0, 1) := by decide +kernel
theorem d_L_asks_5 : decode cL_asks 5 = .ok (.iload_n 2, 1) := by decide +kernel
theorem d_L_asks_6 : decode cL_asks 6 = .ok (.iload_n 3, 1) := by decide +kernel
theorem d_L_asks_7 : decode cL_asks 7 = .ok (.invokevirtual 55, 3) := by decide +kernel
theorem mk_X7_find : MK Y_X7_find 2 := ⟨KW.at (i := 36) (by decide +kernel) rfl, KW.at (i := 891) (by decide +kernel) rfl, ⟨by decide +kernel, by decide +kernel⟩, by decide +kernel, by decide +kernel, rfl, by decide⟩
theorem vm_X7_find : KW (.instanceMethod (yN Y_X7_find)) ∧ KW (.selects (yN Y_X7_find).cls (yN Y_X7_find) (yN Y_X7_find)) := ⟨KW.at (i := 889) (by decide +kernel) rfl, KW.at (i := 890) (by decide +kernel) rfl⟩
theorem ck_RL_55 : CKV RL 55 Y_X7_find 2 := ⟨KW.at (i := 888) (by decide +kernel) rfl, vm_X7_find.1, vm_X7_find.2, mk_X7_find⟩
theorem d_L_asks_10 : decode cL_asks 10 = .ok (.goto 105, 3) := by decide +kernel
theorem hk_L_asks_7_0 : HK Y_L_asks 7 0 116 := ⟨[], (0, 115, 116, 49), [(0, 115, 122, 51)], rfl, (fun z hz => by cases hz), ⟨by decide, by decide⟩, rfl, by decide, KW.at (i := 519) (by decide +kernel) rfl, KW.at (i := 366) (by decide +kernel) rfl⟩
theorem hk_L_asks_7_1 : HK Y_L_asks 7 1 122 := ⟨[(0, 115, 116, 49)], (0, 115, 122, 51), [], rfl, (List.forall_mem_cons.mpr ⟨⟨by decide, exn 0, KW.at (i := 519) (by decide +kernel) rfl, by decide +kernel⟩, fun _ h => by cases h⟩), ⟨by decide, by decide⟩, rfl, by decide, KW.at (i := 520) (by decide +kernel) rfl, KW.at (i := 461) (by decide +kernel) rfl⟩
abbrev Y_L_file : YT := (cL_file, 12, (some .long), yL_file, [], 9)
theorem d_L_file_0 : decode cL_file 0 = .ok (.bipush 16, 2) := by decide +kernel
theorem d_L_file_2 : decode cL_file 2 = .ok (.aload_n 0, 1) := by decide +kernel
theorem d_L_file_3 : decode cL_file 3 = .ok (.invokevirtual 108, 3) := by decide +kernel
theorem mk_X7_sectors : MK Y_X7_sectors 0 := ⟨KW.at (i := 36) (by decide +kernel) rfl, KW.at (i := 949) (by decide +kernel) rfl, ⟨by decide +kernel, by decide +kernel⟩, by decide +kernel, by decide +kernel, rfl, by decide⟩
theorem vm_X7_sectors : KW (.instanceMethod (yN Y_X7_sectors)) ∧ KW (.selects (yN Y_X7_sectors).cls (yN Y_X7_sectors) (yN Y_X7_sectors)) := ⟨KW.at (i := 947) (by decide +kernel) rfl, KW.at (i := 948) (by decide +kernel) rfl⟩
theorem ck_RL_108 : CKV RL 108 Y_X7_sectors 0 := ⟨KW.at (i := 946) (by decide +kernel) rfl, vm_X7_sectors.1, vm_X7_sectors.2, mk_X7_sectors⟩
theorem d_L_file_6 : decode cL_file 6 = .ok (.imul, 1) := by decide +kernel
theorem d_L_file_7 : decode cL_file 7 = .ok (.istore_n 2, 1) := by decide +kernel
theorem d_L_file_8 : decode cL_file 8 = .ok (.iconst 4, 1) := by decide +kernel
theorem d_L_file_9 : decode cL_file 9 = .ok (.istore_n 3, 1) := by decide +kernel
theorem d_L_file_10 : decode cL_file 10 = .ok (.iconst 0, 1) := by decide +kernel
theorem d_L_file_11 : decode cL_file 11 = .ok (.istore 4, 2) := by decide +kernel
theorem d_L_file_13 : decode cL_file 13 = .ok (.ldc2_w 111, 3) := by decide +kernel
theorem kl_RL_111 : KW (.constantLong RL 111 (Int64.ofInt 7)) := KW.at (i := 950) (by decide +kernel) rfl
theorem d_L_file_16 : decode cL_file 16 = .ok (.aload_n 0, 1) := by decide +kernel
theorem d_L_file_17 : decode cL_file 17 = .ok (.invokevirtual 108, 3) := by decide +kernel
theorem d_L_file_20 : decode cL_file 20 = .ok (.i2l, 1) := by decide +kernel
theorem d_L_file_21 : decode cL_file 21 = .ok (.ladd, 1) := by decide +kernel
theorem d_L_file_22 : decode cL_file 22 = .ok (.lstore 5, 2) := by decide +kernel
theorem d_L_file_24 : decode cL_file 24 = .ok (.iconst 0, 1) := by decide +kernel
theorem d_L_file_25 : decode cL_file 25 = .ok (.istore 7, 2) := by decide +kernel
theorem d_L_file_27 : decode cL_file 27 = .ok (.aload_n 0, 1) := by decide +kernel
theorem d_L_file_28 : decode cL_file 28 = .ok (.bipush 6, 2) := by decide +kernel
theorem d_L_file_30 : decode cL_file 30 = .ok (.iload_n 2, 1) := by decide +kernel
theorem d_L_file_31 : decode cL_file 31 = .ok (.iconst 0, 1) := by decide +kernel
theorem d_L_file_32 : decode cL_file 32 = .ok (.iconst 0, 1) := by decide +kernel
theorem d_L_file_33 : decode cL_file 33 = .ok (.invokestatic 113, 3) := by decide +kernel
theorem mk_L_asks : MKH Y_L_asks 5 := ⟨KW.at (i := 35) (by decide +kernel) rfl, KW.at (i := 887) (by decide +kernel) rfl, ⟨by decide +kernel, by decide +kernel⟩, by decide +kernel, by decide +kernel, by decide⟩
theorem sm_L_asks : KW (.static (yN Y_L_asks)) := KW.at (i := 886) (by decide +kernel) rfl
theorem ck_RL_113 : CKH RL 113 Y_L_asks 5 := ⟨KW.at (i := 885) (by decide +kernel) rfl, sm_L_asks, mk_L_asks⟩
theorem d_L_file_36 : decode cL_file 36 = .ok (.sipush (-300), 3) := by decide +kernel
theorem d_L_file_39 : decode cL_file 39 = .ok (.if_icmp .ne 30, 3) := by decide +kernel
theorem d_L_file_70 : decode cL_file 70 = .ok (.istore 8, 2) := by decide +kernel
theorem d_L_file_72 : decode cL_file 72 = .ok (.iload_n 3, 1) := by decide +kernel
theorem d_L_file_73 : decode cL_file 73 = .ok (.iload_n 2, 1) := by decide +kernel
theorem d_L_file_74 : decode cL_file 74 = .ok (.if_icmp .ge 162, 3) := by decide +kernel
theorem d_L_file_77 : decode cL_file 77 = .ok (.iload 8, 2) := by decide +kernel
theorem d_L_file_79 : decode cL_file 79 = .ok (.ifCond .eq 157, 3) := by decide +kernel
theorem d_L_file_82 : decode cL_file 82 = .ok (.aload_n 0, 1) := by decide +kernel
theorem d_L_file_83 : decode cL_file 83 = .ok (.iload_n 3, 1) := by decide +kernel
theorem d_L_file_84 : decode cL_file 84 = .ok (.invokevirtual 73, 3) := by decide +kernel
theorem d_L_file_87 : decode cL_file 87 = .ok (.istore 9, 2) := by decide +kernel
theorem d_L_file_89 : decode cL_file 89 = .ok (.iload 9, 2) := by decide +kernel
theorem d_L_file_91 : decode cL_file 91 = .ok (.ifCond .ge 7, 3) := by decide +kernel
theorem d_L_file_99 : decode cL_file 99 = .ok (.istore 10, 2) := by decide +kernel
theorem d_L_file_101 : decode cL_file 101 = .ok (.iload 9, 2) := by decide +kernel
theorem d_L_file_103 : decode cL_file 103 = .ok (.ifCond .eq 17, 3) := by decide +kernel
theorem d_L_file_121 : decode cL_file 121 = .ok (.istore 8, 2) := by decide +kernel
theorem d_L_file_123 : decode cL_file 123 = .ok (.iload 10, 2) := by decide +kernel
theorem d_L_file_125 : decode cL_file 125 = .ok (.istore 7, 2) := by decide +kernel
theorem d_L_file_127 : decode cL_file 127 = .ok (.iload 10, 2) := by decide +kernel
theorem d_L_file_129 : decode cL_file 129 = .ok (.ifCond .eq 9, 3) := by decide +kernel
theorem d_L_file_140 : decode cL_file 140 = .ok (.istore 11, 2) := by decide +kernel
theorem d_L_file_142 : decode cL_file 142 = .ok (.iload 4, 2) := by decide +kernel
theorem d_L_file_144 : decode cL_file 144 = .ok (.iload 10, 2) := by decide +kernel
theorem d_L_file_146 : decode cL_file 146 = .ok (.ifCond .eq 7, 3) := by decide +kernel
theorem d_L_file_155 : decode cL_file 155 = .ok (.iadd, 1) := by decide +kernel
theorem d_L_file_156 : decode cL_file 156 = .ok (.istore 4, 2) := by decide +kernel
theorem d_L_file_158 : decode cL_file 158 = .ok (.ldc2_w 117, 3) := by decide +kernel
theorem kl_RL_117 : KW (.constantLong RL 117 (Int64.ofInt 31)) := KW.at (i := 951) (by decide +kernel) rfl
theorem d_L_file_161 : decode cL_file 161 = .ok (.lload 5, 2) := by decide +kernel
theorem d_L_file_163 : decode cL_file 163 = .ok (.lmul, 1) := by decide +kernel
theorem d_L_file_164 : decode cL_file 164 = .ok (.iload 9, 2) := by decide +kernel
theorem d_L_file_166 : decode cL_file 166 = .ok (.i2l, 1) := by decide +kernel
theorem d_L_file_167 : decode cL_file 167 = .ok (.ladd, 1) := by decide +kernel
theorem d_L_file_168 : decode cL_file 168 = .ok (.lstore 5, 2) := by decide +kernel
theorem d_L_file_170 : decode cL_file 170 = .ok (.iload 8, 2) := by decide +kernel
theorem d_L_file_172 : decode cL_file 172 = .ok (.ifCond .eq 53, 3) := by decide +kernel
theorem d_L_file_226 : decode cL_file 226 = .ok (.istore 8, 2) := by decide +kernel
theorem d_L_file_228 : decode cL_file 228 = .ok (.iload_n 3, 1) := by decide +kernel
theorem d_L_file_229 : decode cL_file 229 = .ok (.iload 11, 2) := by decide +kernel
theorem d_L_file_231 : decode cL_file 231 = .ok (.iadd, 1) := by decide +kernel
theorem d_L_file_232 : decode cL_file 232 = .ok (.istore_n 3, 1) := by decide +kernel
theorem d_L_file_233 : decode cL_file 233 = .ok (.goto (-161), 3) := by decide +kernel
theorem d_L_file_225 : decode cL_file 225 = .ok (.iconst 0, 1) := by decide +kernel
theorem d_L_file_175 : decode cL_file 175 = .ok (.iload 11, 2) := by decide +kernel
theorem d_L_file_177 : decode cL_file 177 = .ok (.iconst 1, 1) := by decide +kernel
theorem d_L_file_178 : decode cL_file 178 = .ok (.if_icmp .eq 13, 3) := by decide +kernel
theorem d_L_file_191 : decode cL_file 191 = .ok (.iload 10, 2) := by decide +kernel
theorem d_L_file_193 : decode cL_file 193 = .ok (.ifCond .ne 28, 3) := by decide +kernel
theorem d_L_file_221 : decode cL_file 221 = .ok (.iconst 1, 1) := by decide +kernel
theorem d_L_file_222 : decode cL_file 222 = .ok (.goto 4, 3) := by decide +kernel
theorem d_L_file_196 : decode cL_file 196 = .ok (.iload 11, 2) := by decide +kernel
theorem d_L_file_198 : decode cL_file 198 = .ok (.iconst 2, 1) := by decide +kernel
theorem d_L_file_199 : decode cL_file 199 = .ok (.if_icmp .eq 22, 3) := by decide +kernel
theorem d_L_file_202 : decode cL_file 202 = .ok (.iload 11, 2) := by decide +kernel
theorem d_L_file_204 : decode cL_file 204 = .ok (.iconst 3, 1) := by decide +kernel
theorem d_L_file_205 : decode cL_file 205 = .ok (.if_icmp .eq 16, 3) := by decide +kernel
theorem d_L_file_208 : decode cL_file 208 = .ok (.iload 11, 2) := by decide +kernel
theorem d_L_file_210 : decode cL_file 210 = .ok (.iconst 3, 1) := by decide +kernel
theorem d_L_file_211 : decode cL_file 211 = .ok (.if_icmp .le 14, 3) := by decide +kernel
theorem d_L_file_214 : decode cL_file 214 = .ok (.iload 11, 2) := by decide +kernel
theorem d_L_file_216 : decode cL_file 216 = .ok (.bipush 11, 2) := by decide +kernel
theorem d_L_file_218 : decode cL_file 218 = .ok (.if_icmp .ge 7, 3) := by decide +kernel
theorem d_L_file_181 : decode cL_file 181 = .ok (.aload_n 0, 1) := by decide +kernel
theorem d_L_file_182 : decode cL_file 182 = .ok (.iload_n 3, 1) := by decide +kernel
theorem d_L_file_183 : decode cL_file 183 = .ok (.iconst 1, 1) := by decide +kernel
theorem d_L_file_184 : decode cL_file 184 = .ok (.iadd, 1) := by decide +kernel
theorem d_L_file_185 : decode cL_file 185 = .ok (.invokevirtual 73, 3) := by decide +kernel
theorem d_L_file_188 : decode cL_file 188 = .ok (.ifCond .ne 37, 3) := by decide +kernel
theorem d_L_file_153 : decode cL_file 153 = .ok (.iload 11, 2) := by decide +kernel
theorem d_L_file_149 : decode cL_file 149 = .ok (.iconst 0, 1) := by decide +kernel
theorem d_L_file_150 : decode cL_file 150 = .ok (.goto 5, 3) := by decide +kernel
theorem d_L_file_138 : decode cL_file 138 = .ok (.iload 9, 2) := by decide +kernel
theorem d_L_file_132 : decode cL_file 132 = .ok (.iload 9, 2) := by decide +kernel
theorem d_L_file_134 : decode cL_file 134 = .ok (.ineg, 1) := by decide +kernel
theorem d_L_file_135 : decode cL_file 135 = .ok (.goto 5, 3) := by decide +kernel
theorem d_L_file_120 : decode cL_file 120 = .ok (.iconst 0, 1) := by decide +kernel
theorem d_L_file_106 : decode cL_file 106 = .ok (.iload 10, 2) := by decide +kernel
theorem d_L_file_108 : decode cL_file 108 = .ok (.ifCond .eq 8, 3) := by decide +kernel
theorem d_L_file_116 : decode cL_file 116 = .ok (.iconst 1, 1) := by decide +kernel
theorem d_L_file_117 : decode cL_file 117 = .ok (.goto 4, 3) := by decide +kernel
theorem d_L_file_111 : decode cL_file 111 = .ok (.iload 7, 2) := by decide +kernel
theorem d_L_file_113 : decode cL_file 113 = .ok (.ifCond .ne 7, 3) := by decide +kernel
theorem d_L_file_98 : decode cL_file 98 = .ok (.iconst 0, 1) := by decide +kernel
theorem d_L_file_94 : decode cL_file 94 = .ok (.iconst 1, 1) := by decide +kernel
theorem d_L_file_95 : decode cL_file 95 = .ok (.goto 4, 3) := by decide +kernel
theorem d_L_file_236 : decode cL_file 236 = .ok (.aload_n 1, 1) := by decide +kernel
theorem d_L_file_237 : decode cL_file 237 = .ok (.bipush 12, 2) := by decide +kernel
theorem d_L_file_239 : decode cL_file 239 = .ok (.iload 8, 2) := by decide +kernel
theorem d_L_file_241 : decode cL_file 241 = .ok (.ifCond .eq 30, 3) := by decide +kernel
theorem d_L_file_272 : decode cL_file 272 = .ok (.iastore, 1) := by decide +kernel
theorem d_L_file_273 : decode cL_file 273 = .ok (.lload 5, 2) := by decide +kernel
theorem d_L_file_275 : decode cL_file 275 = .ok (.lreturn, 1) := by decide +kernel
theorem d_L_file_271 : decode cL_file 271 = .ok (.iconst 0, 1) := by decide +kernel
theorem d_L_file_244 : decode cL_file 244 = .ok (.iload_n 3, 1) := by decide +kernel
theorem d_L_file_245 : decode cL_file 245 = .ok (.iload_n 2, 1) := by decide +kernel
theorem d_L_file_246 : decode cL_file 246 = .ok (.if_icmp .ne 25, 3) := by decide +kernel
theorem d_L_file_249 : decode cL_file 249 = .ok (.iload 4, 2) := by decide +kernel
theorem d_L_file_251 : decode cL_file 251 = .ok (.aload_n 0, 1) := by decide +kernel
theorem d_L_file_252 : decode cL_file 252 = .ok (.invokevirtual 119, 3) := by decide +kernel
theorem mk_X7_used : MK Y_X7_used 0 := ⟨KW.at (i := 36) (by decide +kernel) rfl, KW.at (i := 955) (by decide +kernel) rfl, ⟨by decide +kernel, by decide +kernel⟩, by decide +kernel, by decide +kernel, rfl, by decide⟩
theorem vm_X7_used : KW (.instanceMethod (yN Y_X7_used)) ∧ KW (.selects (yN Y_X7_used).cls (yN Y_X7_used) (yN Y_X7_used)) := ⟨KW.at (i := 953) (by decide +kernel) rfl, KW.at (i := 954) (by decide +kernel) rfl⟩
theorem ck_RL_119 : CKV RL 119 Y_X7_used 0 := ⟨KW.at (i := 952) (by decide +kernel) rfl, vm_X7_used.1, vm_X7_used.2, mk_X7_used⟩
theorem d_L_file_255 : decode cL_file 255 = .ok (.if_icmp .ne 16, 3) := by decide +kernel
theorem d_L_file_258 : decode cL_file 258 = .ok (.iload 4, 2) := by decide +kernel
theorem d_L_file_260 : decode cL_file 260 = .ok (.aload_n 0, 1) := by decide +kernel
theorem d_L_file_261 : decode cL_file 261 = .ok (.invokevirtual 122, 3) := by decide +kernel
theorem mk_X7_usedByTree : MK Y_X7_usedByTree 0 := ⟨KW.at (i := 36) (by decide +kernel) rfl, KW.at (i := 963) (by decide +kernel) rfl, ⟨by decide +kernel, by decide +kernel⟩, by decide +kernel, by decide +kernel, rfl, by decide⟩
theorem vm_X7_usedByTree : KW (.instanceMethod (yN Y_X7_usedByTree)) ∧ KW (.selects (yN Y_X7_usedByTree).cls (yN Y_X7_usedByTree) (yN Y_X7_usedByTree)) := ⟨KW.at (i := 961) (by decide +kernel) rfl, KW.at (i := 962) (by decide +kernel) rfl⟩
theorem ck_RL_122 : CKV RL 122 Y_X7_usedByTree 0 := ⟨KW.at (i := 960) (by decide +kernel) rfl, vm_X7_usedByTree.1, vm_X7_usedByTree.2, mk_X7_usedByTree⟩
theorem d_L_file_264 : decode cL_file 264 = .ok (.if_icmp .ne 7, 3) := by decide +kernel
theorem d_L_file_267 : decode cL_file 267 = .ok (.iconst 1, 1) := by decide +kernel
theorem d_L_file_268 : decode cL_file 268 = .ok (.goto 4, 3) := by decide +kernel
theorem d_L_file_69 : decode cL_file 69 = .ok (.iconst 0, 1) := by decide +kernel
theorem d_L_file_42 : decode cL_file 42 = .ok (.aload_n 0, 1) := by decide +kernel
theorem d_L_file_43 : decode cL_file 43 = .ok (.bipush 6, 2) := by decide +kernel
theorem d_L_file_45 : decode cL_file 45 = .ok (.iconst (-1), 1) := by decide +kernel
theorem d_L_file_46 : decode cL_file 46 = .ok (.iconst 0, 1) := by decide +kernel
theorem d_L_file_47 : decode cL_file 47 = .ok (.iconst 0, 1) := by decide +kernel
theorem d_L_file_48 : decode cL_file 48 = .ok (.invokestatic 113, 3) := by decide +kernel
theorem d_L_file_51 : decode cL_file 51 = .ok (.sipush (-300), 3) := by decide +kernel
theorem d_L_file_54 : decode cL_file 54 = .ok (.if_icmp .ne 15, 3) := by decide +kernel
theorem d_L_file_57 : decode cL_file 57 = .ok (.aload_n 0, 1) := by decide +kernel
theorem d_L_file_58 : decode cL_file 58 = .ok (.iconst 0, 1) := by decide +kernel
theorem d_L_file_59 : decode cL_file 59 = .ok (.invokevirtual 73, 3) := by decide +kernel
theorem d_L_file_62 : decode cL_file 62 = .ok (.ifCond .ne 7, 3) := by decide +kernel
theorem d_L_file_65 : decode cL_file 65 = .ok (.iconst 1, 1) := by decide +kernel
theorem d_L_file_66 : decode cL_file 66 = .ok (.goto 4, 3) := by decide +kernel
abbrev Y_L_isFile : YT := (cL_isFile, 2, (some .boolean), yL_isFile, [], 10)
theorem d_L_isFile_0 : decode cL_isFile 0 = .ok (.aload_n 0, 1) := by decide +kernel
theorem d_L_isFile_1 : decode cL_isFile 1 = .ok (.aload_n 1, 1) := by decide +kernel
theorem d_L_isFile_2 : decode cL_isFile 2 = .ok (.invokestatic 125, 3) := by decide +kernel
theorem mk_L_file : MK Y_L_file 2 := ⟨KW.at (i := 35) (by decide +kernel) rfl, KW.at (i := 945) (by decide +kernel) rfl, ⟨by decide +kernel, by decide +kernel⟩, by decide +kernel, by decide +kernel, rfl, by decide⟩
theorem sm_L_file : KW (.static (yN Y_L_file)) := KW.at (i := 944) (by decide +kernel) rfl
theorem ck_RL_125 : CKS RL 125 Y_L_file 2 := ⟨KW.at (i := 943) (by decide +kernel) rfl, sm_L_file, mk_L_file⟩
theorem d_L_isFile_5 : decode cL_isFile 5 = .ok (.pop2, 1) := by decide +kernel
theorem d_L_isFile_6 : decode cL_isFile 6 = .ok (.aload_n 1, 1) := by decide +kernel
theorem d_L_isFile_7 : decode cL_isFile 7 = .ok (.bipush 12, 2) := by decide +kernel
theorem d_L_isFile_9 : decode cL_isFile 9 = .ok (.iaload, 1) := by decide +kernel
theorem d_L_isFile_10 : decode cL_isFile 10 = .ok (.iconst 1, 1) := by decide +kernel
theorem d_L_isFile_11 : decode cL_isFile 11 = .ok (.if_icmp .ne 7, 3) := by decide +kernel
theorem d_L_isFile_18 : decode cL_isFile 18 = .ok (.iconst 0, 1) := by decide +kernel
theorem d_L_isFile_19 : decode cL_isFile 19 = .ok (.ireturn, 1) := by decide +kernel
theorem d_L_isFile_14 : decode cL_isFile 14 = .ok (.iconst 1, 1) := by decide +kernel
theorem d_L_isFile_15 : decode cL_isFile 15 = .ok (.goto 4, 3) := by decide +kernel
abbrev Y_L_isTree : YT := (cL_isTree, 17, (some .boolean), yL_isTree, [], 9)
theorem d_L_isTree_0 : decode cL_isTree 0 = .ok (.iconst 0, 1) := by decide +kernel
theorem d_L_isTree_1 : decode cL_isTree 1 = .ok (.istore 6, 2) := by decide +kernel
theorem d_L_isTree_3 : decode cL_isTree 3 = .ok (.aload_n 0, 1) := by decide +kernel
theorem d_L_isTree_4 : decode cL_isTree 4 = .ok (.iconst 2, 1) := by decide +kernel
theorem d_L_isTree_5 : decode cL_isTree 5 = .ok (.aload 4, 2) := by decide +kernel
theorem d_L_isTree_7 : decode cL_isTree 7 = .ok (.iconst 0, 1) := by decide +kernel
theorem d_L_isTree_8 : decode cL_isTree 8 = .ok (.iaload, 1) := by decide +kernel
theorem d_L_isTree_9 : decode cL_isTree 9 = .ok (.iconst 0, 1) := by decide +kernel
theorem d_L_isTree_10 : decode cL_isTree 10 = .ok (.iconst 0, 1) := by decide +kernel
theorem d_L_isTree_11 : decode cL_isTree 11 = .ok (.invokestatic 113, 3) := by decide +kernel
theorem d_L_isTree_14 : decode cL_isTree 14 = .ok (.sipush (-300), 3) := by decide +kernel
theorem d_L_isTree_17 : decode cL_isTree 17 = .ok (.if_icmp .ne 53, 3) := by decide +kernel
theorem d_L_isTree_71 : decode cL_isTree 71 = .ok (.istore 7, 2) := by decide +kernel
theorem d_L_isTree_73 : decode cL_isTree 73 = .ok (.iconst 0, 1) := by decide +kernel
theorem d_L_isTree_74 : decode cL_isTree 74 = .ok (.istore 8, 2) := by decide +kernel
theorem d_L_isTree_76 : decode cL_isTree 76 = .ok (.iload 8, 2) := by decide +kernel
theorem d_L_isTree_78 : decode cL_isTree 78 = .ok (.bipush 60, 2) := by decide +kernel
theorem d_L_isTree_80 : decode cL_isTree 80 = .ok (.if_icmp .ge 372, 3) := by decide +kernel
theorem d_L_isTree_83 : decode cL_isTree 83 = .ok (.iload 7, 2) := by decide +kernel
theorem d_L_isTree_85 : decode cL_isTree 85 = .ok (.ifCond .eq 367, 3) := by decide +kernel
theorem d_L_isTree_88 : decode cL_isTree 88 = .ok (.aload_n 0, 1) := by decide +kernel
theorem d_L_isTree_89 : decode cL_isTree 89 = .ok (.iconst 2, 1) := by decide +kernel
theorem d_L_isTree_90 : decode cL_isTree 90 = .ok (.iload 8, 2) := by decide +kernel
theorem d_L_isTree_92 : decode cL_isTree 92 = .ok (.iconst 0, 1) := by decide +kernel
theorem d_L_isTree_93 : decode cL_isTree 93 = .ok (.iconst 0, 1) := by decide +kernel
theorem d_L_isTree_94 : decode cL_isTree 94 = .ok (.invokestatic 113, 3) := by decide +kernel
theorem d_L_isTree_97 : decode cL_isTree 97 = .ok (.istore 9, 2) := by decide +kernel
theorem d_L_isTree_99 : decode cL_isTree 99 = .ok (.aload_n 1, 1) := by decide +kernel
theorem d_L_isTree_100 : decode cL_isTree 100 = .ok (.iload 8, 2) := by decide +kernel
theorem d_L_isTree_102 : decode cL_isTree 102 = .ok (.laload, 1) := by decide +kernel
theorem d_L_isTree_103 : decode cL_isTree 103 = .ok (.lconst 0, 1) := by decide +kernel
theorem d_L_isTree_104 : decode cL_isTree 104 = .ok (.lcmp, 1) := by decide +kernel
theorem d_L_isTree_105 : decode cL_isTree 105 = .ok (.ifCond .ne 21, 3) := by decide +kernel
theorem d_L_isTree_446 : decode cL_isTree 446 = .ok (.iinc 8 1, 3) := by decide +kernel
theorem d_L_isTree_449 : decode cL_isTree 449 = .ok (.goto (-373), 3) := by decide +kernel
theorem d_L_isTree_126 : decode cL_isTree 126 = .ok (.iconst 0, 1) := by decide +kernel
theorem d_L_isTree_127 : decode cL_isTree 127 = .ok (.istore 10, 2) := by decide +kernel
theorem d_L_isTree_129 : decode cL_isTree 129 = .ok (.iconst 1, 1) := by decide +kernel
theorem d_L_isTree_130 : decode cL_isTree 130 = .ok (.istore 11, 2) := by decide +kernel
theorem d_L_isTree_132 : decode cL_isTree 132 = .ok (.iload 11, 2) := by decide +kernel
theorem d_L_isTree_134 : decode cL_isTree 134 = .ok (.bipush 60, 2) := by decide +kernel
theorem d_L_isTree_136 : decode cL_isTree 136 = .ok (.if_icmp .ge 39, 3) := by decide +kernel
theorem d_L_isTree_139 : decode cL_isTree 139 = .ok (.iload 10, 2) := by decide +kernel
theorem d_L_isTree_141 : decode cL_isTree 141 = .ok (.aload_n 1, 1) := by decide +kernel
theorem d_L_isTree_142 : decode cL_isTree 142 = .ok (.iload 11, 2) := by decide +kernel
theorem d_L_isTree_144 : decode cL_isTree 144 = .ok (.laload, 1) := by decide +kernel
theorem d_L_isTree_145 : decode cL_isTree 145 = .ok (.lconst 0, 1) := by decide +kernel
theorem d_L_isTree_146 : decode cL_isTree 146 = .ok (.lcmp, 1) := by decide +kernel
theorem d_L_isTree_147 : decode cL_isTree 147 = .ok (.ifCond .le 18, 3) := by decide +kernel
theorem d_L_isTree_166 : decode cL_isTree 166 = .ok (.iadd, 1) := by decide +kernel
theorem d_L_isTree_167 : decode cL_isTree 167 = .ok (.istore 10, 2) := by decide +kernel
theorem d_L_isTree_169 : decode cL_isTree 169 = .ok (.iinc 11 1, 3) := by decide +kernel
theorem d_L_isTree_172 : decode cL_isTree 172 = .ok (.goto (-40), 3) := by decide +kernel
theorem d_L_isTree_165 : decode cL_isTree 165 = .ok (.iconst 0, 1) := by decide +kernel
theorem d_L_isTree_150 : decode cL_isTree 150 = .ok (.aload_n 1, 1) := by decide +kernel
theorem d_L_isTree_151 : decode cL_isTree 151 = .ok (.iload 11, 2) := by decide +kernel
theorem d_L_isTree_153 : decode cL_isTree 153 = .ok (.invokestatic 96, 3) := by decide +kernel
theorem mk_L_parent : MK Y_L_parent 2 := ⟨KW.at (i := 35) (by decide +kernel) rfl, KW.at (i := 1001) (by decide +kernel) rfl, ⟨by decide +kernel, by decide +kernel⟩, by decide +kernel, by decide +kernel, rfl, by decide⟩
theorem sm_L_parent : KW (.static (yN Y_L_parent)) := KW.at (i := 1000) (by decide +kernel) rfl
theorem ck_RL_96 : CKS RL 96 Y_L_parent 2 := ⟨KW.at (i := 999) (by decide +kernel) rfl, sm_L_parent, mk_L_parent⟩
theorem d_L_isTree_156 : decode cL_isTree 156 = .ok (.iload 8, 2) := by decide +kernel
theorem d_L_isTree_158 : decode cL_isTree 158 = .ok (.if_icmp .ne 7, 3) := by decide +kernel
theorem d_L_isTree_161 : decode cL_isTree 161 = .ok (.iconst 1, 1) := by decide +kernel
theorem d_L_isTree_162 : decode cL_isTree 162 = .ok (.goto 4, 3) := by decide +kernel
theorem d_L_isTree_175 : decode cL_isTree 175 = .ok (.iload 9, 2) := by decide +kernel
theorem d_L_isTree_177 : decode cL_isTree 177 = .ok (.bipush 10, 2) := by decide +kernel
theorem d_L_isTree_179 : decode cL_isTree 179 = .ok (.irem, 1) := by decide +kernel
theorem d_L_isTree_180 : decode cL_isTree 180 = .ok (.istore 11, 2) := by decide +kernel
theorem d_L_isTree_182 : decode cL_isTree 182 = .ok (.iload 9, 2) := by decide +kernel
theorem d_L_isTree_184 : decode cL_isTree 184 = .ok (.bipush 10, 2) := by decide +kernel
theorem d_L_isTree_186 : decode cL_isTree 186 = .ok (.idiv, 1) := by decide +kernel
theorem d_L_isTree_187 : decode cL_isTree 187 = .ok (.iload 10, 2) := by decide +kernel
theorem d_L_isTree_189 : decode cL_isTree 189 = .ok (.if_icmp .ne 54, 3) := by decide +kernel
theorem d_L_isTree_244 : decode cL_isTree 244 = .ok (.istore 7, 2) := by decide +kernel
theorem d_L_isTree_246 : decode cL_isTree 246 = .ok (.aload_n 2, 1) := by decide +kernel
theorem d_L_isTree_247 : decode cL_isTree 247 = .ok (.aload 4, 2) := by decide +kernel
theorem d_L_isTree_249 : decode cL_isTree 249 = .ok (.iload 8, 2) := by decide +kernel
theorem d_L_isTree_251 : decode cL_isTree 251 = .ok (.invokestatic 129, 3) := by decide +kernel
theorem mk_L_values : MK Y_L_values 3 := ⟨KW.at (i := 35) (by decide +kernel) rfl, KW.at (i := 1004) (by decide +kernel) rfl, ⟨by decide +kernel, by decide +kernel⟩, by decide +kernel, by decide +kernel, rfl, by decide⟩
theorem sm_L_values : KW (.static (yN Y_L_values)) := KW.at (i := 1003) (by decide +kernel) rfl
theorem ck_RL_129 : CKS RL 129 Y_L_values 3 := ⟨KW.at (i := 1002) (by decide +kernel) rfl, sm_L_values, mk_L_values⟩
theorem d_L_isTree_254 : decode cL_isTree 254 = .ok (.istore 12, 2) := by decide +kernel
theorem d_L_isTree_256 : decode cL_isTree 256 = .ok (.iload 6, 2) := by decide +kernel
theorem d_L_isTree_258 : decode cL_isTree 258 = .ok (.bipush 6, 2) := by decide +kernel
theorem d_L_isTree_260 : decode cL_isTree 260 = .ok (.iconst 5, 1) := by decide +kernel
theorem d_L_isTree_261 : decode cL_isTree 261 = .ok (.iload 11, 2) := by decide +kernel
theorem d_L_isTree_263 : decode cL_isTree 263 = .ok (.imul, 1) := by decide +kernel
theorem d_L_isTree_264 : decode cL_isTree 264 = .ok (.iadd, 1) := by decide +kernel
theorem d_L_isTree_265 : decode cL_isTree 265 = .ok (.iload 11, 2) := by decide +kernel
theorem d_L_isTree_267 : decode cL_isTree 267 = .ok (.iconst 1, 1) := by decide +kernel
theorem d_L_isTree_268 : decode cL_isTree 268 = .ok (.if_icmp .le 8, 3) := by decide +kernel
theorem d_L_isTree_277 : decode cL_isTree 277 = .ok (.iadd, 1) := by decide +kernel
theorem d_L_isTree_278 : decode cL_isTree 278 = .ok (.iload 12, 2) := by decide +kernel
theorem d_L_isTree_280 : decode cL_isTree 280 = .ok (.ifCond .ne 7, 3) := by decide +kernel
theorem d_L_isTree_307 : decode cL_isTree 307 = .ok (.iadd, 1) := by decide +kernel
theorem d_L_isTree_308 : decode cL_isTree 308 = .ok (.iadd, 1) := by decide +kernel
theorem d_L_isTree_309 : decode cL_isTree 309 = .ok (.istore 6, 2) := by decide +kernel
theorem d_L_isTree_311 : decode cL_isTree 311 = .ok (.iconst (-1), 1) := by decide +kernel
theorem d_L_isTree_312 : decode cL_isTree 312 = .ok (.istore 13, 2) := by decide +kernel
theorem d_L_isTree_314 : decode cL_isTree 314 = .ok (.iconst 0, 1) := by decide +kernel
theorem d_L_isTree_315 : decode cL_isTree 315 = .ok (.istore 14, 2) := by decide +kernel
theorem d_L_isTree_317 : decode cL_isTree 317 = .ok (.iload 14, 2) := by decide +kernel
theorem d_L_isTree_319 : decode cL_isTree 319 = .ok (.iload 10, 2) := by decide +kernel
theorem d_L_isTree_321 : decode cL_isTree 321 = .ok (.if_icmp .ge 125, 3) := by decide +kernel
theorem d_L_isTree_324 : decode cL_isTree 324 = .ok (.iload 7, 2) := by decide +kernel
theorem d_L_isTree_326 : decode cL_isTree 326 = .ok (.ifCond .eq 120, 3) := by decide +kernel
theorem d_L_isTree_329 : decode cL_isTree 329 = .ok (.aload_n 0, 1) := by decide +kernel
theorem d_L_isTree_330 : decode cL_isTree 330 = .ok (.iload 8, 2) := by decide +kernel
theorem d_L_isTree_332 : decode cL_isTree 332 = .ok (.iload 14, 2) := by decide +kernel
theorem d_L_isTree_334 : decode cL_isTree 334 = .ok (.invokevirtual 58, 3) := by decide +kernel
theorem d_L_isTree_337 : decode cL_isTree 337 = .ok (.istore 15, 2) := by decide +kernel
theorem d_L_isTree_339 : decode cL_isTree 339 = .ok (.aload_n 1, 1) := by decide +kernel
theorem d_L_isTree_340 : decode cL_isTree 340 = .ok (.iload 15, 2) := by decide +kernel
theorem d_L_isTree_342 : decode cL_isTree 342 = .ok (.invokestatic 133, 3) := by decide +kernel
theorem mk_L_isKey : MK Y_L_isKey 2 := ⟨KW.at (i := 35) (by decide +kernel) rfl, KW.at (i := 942) (by decide +kernel) rfl, ⟨by decide +kernel, by decide +kernel⟩, by decide +kernel, by decide +kernel, rfl, by decide⟩
theorem sm_L_isKey : KW (.static (yN Y_L_isKey)) := KW.at (i := 941) (by decide +kernel) rfl
theorem ck_RL_133 : CKS RL 133 Y_L_isKey 2 := ⟨KW.at (i := 940) (by decide +kernel) rfl, sm_L_isKey, mk_L_isKey⟩
theorem d_L_isTree_345 : decode cL_isTree 345 = .ok (.ifCond .eq 35, 3) := by decide +kernel
theorem d_L_isTree_381 : decode cL_isTree 381 = .ok (.istore 7, 2) := by decide +kernel
theorem d_L_isTree_383 : decode cL_isTree 383 = .ok (.iload 7, 2) := by decide +kernel
theorem d_L_isTree_385 : decode cL_isTree 385 = .ok (.ifCond .eq 29, 3) := by decide +kernel
theorem d_L_isTree_415 : decode cL_isTree 415 = .ok (.istore 16, 2) := by decide +kernel
theorem d_L_isTree_417 : decode cL_isTree 417 = .ok (.iload 7, 2) := by decide +kernel
theorem d_L_isTree_419 : decode cL_isTree 419 = .ok (.ifCond .eq 14, 3) := by decide +kernel
theorem d_L_isTree_434 : decode cL_isTree 434 = .ok (.istore 7, 2) := by decide +kernel
theorem d_L_isTree_436 : decode cL_isTree 436 = .ok (.iload 16, 2) := by decide +kernel
theorem d_L_isTree_438 : decode cL_isTree 438 = .ok (.istore 13, 2) := by decide +kernel
theorem d_L_isTree_440 : decode cL_isTree 440 = .ok (.iinc 14 1, 3) := by decide +kernel
theorem d_L_isTree_443 : decode cL_isTree 443 = .ok (.goto (-126), 3) := by decide +kernel
theorem d_L_isTree_433 : decode cL_isTree 433 = .ok (.iconst 0, 1) := by decide +kernel
theorem d_L_isTree_422 : decode cL_isTree 422 = .ok (.iload 16, 2) := by decide +kernel
theorem d_L_isTree_424 : decode cL_isTree 424 = .ok (.iload 13, 2) := by decide +kernel
theorem d_L_isTree_426 : decode cL_isTree 426 = .ok (.if_icmp .le 7, 3) := by decide +kernel
theorem d_L_isTree_429 : decode cL_isTree 429 = .ok (.iconst 1, 1) := by decide +kernel
theorem d_L_isTree_430 : decode cL_isTree 430 = .ok (.goto 4, 3) := by decide +kernel
theorem d_L_isTree_414 : decode cL_isTree 414 = .ok (.iconst 0, 1) := by decide +kernel
theorem d_L_isTree_388 : decode cL_isTree 388 = .ok (.sipush 10000, 3) := by decide +kernel
theorem d_L_isTree_391 : decode cL_isTree 391 = .ok (.bipush 7, 2) := by decide +kernel
theorem d_L_isTree_393 : decode cL_isTree 393 = .ok (.aload_n 1, 1) := by decide +kernel
theorem d_L_isTree_394 : decode cL_isTree 394 = .ok (.iload 15, 2) := by decide +kernel
theorem d_L_isTree_396 : decode cL_isTree 396 = .ok (.invokestatic 102, 3) := by decide +kernel
theorem mk_L_name : MK Y_L_name 2 := ⟨KW.at (i := 35) (by decide +kernel) rfl, KW.at (i := 1007) (by decide +kernel) rfl, ⟨by decide +kernel, by decide +kernel⟩, by decide +kernel, by decide +kernel, rfl, by decide⟩
theorem sm_L_name : KW (.static (yN Y_L_name)) := KW.at (i := 1006) (by decide +kernel) rfl
theorem ck_RL_102 : CKS RL 102 Y_L_name 2 := ⟨KW.at (i := 1005) (by decide +kernel) rfl, sm_L_name, mk_L_name⟩
theorem d_L_isTree_399 : decode cL_isTree 399 = .ok (.imul, 1) := by decide +kernel
theorem d_L_isTree_400 : decode cL_isTree 400 = .ok (.bipush 64, 2) := by decide +kernel
theorem d_L_isTree_402 : decode cL_isTree 402 = .ok (.irem, 1) := by decide +kernel
theorem d_L_isTree_403 : decode cL_isTree 403 = .ok (.imul, 1) := by decide +kernel
theorem d_L_isTree_404 : decode cL_isTree 404 = .ok (.aload_n 1, 1) := by decide +kernel
theorem d_L_isTree_405 : decode cL_isTree 405 = .ok (.iload 15, 2) := by decide +kernel
theorem d_L_isTree_407 : decode cL_isTree 407 = .ok (.invokestatic 102, 3) := by decide +kernel
theorem d_L_isTree_410 : decode cL_isTree 410 = .ok (.iadd, 1) := by decide +kernel
theorem d_L_isTree_411 : decode cL_isTree 411 = .ok (.goto 4, 3) := by decide +kernel
theorem d_L_isTree_380 : decode cL_isTree 380 = .ok (.iconst 0, 1) := by decide +kernel
theorem d_L_isTree_348 : decode cL_isTree 348 = .ok (.aload_n 1, 1) := by decide +kernel
theorem d_L_isTree_349 : decode cL_isTree 349 = .ok (.iload 15, 2) := by decide +kernel
theorem d_L_isTree_351 : decode cL_isTree 351 = .ok (.invokestatic 96, 3) := by decide +kernel
theorem d_L_isTree_354 : decode cL_isTree 354 = .ok (.iload 8, 2) := by decide +kernel
theorem d_L_isTree_356 : decode cL_isTree 356 = .ok (.if_icmp .ne 24, 3) := by decide +kernel
theorem d_L_isTree_359 : decode cL_isTree 359 = .ok (.aload_n 0, 1) := by decide +kernel
theorem d_L_isTree_360 : decode cL_isTree 360 = .ok (.iload 8, 2) := by decide +kernel
theorem d_L_isTree_362 : decode cL_isTree 362 = .ok (.aload_n 1, 1) := by decide +kernel
theorem d_L_isTree_363 : decode cL_isTree 363 = .ok (.iload 15, 2) := by decide +kernel
theorem d_L_isTree_365 : decode cL_isTree 365 = .ok (.invokestatic 102, 3) := by decide +kernel
theorem d_L_isTree_368 : decode cL_isTree 368 = .ok (.invokevirtual 55, 3) := by decide +kernel
theorem d_L_isTree_371 : decode cL_isTree 371 = .ok (.iload 15, 2) := by decide +kernel
theorem d_L_isTree_373 : decode cL_isTree 373 = .ok (.if_icmp .ne 7, 3) := by decide +kernel
theorem d_L_isTree_376 : decode cL_isTree 376 = .ok (.iconst 1, 1) := by decide +kernel
theorem d_L_isTree_377 : decode cL_isTree 377 = .ok (.goto 4, 3) := by decide +kernel
theorem d_L_isTree_287 : decode cL_isTree 287 = .ok (.aload 5, 2) := by decide +kernel
theorem d_L_isTree_289 : decode cL_isTree 289 = .ok (.iconst 0, 1) := by decide +kernel
theorem d_L_isTree_290 : decode cL_isTree 290 = .ok (.laload, 1) := by decide +kernel
theorem sh_43 : SH.getD 43 (9, 0, []) = (3, 4, []) := rfl
theorem d_L_isTree_291 : decode cL_isTree 291 = .ok (.iload 8, 2) := by decide +kernel
theorem d_L_isTree_293 : decode cL_isTree 293 = .ok (.lshr, 1) := by decide +kernel
theorem d_L_isTree_294 : decode cL_isTree 294 = .ok (.lconst 1, 1) := by decide +kernel
theorem d_L_isTree_295 : decode cL_isTree 295 = .ok (.land, 1) := by decide +kernel
theorem d_L_isTree_296 : decode cL_isTree 296 = .ok (.lconst 1, 1) := by decide +kernel
theorem d_L_isTree_297 : decode cL_isTree 297 = .ok (.lcmp, 1) := by decide +kernel
theorem d_L_isTree_298 : decode cL_isTree 298 = .ok (.ifCond .ne 8, 3) := by decide +kernel
theorem d_L_isTree_306 : decode cL_isTree 306 = .ok (.iconst 5, 1) := by decide +kernel
theorem d_L_isTree_301 : decode cL_isTree 301 = .ok (.bipush 9, 2) := by decide +kernel
theorem d_L_isTree_303 : decode cL_isTree 303 = .ok (.goto 4, 3) := by decide +kernel
theorem d_L_isTree_283 : decode cL_isTree 283 = .ok (.iconst 0, 1) := by decide +kernel
theorem d_L_isTree_284 : decode cL_isTree 284 = .ok (.goto 23, 3) := by decide +kernel
theorem d_L_isTree_276 : decode cL_isTree 276 = .ok (.iconst 0, 1) := by decide +kernel
theorem d_L_isTree_271 : decode cL_isTree 271 = .ok (.bipush 9, 2) := by decide +kernel
theorem d_L_isTree_273 : decode cL_isTree 273 = .ok (.goto 4, 3) := by decide +kernel
theorem d_L_isTree_243 : decode cL_isTree 243 = .ok (.iconst 0, 1) := by decide +kernel
theorem d_L_isTree_192 : decode cL_isTree 192 = .ok (.iconst 4, 1) := by decide +kernel
theorem d_L_isTree_193 : decode cL_isTree 193 = .ok (.iload 11, 2) := by decide +kernel
theorem d_L_isTree_195 : decode cL_isTree 195 = .ok (.imul, 1) := by decide +kernel
theorem d_L_isTree_196 : decode cL_isTree 196 = .ok (.iload 10, 2) := by decide +kernel
theorem d_L_isTree_198 : decode cL_isTree 198 = .ok (.if_icmp .lt 45, 3) := by decide +kernel
theorem d_L_isTree_201 : decode cL_isTree 201 = .ok (.iload 11, 2) := by decide +kernel
theorem d_L_isTree_203 : decode cL_isTree 203 = .ok (.iload 10, 2) := by decide +kernel
theorem d_L_isTree_205 : decode cL_isTree 205 = .ok (.if_icmp .gt 38, 3) := by decide +kernel
theorem d_L_isTree_208 : decode cL_isTree 208 = .ok (.aload_n 0, 1) := by decide +kernel
theorem d_L_isTree_209 : decode cL_isTree 209 = .ok (.aload_n 0, 1) := by decide +kernel
theorem d_L_isTree_210 : decode cL_isTree 210 = .ok (.iload 8, 2) := by decide +kernel
theorem d_L_isTree_212 : decode cL_isTree 212 = .ok (.invokevirtual 76, 3) := by decide +kernel
theorem d_L_isTree_215 : decode cL_isTree 215 = .ok (.invokevirtual 73, 3) := by decide +kernel
theorem d_L_isTree_218 : decode cL_isTree 218 = .ok (.bipush 6, 2) := by decide +kernel
theorem d_L_isTree_220 : decode cL_isTree 220 = .ok (.if_icmp .ne 23, 3) := by decide +kernel
theorem d_L_isTree_223 : decode cL_isTree 223 = .ok (.aload_n 0, 1) := by decide +kernel
theorem d_L_isTree_224 : decode cL_isTree 224 = .ok (.iconst 1, 1) := by decide +kernel
theorem d_L_isTree_225 : decode cL_isTree 225 = .ok (.iload 8, 2) := by decide +kernel
theorem d_L_isTree_227 : decode cL_isTree 227 = .ok (.iload 10, 2) := by decide +kernel
theorem d_L_isTree_229 : decode cL_isTree 229 = .ok (.iconst 0, 1) := by decide +kernel
theorem d_L_isTree_230 : decode cL_isTree 230 = .ok (.invokestatic 113, 3) := by decide +kernel
theorem d_L_isTree_233 : decode cL_isTree 233 = .ok (.sipush (-300), 3) := by decide +kernel
theorem d_L_isTree_236 : decode cL_isTree 236 = .ok (.if_icmp .ne 7, 3) := by decide +kernel
theorem d_L_isTree_239 : decode cL_isTree 239 = .ok (.iconst 1, 1) := by decide +kernel
theorem d_L_isTree_240 : decode cL_isTree 240 = .ok (.goto 4, 3) := by decide +kernel
theorem d_L_isTree_108 : decode cL_isTree 108 = .ok (.iload 9, 2) := by decide +kernel
theorem d_L_isTree_110 : decode cL_isTree 110 = .ok (.sipush (-300), 3) := by decide +kernel
theorem d_L_isTree_113 : decode cL_isTree 113 = .ok (.if_icmp .ne 7, 3) := by decide +kernel
theorem d_L_isTree_121 : decode cL_isTree 121 = .ok (.istore 7, 2) := by decide +kernel
theorem d_L_isTree_123 : decode cL_isTree 123 = .ok (.goto 323, 3) := by decide +kernel
theorem d_L_isTree_120 : decode cL_isTree 120 = .ok (.iconst 0, 1) := by decide +kernel
theorem d_L_isTree_116 : decode cL_isTree 116 = .ok (.iconst 1, 1) := by decide +kernel
theorem d_L_isTree_117 : decode cL_isTree 117 = .ok (.goto 4, 3) := by decide +kernel
theorem d_L_isTree_452 : decode cL_isTree 452 = .ok (.iconst 0, 1) := by decide +kernel
theorem d_L_isTree_453 : decode cL_isTree 453 = .ok (.istore 8, 2) := by decide +kernel
theorem d_L_isTree_455 : decode cL_isTree 455 = .ok (.iload 8, 2) := by decide +kernel
theorem d_L_isTree_457 : decode cL_isTree 457 = .ok (.bipush 60, 2) := by decide +kernel
theorem d_L_isTree_459 : decode cL_isTree 459 = .ok (.if_icmp .ge 92, 3) := by decide +kernel
theorem d_L_isTree_462 : decode cL_isTree 462 = .ok (.aload_n 1, 1) := by decide +kernel
theorem d_L_isTree_463 : decode cL_isTree 463 = .ok (.iload 8, 2) := by decide +kernel
theorem d_L_isTree_465 : decode cL_isTree 465 = .ok (.laload, 1) := by decide +kernel
theorem d_L_isTree_466 : decode cL_isTree 466 = .ok (.lconst 0, 1) := by decide +kernel
theorem d_L_isTree_467 : decode cL_isTree 467 = .ok (.lcmp, 1) := by decide +kernel
theorem d_L_isTree_468 : decode cL_isTree 468 = .ok (.ifCond .le 7, 3) := by decide +kernel
theorem d_L_isTree_476 : decode cL_isTree 476 = .ok (.istore 9, 2) := by decide +kernel
theorem d_L_isTree_478 : decode cL_isTree 478 = .ok (.iconst 0, 1) := by decide +kernel
theorem d_L_isTree_479 : decode cL_isTree 479 = .ok (.istore 10, 2) := by decide +kernel
theorem d_L_isTree_481 : decode cL_isTree 481 = .ok (.iload 10, 2) := by decide +kernel
theorem d_L_isTree_483 : decode cL_isTree 483 = .ok (.iload 8, 2) := by decide +kernel
theorem d_L_isTree_485 : decode cL_isTree 485 = .ok (.if_icmp .ge 45, 3) := by decide +kernel
theorem d_L_isTree_488 : decode cL_isTree 488 = .ok (.iload 9, 2) := by decide +kernel
theorem d_L_isTree_490 : decode cL_isTree 490 = .ok (.ifCond .eq 31, 3) := by decide +kernel
theorem d_L_isTree_522 : decode cL_isTree 522 = .ok (.istore 9, 2) := by decide +kernel
theorem d_L_isTree_524 : decode cL_isTree 524 = .ok (.iinc 10 1, 3) := by decide +kernel
theorem d_L_isTree_527 : decode cL_isTree 527 = .ok (.goto (-46), 3) := by decide +kernel
theorem d_L_isTree_521 : decode cL_isTree 521 = .ok (.iconst 0, 1) := by decide +kernel
theorem d_L_isTree_493 : decode cL_isTree 493 = .ok (.aload_n 1, 1) := by decide +kernel
theorem d_L_isTree_494 : decode cL_isTree 494 = .ok (.iload 10, 2) := by decide +kernel
theorem d_L_isTree_496 : decode cL_isTree 496 = .ok (.laload, 1) := by decide +kernel
theorem d_L_isTree_497 : decode cL_isTree 497 = .ok (.lconst 0, 1) := by decide +kernel
theorem d_L_isTree_498 : decode cL_isTree 498 = .ok (.lcmp, 1) := by decide +kernel
theorem d_L_isTree_499 : decode cL_isTree 499 = .ok (.ifCond .eq 18, 3) := by decide +kernel
theorem d_L_isTree_517 : decode cL_isTree 517 = .ok (.iconst 1, 1) := by decide +kernel
theorem d_L_isTree_518 : decode cL_isTree 518 = .ok (.goto 4, 3) := by decide +kernel
theorem d_L_isTree_502 : decode cL_isTree 502 = .ok (.aload_n 1, 1) := by decide +kernel
theorem d_L_isTree_503 : decode cL_isTree 503 = .ok (.iload 10, 2) := by decide +kernel
theorem d_L_isTree_505 : decode cL_isTree 505 = .ok (.invokestatic 105, 3) := by decide +kernel
theorem mk_L_rights : MK Y_L_rights 2 := ⟨KW.at (i := 35) (by decide +kernel) rfl, KW.at (i := 1011) (by decide +kernel) rfl, ⟨by decide +kernel, by decide +kernel⟩, by decide +kernel, by decide +kernel, rfl, by decide⟩
theorem sm_L_rights : KW (.static (yN Y_L_rights)) := KW.at (i := 1010) (by decide +kernel) rfl
theorem ck_RL_105 : CKS RL 105 Y_L_rights 2 := ⟨KW.at (i := 1009) (by decide +kernel) rfl, sm_L_rights, mk_L_rights⟩
theorem d_L_isTree_508 : decode cL_isTree 508 = .ok (.aload_n 1, 1) := by decide +kernel
theorem d_L_isTree_509 : decode cL_isTree 509 = .ok (.iload 8, 2) := by decide +kernel
theorem d_L_isTree_511 : decode cL_isTree 511 = .ok (.invokestatic 105, 3) := by decide +kernel
theorem d_L_isTree_514 : decode cL_isTree 514 = .ok (.if_icmp .eq 7, 3) := by decide +kernel
theorem d_L_isTree_530 : decode cL_isTree 530 = .ok (.iload 6, 2) := by decide +kernel
theorem d_L_isTree_532 : decode cL_isTree 532 = .ok (.iload 9, 2) := by decide +kernel
theorem d_L_isTree_534 : decode cL_isTree 534 = .ok (.ifCond .eq 7, 3) := by decide +kernel
theorem d_L_isTree_542 : decode cL_isTree 542 = .ok (.iadd, 1) := by decide +kernel
theorem d_L_isTree_543 : decode cL_isTree 543 = .ok (.istore 6, 2) := by decide +kernel
theorem d_L_isTree_545 : decode cL_isTree 545 = .ok (.iinc 8 1, 3) := by decide +kernel
theorem d_L_isTree_548 : decode cL_isTree 548 = .ok (.goto (-93), 3) := by decide +kernel
theorem d_L_isTree_541 : decode cL_isTree 541 = .ok (.iconst 0, 1) := by decide +kernel
theorem d_L_isTree_537 : decode cL_isTree 537 = .ok (.iconst 2, 1) := by decide +kernel
theorem d_L_isTree_538 : decode cL_isTree 538 = .ok (.goto 4, 3) := by decide +kernel
theorem d_L_isTree_475 : decode cL_isTree 475 = .ok (.iconst 0, 1) := by decide +kernel
theorem d_L_isTree_471 : decode cL_isTree 471 = .ok (.iconst 1, 1) := by decide +kernel
theorem d_L_isTree_472 : decode cL_isTree 472 = .ok (.goto 4, 3) := by decide +kernel
theorem d_L_isTree_551 : decode cL_isTree 551 = .ok (.iconst 0, 1) := by decide +kernel
theorem d_L_isTree_552 : decode cL_isTree 552 = .ok (.istore 8, 2) := by decide +kernel
theorem d_L_isTree_554 : decode cL_isTree 554 = .ok (.iload 8, 2) := by decide +kernel
theorem d_L_isTree_556 : decode cL_isTree 556 = .ok (.aload 4, 2) := by decide +kernel
theorem d_L_isTree_558 : decode cL_isTree 558 = .ok (.iconst 1, 1) := by decide +kernel
theorem d_L_isTree_559 : decode cL_isTree 559 = .ok (.iaload, 1) := by decide +kernel
theorem d_L_isTree_560 : decode cL_isTree 560 = .ok (.if_icmp .ge 120, 3) := by decide +kernel
theorem d_L_isTree_563 : decode cL_isTree 563 = .ok (.iload 7, 2) := by decide +kernel
theorem d_L_isTree_565 : decode cL_isTree 565 = .ok (.ifCond .eq 115, 3) := by decide +kernel
theorem d_L_isTree_568 : decode cL_isTree 568 = .ok (.aload_n 2, 1) := by decide +kernel
theorem d_L_isTree_569 : decode cL_isTree 569 = .ok (.iload 8, 2) := by decide +kernel
theorem d_L_isTree_571 : decode cL_isTree 571 = .ok (.laload, 1) := by decide +kernel
theorem d_L_isTree_572 : decode cL_isTree 572 = .ok (.ldc2_w 84, 3) := by decide +kernel
theorem d_L_isTree_575 : decode cL_isTree 575 = .ok (.lrem, 1) := by decide +kernel
theorem d_L_isTree_576 : decode cL_isTree 576 = .ok (.l2i, 1) := by decide +kernel
theorem d_L_isTree_577 : decode cL_isTree 577 = .ok (.istore 9, 2) := by decide +kernel
theorem d_L_isTree_579 : decode cL_isTree 579 = .ok (.aload_n 2, 1) := by decide +kernel
theorem d_L_isTree_580 : decode cL_isTree 580 = .ok (.iload 8, 2) := by decide +kernel
theorem d_L_isTree_582 : decode cL_isTree 582 = .ok (.laload, 1) := by decide +kernel
theorem d_L_isTree_583 : decode cL_isTree 583 = .ok (.ldc2_w 84, 3) := by decide +kernel
theorem d_L_isTree_586 : decode cL_isTree 586 = .ok (.ldiv, 1) := by decide +kernel
theorem d_L_isTree_587 : decode cL_isTree 587 = .ok (.ldc2_w 137, 3) := by decide +kernel
theorem kl_RL_137 : KW (.constantLong RL 137 (Int64.ofInt 100)) := KW.at (i := 1013) (by decide +kernel) rfl
theorem d_L_isTree_590 : decode cL_isTree 590 = .ok (.lrem, 1) := by decide +kernel
theorem d_L_isTree_591 : decode cL_isTree 591 = .ok (.l2i, 1) := by decide +kernel
theorem d_L_isTree_592 : decode cL_isTree 592 = .ok (.istore 10, 2) := by decide +kernel
theorem d_L_isTree_594 : decode cL_isTree 594 = .ok (.aload_n 2, 1) := by decide +kernel
theorem d_L_isTree_595 : decode cL_isTree 595 = .ok (.iload 8, 2) := by decide +kernel
theorem d_L_isTree_597 : decode cL_isTree 597 = .ok (.laload, 1) := by decide +kernel
theorem d_L_isTree_598 : decode cL_isTree 598 = .ok (.ldc2_w 94, 3) := by decide +kernel
theorem kl_RL_94 : KW (.constantLong RL 94 (Int64.ofInt 6400)) := KW.at (i := 1014) (by decide +kernel) rfl
theorem d_L_isTree_601 : decode cL_isTree 601 = .ok (.ldiv, 1) := by decide +kernel
theorem d_L_isTree_602 : decode cL_isTree 602 = .ok (.l2i, 1) := by decide +kernel
theorem d_L_isTree_603 : decode cL_isTree 603 = .ok (.istore 11, 2) := by decide +kernel
theorem d_L_isTree_605 : decode cL_isTree 605 = .ok (.iload 6, 2) := by decide +kernel
theorem d_L_isTree_607 : decode cL_isTree 607 = .ok (.iload 11, 2) := by decide +kernel
theorem d_L_isTree_609 : decode cL_isTree 609 = .ok (.invokestatic 139, 3) := by decide +kernel
theorem mk_L_size : MK Y_L_size 1 := ⟨KW.at (i := 35) (by decide +kernel) rfl, KW.at (i := 1017) (by decide +kernel) rfl, ⟨by decide +kernel, by decide +kernel⟩, by decide +kernel, by decide +kernel, rfl, by decide⟩
theorem sm_L_size : KW (.static (yN Y_L_size)) := KW.at (i := 1016) (by decide +kernel) rfl
theorem ck_RL_139 : CKS RL 139 Y_L_size 1 := ⟨KW.at (i := 1015) (by decide +kernel) rfl, sm_L_size, mk_L_size⟩
theorem d_L_isTree_612 : decode cL_isTree 612 = .ok (.iadd, 1) := by decide +kernel
theorem d_L_isTree_613 : decode cL_isTree 613 = .ok (.istore 6, 2) := by decide +kernel
theorem d_L_isTree_615 : decode cL_isTree 615 = .ok (.iload 11, 2) := by decide +kernel
theorem d_L_isTree_617 : decode cL_isTree 617 = .ok (.ifCond .eq 33, 3) := by decide +kernel
theorem d_L_isTree_672 : decode cL_isTree 672 = .ok (.istore 7, 2) := by decide +kernel
theorem d_L_isTree_674 : decode cL_isTree 674 = .ok (.iinc 8 1, 3) := by decide +kernel
theorem d_L_isTree_677 : decode cL_isTree 677 = .ok (.goto (-123), 3) := by decide +kernel
theorem d_L_isTree_671 : decode cL_isTree 671 = .ok (.iconst 0, 1) := by decide +kernel
theorem d_L_isTree_650 : decode cL_isTree 650 = .ok (.aload_n 0, 1) := by decide +kernel
theorem d_L_isTree_651 : decode cL_isTree 651 = .ok (.iconst 4, 1) := by decide +kernel
theorem d_L_isTree_652 : decode cL_isTree 652 = .ok (.iload 9, 2) := by decide +kernel
theorem d_L_isTree_654 : decode cL_isTree 654 = .ok (.iload 10, 2) := by decide +kernel
theorem d_L_isTree_656 : decode cL_isTree 656 = .ok (.iload 11, 2) := by decide +kernel
theorem d_L_isTree_658 : decode cL_isTree 658 = .ok (.invokestatic 113, 3) := by decide +kernel
theorem d_L_isTree_661 : decode cL_isTree 661 = .ok (.sipush (-300), 3) := by decide +kernel
theorem d_L_isTree_664 : decode cL_isTree 664 = .ok (.if_icmp .ne 7, 3) := by decide +kernel
theorem d_L_isTree_667 : decode cL_isTree 667 = .ok (.iconst 1, 1) := by decide +kernel
theorem d_L_isTree_668 : decode cL_isTree 668 = .ok (.goto 4, 3) := by decide +kernel
theorem d_L_isTree_620 : decode cL_isTree 620 = .ok (.aload_n 0, 1) := by decide +kernel
theorem d_L_isTree_621 : decode cL_isTree 621 = .ok (.iload 9, 2) := by decide +kernel
theorem d_L_isTree_623 : decode cL_isTree 623 = .ok (.iload 10, 2) := by decide +kernel
theorem d_L_isTree_625 : decode cL_isTree 625 = .ok (.iload 11, 2) := by decide +kernel
theorem d_L_isTree_627 : decode cL_isTree 627 = .ok (.iconst 1, 1) := by decide +kernel
theorem d_L_isTree_628 : decode cL_isTree 628 = .ok (.isub, 1) := by decide +kernel
theorem d_L_isTree_629 : decode cL_isTree 629 = .ok (.invokevirtual 67, 3) := by decide +kernel
theorem d_L_isTree_632 : decode cL_isTree 632 = .ok (.bipush 31, 2) := by decide +kernel
theorem d_L_isTree_634 : decode cL_isTree 634 = .ok (.aload_n 3, 1) := by decide +kernel
theorem d_L_isTree_635 : decode cL_isTree 635 = .ok (.iload 8, 2) := by decide +kernel
theorem d_L_isTree_637 : decode cL_isTree 637 = .ok (.iaload, 1) := by decide +kernel
theorem sh_38 : SH.getD 38 (9, 0, []) = (1, 40, []) := rfl
theorem d_L_isTree_638 : decode cL_isTree 638 = .ok (.imul, 1) := by decide +kernel
theorem d_L_isTree_639 : decode cL_isTree 639 = .ok (.bipush 17, 2) := by decide +kernel
theorem d_L_isTree_641 : decode cL_isTree 641 = .ok (.iload 11, 2) := by decide +kernel
theorem d_L_isTree_643 : decode cL_isTree 643 = .ok (.iconst 1, 1) := by decide +kernel
theorem d_L_isTree_644 : decode cL_isTree 644 = .ok (.isub, 1) := by decide +kernel
theorem d_L_isTree_645 : decode cL_isTree 645 = .ok (.imul, 1) := by decide +kernel
theorem d_L_isTree_646 : decode cL_isTree 646 = .ok (.iadd, 1) := by decide +kernel
theorem d_L_isTree_647 : decode cL_isTree 647 = .ok (.if_icmp .ne 24, 3) := by decide +kernel
theorem d_L_isTree_680 : decode cL_isTree 680 = .ok (.iload 7, 2) := by decide +kernel
theorem d_L_isTree_682 : decode cL_isTree 682 = .ok (.ifCond .eq 16, 3) := by decide +kernel
theorem d_L_isTree_698 : decode cL_isTree 698 = .ok (.iconst 0, 1) := by decide +kernel
theorem d_L_isTree_699 : decode cL_isTree 699 = .ok (.ireturn, 1) := by decide +kernel
theorem d_L_isTree_685 : decode cL_isTree 685 = .ok (.iload 6, 2) := by decide +kernel
theorem d_L_isTree_687 : decode cL_isTree 687 = .ok (.aload_n 0, 1) := by decide +kernel
theorem d_L_isTree_688 : decode cL_isTree 688 = .ok (.invokevirtual 119, 3) := by decide +kernel
theorem d_L_isTree_691 : decode cL_isTree 691 = .ok (.if_icmp .ne 7, 3) := by decide +kernel
theorem d_L_isTree_694 : decode cL_isTree 694 = .ok (.iconst 1, 1) := by decide +kernel
theorem d_L_isTree_695 : decode cL_isTree 695 = .ok (.goto 4, 3) := by decide +kernel
theorem d_L_isTree_70 : decode cL_isTree 70 = .ok (.iconst 0, 1) := by decide +kernel
theorem d_L_isTree_20 : decode cL_isTree 20 = .ok (.aload_n 0, 1) := by decide +kernel
theorem d_L_isTree_21 : decode cL_isTree 21 = .ok (.iconst 3, 1) := by decide +kernel
theorem d_L_isTree_22 : decode cL_isTree 22 = .ok (.iconst (-1), 1) := by decide +kernel
theorem d_L_isTree_23 : decode cL_isTree 23 = .ok (.iconst 0, 1) := by decide +kernel
theorem d_L_isTree_24 : decode cL_isTree 24 = .ok (.iconst 0, 1) := by decide +kernel
theorem d_L_isTree_25 : decode cL_isTree 25 = .ok (.invokestatic 113, 3) := by decide +kernel
theorem d_L_isTree_28 : decode cL_isTree 28 = .ok (.sipush (-300), 3) := by decide +kernel
theorem d_L_isTree_31 : decode cL_isTree 31 = .ok (.if_icmp .ne 39, 3) := by decide +kernel
theorem d_L_isTree_34 : decode cL_isTree 34 = .ok (.aload_n 0, 1) := by decide +kernel
theorem d_L_isTree_35 : decode cL_isTree 35 = .ok (.bipush 7, 2) := by decide +kernel
theorem d_L_isTree_37 : decode cL_isTree 37 = .ok (.bipush 80, 2) := by decide +kernel
theorem d_L_isTree_39 : decode cL_isTree 39 = .ok (.iconst 0, 1) := by decide +kernel
theorem d_L_isTree_40 : decode cL_isTree 40 = .ok (.iconst 0, 1) := by decide +kernel
theorem d_L_isTree_41 : decode cL_isTree 41 = .ok (.invokestatic 113, 3) := by decide +kernel
theorem d_L_isTree_44 : decode cL_isTree 44 = .ok (.sipush (-300), 3) := by decide +kernel
theorem d_L_isTree_47 : decode cL_isTree 47 = .ok (.if_icmp .ne 23, 3) := by decide +kernel
theorem d_L_isTree_50 : decode cL_isTree 50 = .ok (.aload_n 0, 1) := by decide +kernel
theorem d_L_isTree_51 : decode cL_isTree 51 = .ok (.iconst 0, 1) := by decide +kernel
theorem d_L_isTree_52 : decode cL_isTree 52 = .ok (.iconst 0, 1) := by decide +kernel
theorem d_L_isTree_53 : decode cL_isTree 53 = .ok (.sipush 10000, 3) := by decide +kernel
theorem d_L_isTree_56 : decode cL_isTree 56 = .ok (.iconst 0, 1) := by decide +kernel
theorem d_L_isTree_57 : decode cL_isTree 57 = .ok (.invokestatic 113, 3) := by decide +kernel
theorem d_L_isTree_60 : decode cL_isTree 60 = .ok (.sipush (-200), 3) := by decide +kernel
theorem d_L_isTree_63 : decode cL_isTree 63 = .ok (.if_icmp .ne 7, 3) := by decide +kernel
theorem d_L_isTree_66 : decode cL_isTree 66 = .ok (.iconst 1, 1) := by decide +kernel
theorem d_L_isTree_67 : decode cL_isTree 67 = .ok (.goto 4, 3) := by decide +kernel
abbrev Y_L_copies : YT := (cL_copies, 7, none, yL_copies, [], 1)
theorem d_L_copies_0 : decode cL_copies 0 = .ok (.iconst 0, 1) := by decide +kernel
theorem d_L_copies_1 : decode cL_copies 1 = .ok (.istore 6, 2) := by decide +kernel
theorem d_L_copies_3 : decode cL_copies 3 = .ok (.iload 6, 2) := by decide +kernel
theorem d_L_copies_5 : decode cL_copies 5 = .ok (.bipush 60, 2) := by decide +kernel
theorem d_L_copies_7 : decode cL_copies 7 = .ok (.if_icmp .ge 19, 3) := by decide +kernel
theorem d_L_copies_10 : decode cL_copies 10 = .ok (.aload 5, 2) := by decide +kernel
theorem d_L_copies_12 : decode cL_copies 12 = .ok (.iload 6, 2) := by decide +kernel
theorem d_L_copies_14 : decode cL_copies 14 = .ok (.aload 4, 2) := by decide +kernel
theorem d_L_copies_16 : decode cL_copies 16 = .ok (.iload 6, 2) := by decide +kernel
theorem d_L_copies_18 : decode cL_copies 18 = .ok (.laload, 1) := by decide +kernel
theorem sh_34 : SH.getD 34 (9, 0, []) = (3, 60, []) := rfl
theorem d_L_copies_19 : decode cL_copies 19 = .ok (.lastore, 1) := by decide +kernel
theorem d_L_copies_20 : decode cL_copies 20 = .ok (.iinc 6 1, 3) := by decide +kernel
theorem d_L_copies_23 : decode cL_copies 23 = .ok (.goto (-20), 3) := by decide +kernel
theorem d_L_copies_26 : decode cL_copies 26 = .ok (.iconst 0, 1) := by decide +kernel
theorem d_L_copies_27 : decode cL_copies 27 = .ok (.istore 6, 2) := by decide +kernel
theorem d_L_copies_29 : decode cL_copies 29 = .ok (.iload 6, 2) := by decide +kernel
theorem d_L_copies_31 : decode cL_copies 31 = .ok (.bipush 40, 2) := by decide +kernel
theorem d_L_copies_33 : decode cL_copies 33 = .ok (.if_icmp .ge 25, 3) := by decide +kernel
theorem d_L_copies_58 : decode cL_copies 58 = .ok (.return_, 1) := by decide +kernel
theorem d_L_copies_36 : decode cL_copies 36 = .ok (.aload_n 1, 1) := by decide +kernel
theorem d_L_copies_37 : decode cL_copies 37 = .ok (.iload 6, 2) := by decide +kernel
theorem d_L_copies_39 : decode cL_copies 39 = .ok (.aload_n 0, 1) := by decide +kernel
theorem d_L_copies_40 : decode cL_copies 40 = .ok (.iload 6, 2) := by decide +kernel
theorem d_L_copies_42 : decode cL_copies 42 = .ok (.laload, 1) := by decide +kernel
theorem sh_37 : SH.getD 37 (9, 0, []) = (3, 40, []) := rfl
theorem d_L_copies_43 : decode cL_copies 43 = .ok (.lastore, 1) := by decide +kernel
theorem d_L_copies_44 : decode cL_copies 44 = .ok (.aload_n 3, 1) := by decide +kernel
theorem d_L_copies_45 : decode cL_copies 45 = .ok (.iload 6, 2) := by decide +kernel
theorem d_L_copies_47 : decode cL_copies 47 = .ok (.aload_n 2, 1) := by decide +kernel
theorem d_L_copies_48 : decode cL_copies 48 = .ok (.iload 6, 2) := by decide +kernel
theorem d_L_copies_50 : decode cL_copies 50 = .ok (.iaload, 1) := by decide +kernel
theorem sh_40 : SH.getD 40 (9, 0, []) = (1, 40, []) := rfl
theorem d_L_copies_51 : decode cL_copies 51 = .ok (.iastore, 1) := by decide +kernel
theorem d_L_copies_52 : decode cL_copies 52 = .ok (.iinc 6 1, 3) := by decide +kernel
theorem d_L_copies_55 : decode cL_copies 55 = .ok (.goto (-26), 3) := by decide +kernel
