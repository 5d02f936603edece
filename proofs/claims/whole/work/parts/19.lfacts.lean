/-! the law's loop -/
section LAWROWS
variable {Γ : GG} {rg : Nat → Bool} {κ : Nat} {y : YT} {pc : Nat} {ls st : List PV} {D : DD} {Φ : OT → DD → Prop} {t : Option FieldType}
theorem c_sld0 {i z : Int} {c : Int → Res} (hd : decode (yB y) pc = .ok (.iaload, 1)) (hL : gL Γ < 2147483648) (h : WP t 0 Φ (rdX (gX Γ) (gL Γ) i D c))
    (kk : ∀ v, WP t 0 Φ (c v) → Run Γ rg κ y (pc + 1) ls ((0, v) :: st) D Φ) : Run Γ rg κ y pc ls ((0, i) :: (7, z) :: st) D Φ := by
  unfold rdX at h
  split at h
  · rename_i g
    exact Run.st1 (ofI_w32 i) (r_sld hd hL g.1 g.2 (kk _ h))
  · exact h.no.elim
theorem r_tswIn {a dflt lo hi off : Int} {offs : Array Int} {len tgt : Nat} (hd : decode (yB y) pc = .ok (.tableswitch dflt lo hi offs, len)) (hR : inR a) (h1 : ¬ a < lo) (h2 : ¬ hi < a) (ho : offs[(a - lo).toNat]? = some off) (ht : (pc : Int) + off = (tgt : Int)) (k : Run Γ rg κ y tgt ls st D Φ) : Run Γ rg κ y pc ls ((0, a) :: st) D Φ := by
  intro p e R s m args below meth c H locs lsm cells slots q mc ms C hH hS hl h3 h4 h5 h6
  have e1 := inR_toInt hR
  exact lv_tableIn C.1 C.2.1 hd (by rw [e1]; exact h1) (by rw [e1]; exact h2) (by rw [e1]; exact ho) ht (k p e R s m args below meth c H locs lsm cells slots q mc ms C hH hS hl h3 h4 h5 h6)
theorem r_tswOut {a dflt lo hi : Int} {offs : Array Int} {len tgt : Nat} (hd : decode (yB y) pc = .ok (.tableswitch dflt lo hi offs, len)) (hR : inR a) (h1 : a < lo ∨ hi < a) (ht : (pc : Int) + dflt = (tgt : Int)) (k : Run Γ rg κ y tgt ls st D Φ) : Run Γ rg κ y pc ls ((0, a) :: st) D Φ := by
  intro p e R s m args below meth c H locs lsm cells slots q mc ms C hH hS hl h3 h4 h5 h6
  exact lv_tableOut C.1 C.2.1 hd (by rw [inR_toInt hR]; exact h1) ht (k p e R s m args below meth c H locs lsm cells slots q mc ms C hH hS hl h3 h4 h5 h6)
theorem c_sw1 {a a' dflt lo hi off i : Int} {offs : Array Int} {len tgt : Nat} {G : Res → Prop} {A B : Res} (hd : decode (yB y) pc = .ok (.tableswitch dflt lo hi offs, len)) (ha : nz a a') (h1 : ¬ i < lo) (h2 : ¬ hi < i) (ho : offs[(i - lo).toNat]? = some off) (ht : (pc : Int) + off = (tgt : Int)) (h : G (if a' = i then A else B))
    (kt : G A → Run Γ rg κ y tgt ls st D Φ) (kf : ¬ a' = i → G B → Run Γ rg κ y pc ls ((0, a) :: st) D Φ) : Run Γ rg κ y pc ls ((0, a) :: st) D Φ := by
  by_cases g : a' = i
  · rw [if_pos g] at h
    refine Run.st1 ha.1 (r_tswIn hd ha.2 (by rw [g]; exact h1) (by rw [g]; exact h2) (by rw [g]; exact ho) ht (kt h))
  · rw [if_neg g] at h
    exact kf g h
theorem c_sw0 {a a' dflt lo hi : Int} {offs : Array Int} {len tgt : Nat} (hd : decode (yB y) pc = .ok (.tableswitch dflt lo hi offs, len)) (ha : nz a a') (h1 : a' < lo ∨ hi < a') (ht : (pc : Int) + dflt = (tgt : Int))
    (k : Run Γ rg κ y tgt ls st D Φ) : Run Γ rg κ y pc ls ((0, a) :: st) D Φ := Run.st1 ha.1 (r_tswOut hd ha.2 h1 ht k)
theorem c_zret0 {x : Int} (hd : decode (yB y) pc = .ok (.ireturn, 1)) (hr : yR y = some .boolean) (hz : x = 0 ∨ x = 1) (h : WP (some .boolean) 0 Φ (okR x D)) : Run Γ rg κ y pc ls [(0, x)] D Φ := r_zret hd hr hz h.ok
theorem c_callVi0 {y' : YT} {as rest ls' : List PV} {a idx ci n N : Nat} {cs : List Nat} {TT : u_T} {z : Int} {t' : Option FieldType} {r : Res} {c : Int → DD → Res} (hd : decode (yB y) pc = .ok (.invokevirtual idx, 3)) (hC : CKV (yN y).cls idx y' n) (hn : as.length = n) (hs : SH.getD a (9, 0, []) = (0, ci, cs)) (hci : vwCl[ci]? = some ((yN y').cls, TT, N)) (ha : a < NA) (hr : rg a = true) (hst : st = as.reverse ++ (a + 8, z) :: rest) (hok : argok as = true) (hrest : (rest.map pcat).sum ≤ 8) (hfit : (lg_sl (((a + 8, z) :: as).map (mv Γ 0))).length ≤ yL y') (hk : yK y' < yK y) (hh : yH y = []) (hls : ent (yL y') ((a + 8, z) :: as) = ls') (ht' : ∀ v, rvo t' v = some (0, v)) (hR : ∀ (κ' : Nat) (Ψ : OT → DD → Prop), WP t' κ' Ψ r → Run Γ rg κ' y' 0 ls' [] D Ψ) (h : WP t 0 Φ (bnd r c)) (kk : ∀ v D1, WP t 0 Φ (c v D1) → Run Γ rg κ y (pc + 3) ls ((0, v) :: rest) D1 Φ) : Run Γ rg κ y pc ls st D Φ := by
  rcases bnd_case h with ⟨v, D1, e, h2⟩ | ⟨n1, D1, e, h1, hΦ⟩
  · exact r_callV (κ1 := 0) (κ2 := κ) (Ψ := fun o2 D2 => o2 = .inl (rvo t' v) ∧ D2 = D1) hd hC hn hs hci ha hr hst hok hrest hfit hk (Nat.zero_add κ) hh hls (hR 0 _ ⟨_, _, e, Nat.le_refl _, rfl, rfl⟩) (fun v2 D2 hq => by obtain ⟨e1, rfl⟩ := hq; rw [ht'] at e1; cases e1; exact kk v _ h2) (fun n2 D2 hq => by cases hq.1)
  · exact absurd h1 (by decide)
theorem c_callVv0 {y' : YT} {as rest ls' : List PV} {a idx ci n N : Nat} {cs : List Nat} {TT : u_T} {z : Int}  {r : Res} {c : Int → DD → Res} (hd : decode (yB y) pc = .ok (.invokevirtual idx, 3)) (hC : CKV (yN y).cls idx y' n) (hn : as.length = n) (hs : SH.getD a (9, 0, []) = (0, ci, cs)) (hci : vwCl[ci]? = some ((yN y').cls, TT, N)) (ha : a < NA) (hr : rg a = true) (hst : st = as.reverse ++ (a + 8, z) :: rest) (hok : argok as = true) (hrest : (rest.map pcat).sum ≤ 8) (hfit : (lg_sl (((a + 8, z) :: as).map (mv Γ 0))).length ≤ yL y') (hk : yK y' < yK y) (hh : yH y = []) (hls : ent (yL y') ((a + 8, z) :: as) = ls') (hR : ∀ (κ' : Nat) (Ψ : OT → DD → Prop), WP none κ' Ψ r → Run Γ rg κ' y' 0 ls' [] D Ψ) (h : WP t 0 Φ (bnd r c)) (kk : ∀ v D1, WP t 0 Φ (c v D1) → Run Γ rg κ y (pc + 3) ls (rest) D1 Φ) : Run Γ rg κ y pc ls st D Φ := by
  rcases bnd_case h with ⟨v, D1, e, h2⟩ | ⟨n1, D1, e, h1, hΦ⟩
  · exact r_callV (κ1 := 0) (κ2 := κ) (Ψ := fun o2 D2 => o2 = .inl (rvo none v) ∧ D2 = D1) hd hC hn hs hci ha hr hst hok hrest hfit hk (Nat.zero_add κ) hh hls (hR 0 _ ⟨_, _, e, Nat.le_refl _, rfl, rfl⟩) (fun v2 D2 hq => by obtain ⟨e1, rfl⟩ := hq; cases e1; exact kk v _ h2) (fun n2 D2 hq => by cases hq.1)
  · exact absurd h1 (by decide)
theorem c_callVj0 {y' : YT} {as rest ls' : List PV} {a idx ci n N : Nat} {cs : List Nat} {TT : u_T} {z : Int}  {r : Res} {c : Int → DD → Res} (hd : decode (yB y) pc = .ok (.invokevirtual idx, 3)) (hC : CKV (yN y).cls idx y' n) (hn : as.length = n) (hs : SH.getD a (9, 0, []) = (0, ci, cs)) (hci : vwCl[ci]? = some ((yN y').cls, TT, N)) (ha : a < NA) (hr : rg a = true) (hst : st = as.reverse ++ (a + 8, z) :: rest) (hok : argok as = true) (hrest : (rest.map pcat).sum ≤ 8) (hfit : (lg_sl (((a + 8, z) :: as).map (mv Γ 0))).length ≤ yL y') (hk : yK y' < yK y) (hh : yH y = []) (hls : ent (yL y') ((a + 8, z) :: as) = ls') (hR : ∀ (κ' : Nat) (Ψ : OT → DD → Prop), WP (some .long) κ' Ψ r → Run Γ rg κ' y' 0 ls' [] D Ψ) (h : WP t 0 Φ (bnd r c)) (kk : ∀ v D1, WP t 0 Φ (c v D1) → Run Γ rg κ y (pc + 3) ls ((1, v) :: rest) D1 Φ) : Run Γ rg κ y pc ls st D Φ := by
  rcases bnd_case h with ⟨v, D1, e, h2⟩ | ⟨n1, D1, e, h1, hΦ⟩
  · exact r_callV (κ1 := 0) (κ2 := κ) (Ψ := fun o2 D2 => o2 = .inl (rvo (some .long) v) ∧ D2 = D1) hd hC hn hs hci ha hr hst hok hrest hfit hk (Nat.zero_add κ) hh hls (hR 0 _ ⟨_, _, e, Nat.le_refl _, rfl, rfl⟩) (fun v2 D2 hq => by obtain ⟨e1, rfl⟩ := hq; cases e1; exact kk v _ h2) (fun n2 D2 hq => by cases hq.1)
  · exact absurd h1 (by decide)
end LAWROWS
abbrev Y_L_law : YT := (cL_law, 7, (some .boolean), yL_law, [], 10)
theorem d_L_law_23 : decode cL_law 23 = .ok (.iload 4, 2) := by decide +kernel
theorem d_L_law_25 : decode cL_law 25 = .ok (.aload_n 0, 1) := by decide +kernel
theorem d_L_law_26 : decode cL_law 26 = .ok (.arraylength, 1) := by decide +kernel
theorem d_L_law_27 : decode cL_law 27 = .ok (.iconst 5, 1) := by decide +kernel
theorem d_L_law_28 : decode cL_law 28 = .ok (.isub, 1) := by decide +kernel
theorem d_L_law_29 : decode cL_law 29 = .ok (.if_icmp .gt 1547, 3) := by decide +kernel
theorem d_L_law_1576 : decode cL_law 1576 = .ok (.iconst 1, 1) := by decide +kernel
theorem d_L_law_1577 : decode cL_law 1577 = .ok (.ireturn, 1) := by decide +kernel
theorem d_L_law_32 : decode cL_law 32 = .ok (.aload_n 0, 1) := by decide +kernel
theorem d_L_law_33 : decode cL_law 33 = .ok (.iload 4, 2) := by decide +kernel
theorem d_L_law_35 : decode cL_law 35 = .ok (.iaload, 1) := by decide +kernel
theorem d_L_law_36 : decode cL_law 36 = .ok (.bipush 31, 2) := by decide +kernel
theorem d_L_law_38 : decode cL_law 38 = .ok (.iand, 1) := by decide +kernel
theorem d_L_law_39 : decode cL_law 39 = .ok (.tableswitch 1531 0 25 #[117, 185, 265, 333, 389, 457, 525, 581, 637, 729, 809, 877, 957, 1025, 1081, 1094, 1150, 1206, 1219, 1232, 1335, 1348, 1362, 1406, 1462, 1518], 117) := by decide +kernel
theorem d_L_law_1570 : decode cL_law 1570 = .ok (.iinc 4 5, 3) := by decide +kernel
theorem d_L_law_1573 : decode cL_law 1573 = .ok (.goto (-1550), 3) := by decide +kernel
theorem d_L_law_156 : decode cL_law 156 = .ok (.aload_n 1, 1) := by decide +kernel
theorem d_L_law_157 : decode cL_law 157 = .ok (.aload_n 0, 1) := by decide +kernel
theorem d_L_law_158 : decode cL_law 158 = .ok (.iload 4, 2) := by decide +kernel
theorem d_L_law_160 : decode cL_law 160 = .ok (.iconst 1, 1) := by decide +kernel
theorem d_L_law_161 : decode cL_law 161 = .ok (.iadd, 1) := by decide +kernel
theorem d_L_law_162 : decode cL_law 162 = .ok (.iaload, 1) := by decide +kernel
theorem d_L_law_163 : decode cL_law 163 = .ok (.aload_n 0, 1) := by decide +kernel
theorem d_L_law_164 : decode cL_law 164 = .ok (.iload 4, 2) := by decide +kernel
theorem d_L_law_166 : decode cL_law 166 = .ok (.iconst 2, 1) := by decide +kernel
theorem d_L_law_167 : decode cL_law 167 = .ok (.iadd, 1) := by decide +kernel
theorem d_L_law_168 : decode cL_law 168 = .ok (.iaload, 1) := by decide +kernel
theorem d_L_law_169 : decode cL_law 169 = .ok (.aload_n 3, 1) := by decide +kernel
theorem d_L_law_170 : decode cL_law 170 = .ok (.invokestatic 85, 3) := by decide +kernel
theorem mk_L_make : MKH Y_L_make 4 := ⟨KW.at (i := 74) (by decide +kernel) rfl, KW.at (i := 536) (by decide +kernel) rfl, ⟨by decide +kernel, by decide +kernel⟩, by decide +kernel, by decide +kernel, by decide⟩
theorem sm_L_make : KW (.static (yN Y_L_make)) := KW.at (i := 535) (by decide +kernel) rfl
theorem ck_RL_85 : CKH RL 85 Y_L_make 4 := ⟨KW.at (i := 534) (by decide +kernel) rfl, sm_L_make, mk_L_make⟩
theorem d_L_law_173 : decode cL_law 173 = .ok (.istore 5, 2) := by decide +kernel
theorem d_L_law_175 : decode cL_law 175 = .ok (.aload_n 2, 1) := by decide +kernel
theorem d_L_law_176 : decode cL_law 176 = .ok (.aload_n 0, 1) := by decide +kernel
theorem d_L_law_177 : decode cL_law 177 = .ok (.iload 4, 2) := by decide +kernel
theorem d_L_law_179 : decode cL_law 179 = .ok (.iconst 1, 1) := by decide +kernel
theorem d_L_law_180 : decode cL_law 180 = .ok (.iadd, 1) := by decide +kernel
theorem d_L_law_181 : decode cL_law 181 = .ok (.iaload, 1) := by decide +kernel
theorem d_L_law_182 : decode cL_law 182 = .ok (.aload_n 0, 1) := by decide +kernel
theorem d_L_law_183 : decode cL_law 183 = .ok (.iload 4, 2) := by decide +kernel
theorem d_L_law_185 : decode cL_law 185 = .ok (.iconst 2, 1) := by decide +kernel
theorem d_L_law_186 : decode cL_law 186 = .ok (.iadd, 1) := by decide +kernel
theorem d_L_law_187 : decode cL_law 187 = .ok (.iaload, 1) := by decide +kernel
theorem d_L_law_188 : decode cL_law 188 = .ok (.invokevirtual 90, 3) := by decide +kernel
theorem mk_X8_make : MK Y_X8_make 2 := ⟨KW.at (i := 85) (by decide +kernel) rfl, KW.at (i := 1243) (by decide +kernel) rfl, ⟨by decide +kernel, by decide +kernel⟩, by decide +kernel, by decide +kernel, rfl, by decide⟩
theorem vm_X8_make : KW (.instanceMethod (yN Y_X8_make)) ∧ KW (.selects (yN Y_X8_make).cls (yN Y_X8_make) (yN Y_X8_make)) := ⟨KW.at (i := 1241) (by decide +kernel) rfl, KW.at (i := 1242) (by decide +kernel) rfl⟩
theorem ck_RL_90 : CKV RL 90 Y_X8_make 2 := ⟨KW.at (i := 1240) (by decide +kernel) rfl, vm_X8_make.1, vm_X8_make.2, mk_X8_make⟩
theorem d_L_law_191 : decode cL_law 191 = .ok (.istore 6, 2) := by decide +kernel
theorem d_L_law_193 : decode cL_law 193 = .ok (.aload_n 2, 1) := by decide +kernel
theorem d_L_law_194 : decode cL_law 194 = .ok (.invokevirtual 91, 3) := by decide +kernel
theorem mk_X8_thrown : MK Y_X8_thrown 0 := ⟨KW.at (i := 85) (by decide +kernel) rfl, KW.at (i := 1216) (by decide +kernel) rfl, ⟨by decide +kernel, by decide +kernel⟩, by decide +kernel, by decide +kernel, rfl, by decide⟩
theorem vm_X8_thrown : KW (.instanceMethod (yN Y_X8_thrown)) ∧ KW (.selects (yN Y_X8_thrown).cls (yN Y_X8_thrown) (yN Y_X8_thrown)) := ⟨KW.at (i := 1214) (by decide +kernel) rfl, KW.at (i := 1215) (by decide +kernel) rfl⟩
theorem ck_RL_91 : CKV RL 91 Y_X8_thrown 0 := ⟨KW.at (i := 1213) (by decide +kernel) rfl, vm_X8_thrown.1, vm_X8_thrown.2, mk_X8_thrown⟩
theorem d_L_law_197 : decode cL_law 197 = .ok (.iload 5, 2) := by decide +kernel
theorem d_L_law_199 : decode cL_law 199 = .ok (.if_icmp .eq 5, 3) := by decide +kernel
theorem d_L_law_204 : decode cL_law 204 = .ok (.iload 5, 2) := by decide +kernel
theorem d_L_law_206 : decode cL_law 206 = .ok (.ifCond .ne 15, 3) := by decide +kernel
theorem d_L_law_221 : decode cL_law 221 = .ok (.goto 1349, 3) := by decide +kernel
theorem d_L_law_209 : decode cL_law 209 = .ok (.aload_n 3, 1) := by decide +kernel
theorem d_L_law_210 : decode cL_law 210 = .ok (.iconst 0, 1) := by decide +kernel
theorem d_L_law_211 : decode cL_law 211 = .ok (.laload, 1) := by decide +kernel
theorem d_L_law_212 : decode cL_law 212 = .ok (.iload 6, 2) := by decide +kernel
theorem d_L_law_214 : decode cL_law 214 = .ok (.i2l, 1) := by decide +kernel
theorem d_L_law_215 : decode cL_law 215 = .ok (.lcmp, 1) := by decide +kernel
theorem d_L_law_216 : decode cL_law 216 = .ok (.ifCond .eq 5, 3) := by decide +kernel
theorem d_L_law_219 : decode cL_law 219 = .ok (.iconst 0, 1) := by decide +kernel
theorem d_L_law_220 : decode cL_law 220 = .ok (.ireturn, 1) := by decide +kernel
theorem d_L_law_202 : decode cL_law 202 = .ok (.iconst 0, 1) := by decide +kernel
theorem d_L_law_203 : decode cL_law 203 = .ok (.ireturn, 1) := by decide +kernel
theorem d_L_law_224 : decode cL_law 224 = .ok (.aload_n 1, 1) := by decide +kernel
theorem d_L_law_225 : decode cL_law 225 = .ok (.aload_n 0, 1) := by decide +kernel
theorem d_L_law_226 : decode cL_law 226 = .ok (.iload 4, 2) := by decide +kernel
theorem d_L_law_228 : decode cL_law 228 = .ok (.iconst 1, 1) := by decide +kernel
theorem d_L_law_229 : decode cL_law 229 = .ok (.iadd, 1) := by decide +kernel
theorem d_L_law_230 : decode cL_law 230 = .ok (.iaload, 1) := by decide +kernel
theorem d_L_law_231 : decode cL_law 231 = .ok (.aload_n 0, 1) := by decide +kernel
theorem d_L_law_232 : decode cL_law 232 = .ok (.iload 4, 2) := by decide +kernel
theorem d_L_law_234 : decode cL_law 234 = .ok (.iconst 2, 1) := by decide +kernel
theorem d_L_law_235 : decode cL_law 235 = .ok (.iadd, 1) := by decide +kernel
theorem d_L_law_236 : decode cL_law 236 = .ok (.iaload, 1) := by decide +kernel
theorem d_L_law_237 : decode cL_law 237 = .ok (.aload_n 0, 1) := by decide +kernel
theorem d_L_law_238 : decode cL_law 238 = .ok (.iload 4, 2) := by decide +kernel
theorem d_L_law_240 : decode cL_law 240 = .ok (.iconst 3, 1) := by decide +kernel
theorem d_L_law_241 : decode cL_law 241 = .ok (.iadd, 1) := by decide +kernel
theorem d_L_law_242 : decode cL_law 242 = .ok (.iaload, 1) := by decide +kernel
theorem d_L_law_243 : decode cL_law 243 = .ok (.aload_n 3, 1) := by decide +kernel
theorem d_L_law_244 : decode cL_law 244 = .ok (.invokestatic 94, 3) := by decide +kernel
theorem mk_L_makeLink : MKH Y_L_makeLink 5 := ⟨KW.at (i := 74) (by decide +kernel) rfl, KW.at (i := 744) (by decide +kernel) rfl, ⟨by decide +kernel, by decide +kernel⟩, by decide +kernel, by decide +kernel, by decide⟩
theorem sm_L_makeLink : KW (.static (yN Y_L_makeLink)) := KW.at (i := 743) (by decide +kernel) rfl
theorem ck_RL_94 : CKH RL 94 Y_L_makeLink 5 := ⟨KW.at (i := 742) (by decide +kernel) rfl, sm_L_makeLink, mk_L_makeLink⟩
theorem d_L_law_247 : decode cL_law 247 = .ok (.istore 5, 2) := by decide +kernel
theorem d_L_law_249 : decode cL_law 249 = .ok (.aload_n 2, 1) := by decide +kernel
theorem d_L_law_250 : decode cL_law 250 = .ok (.aload_n 0, 1) := by decide +kernel
theorem d_L_law_251 : decode cL_law 251 = .ok (.iload 4, 2) := by decide +kernel
theorem d_L_law_253 : decode cL_law 253 = .ok (.iconst 1, 1) := by decide +kernel
theorem d_L_law_254 : decode cL_law 254 = .ok (.iadd, 1) := by decide +kernel
theorem d_L_law_255 : decode cL_law 255 = .ok (.iaload, 1) := by decide +kernel
theorem d_L_law_256 : decode cL_law 256 = .ok (.aload_n 0, 1) := by decide +kernel
theorem d_L_law_257 : decode cL_law 257 = .ok (.iload 4, 2) := by decide +kernel
theorem d_L_law_259 : decode cL_law 259 = .ok (.iconst 2, 1) := by decide +kernel
theorem d_L_law_260 : decode cL_law 260 = .ok (.iadd, 1) := by decide +kernel
theorem d_L_law_261 : decode cL_law 261 = .ok (.iaload, 1) := by decide +kernel
theorem d_L_law_262 : decode cL_law 262 = .ok (.aload_n 0, 1) := by decide +kernel
theorem d_L_law_263 : decode cL_law 263 = .ok (.iload 4, 2) := by decide +kernel
theorem d_L_law_265 : decode cL_law 265 = .ok (.iconst 3, 1) := by decide +kernel
theorem d_L_law_266 : decode cL_law 266 = .ok (.iadd, 1) := by decide +kernel
theorem d_L_law_267 : decode cL_law 267 = .ok (.iaload, 1) := by decide +kernel
theorem d_L_law_268 : decode cL_law 268 = .ok (.invokevirtual 97, 3) := by decide +kernel
theorem mk_X8_makeLink : MK Y_X8_makeLink 3 := ⟨KW.at (i := 85) (by decide +kernel) rfl, KW.at (i := 1337) (by decide +kernel) rfl, ⟨by decide +kernel, by decide +kernel⟩, by decide +kernel, by decide +kernel, rfl, by decide⟩
theorem vm_X8_makeLink : KW (.instanceMethod (yN Y_X8_makeLink)) ∧ KW (.selects (yN Y_X8_makeLink).cls (yN Y_X8_makeLink) (yN Y_X8_makeLink)) := ⟨KW.at (i := 1335) (by decide +kernel) rfl, KW.at (i := 1336) (by decide +kernel) rfl⟩
theorem ck_RL_97 : CKV RL 97 Y_X8_makeLink 3 := ⟨KW.at (i := 1334) (by decide +kernel) rfl, vm_X8_makeLink.1, vm_X8_makeLink.2, mk_X8_makeLink⟩
theorem d_L_law_271 : decode cL_law 271 = .ok (.istore 6, 2) := by decide +kernel
theorem d_L_law_273 : decode cL_law 273 = .ok (.aload_n 2, 1) := by decide +kernel
theorem d_L_law_274 : decode cL_law 274 = .ok (.invokevirtual 91, 3) := by decide +kernel
theorem d_L_law_277 : decode cL_law 277 = .ok (.iload 5, 2) := by decide +kernel
theorem d_L_law_279 : decode cL_law 279 = .ok (.if_icmp .eq 5, 3) := by decide +kernel
theorem d_L_law_284 : decode cL_law 284 = .ok (.iload 5, 2) := by decide +kernel
theorem d_L_law_286 : decode cL_law 286 = .ok (.ifCond .ne 15, 3) := by decide +kernel
theorem d_L_law_301 : decode cL_law 301 = .ok (.goto 1269, 3) := by decide +kernel
theorem d_L_law_289 : decode cL_law 289 = .ok (.aload_n 3, 1) := by decide +kernel
theorem d_L_law_290 : decode cL_law 290 = .ok (.iconst 0, 1) := by decide +kernel
theorem d_L_law_291 : decode cL_law 291 = .ok (.laload, 1) := by decide +kernel
theorem d_L_law_292 : decode cL_law 292 = .ok (.iload 6, 2) := by decide +kernel
theorem d_L_law_294 : decode cL_law 294 = .ok (.i2l, 1) := by decide +kernel
theorem d_L_law_295 : decode cL_law 295 = .ok (.lcmp, 1) := by decide +kernel
theorem d_L_law_296 : decode cL_law 296 = .ok (.ifCond .eq 5, 3) := by decide +kernel
theorem d_L_law_299 : decode cL_law 299 = .ok (.iconst 0, 1) := by decide +kernel
theorem d_L_law_300 : decode cL_law 300 = .ok (.ireturn, 1) := by decide +kernel
theorem d_L_law_282 : decode cL_law 282 = .ok (.iconst 0, 1) := by decide +kernel
theorem d_L_law_283 : decode cL_law 283 = .ok (.ireturn, 1) := by decide +kernel
theorem d_L_law_304 : decode cL_law 304 = .ok (.aload_n 1, 1) := by decide +kernel
theorem d_L_law_305 : decode cL_law 305 = .ok (.aload_n 0, 1) := by decide +kernel
theorem d_L_law_306 : decode cL_law 306 = .ok (.iload 4, 2) := by decide +kernel
theorem d_L_law_308 : decode cL_law 308 = .ok (.iconst 1, 1) := by decide +kernel
theorem d_L_law_309 : decode cL_law 309 = .ok (.iadd, 1) := by decide +kernel
theorem d_L_law_310 : decode cL_law 310 = .ok (.iaload, 1) := by decide +kernel
theorem d_L_law_311 : decode cL_law 311 = .ok (.aload_n 0, 1) := by decide +kernel
theorem d_L_law_312 : decode cL_law 312 = .ok (.iload 4, 2) := by decide +kernel
theorem d_L_law_314 : decode cL_law 314 = .ok (.iconst 2, 1) := by decide +kernel
theorem d_L_law_315 : decode cL_law 315 = .ok (.iadd, 1) := by decide +kernel
theorem d_L_law_316 : decode cL_law 316 = .ok (.iaload, 1) := by decide +kernel
theorem d_L_law_317 : decode cL_law 317 = .ok (.aload_n 3, 1) := by decide +kernel
theorem d_L_law_318 : decode cL_law 318 = .ok (.invokestatic 98, 3) := by decide +kernel
theorem mk_L_rename : MKH Y_L_rename 4 := ⟨KW.at (i := 74) (by decide +kernel) rfl, KW.at (i := 751) (by decide +kernel) rfl, ⟨by decide +kernel, by decide +kernel⟩, by decide +kernel, by decide +kernel, by decide⟩
theorem sm_L_rename : KW (.static (yN Y_L_rename)) := KW.at (i := 750) (by decide +kernel) rfl
theorem ck_RL_98 : CKH RL 98 Y_L_rename 4 := ⟨KW.at (i := 749) (by decide +kernel) rfl, sm_L_rename, mk_L_rename⟩
theorem d_L_law_321 : decode cL_law 321 = .ok (.istore 5, 2) := by decide +kernel
theorem d_L_law_323 : decode cL_law 323 = .ok (.aload_n 2, 1) := by decide +kernel
theorem d_L_law_324 : decode cL_law 324 = .ok (.aload_n 0, 1) := by decide +kernel
theorem d_L_law_325 : decode cL_law 325 = .ok (.iload 4, 2) := by decide +kernel
theorem d_L_law_327 : decode cL_law 327 = .ok (.iconst 1, 1) := by decide +kernel
theorem d_L_law_328 : decode cL_law 328 = .ok (.iadd, 1) := by decide +kernel
theorem d_L_law_329 : decode cL_law 329 = .ok (.iaload, 1) := by decide +kernel
theorem d_L_law_330 : decode cL_law 330 = .ok (.aload_n 0, 1) := by decide +kernel
theorem d_L_law_331 : decode cL_law 331 = .ok (.iload 4, 2) := by decide +kernel
theorem d_L_law_333 : decode cL_law 333 = .ok (.iconst 2, 1) := by decide +kernel
theorem d_L_law_334 : decode cL_law 334 = .ok (.iadd, 1) := by decide +kernel
theorem d_L_law_335 : decode cL_law 335 = .ok (.iaload, 1) := by decide +kernel
theorem d_L_law_336 : decode cL_law 336 = .ok (.invokevirtual 100, 3) := by decide +kernel
theorem mk_X8_rename : MK Y_X8_rename 2 := ⟨KW.at (i := 85) (by decide +kernel) rfl, KW.at (i := 1341) (by decide +kernel) rfl, ⟨by decide +kernel, by decide +kernel⟩, by decide +kernel, by decide +kernel, rfl, by decide⟩
theorem vm_X8_rename : KW (.instanceMethod (yN Y_X8_rename)) ∧ KW (.selects (yN Y_X8_rename).cls (yN Y_X8_rename) (yN Y_X8_rename)) := ⟨KW.at (i := 1339) (by decide +kernel) rfl, KW.at (i := 1340) (by decide +kernel) rfl⟩
theorem ck_RL_100 : CKV RL 100 Y_X8_rename 2 := ⟨KW.at (i := 1338) (by decide +kernel) rfl, vm_X8_rename.1, vm_X8_rename.2, mk_X8_rename⟩
theorem d_L_law_339 : decode cL_law 339 = .ok (.istore 6, 2) := by decide +kernel
theorem d_L_law_341 : decode cL_law 341 = .ok (.aload_n 2, 1) := by decide +kernel
theorem d_L_law_342 : decode cL_law 342 = .ok (.invokevirtual 91, 3) := by decide +kernel
theorem d_L_law_345 : decode cL_law 345 = .ok (.iload 5, 2) := by decide +kernel
theorem d_L_law_347 : decode cL_law 347 = .ok (.if_icmp .eq 5, 3) := by decide +kernel
theorem d_L_law_352 : decode cL_law 352 = .ok (.iload 5, 2) := by decide +kernel
theorem d_L_law_354 : decode cL_law 354 = .ok (.ifCond .ne 15, 3) := by decide +kernel
theorem d_L_law_369 : decode cL_law 369 = .ok (.goto 1201, 3) := by decide +kernel
theorem d_L_law_357 : decode cL_law 357 = .ok (.aload_n 3, 1) := by decide +kernel
theorem d_L_law_358 : decode cL_law 358 = .ok (.iconst 0, 1) := by decide +kernel
theorem d_L_law_359 : decode cL_law 359 = .ok (.laload, 1) := by decide +kernel
theorem d_L_law_360 : decode cL_law 360 = .ok (.iload 6, 2) := by decide +kernel
theorem d_L_law_362 : decode cL_law 362 = .ok (.i2l, 1) := by decide +kernel
theorem d_L_law_363 : decode cL_law 363 = .ok (.lcmp, 1) := by decide +kernel
theorem d_L_law_364 : decode cL_law 364 = .ok (.ifCond .eq 5, 3) := by decide +kernel
theorem d_L_law_367 : decode cL_law 367 = .ok (.iconst 0, 1) := by decide +kernel
theorem d_L_law_368 : decode cL_law 368 = .ok (.ireturn, 1) := by decide +kernel
theorem d_L_law_350 : decode cL_law 350 = .ok (.iconst 0, 1) := by decide +kernel
theorem d_L_law_351 : decode cL_law 351 = .ok (.ireturn, 1) := by decide +kernel
theorem d_L_law_372 : decode cL_law 372 = .ok (.aload_n 1, 1) := by decide +kernel
theorem d_L_law_373 : decode cL_law 373 = .ok (.aload_n 0, 1) := by decide +kernel
theorem d_L_law_374 : decode cL_law 374 = .ok (.iload 4, 2) := by decide +kernel
theorem d_L_law_376 : decode cL_law 376 = .ok (.iconst 1, 1) := by decide +kernel
theorem d_L_law_377 : decode cL_law 377 = .ok (.iadd, 1) := by decide +kernel
theorem d_L_law_378 : decode cL_law 378 = .ok (.iaload, 1) := by decide +kernel
theorem d_L_law_379 : decode cL_law 379 = .ok (.aload_n 3, 1) := by decide +kernel
theorem d_L_law_380 : decode cL_law 380 = .ok (.invokestatic 101, 3) := by decide +kernel
theorem mk_L_delete : MKH Y_L_delete 3 := ⟨KW.at (i := 74) (by decide +kernel) rfl, KW.at (i := 779) (by decide +kernel) rfl, ⟨by decide +kernel, by decide +kernel⟩, by decide +kernel, by decide +kernel, by decide⟩
theorem sm_L_delete : KW (.static (yN Y_L_delete)) := KW.at (i := 778) (by decide +kernel) rfl
theorem ck_RL_101 : CKH RL 101 Y_L_delete 3 := ⟨KW.at (i := 777) (by decide +kernel) rfl, sm_L_delete, mk_L_delete⟩
theorem d_L_law_383 : decode cL_law 383 = .ok (.istore 5, 2) := by decide +kernel
theorem d_L_law_385 : decode cL_law 385 = .ok (.aload_n 2, 1) := by decide +kernel
theorem d_L_law_386 : decode cL_law 386 = .ok (.aload_n 0, 1) := by decide +kernel
theorem d_L_law_387 : decode cL_law 387 = .ok (.iload 4, 2) := by decide +kernel
theorem d_L_law_389 : decode cL_law 389 = .ok (.iconst 1, 1) := by decide +kernel
theorem d_L_law_390 : decode cL_law 390 = .ok (.iadd, 1) := by decide +kernel
theorem d_L_law_391 : decode cL_law 391 = .ok (.iaload, 1) := by decide +kernel
theorem d_L_law_392 : decode cL_law 392 = .ok (.invokevirtual 104, 3) := by decide +kernel
theorem mk_X8_delete : MK Y_X8_delete 1 := ⟨KW.at (i := 85) (by decide +kernel) rfl, KW.at (i := 1357) (by decide +kernel) rfl, ⟨by decide +kernel, by decide +kernel⟩, by decide +kernel, by decide +kernel, rfl, by decide⟩
theorem vm_X8_delete : KW (.instanceMethod (yN Y_X8_delete)) ∧ KW (.selects (yN Y_X8_delete).cls (yN Y_X8_delete) (yN Y_X8_delete)) := ⟨KW.at (i := 1355) (by decide +kernel) rfl, KW.at (i := 1356) (by decide +kernel) rfl⟩
theorem ck_RL_104 : CKV RL 104 Y_X8_delete 1 := ⟨KW.at (i := 1354) (by decide +kernel) rfl, vm_X8_delete.1, vm_X8_delete.2, mk_X8_delete⟩
theorem d_L_law_395 : decode cL_law 395 = .ok (.istore 6, 2) := by decide +kernel
theorem d_L_law_397 : decode cL_law 397 = .ok (.aload_n 2, 1) := by decide +kernel
theorem d_L_law_398 : decode cL_law 398 = .ok (.invokevirtual 91, 3) := by decide +kernel
theorem d_L_law_401 : decode cL_law 401 = .ok (.iload 5, 2) := by decide +kernel
theorem d_L_law_403 : decode cL_law 403 = .ok (.if_icmp .eq 5, 3) := by decide +kernel
theorem d_L_law_408 : decode cL_law 408 = .ok (.iload 5, 2) := by decide +kernel
theorem d_L_law_410 : decode cL_law 410 = .ok (.ifCond .ne 15, 3) := by decide +kernel
theorem d_L_law_425 : decode cL_law 425 = .ok (.goto 1145, 3) := by decide +kernel
theorem d_L_law_413 : decode cL_law 413 = .ok (.aload_n 3, 1) := by decide +kernel
theorem d_L_law_414 : decode cL_law 414 = .ok (.iconst 0, 1) := by decide +kernel
theorem d_L_law_415 : decode cL_law 415 = .ok (.laload, 1) := by decide +kernel
theorem d_L_law_416 : decode cL_law 416 = .ok (.iload 6, 2) := by decide +kernel
theorem d_L_law_418 : decode cL_law 418 = .ok (.i2l, 1) := by decide +kernel
theorem d_L_law_419 : decode cL_law 419 = .ok (.lcmp, 1) := by decide +kernel
theorem d_L_law_420 : decode cL_law 420 = .ok (.ifCond .eq 5, 3) := by decide +kernel
theorem d_L_law_423 : decode cL_law 423 = .ok (.iconst 0, 1) := by decide +kernel
theorem d_L_law_424 : decode cL_law 424 = .ok (.ireturn, 1) := by decide +kernel
theorem d_L_law_406 : decode cL_law 406 = .ok (.iconst 0, 1) := by decide +kernel
theorem d_L_law_407 : decode cL_law 407 = .ok (.ireturn, 1) := by decide +kernel
theorem d_L_law_428 : decode cL_law 428 = .ok (.aload_n 1, 1) := by decide +kernel
theorem d_L_law_429 : decode cL_law 429 = .ok (.aload_n 0, 1) := by decide +kernel
theorem d_L_law_430 : decode cL_law 430 = .ok (.iload 4, 2) := by decide +kernel
theorem d_L_law_432 : decode cL_law 432 = .ok (.iconst 1, 1) := by decide +kernel
theorem d_L_law_433 : decode cL_law 433 = .ok (.iadd, 1) := by decide +kernel
theorem d_L_law_434 : decode cL_law 434 = .ok (.iaload, 1) := by decide +kernel
theorem d_L_law_435 : decode cL_law 435 = .ok (.aload_n 0, 1) := by decide +kernel
theorem d_L_law_436 : decode cL_law 436 = .ok (.iload 4, 2) := by decide +kernel
theorem d_L_law_438 : decode cL_law 438 = .ok (.iconst 2, 1) := by decide +kernel
theorem d_L_law_439 : decode cL_law 439 = .ok (.iadd, 1) := by decide +kernel
theorem d_L_law_440 : decode cL_law 440 = .ok (.iaload, 1) := by decide +kernel
theorem d_L_law_441 : decode cL_law 441 = .ok (.aload_n 3, 1) := by decide +kernel
theorem d_L_law_442 : decode cL_law 442 = .ok (.invokestatic 105, 3) := by decide +kernel
theorem mk_L_find : MKH Y_L_find 4 := ⟨KW.at (i := 74) (by decide +kernel) rfl, KW.at (i := 821) (by decide +kernel) rfl, ⟨by decide +kernel, by decide +kernel⟩, by decide +kernel, by decide +kernel, by decide⟩
theorem sm_L_find : KW (.static (yN Y_L_find)) := KW.at (i := 820) (by decide +kernel) rfl
theorem ck_RL_105 : CKH RL 105 Y_L_find 4 := ⟨KW.at (i := 819) (by decide +kernel) rfl, sm_L_find, mk_L_find⟩
theorem d_L_law_445 : decode cL_law 445 = .ok (.istore 5, 2) := by decide +kernel
theorem d_L_law_447 : decode cL_law 447 = .ok (.aload_n 2, 1) := by decide +kernel
theorem d_L_law_448 : decode cL_law 448 = .ok (.aload_n 0, 1) := by decide +kernel
theorem d_L_law_449 : decode cL_law 449 = .ok (.iload 4, 2) := by decide +kernel
theorem d_L_law_451 : decode cL_law 451 = .ok (.iconst 1, 1) := by decide +kernel
theorem d_L_law_452 : decode cL_law 452 = .ok (.iadd, 1) := by decide +kernel
theorem d_L_law_453 : decode cL_law 453 = .ok (.iaload, 1) := by decide +kernel
theorem d_L_law_454 : decode cL_law 454 = .ok (.aload_n 0, 1) := by decide +kernel
theorem d_L_law_455 : decode cL_law 455 = .ok (.iload 4, 2) := by decide +kernel
theorem d_L_law_457 : decode cL_law 457 = .ok (.iconst 2, 1) := by decide +kernel
theorem d_L_law_458 : decode cL_law 458 = .ok (.iadd, 1) := by decide +kernel
theorem d_L_law_459 : decode cL_law 459 = .ok (.iaload, 1) := by decide +kernel
theorem d_L_law_460 : decode cL_law 460 = .ok (.invokevirtual 107, 3) := by decide +kernel
theorem mk_X8_find : MK Y_X8_find 2 := ⟨KW.at (i := 85) (by decide +kernel) rfl, KW.at (i := 1372) (by decide +kernel) rfl, ⟨by decide +kernel, by decide +kernel⟩, by decide +kernel, by decide +kernel, rfl, by decide⟩
theorem vm_X8_find : KW (.instanceMethod (yN Y_X8_find)) ∧ KW (.selects (yN Y_X8_find).cls (yN Y_X8_find) (yN Y_X8_find)) := ⟨KW.at (i := 1370) (by decide +kernel) rfl, KW.at (i := 1371) (by decide +kernel) rfl⟩
theorem ck_RL_107 : CKV RL 107 Y_X8_find 2 := ⟨KW.at (i := 1369) (by decide +kernel) rfl, vm_X8_find.1, vm_X8_find.2, mk_X8_find⟩
theorem d_L_law_463 : decode cL_law 463 = .ok (.istore 6, 2) := by decide +kernel
theorem d_L_law_465 : decode cL_law 465 = .ok (.aload_n 2, 1) := by decide +kernel
theorem d_L_law_466 : decode cL_law 466 = .ok (.invokevirtual 91, 3) := by decide +kernel
theorem d_L_law_469 : decode cL_law 469 = .ok (.iload 5, 2) := by decide +kernel
theorem d_L_law_471 : decode cL_law 471 = .ok (.if_icmp .eq 5, 3) := by decide +kernel
theorem d_L_law_476 : decode cL_law 476 = .ok (.iload 5, 2) := by decide +kernel
theorem d_L_law_478 : decode cL_law 478 = .ok (.ifCond .ne 15, 3) := by decide +kernel
theorem d_L_law_493 : decode cL_law 493 = .ok (.goto 1077, 3) := by decide +kernel
theorem d_L_law_481 : decode cL_law 481 = .ok (.aload_n 3, 1) := by decide +kernel
theorem d_L_law_482 : decode cL_law 482 = .ok (.iconst 0, 1) := by decide +kernel
theorem d_L_law_483 : decode cL_law 483 = .ok (.laload, 1) := by decide +kernel
theorem d_L_law_484 : decode cL_law 484 = .ok (.iload 6, 2) := by decide +kernel
theorem d_L_law_486 : decode cL_law 486 = .ok (.i2l, 1) := by decide +kernel
theorem d_L_law_487 : decode cL_law 487 = .ok (.lcmp, 1) := by decide +kernel
theorem d_L_law_488 : decode cL_law 488 = .ok (.ifCond .eq 5, 3) := by decide +kernel
theorem d_L_law_491 : decode cL_law 491 = .ok (.iconst 0, 1) := by decide +kernel
theorem d_L_law_492 : decode cL_law 492 = .ok (.ireturn, 1) := by decide +kernel
theorem d_L_law_474 : decode cL_law 474 = .ok (.iconst 0, 1) := by decide +kernel
theorem d_L_law_475 : decode cL_law 475 = .ok (.ireturn, 1) := by decide +kernel
theorem d_L_law_496 : decode cL_law 496 = .ok (.aload_n 1, 1) := by decide +kernel
theorem d_L_law_497 : decode cL_law 497 = .ok (.aload_n 0, 1) := by decide +kernel
theorem d_L_law_498 : decode cL_law 498 = .ok (.iload 4, 2) := by decide +kernel
theorem d_L_law_500 : decode cL_law 500 = .ok (.iconst 1, 1) := by decide +kernel
theorem d_L_law_501 : decode cL_law 501 = .ok (.iadd, 1) := by decide +kernel
theorem d_L_law_502 : decode cL_law 502 = .ok (.iaload, 1) := by decide +kernel
theorem d_L_law_503 : decode cL_law 503 = .ok (.aload_n 0, 1) := by decide +kernel
theorem d_L_law_504 : decode cL_law 504 = .ok (.iload 4, 2) := by decide +kernel
theorem d_L_law_506 : decode cL_law 506 = .ok (.iconst 2, 1) := by decide +kernel
theorem d_L_law_507 : decode cL_law 507 = .ok (.iadd, 1) := by decide +kernel
theorem d_L_law_508 : decode cL_law 508 = .ok (.iaload, 1) := by decide +kernel
theorem d_L_law_509 : decode cL_law 509 = .ok (.aload_n 3, 1) := by decide +kernel
theorem d_L_law_510 : decode cL_law 510 = .ok (.invokestatic 108, 3) := by decide +kernel
theorem mk_L_subkeyAt : MKH Y_L_subkeyAt 4 := ⟨KW.at (i := 74) (by decide +kernel) rfl, KW.at (i := 828) (by decide +kernel) rfl, ⟨by decide +kernel, by decide +kernel⟩, by decide +kernel, by decide +kernel, by decide⟩
theorem sm_L_subkeyAt : KW (.static (yN Y_L_subkeyAt)) := KW.at (i := 827) (by decide +kernel) rfl
theorem ck_RL_108 : CKH RL 108 Y_L_subkeyAt 4 := ⟨KW.at (i := 826) (by decide +kernel) rfl, sm_L_subkeyAt, mk_L_subkeyAt⟩
theorem d_L_law_513 : decode cL_law 513 = .ok (.istore 5, 2) := by decide +kernel
theorem d_L_law_515 : decode cL_law 515 = .ok (.aload_n 2, 1) := by decide +kernel
theorem d_L_law_516 : decode cL_law 516 = .ok (.aload_n 0, 1) := by decide +kernel
theorem d_L_law_517 : decode cL_law 517 = .ok (.iload 4, 2) := by decide +kernel
theorem d_L_law_519 : decode cL_law 519 = .ok (.iconst 1, 1) := by decide +kernel
theorem d_L_law_520 : decode cL_law 520 = .ok (.iadd, 1) := by decide +kernel
theorem d_L_law_521 : decode cL_law 521 = .ok (.iaload, 1) := by decide +kernel
theorem d_L_law_522 : decode cL_law 522 = .ok (.aload_n 0, 1) := by decide +kernel
theorem d_L_law_523 : decode cL_law 523 = .ok (.iload 4, 2) := by decide +kernel
theorem d_L_law_525 : decode cL_law 525 = .ok (.iconst 2, 1) := by decide +kernel
theorem d_L_law_526 : decode cL_law 526 = .ok (.iadd, 1) := by decide +kernel
theorem d_L_law_527 : decode cL_law 527 = .ok (.iaload, 1) := by decide +kernel
theorem d_L_law_528 : decode cL_law 528 = .ok (.invokevirtual 110, 3) := by decide +kernel
theorem mk_X8_subkeyAt : MK Y_X8_subkeyAt 2 := ⟨KW.at (i := 85) (by decide +kernel) rfl, KW.at (i := 1376) (by decide +kernel) rfl, ⟨by decide +kernel, by decide +kernel⟩, by decide +kernel, by decide +kernel, rfl, by decide⟩
theorem vm_X8_subkeyAt : KW (.instanceMethod (yN Y_X8_subkeyAt)) ∧ KW (.selects (yN Y_X8_subkeyAt).cls (yN Y_X8_subkeyAt) (yN Y_X8_subkeyAt)) := ⟨KW.at (i := 1374) (by decide +kernel) rfl, KW.at (i := 1375) (by decide +kernel) rfl⟩
theorem ck_RL_110 : CKV RL 110 Y_X8_subkeyAt 2 := ⟨KW.at (i := 1373) (by decide +kernel) rfl, vm_X8_subkeyAt.1, vm_X8_subkeyAt.2, mk_X8_subkeyAt⟩
theorem d_L_law_531 : decode cL_law 531 = .ok (.istore 6, 2) := by decide +kernel
theorem d_L_law_533 : decode cL_law 533 = .ok (.aload_n 2, 1) := by decide +kernel
theorem d_L_law_534 : decode cL_law 534 = .ok (.invokevirtual 91, 3) := by decide +kernel
theorem d_L_law_537 : decode cL_law 537 = .ok (.iload 5, 2) := by decide +kernel
theorem d_L_law_539 : decode cL_law 539 = .ok (.if_icmp .eq 5, 3) := by decide +kernel
theorem d_L_law_544 : decode cL_law 544 = .ok (.iload 5, 2) := by decide +kernel
theorem d_L_law_546 : decode cL_law 546 = .ok (.ifCond .ne 15, 3) := by decide +kernel
theorem d_L_law_561 : decode cL_law 561 = .ok (.goto 1009, 3) := by decide +kernel
theorem d_L_law_549 : decode cL_law 549 = .ok (.aload_n 3, 1) := by decide +kernel
theorem d_L_law_550 : decode cL_law 550 = .ok (.iconst 0, 1) := by decide +kernel
theorem d_L_law_551 : decode cL_law 551 = .ok (.laload, 1) := by decide +kernel
theorem d_L_law_552 : decode cL_law 552 = .ok (.iload 6, 2) := by decide +kernel
theorem d_L_law_554 : decode cL_law 554 = .ok (.i2l, 1) := by decide +kernel
theorem d_L_law_555 : decode cL_law 555 = .ok (.lcmp, 1) := by decide +kernel
theorem d_L_law_556 : decode cL_law 556 = .ok (.ifCond .eq 5, 3) := by decide +kernel
theorem d_L_law_559 : decode cL_law 559 = .ok (.iconst 0, 1) := by decide +kernel
theorem d_L_law_560 : decode cL_law 560 = .ok (.ireturn, 1) := by decide +kernel
theorem d_L_law_542 : decode cL_law 542 = .ok (.iconst 0, 1) := by decide +kernel
theorem d_L_law_543 : decode cL_law 543 = .ok (.ireturn, 1) := by decide +kernel
theorem d_L_law_564 : decode cL_law 564 = .ok (.aload_n 1, 1) := by decide +kernel
theorem d_L_law_565 : decode cL_law 565 = .ok (.aload_n 0, 1) := by decide +kernel
theorem d_L_law_566 : decode cL_law 566 = .ok (.iload 4, 2) := by decide +kernel
theorem d_L_law_568 : decode cL_law 568 = .ok (.iconst 1, 1) := by decide +kernel
theorem d_L_law_569 : decode cL_law 569 = .ok (.iadd, 1) := by decide +kernel
theorem d_L_law_570 : decode cL_law 570 = .ok (.iaload, 1) := by decide +kernel
theorem d_L_law_571 : decode cL_law 571 = .ok (.aload_n 3, 1) := by decide +kernel
theorem d_L_law_572 : decode cL_law 572 = .ok (.invokestatic 111, 3) := by decide +kernel
theorem mk_L_list : MKH Y_L_list 3 := ⟨KW.at (i := 74) (by decide +kernel) rfl, KW.at (i := 836) (by decide +kernel) rfl, ⟨by decide +kernel, by decide +kernel⟩, by decide +kernel, by decide +kernel, by decide⟩
theorem sm_L_list : KW (.static (yN Y_L_list)) := KW.at (i := 835) (by decide +kernel) rfl
theorem ck_RL_111 : CKH RL 111 Y_L_list 3 := ⟨KW.at (i := 834) (by decide +kernel) rfl, sm_L_list, mk_L_list⟩
theorem d_L_law_575 : decode cL_law 575 = .ok (.istore 5, 2) := by decide +kernel
theorem d_L_law_577 : decode cL_law 577 = .ok (.aload_n 2, 1) := by decide +kernel
theorem d_L_law_578 : decode cL_law 578 = .ok (.aload_n 0, 1) := by decide +kernel
theorem d_L_law_579 : decode cL_law 579 = .ok (.iload 4, 2) := by decide +kernel
theorem d_L_law_581 : decode cL_law 581 = .ok (.iconst 1, 1) := by decide +kernel
theorem d_L_law_582 : decode cL_law 582 = .ok (.iadd, 1) := by decide +kernel
theorem d_L_law_583 : decode cL_law 583 = .ok (.iaload, 1) := by decide +kernel
theorem d_L_law_584 : decode cL_law 584 = .ok (.invokevirtual 113, 3) := by decide +kernel
theorem mk_X8_list : MK Y_X8_list 1 := ⟨KW.at (i := 85) (by decide +kernel) rfl, KW.at (i := 1380) (by decide +kernel) rfl, ⟨by decide +kernel, by decide +kernel⟩, by decide +kernel, by decide +kernel, rfl, by decide⟩
theorem vm_X8_list : KW (.instanceMethod (yN Y_X8_list)) ∧ KW (.selects (yN Y_X8_list).cls (yN Y_X8_list) (yN Y_X8_list)) := ⟨KW.at (i := 1378) (by decide +kernel) rfl, KW.at (i := 1379) (by decide +kernel) rfl⟩
theorem ck_RL_113 : CKV RL 113 Y_X8_list 1 := ⟨KW.at (i := 1377) (by decide +kernel) rfl, vm_X8_list.1, vm_X8_list.2, mk_X8_list⟩
theorem d_L_law_587 : decode cL_law 587 = .ok (.istore 6, 2) := by decide +kernel
theorem d_L_law_589 : decode cL_law 589 = .ok (.aload_n 2, 1) := by decide +kernel
theorem d_L_law_590 : decode cL_law 590 = .ok (.invokevirtual 91, 3) := by decide +kernel
theorem d_L_law_593 : decode cL_law 593 = .ok (.iload 5, 2) := by decide +kernel
theorem d_L_law_595 : decode cL_law 595 = .ok (.if_icmp .eq 5, 3) := by decide +kernel
theorem d_L_law_600 : decode cL_law 600 = .ok (.iload 5, 2) := by decide +kernel
theorem d_L_law_602 : decode cL_law 602 = .ok (.ifCond .ne 15, 3) := by decide +kernel
theorem d_L_law_617 : decode cL_law 617 = .ok (.goto 953, 3) := by decide +kernel
theorem d_L_law_605 : decode cL_law 605 = .ok (.aload_n 3, 1) := by decide +kernel
theorem d_L_law_606 : decode cL_law 606 = .ok (.iconst 0, 1) := by decide +kernel
theorem d_L_law_607 : decode cL_law 607 = .ok (.laload, 1) := by decide +kernel
theorem d_L_law_608 : decode cL_law 608 = .ok (.iload 6, 2) := by decide +kernel
theorem d_L_law_610 : decode cL_law 610 = .ok (.i2l, 1) := by decide +kernel
theorem d_L_law_611 : decode cL_law 611 = .ok (.lcmp, 1) := by decide +kernel
theorem d_L_law_612 : decode cL_law 612 = .ok (.ifCond .eq 5, 3) := by decide +kernel
theorem d_L_law_615 : decode cL_law 615 = .ok (.iconst 0, 1) := by decide +kernel
theorem d_L_law_616 : decode cL_law 616 = .ok (.ireturn, 1) := by decide +kernel
theorem d_L_law_598 : decode cL_law 598 = .ok (.iconst 0, 1) := by decide +kernel
theorem d_L_law_599 : decode cL_law 599 = .ok (.ireturn, 1) := by decide +kernel
theorem d_L_law_620 : decode cL_law 620 = .ok (.aload_n 1, 1) := by decide +kernel
theorem d_L_law_621 : decode cL_law 621 = .ok (.aload_n 0, 1) := by decide +kernel
theorem d_L_law_622 : decode cL_law 622 = .ok (.iload 4, 2) := by decide +kernel
theorem d_L_law_624 : decode cL_law 624 = .ok (.iconst 1, 1) := by decide +kernel
theorem d_L_law_625 : decode cL_law 625 = .ok (.iadd, 1) := by decide +kernel
theorem d_L_law_626 : decode cL_law 626 = .ok (.iaload, 1) := by decide +kernel
theorem d_L_law_627 : decode cL_law 627 = .ok (.aload_n 3, 1) := by decide +kernel
theorem d_L_law_628 : decode cL_law 628 = .ok (.invokestatic 114, 3) := by decide +kernel
theorem mk_L_follow : MKH Y_L_follow 3 := ⟨KW.at (i := 74) (by decide +kernel) rfl, KW.at (i := 843) (by decide +kernel) rfl, ⟨by decide +kernel, by decide +kernel⟩, by decide +kernel, by decide +kernel, by decide⟩
theorem sm_L_follow : KW (.static (yN Y_L_follow)) := KW.at (i := 842) (by decide +kernel) rfl
theorem ck_RL_114 : CKH RL 114 Y_L_follow 3 := ⟨KW.at (i := 841) (by decide +kernel) rfl, sm_L_follow, mk_L_follow⟩
theorem d_L_law_631 : decode cL_law 631 = .ok (.istore 5, 2) := by decide +kernel
theorem d_L_law_633 : decode cL_law 633 = .ok (.aload_n 2, 1) := by decide +kernel
theorem d_L_law_634 : decode cL_law 634 = .ok (.aload_n 0, 1) := by decide +kernel
theorem d_L_law_635 : decode cL_law 635 = .ok (.iload 4, 2) := by decide +kernel
theorem d_L_law_637 : decode cL_law 637 = .ok (.iconst 1, 1) := by decide +kernel
theorem d_L_law_638 : decode cL_law 638 = .ok (.iadd, 1) := by decide +kernel
theorem d_L_law_639 : decode cL_law 639 = .ok (.iaload, 1) := by decide +kernel
theorem d_L_law_640 : decode cL_law 640 = .ok (.invokevirtual 116, 3) := by decide +kernel
theorem mk_X8_follow : MK Y_X8_follow 1 := ⟨KW.at (i := 85) (by decide +kernel) rfl, KW.at (i := 1384) (by decide +kernel) rfl, ⟨by decide +kernel, by decide +kernel⟩, by decide +kernel, by decide +kernel, rfl, by decide⟩
theorem vm_X8_follow : KW (.instanceMethod (yN Y_X8_follow)) ∧ KW (.selects (yN Y_X8_follow).cls (yN Y_X8_follow) (yN Y_X8_follow)) := ⟨KW.at (i := 1382) (by decide +kernel) rfl, KW.at (i := 1383) (by decide +kernel) rfl⟩
theorem ck_RL_116 : CKV RL 116 Y_X8_follow 1 := ⟨KW.at (i := 1381) (by decide +kernel) rfl, vm_X8_follow.1, vm_X8_follow.2, mk_X8_follow⟩
theorem d_L_law_643 : decode cL_law 643 = .ok (.istore 6, 2) := by decide +kernel
theorem d_L_law_645 : decode cL_law 645 = .ok (.aload_n 2, 1) := by decide +kernel
theorem d_L_law_646 : decode cL_law 646 = .ok (.invokevirtual 91, 3) := by decide +kernel
theorem d_L_law_649 : decode cL_law 649 = .ok (.iload 5, 2) := by decide +kernel
theorem d_L_law_651 : decode cL_law 651 = .ok (.if_icmp .eq 5, 3) := by decide +kernel
theorem d_L_law_656 : decode cL_law 656 = .ok (.iload 5, 2) := by decide +kernel
theorem d_L_law_658 : decode cL_law 658 = .ok (.ifCond .ne 15, 3) := by decide +kernel
theorem d_L_law_673 : decode cL_law 673 = .ok (.goto 897, 3) := by decide +kernel
theorem d_L_law_661 : decode cL_law 661 = .ok (.aload_n 3, 1) := by decide +kernel
theorem d_L_law_662 : decode cL_law 662 = .ok (.iconst 0, 1) := by decide +kernel
theorem d_L_law_663 : decode cL_law 663 = .ok (.laload, 1) := by decide +kernel
theorem d_L_law_664 : decode cL_law 664 = .ok (.iload 6, 2) := by decide +kernel
theorem d_L_law_666 : decode cL_law 666 = .ok (.i2l, 1) := by decide +kernel
theorem d_L_law_667 : decode cL_law 667 = .ok (.lcmp, 1) := by decide +kernel
theorem d_L_law_668 : decode cL_law 668 = .ok (.ifCond .eq 5, 3) := by decide +kernel
theorem d_L_law_671 : decode cL_law 671 = .ok (.iconst 0, 1) := by decide +kernel
theorem d_L_law_672 : decode cL_law 672 = .ok (.ireturn, 1) := by decide +kernel
theorem d_L_law_654 : decode cL_law 654 = .ok (.iconst 0, 1) := by decide +kernel
theorem d_L_law_655 : decode cL_law 655 = .ok (.ireturn, 1) := by decide +kernel
theorem d_L_law_676 : decode cL_law 676 = .ok (.aload_n 1, 1) := by decide +kernel
theorem d_L_law_677 : decode cL_law 677 = .ok (.aload_n 0, 1) := by decide +kernel
theorem d_L_law_678 : decode cL_law 678 = .ok (.iload 4, 2) := by decide +kernel
theorem d_L_law_680 : decode cL_law 680 = .ok (.iconst 1, 1) := by decide +kernel
theorem d_L_law_681 : decode cL_law 681 = .ok (.iadd, 1) := by decide +kernel
theorem d_L_law_682 : decode cL_law 682 = .ok (.iaload, 1) := by decide +kernel
theorem d_L_law_683 : decode cL_law 683 = .ok (.aload_n 0, 1) := by decide +kernel
theorem d_L_law_684 : decode cL_law 684 = .ok (.iload 4, 2) := by decide +kernel
theorem d_L_law_686 : decode cL_law 686 = .ok (.iconst 2, 1) := by decide +kernel
theorem d_L_law_687 : decode cL_law 687 = .ok (.iadd, 1) := by decide +kernel
theorem d_L_law_688 : decode cL_law 688 = .ok (.iaload, 1) := by decide +kernel
theorem d_L_law_689 : decode cL_law 689 = .ok (.aload_n 0, 1) := by decide +kernel
theorem d_L_law_690 : decode cL_law 690 = .ok (.iload 4, 2) := by decide +kernel
theorem d_L_law_692 : decode cL_law 692 = .ok (.iconst 3, 1) := by decide +kernel
theorem d_L_law_693 : decode cL_law 693 = .ok (.iadd, 1) := by decide +kernel
theorem d_L_law_694 : decode cL_law 694 = .ok (.iaload, 1) := by decide +kernel
theorem d_L_law_695 : decode cL_law 695 = .ok (.aload_n 0, 1) := by decide +kernel
theorem d_L_law_696 : decode cL_law 696 = .ok (.iload 4, 2) := by decide +kernel
theorem d_L_law_698 : decode cL_law 698 = .ok (.iconst 4, 1) := by decide +kernel
theorem d_L_law_699 : decode cL_law 699 = .ok (.iadd, 1) := by decide +kernel
theorem d_L_law_700 : decode cL_law 700 = .ok (.iaload, 1) := by decide +kernel
theorem d_L_law_701 : decode cL_law 701 = .ok (.aload_n 3, 1) := by decide +kernel
theorem d_L_law_702 : decode cL_law 702 = .ok (.invokestatic 117, 3) := by decide +kernel
theorem mk_L_setValue : MKH Y_L_setValue 6 := ⟨KW.at (i := 74) (by decide +kernel) rfl, KW.at (i := 850) (by decide +kernel) rfl, ⟨by decide +kernel, by decide +kernel⟩, by decide +kernel, by decide +kernel, by decide⟩
theorem sm_L_setValue : KW (.static (yN Y_L_setValue)) := KW.at (i := 849) (by decide +kernel) rfl
theorem ck_RL_117 : CKH RL 117 Y_L_setValue 6 := ⟨KW.at (i := 848) (by decide +kernel) rfl, sm_L_setValue, mk_L_setValue⟩
theorem d_L_law_705 : decode cL_law 705 = .ok (.istore 5, 2) := by decide +kernel
theorem d_L_law_707 : decode cL_law 707 = .ok (.aload_n 2, 1) := by decide +kernel
theorem d_L_law_708 : decode cL_law 708 = .ok (.aload_n 0, 1) := by decide +kernel
theorem d_L_law_709 : decode cL_law 709 = .ok (.iload 4, 2) := by decide +kernel
theorem d_L_law_711 : decode cL_law 711 = .ok (.iconst 1, 1) := by decide +kernel
theorem d_L_law_712 : decode cL_law 712 = .ok (.iadd, 1) := by decide +kernel
theorem d_L_law_713 : decode cL_law 713 = .ok (.iaload, 1) := by decide +kernel
theorem d_L_law_714 : decode cL_law 714 = .ok (.aload_n 0, 1) := by decide +kernel
theorem d_L_law_715 : decode cL_law 715 = .ok (.iload 4, 2) := by decide +kernel
theorem d_L_law_717 : decode cL_law 717 = .ok (.iconst 2, 1) := by decide +kernel
theorem d_L_law_718 : decode cL_law 718 = .ok (.iadd, 1) := by decide +kernel
theorem d_L_law_719 : decode cL_law 719 = .ok (.iaload, 1) := by decide +kernel
theorem d_L_law_720 : decode cL_law 720 = .ok (.aload_n 0, 1) := by decide +kernel
theorem d_L_law_721 : decode cL_law 721 = .ok (.iload 4, 2) := by decide +kernel
theorem d_L_law_723 : decode cL_law 723 = .ok (.iconst 3, 1) := by decide +kernel
theorem d_L_law_724 : decode cL_law 724 = .ok (.iadd, 1) := by decide +kernel
theorem d_L_law_725 : decode cL_law 725 = .ok (.iaload, 1) := by decide +kernel
theorem d_L_law_726 : decode cL_law 726 = .ok (.aload_n 0, 1) := by decide +kernel
theorem d_L_law_727 : decode cL_law 727 = .ok (.iload 4, 2) := by decide +kernel
theorem d_L_law_729 : decode cL_law 729 = .ok (.iconst 4, 1) := by decide +kernel
theorem d_L_law_730 : decode cL_law 730 = .ok (.iadd, 1) := by decide +kernel
theorem d_L_law_731 : decode cL_law 731 = .ok (.iaload, 1) := by decide +kernel
theorem d_L_law_732 : decode cL_law 732 = .ok (.invokevirtual 120, 3) := by decide +kernel
theorem mk_X8_setValue : MK Y_X8_setValue 4 := ⟨KW.at (i := 85) (by decide +kernel) rfl, KW.at (i := 1388) (by decide +kernel) rfl, ⟨by decide +kernel, by decide +kernel⟩, by decide +kernel, by decide +kernel, rfl, by decide⟩
theorem vm_X8_setValue : KW (.instanceMethod (yN Y_X8_setValue)) ∧ KW (.selects (yN Y_X8_setValue).cls (yN Y_X8_setValue) (yN Y_X8_setValue)) := ⟨KW.at (i := 1386) (by decide +kernel) rfl, KW.at (i := 1387) (by decide +kernel) rfl⟩
theorem ck_RL_120 : CKV RL 120 Y_X8_setValue 4 := ⟨KW.at (i := 1385) (by decide +kernel) rfl, vm_X8_setValue.1, vm_X8_setValue.2, mk_X8_setValue⟩
theorem d_L_law_735 : decode cL_law 735 = .ok (.istore 6, 2) := by decide +kernel
theorem d_L_law_737 : decode cL_law 737 = .ok (.aload_n 2, 1) := by decide +kernel
theorem d_L_law_738 : decode cL_law 738 = .ok (.invokevirtual 91, 3) := by decide +kernel
theorem d_L_law_741 : decode cL_law 741 = .ok (.iload 5, 2) := by decide +kernel
theorem d_L_law_743 : decode cL_law 743 = .ok (.if_icmp .eq 5, 3) := by decide +kernel
theorem d_L_law_748 : decode cL_law 748 = .ok (.iload 5, 2) := by decide +kernel
theorem d_L_law_750 : decode cL_law 750 = .ok (.ifCond .ne 15, 3) := by decide +kernel
theorem d_L_law_765 : decode cL_law 765 = .ok (.goto 805, 3) := by decide +kernel
theorem d_L_law_753 : decode cL_law 753 = .ok (.aload_n 3, 1) := by decide +kernel
theorem d_L_law_754 : decode cL_law 754 = .ok (.iconst 0, 1) := by decide +kernel
theorem d_L_law_755 : decode cL_law 755 = .ok (.laload, 1) := by decide +kernel
theorem d_L_law_756 : decode cL_law 756 = .ok (.iload 6, 2) := by decide +kernel
theorem d_L_law_758 : decode cL_law 758 = .ok (.i2l, 1) := by decide +kernel
theorem d_L_law_759 : decode cL_law 759 = .ok (.lcmp, 1) := by decide +kernel
theorem d_L_law_760 : decode cL_law 760 = .ok (.ifCond .eq 5, 3) := by decide +kernel
theorem d_L_law_763 : decode cL_law 763 = .ok (.iconst 0, 1) := by decide +kernel
theorem d_L_law_764 : decode cL_law 764 = .ok (.ireturn, 1) := by decide +kernel
theorem d_L_law_746 : decode cL_law 746 = .ok (.iconst 0, 1) := by decide +kernel
theorem d_L_law_747 : decode cL_law 747 = .ok (.ireturn, 1) := by decide +kernel
theorem d_L_law_768 : decode cL_law 768 = .ok (.aload_n 1, 1) := by decide +kernel
theorem d_L_law_769 : decode cL_law 769 = .ok (.aload_n 0, 1) := by decide +kernel
theorem d_L_law_770 : decode cL_law 770 = .ok (.iload 4, 2) := by decide +kernel
theorem d_L_law_772 : decode cL_law 772 = .ok (.iconst 1, 1) := by decide +kernel
theorem d_L_law_773 : decode cL_law 773 = .ok (.iadd, 1) := by decide +kernel
theorem d_L_law_774 : decode cL_law 774 = .ok (.iaload, 1) := by decide +kernel
theorem d_L_law_775 : decode cL_law 775 = .ok (.aload_n 0, 1) := by decide +kernel
theorem d_L_law_776 : decode cL_law 776 = .ok (.iload 4, 2) := by decide +kernel
theorem d_L_law_778 : decode cL_law 778 = .ok (.iconst 2, 1) := by decide +kernel
theorem d_L_law_779 : decode cL_law 779 = .ok (.iadd, 1) := by decide +kernel
theorem d_L_law_780 : decode cL_law 780 = .ok (.iaload, 1) := by decide +kernel
theorem d_L_law_781 : decode cL_law 781 = .ok (.aload_n 0, 1) := by decide +kernel
theorem d_L_law_782 : decode cL_law 782 = .ok (.iload 4, 2) := by decide +kernel
theorem d_L_law_784 : decode cL_law 784 = .ok (.iconst 3, 1) := by decide +kernel
theorem d_L_law_785 : decode cL_law 785 = .ok (.iadd, 1) := by decide +kernel
theorem d_L_law_786 : decode cL_law 786 = .ok (.iaload, 1) := by decide +kernel
theorem d_L_law_787 : decode cL_law 787 = .ok (.aload_n 3, 1) := by decide +kernel
theorem d_L_law_788 : decode cL_law 788 = .ok (.invokestatic 121, 3) := by decide +kernel
theorem mk_L_resize : MKH Y_L_resize 5 := ⟨KW.at (i := 74) (by decide +kernel) rfl, KW.at (i := 919) (by decide +kernel) rfl, ⟨by decide +kernel, by decide +kernel⟩, by decide +kernel, by decide +kernel, by decide⟩
theorem sm_L_resize : KW (.static (yN Y_L_resize)) := KW.at (i := 918) (by decide +kernel) rfl
theorem ck_RL_121 : CKH RL 121 Y_L_resize 5 := ⟨KW.at (i := 917) (by decide +kernel) rfl, sm_L_resize, mk_L_resize⟩
theorem d_L_law_791 : decode cL_law 791 = .ok (.istore 5, 2) := by decide +kernel
theorem d_L_law_793 : decode cL_law 793 = .ok (.aload_n 2, 1) := by decide +kernel
theorem d_L_law_794 : decode cL_law 794 = .ok (.aload_n 0, 1) := by decide +kernel
theorem d_L_law_795 : decode cL_law 795 = .ok (.iload 4, 2) := by decide +kernel
theorem d_L_law_797 : decode cL_law 797 = .ok (.iconst 1, 1) := by decide +kernel
theorem d_L_law_798 : decode cL_law 798 = .ok (.iadd, 1) := by decide +kernel
theorem d_L_law_799 : decode cL_law 799 = .ok (.iaload, 1) := by decide +kernel
theorem d_L_law_800 : decode cL_law 800 = .ok (.aload_n 0, 1) := by decide +kernel
theorem d_L_law_801 : decode cL_law 801 = .ok (.iload 4, 2) := by decide +kernel
theorem d_L_law_803 : decode cL_law 803 = .ok (.iconst 2, 1) := by decide +kernel
theorem d_L_law_804 : decode cL_law 804 = .ok (.iadd, 1) := by decide +kernel
theorem d_L_law_805 : decode cL_law 805 = .ok (.iaload, 1) := by decide +kernel
theorem d_L_law_806 : decode cL_law 806 = .ok (.aload_n 0, 1) := by decide +kernel
theorem d_L_law_807 : decode cL_law 807 = .ok (.iload 4, 2) := by decide +kernel
theorem d_L_law_809 : decode cL_law 809 = .ok (.iconst 3, 1) := by decide +kernel
theorem d_L_law_810 : decode cL_law 810 = .ok (.iadd, 1) := by decide +kernel
theorem d_L_law_811 : decode cL_law 811 = .ok (.iaload, 1) := by decide +kernel
theorem d_L_law_812 : decode cL_law 812 = .ok (.invokevirtual 123, 3) := by decide +kernel
theorem mk_X8_resize : MK Y_X8_resize 3 := ⟨KW.at (i := 85) (by decide +kernel) rfl, KW.at (i := 1407) (by decide +kernel) rfl, ⟨by decide +kernel, by decide +kernel⟩, by decide +kernel, by decide +kernel, rfl, by decide⟩
theorem vm_X8_resize : KW (.instanceMethod (yN Y_X8_resize)) ∧ KW (.selects (yN Y_X8_resize).cls (yN Y_X8_resize) (yN Y_X8_resize)) := ⟨KW.at (i := 1405) (by decide +kernel) rfl, KW.at (i := 1406) (by decide +kernel) rfl⟩
theorem ck_RL_123 : CKV RL 123 Y_X8_resize 3 := ⟨KW.at (i := 1404) (by decide +kernel) rfl, vm_X8_resize.1, vm_X8_resize.2, mk_X8_resize⟩
theorem d_L_law_815 : decode cL_law 815 = .ok (.istore 6, 2) := by decide +kernel
theorem d_L_law_817 : decode cL_law 817 = .ok (.aload_n 2, 1) := by decide +kernel
theorem d_L_law_818 : decode cL_law 818 = .ok (.invokevirtual 91, 3) := by decide +kernel
theorem d_L_law_821 : decode cL_law 821 = .ok (.iload 5, 2) := by decide +kernel
theorem d_L_law_823 : decode cL_law 823 = .ok (.if_icmp .eq 5, 3) := by decide +kernel
theorem d_L_law_828 : decode cL_law 828 = .ok (.iload 5, 2) := by decide +kernel
theorem d_L_law_830 : decode cL_law 830 = .ok (.ifCond .ne 15, 3) := by decide +kernel
theorem d_L_law_845 : decode cL_law 845 = .ok (.goto 725, 3) := by decide +kernel
theorem d_L_law_833 : decode cL_law 833 = .ok (.aload_n 3, 1) := by decide +kernel
theorem d_L_law_834 : decode cL_law 834 = .ok (.iconst 0, 1) := by decide +kernel
theorem d_L_law_835 : decode cL_law 835 = .ok (.laload, 1) := by decide +kernel
theorem d_L_law_836 : decode cL_law 836 = .ok (.iload 6, 2) := by decide +kernel
theorem d_L_law_838 : decode cL_law 838 = .ok (.i2l, 1) := by decide +kernel
theorem d_L_law_839 : decode cL_law 839 = .ok (.lcmp, 1) := by decide +kernel
theorem d_L_law_840 : decode cL_law 840 = .ok (.ifCond .eq 5, 3) := by decide +kernel
theorem d_L_law_843 : decode cL_law 843 = .ok (.iconst 0, 1) := by decide +kernel
theorem d_L_law_844 : decode cL_law 844 = .ok (.ireturn, 1) := by decide +kernel
theorem d_L_law_826 : decode cL_law 826 = .ok (.iconst 0, 1) := by decide +kernel
theorem d_L_law_827 : decode cL_law 827 = .ok (.ireturn, 1) := by decide +kernel
theorem d_L_law_848 : decode cL_law 848 = .ok (.aload_n 1, 1) := by decide +kernel
theorem d_L_law_849 : decode cL_law 849 = .ok (.aload_n 0, 1) := by decide +kernel
theorem d_L_law_850 : decode cL_law 850 = .ok (.iload 4, 2) := by decide +kernel
theorem d_L_law_852 : decode cL_law 852 = .ok (.iconst 1, 1) := by decide +kernel
theorem d_L_law_853 : decode cL_law 853 = .ok (.iadd, 1) := by decide +kernel
theorem d_L_law_854 : decode cL_law 854 = .ok (.iaload, 1) := by decide +kernel
theorem d_L_law_855 : decode cL_law 855 = .ok (.aload_n 0, 1) := by decide +kernel
theorem d_L_law_856 : decode cL_law 856 = .ok (.iload 4, 2) := by decide +kernel
theorem d_L_law_858 : decode cL_law 858 = .ok (.iconst 2, 1) := by decide +kernel
theorem d_L_law_859 : decode cL_law 859 = .ok (.iadd, 1) := by decide +kernel
theorem d_L_law_860 : decode cL_law 860 = .ok (.iaload, 1) := by decide +kernel
theorem d_L_law_861 : decode cL_law 861 = .ok (.aload_n 3, 1) := by decide +kernel
theorem d_L_law_862 : decode cL_law 862 = .ok (.invokestatic 124, 3) := by decide +kernel
theorem mk_L_dropValue : MKH Y_L_dropValue 4 := ⟨KW.at (i := 74) (by decide +kernel) rfl, KW.at (i := 943) (by decide +kernel) rfl, ⟨by decide +kernel, by decide +kernel⟩, by decide +kernel, by decide +kernel, by decide⟩
theorem sm_L_dropValue : KW (.static (yN Y_L_dropValue)) := KW.at (i := 942) (by decide +kernel) rfl
theorem ck_RL_124 : CKH RL 124 Y_L_dropValue 4 := ⟨KW.at (i := 941) (by decide +kernel) rfl, sm_L_dropValue, mk_L_dropValue⟩
theorem d_L_law_865 : decode cL_law 865 = .ok (.istore 5, 2) := by decide +kernel
theorem d_L_law_867 : decode cL_law 867 = .ok (.aload_n 2, 1) := by decide +kernel
theorem d_L_law_868 : decode cL_law 868 = .ok (.aload_n 0, 1) := by decide +kernel
theorem d_L_law_869 : decode cL_law 869 = .ok (.iload 4, 2) := by decide +kernel
theorem d_L_law_871 : decode cL_law 871 = .ok (.iconst 1, 1) := by decide +kernel
theorem d_L_law_872 : decode cL_law 872 = .ok (.iadd, 1) := by decide +kernel
theorem d_L_law_873 : decode cL_law 873 = .ok (.iaload, 1) := by decide +kernel
theorem d_L_law_874 : decode cL_law 874 = .ok (.aload_n 0, 1) := by decide +kernel
theorem d_L_law_875 : decode cL_law 875 = .ok (.iload 4, 2) := by decide +kernel
theorem d_L_law_877 : decode cL_law 877 = .ok (.iconst 2, 1) := by decide +kernel
theorem d_L_law_878 : decode cL_law 878 = .ok (.iadd, 1) := by decide +kernel
theorem d_L_law_879 : decode cL_law 879 = .ok (.iaload, 1) := by decide +kernel
theorem d_L_law_880 : decode cL_law 880 = .ok (.invokevirtual 126, 3) := by decide +kernel
theorem mk_X8_dropValue : MK Y_X8_dropValue 2 := ⟨KW.at (i := 85) (by decide +kernel) rfl, KW.at (i := 1418) (by decide +kernel) rfl, ⟨by decide +kernel, by decide +kernel⟩, by decide +kernel, by decide +kernel, rfl, by decide⟩
theorem vm_X8_dropValue : KW (.instanceMethod (yN Y_X8_dropValue)) ∧ KW (.selects (yN Y_X8_dropValue).cls (yN Y_X8_dropValue) (yN Y_X8_dropValue)) := ⟨KW.at (i := 1416) (by decide +kernel) rfl, KW.at (i := 1417) (by decide +kernel) rfl⟩
theorem ck_RL_126 : CKV RL 126 Y_X8_dropValue 2 := ⟨KW.at (i := 1415) (by decide +kernel) rfl, vm_X8_dropValue.1, vm_X8_dropValue.2, mk_X8_dropValue⟩
theorem d_L_law_883 : decode cL_law 883 = .ok (.istore 6, 2) := by decide +kernel
theorem d_L_law_885 : decode cL_law 885 = .ok (.aload_n 2, 1) := by decide +kernel
theorem d_L_law_886 : decode cL_law 886 = .ok (.invokevirtual 91, 3) := by decide +kernel
theorem d_L_law_889 : decode cL_law 889 = .ok (.iload 5, 2) := by decide +kernel
theorem d_L_law_891 : decode cL_law 891 = .ok (.if_icmp .eq 5, 3) := by decide +kernel
theorem d_L_law_896 : decode cL_law 896 = .ok (.iload 5, 2) := by decide +kernel
theorem d_L_law_898 : decode cL_law 898 = .ok (.ifCond .ne 15, 3) := by decide +kernel
theorem d_L_law_913 : decode cL_law 913 = .ok (.goto 657, 3) := by decide +kernel
theorem d_L_law_901 : decode cL_law 901 = .ok (.aload_n 3, 1) := by decide +kernel
theorem d_L_law_902 : decode cL_law 902 = .ok (.iconst 0, 1) := by decide +kernel
theorem d_L_law_903 : decode cL_law 903 = .ok (.laload, 1) := by decide +kernel
theorem d_L_law_904 : decode cL_law 904 = .ok (.iload 6, 2) := by decide +kernel
theorem d_L_law_906 : decode cL_law 906 = .ok (.i2l, 1) := by decide +kernel
theorem d_L_law_907 : decode cL_law 907 = .ok (.lcmp, 1) := by decide +kernel
theorem d_L_law_908 : decode cL_law 908 = .ok (.ifCond .eq 5, 3) := by decide +kernel
theorem d_L_law_911 : decode cL_law 911 = .ok (.iconst 0, 1) := by decide +kernel
theorem d_L_law_912 : decode cL_law 912 = .ok (.ireturn, 1) := by decide +kernel
theorem d_L_law_894 : decode cL_law 894 = .ok (.iconst 0, 1) := by decide +kernel
theorem d_L_law_895 : decode cL_law 895 = .ok (.ireturn, 1) := by decide +kernel
theorem d_L_law_916 : decode cL_law 916 = .ok (.aload_n 1, 1) := by decide +kernel
theorem d_L_law_917 : decode cL_law 917 = .ok (.aload_n 0, 1) := by decide +kernel
theorem d_L_law_918 : decode cL_law 918 = .ok (.iload 4, 2) := by decide +kernel
theorem d_L_law_920 : decode cL_law 920 = .ok (.iconst 1, 1) := by decide +kernel
theorem d_L_law_921 : decode cL_law 921 = .ok (.iadd, 1) := by decide +kernel
theorem d_L_law_922 : decode cL_law 922 = .ok (.iaload, 1) := by decide +kernel
theorem d_L_law_923 : decode cL_law 923 = .ok (.aload_n 0, 1) := by decide +kernel
theorem d_L_law_924 : decode cL_law 924 = .ok (.iload 4, 2) := by decide +kernel
theorem d_L_law_926 : decode cL_law 926 = .ok (.iconst 2, 1) := by decide +kernel
theorem d_L_law_927 : decode cL_law 927 = .ok (.iadd, 1) := by decide +kernel
theorem d_L_law_928 : decode cL_law 928 = .ok (.iaload, 1) := by decide +kernel
theorem d_L_law_929 : decode cL_law 929 = .ok (.aload_n 0, 1) := by decide +kernel
theorem d_L_law_930 : decode cL_law 930 = .ok (.iload 4, 2) := by decide +kernel
theorem d_L_law_932 : decode cL_law 932 = .ok (.iconst 3, 1) := by decide +kernel
theorem d_L_law_933 : decode cL_law 933 = .ok (.iadd, 1) := by decide +kernel
theorem d_L_law_934 : decode cL_law 934 = .ok (.iaload, 1) := by decide +kernel
theorem d_L_law_935 : decode cL_law 935 = .ok (.aload_n 3, 1) := by decide +kernel
theorem d_L_law_936 : decode cL_law 936 = .ok (.invokestatic 127, 3) := by decide +kernel
theorem mk_L_unit : MKH Y_L_unit 5 := ⟨KW.at (i := 74) (by decide +kernel) rfl, KW.at (i := 959) (by decide +kernel) rfl, ⟨by decide +kernel, by decide +kernel⟩, by decide +kernel, by decide +kernel, by decide⟩
theorem sm_L_unit : KW (.static (yN Y_L_unit)) := KW.at (i := 958) (by decide +kernel) rfl
theorem ck_RL_127 : CKH RL 127 Y_L_unit 5 := ⟨KW.at (i := 957) (by decide +kernel) rfl, sm_L_unit, mk_L_unit⟩
theorem d_L_law_939 : decode cL_law 939 = .ok (.istore 5, 2) := by decide +kernel
theorem d_L_law_941 : decode cL_law 941 = .ok (.aload_n 2, 1) := by decide +kernel
theorem d_L_law_942 : decode cL_law 942 = .ok (.aload_n 0, 1) := by decide +kernel
theorem d_L_law_943 : decode cL_law 943 = .ok (.iload 4, 2) := by decide +kernel
theorem d_L_law_945 : decode cL_law 945 = .ok (.iconst 1, 1) := by decide +kernel
theorem d_L_law_946 : decode cL_law 946 = .ok (.iadd, 1) := by decide +kernel
theorem d_L_law_947 : decode cL_law 947 = .ok (.iaload, 1) := by decide +kernel
theorem d_L_law_948 : decode cL_law 948 = .ok (.aload_n 0, 1) := by decide +kernel
theorem d_L_law_949 : decode cL_law 949 = .ok (.iload 4, 2) := by decide +kernel
theorem d_L_law_951 : decode cL_law 951 = .ok (.iconst 2, 1) := by decide +kernel
theorem d_L_law_952 : decode cL_law 952 = .ok (.iadd, 1) := by decide +kernel
theorem d_L_law_953 : decode cL_law 953 = .ok (.iaload, 1) := by decide +kernel
theorem d_L_law_954 : decode cL_law 954 = .ok (.aload_n 0, 1) := by decide +kernel
theorem d_L_law_955 : decode cL_law 955 = .ok (.iload 4, 2) := by decide +kernel
theorem d_L_law_957 : decode cL_law 957 = .ok (.iconst 3, 1) := by decide +kernel
theorem d_L_law_958 : decode cL_law 958 = .ok (.iadd, 1) := by decide +kernel
theorem d_L_law_959 : decode cL_law 959 = .ok (.iaload, 1) := by decide +kernel
theorem d_L_law_960 : decode cL_law 960 = .ok (.invokevirtual 129, 3) := by decide +kernel
theorem mk_X8_unit : MK Y_X8_unit 3 := ⟨KW.at (i := 85) (by decide +kernel) rfl, KW.at (i := 1426) (by decide +kernel) rfl, ⟨by decide +kernel, by decide +kernel⟩, by decide +kernel, by decide +kernel, rfl, by decide⟩
theorem vm_X8_unit : KW (.instanceMethod (yN Y_X8_unit)) ∧ KW (.selects (yN Y_X8_unit).cls (yN Y_X8_unit) (yN Y_X8_unit)) := ⟨KW.at (i := 1424) (by decide +kernel) rfl, KW.at (i := 1425) (by decide +kernel) rfl⟩
theorem ck_RL_129 : CKV RL 129 Y_X8_unit 3 := ⟨KW.at (i := 1423) (by decide +kernel) rfl, vm_X8_unit.1, vm_X8_unit.2, mk_X8_unit⟩
theorem d_L_law_963 : decode cL_law 963 = .ok (.istore 6, 2) := by decide +kernel
theorem d_L_law_965 : decode cL_law 965 = .ok (.aload_n 2, 1) := by decide +kernel
theorem d_L_law_966 : decode cL_law 966 = .ok (.invokevirtual 91, 3) := by decide +kernel
theorem d_L_law_969 : decode cL_law 969 = .ok (.iload 5, 2) := by decide +kernel
theorem d_L_law_971 : decode cL_law 971 = .ok (.if_icmp .eq 5, 3) := by decide +kernel
theorem d_L_law_976 : decode cL_law 976 = .ok (.iload 5, 2) := by decide +kernel
theorem d_L_law_978 : decode cL_law 978 = .ok (.ifCond .ne 15, 3) := by decide +kernel
theorem d_L_law_993 : decode cL_law 993 = .ok (.goto 577, 3) := by decide +kernel
theorem d_L_law_981 : decode cL_law 981 = .ok (.aload_n 3, 1) := by decide +kernel
theorem d_L_law_982 : decode cL_law 982 = .ok (.iconst 0, 1) := by decide +kernel
theorem d_L_law_983 : decode cL_law 983 = .ok (.laload, 1) := by decide +kernel
theorem d_L_law_984 : decode cL_law 984 = .ok (.iload 6, 2) := by decide +kernel
theorem d_L_law_986 : decode cL_law 986 = .ok (.i2l, 1) := by decide +kernel
theorem d_L_law_987 : decode cL_law 987 = .ok (.lcmp, 1) := by decide +kernel
theorem d_L_law_988 : decode cL_law 988 = .ok (.ifCond .eq 5, 3) := by decide +kernel
theorem d_L_law_991 : decode cL_law 991 = .ok (.iconst 0, 1) := by decide +kernel
theorem d_L_law_992 : decode cL_law 992 = .ok (.ireturn, 1) := by decide +kernel
theorem d_L_law_974 : decode cL_law 974 = .ok (.iconst 0, 1) := by decide +kernel
theorem d_L_law_975 : decode cL_law 975 = .ok (.ireturn, 1) := by decide +kernel
theorem d_L_law_996 : decode cL_law 996 = .ok (.aload_n 1, 1) := by decide +kernel
theorem d_L_law_997 : decode cL_law 997 = .ok (.aload_n 0, 1) := by decide +kernel
theorem d_L_law_998 : decode cL_law 998 = .ok (.iload 4, 2) := by decide +kernel
theorem d_L_law_1000 : decode cL_law 1000 = .ok (.iconst 1, 1) := by decide +kernel
theorem d_L_law_1001 : decode cL_law 1001 = .ok (.iadd, 1) := by decide +kernel
theorem d_L_law_1002 : decode cL_law 1002 = .ok (.iaload, 1) := by decide +kernel
theorem d_L_law_1003 : decode cL_law 1003 = .ok (.aload_n 0, 1) := by decide +kernel
theorem d_L_law_1004 : decode cL_law 1004 = .ok (.iload 4, 2) := by decide +kernel
theorem d_L_law_1006 : decode cL_law 1006 = .ok (.iconst 2, 1) := by decide +kernel
theorem d_L_law_1007 : decode cL_law 1007 = .ok (.iadd, 1) := by decide +kernel
theorem d_L_law_1008 : decode cL_law 1008 = .ok (.iaload, 1) := by decide +kernel
theorem d_L_law_1009 : decode cL_law 1009 = .ok (.aload_n 3, 1) := by decide +kernel
theorem d_L_law_1010 : decode cL_law 1010 = .ok (.invokestatic 130, 3) := by decide +kernel
theorem mk_L_setRights : MKH Y_L_setRights 4 := ⟨KW.at (i := 74) (by decide +kernel) rfl, KW.at (i := 971) (by decide +kernel) rfl, ⟨by decide +kernel, by decide +kernel⟩, by decide +kernel, by decide +kernel, by decide⟩
theorem sm_L_setRights : KW (.static (yN Y_L_setRights)) := KW.at (i := 970) (by decide +kernel) rfl
theorem ck_RL_130 : CKH RL 130 Y_L_setRights 4 := ⟨KW.at (i := 969) (by decide +kernel) rfl, sm_L_setRights, mk_L_setRights⟩
theorem d_L_law_1013 : decode cL_law 1013 = .ok (.istore 5, 2) := by decide +kernel
theorem d_L_law_1015 : decode cL_law 1015 = .ok (.aload_n 2, 1) := by decide +kernel
theorem d_L_law_1016 : decode cL_law 1016 = .ok (.aload_n 0, 1) := by decide +kernel
theorem d_L_law_1017 : decode cL_law 1017 = .ok (.iload 4, 2) := by decide +kernel
theorem d_L_law_1019 : decode cL_law 1019 = .ok (.iconst 1, 1) := by decide +kernel
theorem d_L_law_1020 : decode cL_law 1020 = .ok (.iadd, 1) := by decide +kernel
theorem d_L_law_1021 : decode cL_law 1021 = .ok (.iaload, 1) := by decide +kernel
theorem d_L_law_1022 : decode cL_law 1022 = .ok (.aload_n 0, 1) := by decide +kernel
theorem d_L_law_1023 : decode cL_law 1023 = .ok (.iload 4, 2) := by decide +kernel
theorem d_L_law_1025 : decode cL_law 1025 = .ok (.iconst 2, 1) := by decide +kernel
theorem d_L_law_1026 : decode cL_law 1026 = .ok (.iadd, 1) := by decide +kernel
theorem d_L_law_1027 : decode cL_law 1027 = .ok (.iaload, 1) := by decide +kernel
theorem d_L_law_1028 : decode cL_law 1028 = .ok (.invokevirtual 132, 3) := by decide +kernel
theorem mk_X8_setRights : MK Y_X8_setRights 2 := ⟨KW.at (i := 85) (by decide +kernel) rfl, KW.at (i := 1430) (by decide +kernel) rfl, ⟨by decide +kernel, by decide +kernel⟩, by decide +kernel, by decide +kernel, rfl, by decide⟩
theorem vm_X8_setRights : KW (.instanceMethod (yN Y_X8_setRights)) ∧ KW (.selects (yN Y_X8_setRights).cls (yN Y_X8_setRights) (yN Y_X8_setRights)) := ⟨KW.at (i := 1428) (by decide +kernel) rfl, KW.at (i := 1429) (by decide +kernel) rfl⟩
theorem ck_RL_132 : CKV RL 132 Y_X8_setRights 2 := ⟨KW.at (i := 1427) (by decide +kernel) rfl, vm_X8_setRights.1, vm_X8_setRights.2, mk_X8_setRights⟩
theorem d_L_law_1031 : decode cL_law 1031 = .ok (.istore 6, 2) := by decide +kernel
theorem d_L_law_1033 : decode cL_law 1033 = .ok (.aload_n 2, 1) := by decide +kernel
theorem d_L_law_1034 : decode cL_law 1034 = .ok (.invokevirtual 91, 3) := by decide +kernel
theorem d_L_law_1037 : decode cL_law 1037 = .ok (.iload 5, 2) := by decide +kernel
theorem d_L_law_1039 : decode cL_law 1039 = .ok (.if_icmp .eq 5, 3) := by decide +kernel
theorem d_L_law_1044 : decode cL_law 1044 = .ok (.iload 5, 2) := by decide +kernel
theorem d_L_law_1046 : decode cL_law 1046 = .ok (.ifCond .ne 15, 3) := by decide +kernel
theorem d_L_law_1061 : decode cL_law 1061 = .ok (.goto 509, 3) := by decide +kernel
theorem d_L_law_1049 : decode cL_law 1049 = .ok (.aload_n 3, 1) := by decide +kernel
theorem d_L_law_1050 : decode cL_law 1050 = .ok (.iconst 0, 1) := by decide +kernel
theorem d_L_law_1051 : decode cL_law 1051 = .ok (.laload, 1) := by decide +kernel
theorem d_L_law_1052 : decode cL_law 1052 = .ok (.iload 6, 2) := by decide +kernel
theorem d_L_law_1054 : decode cL_law 1054 = .ok (.i2l, 1) := by decide +kernel
theorem d_L_law_1055 : decode cL_law 1055 = .ok (.lcmp, 1) := by decide +kernel
theorem d_L_law_1056 : decode cL_law 1056 = .ok (.ifCond .eq 5, 3) := by decide +kernel
theorem d_L_law_1059 : decode cL_law 1059 = .ok (.iconst 0, 1) := by decide +kernel
theorem d_L_law_1060 : decode cL_law 1060 = .ok (.ireturn, 1) := by decide +kernel
theorem d_L_law_1042 : decode cL_law 1042 = .ok (.iconst 0, 1) := by decide +kernel
theorem d_L_law_1043 : decode cL_law 1043 = .ok (.ireturn, 1) := by decide +kernel
theorem d_L_law_1064 : decode cL_law 1064 = .ok (.aload_n 1, 1) := by decide +kernel
theorem d_L_law_1065 : decode cL_law 1065 = .ok (.aload_n 0, 1) := by decide +kernel
theorem d_L_law_1066 : decode cL_law 1066 = .ok (.iload 4, 2) := by decide +kernel
theorem d_L_law_1068 : decode cL_law 1068 = .ok (.iconst 1, 1) := by decide +kernel
theorem d_L_law_1069 : decode cL_law 1069 = .ok (.iadd, 1) := by decide +kernel
theorem d_L_law_1070 : decode cL_law 1070 = .ok (.iaload, 1) := by decide +kernel
theorem d_L_law_1071 : decode cL_law 1071 = .ok (.aload_n 3, 1) := by decide +kernel
theorem d_L_law_1072 : decode cL_law 1072 = .ok (.invokestatic 133, 3) := by decide +kernel
theorem mk_L_sharers : MKH Y_L_sharers 3 := ⟨KW.at (i := 74) (by decide +kernel) rfl, KW.at (i := 982) (by decide +kernel) rfl, ⟨by decide +kernel, by decide +kernel⟩, by decide +kernel, by decide +kernel, by decide⟩
theorem sm_L_sharers : KW (.static (yN Y_L_sharers)) := KW.at (i := 981) (by decide +kernel) rfl
theorem ck_RL_133 : CKH RL 133 Y_L_sharers 3 := ⟨KW.at (i := 980) (by decide +kernel) rfl, sm_L_sharers, mk_L_sharers⟩
theorem d_L_law_1075 : decode cL_law 1075 = .ok (.istore 5, 2) := by decide +kernel
theorem d_L_law_1077 : decode cL_law 1077 = .ok (.aload_n 2, 1) := by decide +kernel
theorem d_L_law_1078 : decode cL_law 1078 = .ok (.aload_n 0, 1) := by decide +kernel
theorem d_L_law_1079 : decode cL_law 1079 = .ok (.iload 4, 2) := by decide +kernel
theorem d_L_law_1081 : decode cL_law 1081 = .ok (.iconst 1, 1) := by decide +kernel
theorem d_L_law_1082 : decode cL_law 1082 = .ok (.iadd, 1) := by decide +kernel
theorem d_L_law_1083 : decode cL_law 1083 = .ok (.iaload, 1) := by decide +kernel
theorem d_L_law_1084 : decode cL_law 1084 = .ok (.invokevirtual 135, 3) := by decide +kernel
theorem mk_X8_sharers : MK Y_X8_sharers 1 := ⟨KW.at (i := 85) (by decide +kernel) rfl, KW.at (i := 1438) (by decide +kernel) rfl, ⟨by decide +kernel, by decide +kernel⟩, by decide +kernel, by decide +kernel, rfl, by decide⟩
theorem vm_X8_sharers : KW (.instanceMethod (yN Y_X8_sharers)) ∧ KW (.selects (yN Y_X8_sharers).cls (yN Y_X8_sharers) (yN Y_X8_sharers)) := ⟨KW.at (i := 1436) (by decide +kernel) rfl, KW.at (i := 1437) (by decide +kernel) rfl⟩
theorem ck_RL_135 : CKV RL 135 Y_X8_sharers 1 := ⟨KW.at (i := 1435) (by decide +kernel) rfl, vm_X8_sharers.1, vm_X8_sharers.2, mk_X8_sharers⟩
theorem d_L_law_1087 : decode cL_law 1087 = .ok (.istore 6, 2) := by decide +kernel
theorem d_L_law_1089 : decode cL_law 1089 = .ok (.aload_n 2, 1) := by decide +kernel
theorem d_L_law_1090 : decode cL_law 1090 = .ok (.invokevirtual 91, 3) := by decide +kernel
theorem d_L_law_1093 : decode cL_law 1093 = .ok (.iload 5, 2) := by decide +kernel
theorem d_L_law_1095 : decode cL_law 1095 = .ok (.if_icmp .eq 5, 3) := by decide +kernel
theorem d_L_law_1100 : decode cL_law 1100 = .ok (.iload 5, 2) := by decide +kernel
theorem d_L_law_1102 : decode cL_law 1102 = .ok (.ifCond .ne 15, 3) := by decide +kernel
theorem d_L_law_1117 : decode cL_law 1117 = .ok (.goto 453, 3) := by decide +kernel
theorem d_L_law_1105 : decode cL_law 1105 = .ok (.aload_n 3, 1) := by decide +kernel
theorem d_L_law_1106 : decode cL_law 1106 = .ok (.iconst 0, 1) := by decide +kernel
theorem d_L_law_1107 : decode cL_law 1107 = .ok (.laload, 1) := by decide +kernel
theorem d_L_law_1108 : decode cL_law 1108 = .ok (.iload 6, 2) := by decide +kernel
theorem d_L_law_1110 : decode cL_law 1110 = .ok (.i2l, 1) := by decide +kernel
theorem d_L_law_1111 : decode cL_law 1111 = .ok (.lcmp, 1) := by decide +kernel
theorem d_L_law_1112 : decode cL_law 1112 = .ok (.ifCond .eq 5, 3) := by decide +kernel
theorem d_L_law_1115 : decode cL_law 1115 = .ok (.iconst 0, 1) := by decide +kernel
theorem d_L_law_1116 : decode cL_law 1116 = .ok (.ireturn, 1) := by decide +kernel
theorem d_L_law_1098 : decode cL_law 1098 = .ok (.iconst 0, 1) := by decide +kernel
theorem d_L_law_1099 : decode cL_law 1099 = .ok (.ireturn, 1) := by decide +kernel
theorem d_L_law_1120 : decode cL_law 1120 = .ok (.aload_n 1, 1) := by decide +kernel
theorem d_L_law_1121 : decode cL_law 1121 = .ok (.invokevirtual 136, 3) := by decide +kernel
theorem mk_X7_sectors : MK Y_X7_sectors 0 := ⟨KW.at (i := 75) (by decide +kernel) rfl, KW.at (i := 391) (by decide +kernel) rfl, ⟨by decide +kernel, by decide +kernel⟩, by decide +kernel, by decide +kernel, rfl, by decide⟩
theorem vm_X7_sectors : KW (.instanceMethod (yN Y_X7_sectors)) ∧ KW (.selects (yN Y_X7_sectors).cls (yN Y_X7_sectors) (yN Y_X7_sectors)) := ⟨KW.at (i := 389) (by decide +kernel) rfl, KW.at (i := 390) (by decide +kernel) rfl⟩
theorem ck_RL_136 : CKV RL 136 Y_X7_sectors 0 := ⟨KW.at (i := 388) (by decide +kernel) rfl, vm_X7_sectors.1, vm_X7_sectors.2, mk_X7_sectors⟩
theorem d_L_law_1124 : decode cL_law 1124 = .ok (.aload_n 2, 1) := by decide +kernel
theorem d_L_law_1125 : decode cL_law 1125 = .ok (.invokevirtual 139, 3) := by decide +kernel
theorem mk_X8_sectors : MK Y_X8_sectors 0 := ⟨KW.at (i := 85) (by decide +kernel) rfl, KW.at (i := 1442) (by decide +kernel) rfl, ⟨by decide +kernel, by decide +kernel⟩, by decide +kernel, by decide +kernel, rfl, by decide⟩
theorem vm_X8_sectors : KW (.instanceMethod (yN Y_X8_sectors)) ∧ KW (.selects (yN Y_X8_sectors).cls (yN Y_X8_sectors) (yN Y_X8_sectors)) := ⟨KW.at (i := 1440) (by decide +kernel) rfl, KW.at (i := 1441) (by decide +kernel) rfl⟩
theorem ck_RL_139 : CKV RL 139 Y_X8_sectors 0 := ⟨KW.at (i := 1439) (by decide +kernel) rfl, vm_X8_sectors.1, vm_X8_sectors.2, mk_X8_sectors⟩
theorem d_L_law_1128 : decode cL_law 1128 = .ok (.if_icmp .eq 442, 3) := by decide +kernel
theorem d_L_law_1131 : decode cL_law 1131 = .ok (.iconst 0, 1) := by decide +kernel
theorem d_L_law_1132 : decode cL_law 1132 = .ok (.ireturn, 1) := by decide +kernel
theorem d_L_law_1133 : decode cL_law 1133 = .ok (.aload_n 1, 1) := by decide +kernel
theorem d_L_law_1134 : decode cL_law 1134 = .ok (.aload_n 0, 1) := by decide +kernel
theorem d_L_law_1135 : decode cL_law 1135 = .ok (.iload 4, 2) := by decide +kernel
theorem d_L_law_1137 : decode cL_law 1137 = .ok (.iconst 1, 1) := by decide +kernel
theorem d_L_law_1138 : decode cL_law 1138 = .ok (.iadd, 1) := by decide +kernel
theorem d_L_law_1139 : decode cL_law 1139 = .ok (.iaload, 1) := by decide +kernel
theorem d_L_law_1140 : decode cL_law 1140 = .ok (.aload_n 3, 1) := by decide +kernel
theorem d_L_law_1141 : decode cL_law 1141 = .ok (.invokestatic 140, 3) := by decide +kernel
theorem mk_L_cell : MKH Y_L_cell 3 := ⟨KW.at (i := 74) (by decide +kernel) rfl, KW.at (i := 990) (by decide +kernel) rfl, ⟨by decide +kernel, by decide +kernel⟩, by decide +kernel, by decide +kernel, by decide⟩
theorem sm_L_cell : KW (.static (yN Y_L_cell)) := KW.at (i := 989) (by decide +kernel) rfl
theorem ck_RL_140 : CKH RL 140 Y_L_cell 3 := ⟨KW.at (i := 988) (by decide +kernel) rfl, sm_L_cell, mk_L_cell⟩
theorem d_L_law_1144 : decode cL_law 1144 = .ok (.istore 5, 2) := by decide +kernel
theorem d_L_law_1146 : decode cL_law 1146 = .ok (.aload_n 2, 1) := by decide +kernel
theorem d_L_law_1147 : decode cL_law 1147 = .ok (.aload_n 0, 1) := by decide +kernel
theorem d_L_law_1148 : decode cL_law 1148 = .ok (.iload 4, 2) := by decide +kernel
theorem d_L_law_1150 : decode cL_law 1150 = .ok (.iconst 1, 1) := by decide +kernel
theorem d_L_law_1151 : decode cL_law 1151 = .ok (.iadd, 1) := by decide +kernel
theorem d_L_law_1152 : decode cL_law 1152 = .ok (.iaload, 1) := by decide +kernel
theorem d_L_law_1153 : decode cL_law 1153 = .ok (.invokevirtual 142, 3) := by decide +kernel
theorem mk_X8_cell : MK Y_X8_cell 1 := ⟨KW.at (i := 85) (by decide +kernel) rfl, KW.at (i := 1446) (by decide +kernel) rfl, ⟨by decide +kernel, by decide +kernel⟩, by decide +kernel, by decide +kernel, rfl, by decide⟩
theorem vm_X8_cell : KW (.instanceMethod (yN Y_X8_cell)) ∧ KW (.selects (yN Y_X8_cell).cls (yN Y_X8_cell) (yN Y_X8_cell)) := ⟨KW.at (i := 1444) (by decide +kernel) rfl, KW.at (i := 1445) (by decide +kernel) rfl⟩
theorem ck_RL_142 : CKV RL 142 Y_X8_cell 1 := ⟨KW.at (i := 1443) (by decide +kernel) rfl, vm_X8_cell.1, vm_X8_cell.2, mk_X8_cell⟩
theorem d_L_law_1156 : decode cL_law 1156 = .ok (.istore 6, 2) := by decide +kernel
theorem d_L_law_1158 : decode cL_law 1158 = .ok (.aload_n 2, 1) := by decide +kernel
theorem d_L_law_1159 : decode cL_law 1159 = .ok (.invokevirtual 91, 3) := by decide +kernel
theorem d_L_law_1162 : decode cL_law 1162 = .ok (.iload 5, 2) := by decide +kernel
theorem d_L_law_1164 : decode cL_law 1164 = .ok (.if_icmp .eq 5, 3) := by decide +kernel
theorem d_L_law_1169 : decode cL_law 1169 = .ok (.iload 5, 2) := by decide +kernel
theorem d_L_law_1171 : decode cL_law 1171 = .ok (.ifCond .ne 15, 3) := by decide +kernel
theorem d_L_law_1186 : decode cL_law 1186 = .ok (.goto 384, 3) := by decide +kernel
theorem d_L_law_1174 : decode cL_law 1174 = .ok (.aload_n 3, 1) := by decide +kernel
theorem d_L_law_1175 : decode cL_law 1175 = .ok (.iconst 0, 1) := by decide +kernel
theorem d_L_law_1176 : decode cL_law 1176 = .ok (.laload, 1) := by decide +kernel
theorem d_L_law_1177 : decode cL_law 1177 = .ok (.iload 6, 2) := by decide +kernel
theorem d_L_law_1179 : decode cL_law 1179 = .ok (.i2l, 1) := by decide +kernel
theorem d_L_law_1180 : decode cL_law 1180 = .ok (.lcmp, 1) := by decide +kernel
theorem d_L_law_1181 : decode cL_law 1181 = .ok (.ifCond .eq 5, 3) := by decide +kernel
theorem d_L_law_1184 : decode cL_law 1184 = .ok (.iconst 0, 1) := by decide +kernel
theorem d_L_law_1185 : decode cL_law 1185 = .ok (.ireturn, 1) := by decide +kernel
theorem d_L_law_1167 : decode cL_law 1167 = .ok (.iconst 0, 1) := by decide +kernel
theorem d_L_law_1168 : decode cL_law 1168 = .ok (.ireturn, 1) := by decide +kernel
theorem d_L_law_1189 : decode cL_law 1189 = .ok (.aload_n 1, 1) := by decide +kernel
theorem d_L_law_1190 : decode cL_law 1190 = .ok (.aload_n 0, 1) := by decide +kernel
theorem d_L_law_1191 : decode cL_law 1191 = .ok (.iload 4, 2) := by decide +kernel
theorem d_L_law_1193 : decode cL_law 1193 = .ok (.iconst 1, 1) := by decide +kernel
theorem d_L_law_1194 : decode cL_law 1194 = .ok (.iadd, 1) := by decide +kernel
theorem d_L_law_1195 : decode cL_law 1195 = .ok (.iaload, 1) := by decide +kernel
theorem d_L_law_1196 : decode cL_law 1196 = .ok (.aload_n 3, 1) := by decide +kernel
theorem d_L_law_1197 : decode cL_law 1197 = .ok (.invokestatic 143, 3) := by decide +kernel
theorem mk_L_place : MKH Y_L_place 3 := ⟨KW.at (i := 74) (by decide +kernel) rfl, KW.at (i := 999) (by decide +kernel) rfl, ⟨by decide +kernel, by decide +kernel⟩, by decide +kernel, by decide +kernel, by decide⟩
theorem sm_L_place : KW (.static (yN Y_L_place)) := KW.at (i := 998) (by decide +kernel) rfl
theorem ck_RL_143 : CKH RL 143 Y_L_place 3 := ⟨KW.at (i := 997) (by decide +kernel) rfl, sm_L_place, mk_L_place⟩
theorem d_L_law_1200 : decode cL_law 1200 = .ok (.istore 5, 2) := by decide +kernel
theorem d_L_law_1202 : decode cL_law 1202 = .ok (.aload_n 2, 1) := by decide +kernel
theorem d_L_law_1203 : decode cL_law 1203 = .ok (.aload_n 0, 1) := by decide +kernel
theorem d_L_law_1204 : decode cL_law 1204 = .ok (.iload 4, 2) := by decide +kernel
theorem d_L_law_1206 : decode cL_law 1206 = .ok (.iconst 1, 1) := by decide +kernel
theorem d_L_law_1207 : decode cL_law 1207 = .ok (.iadd, 1) := by decide +kernel
theorem d_L_law_1208 : decode cL_law 1208 = .ok (.iaload, 1) := by decide +kernel
theorem d_L_law_1209 : decode cL_law 1209 = .ok (.invokevirtual 145, 3) := by decide +kernel
theorem mk_X8_place : MK Y_X8_place 1 := ⟨KW.at (i := 85) (by decide +kernel) rfl, KW.at (i := 1450) (by decide +kernel) rfl, ⟨by decide +kernel, by decide +kernel⟩, by decide +kernel, by decide +kernel, rfl, by decide⟩
theorem vm_X8_place : KW (.instanceMethod (yN Y_X8_place)) ∧ KW (.selects (yN Y_X8_place).cls (yN Y_X8_place) (yN Y_X8_place)) := ⟨KW.at (i := 1448) (by decide +kernel) rfl, KW.at (i := 1449) (by decide +kernel) rfl⟩
theorem ck_RL_145 : CKV RL 145 Y_X8_place 1 := ⟨KW.at (i := 1447) (by decide +kernel) rfl, vm_X8_place.1, vm_X8_place.2, mk_X8_place⟩
theorem d_L_law_1212 : decode cL_law 1212 = .ok (.istore 6, 2) := by decide +kernel
theorem d_L_law_1214 : decode cL_law 1214 = .ok (.aload_n 2, 1) := by decide +kernel
theorem d_L_law_1215 : decode cL_law 1215 = .ok (.invokevirtual 91, 3) := by decide +kernel
theorem d_L_law_1218 : decode cL_law 1218 = .ok (.iload 5, 2) := by decide +kernel
theorem d_L_law_1220 : decode cL_law 1220 = .ok (.if_icmp .eq 5, 3) := by decide +kernel
theorem d_L_law_1225 : decode cL_law 1225 = .ok (.iload 5, 2) := by decide +kernel
theorem d_L_law_1227 : decode cL_law 1227 = .ok (.ifCond .ne 15, 3) := by decide +kernel
theorem d_L_law_1242 : decode cL_law 1242 = .ok (.goto 328, 3) := by decide +kernel
theorem d_L_law_1230 : decode cL_law 1230 = .ok (.aload_n 3, 1) := by decide +kernel
theorem d_L_law_1231 : decode cL_law 1231 = .ok (.iconst 0, 1) := by decide +kernel
theorem d_L_law_1232 : decode cL_law 1232 = .ok (.laload, 1) := by decide +kernel
theorem d_L_law_1233 : decode cL_law 1233 = .ok (.iload 6, 2) := by decide +kernel
theorem d_L_law_1235 : decode cL_law 1235 = .ok (.i2l, 1) := by decide +kernel
theorem d_L_law_1236 : decode cL_law 1236 = .ok (.lcmp, 1) := by decide +kernel
theorem d_L_law_1237 : decode cL_law 1237 = .ok (.ifCond .eq 5, 3) := by decide +kernel
theorem d_L_law_1240 : decode cL_law 1240 = .ok (.iconst 0, 1) := by decide +kernel
theorem d_L_law_1241 : decode cL_law 1241 = .ok (.ireturn, 1) := by decide +kernel
theorem d_L_law_1223 : decode cL_law 1223 = .ok (.iconst 0, 1) := by decide +kernel
theorem d_L_law_1224 : decode cL_law 1224 = .ok (.ireturn, 1) := by decide +kernel
theorem d_L_law_1245 : decode cL_law 1245 = .ok (.aload_n 1, 1) := by decide +kernel
theorem d_L_law_1246 : decode cL_law 1246 = .ok (.invokevirtual 146, 3) := by decide +kernel
theorem mk_X7_used : MK Y_X7_used 0 := ⟨KW.at (i := 75) (by decide +kernel) rfl, KW.at (i := 395) (by decide +kernel) rfl, ⟨by decide +kernel, by decide +kernel⟩, by decide +kernel, by decide +kernel, rfl, by decide⟩
theorem vm_X7_used : KW (.instanceMethod (yN Y_X7_used)) ∧ KW (.selects (yN Y_X7_used).cls (yN Y_X7_used) (yN Y_X7_used)) := ⟨KW.at (i := 393) (by decide +kernel) rfl, KW.at (i := 394) (by decide +kernel) rfl⟩
theorem ck_RL_146 : CKV RL 146 Y_X7_used 0 := ⟨KW.at (i := 392) (by decide +kernel) rfl, vm_X7_used.1, vm_X7_used.2, mk_X7_used⟩
theorem d_L_law_1249 : decode cL_law 1249 = .ok (.aload_n 2, 1) := by decide +kernel
theorem d_L_law_1250 : decode cL_law 1250 = .ok (.invokevirtual 149, 3) := by decide +kernel
theorem mk_X8_used : MK Y_X8_used 0 := ⟨KW.at (i := 85) (by decide +kernel) rfl, KW.at (i := 1454) (by decide +kernel) rfl, ⟨by decide +kernel, by decide +kernel⟩, by decide +kernel, by decide +kernel, rfl, by decide⟩
theorem vm_X8_used : KW (.instanceMethod (yN Y_X8_used)) ∧ KW (.selects (yN Y_X8_used).cls (yN Y_X8_used) (yN Y_X8_used)) := ⟨KW.at (i := 1452) (by decide +kernel) rfl, KW.at (i := 1453) (by decide +kernel) rfl⟩
theorem ck_RL_149 : CKV RL 149 Y_X8_used 0 := ⟨KW.at (i := 1451) (by decide +kernel) rfl, vm_X8_used.1, vm_X8_used.2, mk_X8_used⟩
theorem d_L_law_1253 : decode cL_law 1253 = .ok (.if_icmp .eq 317, 3) := by decide +kernel
theorem d_L_law_1256 : decode cL_law 1256 = .ok (.iconst 0, 1) := by decide +kernel
theorem d_L_law_1257 : decode cL_law 1257 = .ok (.ireturn, 1) := by decide +kernel
theorem d_L_law_1258 : decode cL_law 1258 = .ok (.aload_n 1, 1) := by decide +kernel
theorem d_L_law_1259 : decode cL_law 1259 = .ok (.invokevirtual 150, 3) := by decide +kernel
theorem mk_X7_usedByTree : MK Y_X7_usedByTree 0 := ⟨KW.at (i := 75) (by decide +kernel) rfl, KW.at (i := 403) (by decide +kernel) rfl, ⟨by decide +kernel, by decide +kernel⟩, by decide +kernel, by decide +kernel, rfl, by decide⟩
theorem vm_X7_usedByTree : KW (.instanceMethod (yN Y_X7_usedByTree)) ∧ KW (.selects (yN Y_X7_usedByTree).cls (yN Y_X7_usedByTree) (yN Y_X7_usedByTree)) := ⟨KW.at (i := 401) (by decide +kernel) rfl, KW.at (i := 402) (by decide +kernel) rfl⟩
theorem ck_RL_150 : CKV RL 150 Y_X7_usedByTree 0 := ⟨KW.at (i := 400) (by decide +kernel) rfl, vm_X7_usedByTree.1, vm_X7_usedByTree.2, mk_X7_usedByTree⟩
theorem d_L_law_1262 : decode cL_law 1262 = .ok (.aload_n 2, 1) := by decide +kernel
theorem d_L_law_1263 : decode cL_law 1263 = .ok (.invokevirtual 153, 3) := by decide +kernel
theorem mk_X8_usedByTree : MK Y_X8_usedByTree 0 := ⟨KW.at (i := 85) (by decide +kernel) rfl, KW.at (i := 1458) (by decide +kernel) rfl, ⟨by decide +kernel, by decide +kernel⟩, by decide +kernel, by decide +kernel, rfl, by decide⟩
theorem vm_X8_usedByTree : KW (.instanceMethod (yN Y_X8_usedByTree)) ∧ KW (.selects (yN Y_X8_usedByTree).cls (yN Y_X8_usedByTree) (yN Y_X8_usedByTree)) := ⟨KW.at (i := 1456) (by decide +kernel) rfl, KW.at (i := 1457) (by decide +kernel) rfl⟩
theorem ck_RL_153 : CKV RL 153 Y_X8_usedByTree 0 := ⟨KW.at (i := 1455) (by decide +kernel) rfl, vm_X8_usedByTree.1, vm_X8_usedByTree.2, mk_X8_usedByTree⟩
theorem d_L_law_1266 : decode cL_law 1266 = .ok (.if_icmp .eq 304, 3) := by decide +kernel
theorem d_L_law_1269 : decode cL_law 1269 = .ok (.iconst 0, 1) := by decide +kernel
theorem d_L_law_1270 : decode cL_law 1270 = .ok (.ireturn, 1) := by decide +kernel
theorem d_L_law_1271 : decode cL_law 1271 = .ok (.aload_n 1, 1) := by decide +kernel
theorem d_L_law_1272 : decode cL_law 1272 = .ok (.aload_n 0, 1) := by decide +kernel
theorem d_L_law_1273 : decode cL_law 1273 = .ok (.iload 4, 2) := by decide +kernel
theorem d_L_law_1275 : decode cL_law 1275 = .ok (.iconst 1, 1) := by decide +kernel
theorem d_L_law_1276 : decode cL_law 1276 = .ok (.iadd, 1) := by decide +kernel
theorem d_L_law_1277 : decode cL_law 1277 = .ok (.iaload, 1) := by decide +kernel
theorem d_L_law_1278 : decode cL_law 1278 = .ok (.aload_n 0, 1) := by decide +kernel
theorem d_L_law_1279 : decode cL_law 1279 = .ok (.iload 4, 2) := by decide +kernel
theorem d_L_law_1281 : decode cL_law 1281 = .ok (.iconst 2, 1) := by decide +kernel
theorem d_L_law_1282 : decode cL_law 1282 = .ok (.iadd, 1) := by decide +kernel
theorem d_L_law_1283 : decode cL_law 1283 = .ok (.iaload, 1) := by decide +kernel
theorem d_L_law_1284 : decode cL_law 1284 = .ok (.aload_n 0, 1) := by decide +kernel
theorem d_L_law_1285 : decode cL_law 1285 = .ok (.iload 4, 2) := by decide +kernel
theorem d_L_law_1287 : decode cL_law 1287 = .ok (.iconst 3, 1) := by decide +kernel
theorem d_L_law_1288 : decode cL_law 1288 = .ok (.iadd, 1) := by decide +kernel
theorem d_L_law_1289 : decode cL_law 1289 = .ok (.iaload, 1) := by decide +kernel
theorem d_L_law_1290 : decode cL_law 1290 = .ok (.ifCond .eq 7, 3) := by decide +kernel
theorem d_L_law_1298 : decode cL_law 1298 = .ok (.aload_n 3, 1) := by decide +kernel
theorem d_L_law_1299 : decode cL_law 1299 = .ok (.invokestatic 154, 3) := by decide +kernel
theorem mk_L_watch : MKH Y_L_watch 5 := ⟨KW.at (i := 74) (by decide +kernel) rfl, KW.at (i := 1006) (by decide +kernel) rfl, ⟨by decide +kernel, by decide +kernel⟩, by decide +kernel, by decide +kernel, by decide⟩
theorem sm_L_watch : KW (.static (yN Y_L_watch)) := KW.at (i := 1005) (by decide +kernel) rfl
theorem ck_RL_154 : CKH RL 154 Y_L_watch 5 := ⟨KW.at (i := 1004) (by decide +kernel) rfl, sm_L_watch, mk_L_watch⟩
theorem d_L_law_1302 : decode cL_law 1302 = .ok (.istore 5, 2) := by decide +kernel
theorem d_L_law_1304 : decode cL_law 1304 = .ok (.aload_n 2, 1) := by decide +kernel
theorem d_L_law_1305 : decode cL_law 1305 = .ok (.aload_n 0, 1) := by decide +kernel
theorem d_L_law_1306 : decode cL_law 1306 = .ok (.iload 4, 2) := by decide +kernel
theorem d_L_law_1308 : decode cL_law 1308 = .ok (.iconst 1, 1) := by decide +kernel
theorem d_L_law_1309 : decode cL_law 1309 = .ok (.iadd, 1) := by decide +kernel
theorem d_L_law_1310 : decode cL_law 1310 = .ok (.iaload, 1) := by decide +kernel
theorem d_L_law_1311 : decode cL_law 1311 = .ok (.aload_n 0, 1) := by decide +kernel
theorem d_L_law_1312 : decode cL_law 1312 = .ok (.iload 4, 2) := by decide +kernel
theorem d_L_law_1314 : decode cL_law 1314 = .ok (.iconst 2, 1) := by decide +kernel
theorem d_L_law_1315 : decode cL_law 1315 = .ok (.iadd, 1) := by decide +kernel
theorem d_L_law_1316 : decode cL_law 1316 = .ok (.iaload, 1) := by decide +kernel
theorem d_L_law_1317 : decode cL_law 1317 = .ok (.aload_n 0, 1) := by decide +kernel
theorem d_L_law_1318 : decode cL_law 1318 = .ok (.iload 4, 2) := by decide +kernel
theorem d_L_law_1320 : decode cL_law 1320 = .ok (.iconst 3, 1) := by decide +kernel
theorem d_L_law_1321 : decode cL_law 1321 = .ok (.iadd, 1) := by decide +kernel
theorem d_L_law_1322 : decode cL_law 1322 = .ok (.iaload, 1) := by decide +kernel
theorem d_L_law_1323 : decode cL_law 1323 = .ok (.ifCond .eq 7, 3) := by decide +kernel
theorem d_L_law_1331 : decode cL_law 1331 = .ok (.invokevirtual 157, 3) := by decide +kernel
theorem mk_X8_watch : MK Y_X8_watch 3 := ⟨KW.at (i := 85) (by decide +kernel) rfl, KW.at (i := 1220) (by decide +kernel) rfl, ⟨by decide +kernel, by decide +kernel⟩, by decide +kernel, by decide +kernel, rfl, by decide⟩
theorem vm_X8_watch : KW (.instanceMethod (yN Y_X8_watch)) ∧ KW (.selects (yN Y_X8_watch).cls (yN Y_X8_watch) (yN Y_X8_watch)) := ⟨KW.at (i := 1218) (by decide +kernel) rfl, KW.at (i := 1219) (by decide +kernel) rfl⟩
theorem ck_RL_157 : CKV RL 157 Y_X8_watch 3 := ⟨KW.at (i := 1217) (by decide +kernel) rfl, vm_X8_watch.1, vm_X8_watch.2, mk_X8_watch⟩
theorem d_L_law_1334 : decode cL_law 1334 = .ok (.istore 6, 2) := by decide +kernel
theorem d_L_law_1336 : decode cL_law 1336 = .ok (.aload_n 2, 1) := by decide +kernel
theorem d_L_law_1337 : decode cL_law 1337 = .ok (.invokevirtual 91, 3) := by decide +kernel
theorem d_L_law_1340 : decode cL_law 1340 = .ok (.iload 5, 2) := by decide +kernel
theorem d_L_law_1342 : decode cL_law 1342 = .ok (.if_icmp .eq 5, 3) := by decide +kernel
theorem d_L_law_1347 : decode cL_law 1347 = .ok (.iload 5, 2) := by decide +kernel
theorem d_L_law_1349 : decode cL_law 1349 = .ok (.ifCond .ne 22, 3) := by decide +kernel
theorem d_L_law_1371 : decode cL_law 1371 = .ok (.goto 199, 3) := by decide +kernel
theorem d_L_law_1352 : decode cL_law 1352 = .ok (.aload_n 3, 1) := by decide +kernel
theorem d_L_law_1353 : decode cL_law 1353 = .ok (.iconst 0, 1) := by decide +kernel
theorem d_L_law_1354 : decode cL_law 1354 = .ok (.laload, 1) := by decide +kernel
theorem d_L_law_1355 : decode cL_law 1355 = .ok (.iload 6, 2) := by decide +kernel
theorem d_L_law_1357 : decode cL_law 1357 = .ok (.ifCond .eq 7, 3) := by decide +kernel
theorem d_L_law_1365 : decode cL_law 1365 = .ok (.lcmp, 1) := by decide +kernel
theorem d_L_law_1366 : decode cL_law 1366 = .ok (.ifCond .eq 5, 3) := by decide +kernel
theorem d_L_law_1369 : decode cL_law 1369 = .ok (.iconst 0, 1) := by decide +kernel
theorem d_L_law_1370 : decode cL_law 1370 = .ok (.ireturn, 1) := by decide +kernel
theorem d_L_law_1364 : decode cL_law 1364 = .ok (.lconst 0, 1) := by decide +kernel
theorem d_L_law_1360 : decode cL_law 1360 = .ok (.lconst 1, 1) := by decide +kernel
theorem d_L_law_1361 : decode cL_law 1361 = .ok (.goto 4, 3) := by decide +kernel
theorem d_L_law_1345 : decode cL_law 1345 = .ok (.iconst 0, 1) := by decide +kernel
theorem d_L_law_1346 : decode cL_law 1346 = .ok (.ireturn, 1) := by decide +kernel
theorem d_L_law_1330 : decode cL_law 1330 = .ok (.iconst 0, 1) := by decide +kernel
theorem d_L_law_1326 : decode cL_law 1326 = .ok (.iconst 1, 1) := by decide +kernel
theorem d_L_law_1327 : decode cL_law 1327 = .ok (.goto 4, 3) := by decide +kernel
theorem d_L_law_1297 : decode cL_law 1297 = .ok (.iconst 0, 1) := by decide +kernel
theorem d_L_law_1293 : decode cL_law 1293 = .ok (.iconst 1, 1) := by decide +kernel
theorem d_L_law_1294 : decode cL_law 1294 = .ok (.goto 4, 3) := by decide +kernel
theorem d_L_law_1374 : decode cL_law 1374 = .ok (.aload_n 1, 1) := by decide +kernel
theorem d_L_law_1375 : decode cL_law 1375 = .ok (.invokevirtual 158, 3) := by decide +kernel
theorem mk_X7_takeNotice : MK Y_X7_takeNotice 0 := ⟨KW.at (i := 75) (by decide +kernel) rfl, KW.at (i := 487) (by decide +kernel) rfl, ⟨by decide +kernel, by decide +kernel⟩, by decide +kernel, by decide +kernel, rfl, by decide⟩
theorem vm_X7_takeNotice : KW (.instanceMethod (yN Y_X7_takeNotice)) ∧ KW (.selects (yN Y_X7_takeNotice).cls (yN Y_X7_takeNotice) (yN Y_X7_takeNotice)) := ⟨KW.at (i := 485) (by decide +kernel) rfl, KW.at (i := 486) (by decide +kernel) rfl⟩
theorem ck_RL_158 : CKV RL 158 Y_X7_takeNotice 0 := ⟨KW.at (i := 484) (by decide +kernel) rfl, vm_X7_takeNotice.1, vm_X7_takeNotice.2, mk_X7_takeNotice⟩
theorem d_L_law_1378 : decode cL_law 1378 = .ok (.aload_n 2, 1) := by decide +kernel
theorem d_L_law_1379 : decode cL_law 1379 = .ok (.invokevirtual 161, 3) := by decide +kernel
theorem mk_X8_takeNotice : MK Y_X8_takeNotice 0 := ⟨KW.at (i := 85) (by decide +kernel) rfl, KW.at (i := 1239) (by decide +kernel) rfl, ⟨by decide +kernel, by decide +kernel⟩, by decide +kernel, by decide +kernel, rfl, by decide⟩
theorem vm_X8_takeNotice : KW (.instanceMethod (yN Y_X8_takeNotice)) ∧ KW (.selects (yN Y_X8_takeNotice).cls (yN Y_X8_takeNotice) (yN Y_X8_takeNotice)) := ⟨KW.at (i := 1237) (by decide +kernel) rfl, KW.at (i := 1238) (by decide +kernel) rfl⟩
theorem ck_RL_161 : CKV RL 161 Y_X8_takeNotice 0 := ⟨KW.at (i := 1236) (by decide +kernel) rfl, vm_X8_takeNotice.1, vm_X8_takeNotice.2, mk_X8_takeNotice⟩
theorem d_L_law_1382 : decode cL_law 1382 = .ok (.if_icmp .eq 188, 3) := by decide +kernel
theorem d_L_law_1385 : decode cL_law 1385 = .ok (.iconst 0, 1) := by decide +kernel
theorem d_L_law_1386 : decode cL_law 1386 = .ok (.ireturn, 1) := by decide +kernel
theorem d_L_law_1387 : decode cL_law 1387 = .ok (.aload_n 1, 1) := by decide +kernel
theorem d_L_law_1388 : decode cL_law 1388 = .ok (.invokevirtual 162, 3) := by decide +kernel
theorem mk_X7_dirty : MK Y_X7_dirty 0 := ⟨KW.at (i := 75) (by decide +kernel) rfl, KW.at (i := 501) (by decide +kernel) rfl, ⟨by decide +kernel, by decide +kernel⟩, by decide +kernel, by decide +kernel, rfl, by decide⟩
theorem vm_X7_dirty : KW (.instanceMethod (yN Y_X7_dirty)) ∧ KW (.selects (yN Y_X7_dirty).cls (yN Y_X7_dirty) (yN Y_X7_dirty)) := ⟨KW.at (i := 499) (by decide +kernel) rfl, KW.at (i := 500) (by decide +kernel) rfl⟩
theorem ck_RL_162 : CKV RL 162 Y_X7_dirty 0 := ⟨KW.at (i := 498) (by decide +kernel) rfl, vm_X7_dirty.1, vm_X7_dirty.2, mk_X7_dirty⟩
theorem d_L_law_1391 : decode cL_law 1391 = .ok (.aload_n 2, 1) := by decide +kernel
theorem d_L_law_1392 : decode cL_law 1392 = .ok (.invokevirtual 166, 3) := by decide +kernel
theorem mk_X8_dirty : MK Y_X8_dirty 0 := ⟨KW.at (i := 85) (by decide +kernel) rfl, KW.at (i := 1462) (by decide +kernel) rfl, ⟨by decide +kernel, by decide +kernel⟩, by decide +kernel, by decide +kernel, rfl, by decide⟩
theorem vm_X8_dirty : KW (.instanceMethod (yN Y_X8_dirty)) ∧ KW (.selects (yN Y_X8_dirty).cls (yN Y_X8_dirty) (yN Y_X8_dirty)) := ⟨KW.at (i := 1460) (by decide +kernel) rfl, KW.at (i := 1461) (by decide +kernel) rfl⟩
theorem ck_RL_166 : CKV RL 166 Y_X8_dirty 0 := ⟨KW.at (i := 1459) (by decide +kernel) rfl, vm_X8_dirty.1, vm_X8_dirty.2, mk_X8_dirty⟩
theorem d_L_law_1395 : decode cL_law 1395 = .ok (.lcmp, 1) := by decide +kernel
theorem d_L_law_1396 : decode cL_law 1396 = .ok (.ifCond .eq 174, 3) := by decide +kernel
theorem d_L_law_1399 : decode cL_law 1399 = .ok (.iconst 0, 1) := by decide +kernel
theorem d_L_law_1400 : decode cL_law 1400 = .ok (.ireturn, 1) := by decide +kernel
theorem d_L_law_1401 : decode cL_law 1401 = .ok (.aload_n 1, 1) := by decide +kernel
theorem d_L_law_1402 : decode cL_law 1402 = .ok (.aload_n 3, 1) := by decide +kernel
theorem d_L_law_1403 : decode cL_law 1403 = .ok (.invokestatic 167, 3) := by decide +kernel
theorem mk_L_flush : MKH Y_L_flush 2 := ⟨KW.at (i := 74) (by decide +kernel) rfl, KW.at (i := 1019) (by decide +kernel) rfl, ⟨by decide +kernel, by decide +kernel⟩, by decide +kernel, by decide +kernel, by decide⟩
theorem sm_L_flush : KW (.static (yN Y_L_flush)) := KW.at (i := 1018) (by decide +kernel) rfl
theorem ck_RL_167 : CKH RL 167 Y_L_flush 2 := ⟨KW.at (i := 1017) (by decide +kernel) rfl, sm_L_flush, mk_L_flush⟩
theorem d_L_law_1406 : decode cL_law 1406 = .ok (.istore 5, 2) := by decide +kernel
theorem d_L_law_1408 : decode cL_law 1408 = .ok (.aload_n 2, 1) := by decide +kernel
theorem d_L_law_1409 : decode cL_law 1409 = .ok (.invokevirtual 170, 3) := by decide +kernel
theorem mk_X8_flush : MK Y_X8_flush 0 := ⟨KW.at (i := 85) (by decide +kernel) rfl, KW.at (i := 1466) (by decide +kernel) rfl, ⟨by decide +kernel, by decide +kernel⟩, by decide +kernel, by decide +kernel, rfl, by decide⟩
theorem vm_X8_flush : KW (.instanceMethod (yN Y_X8_flush)) ∧ KW (.selects (yN Y_X8_flush).cls (yN Y_X8_flush) (yN Y_X8_flush)) := ⟨KW.at (i := 1464) (by decide +kernel) rfl, KW.at (i := 1465) (by decide +kernel) rfl⟩
theorem ck_RL_170 : CKV RL 170 Y_X8_flush 0 := ⟨KW.at (i := 1463) (by decide +kernel) rfl, vm_X8_flush.1, vm_X8_flush.2, mk_X8_flush⟩
theorem d_L_law_1412 : decode cL_law 1412 = .ok (.istore 6, 2) := by decide +kernel
theorem d_L_law_1414 : decode cL_law 1414 = .ok (.aload_n 2, 1) := by decide +kernel
theorem d_L_law_1415 : decode cL_law 1415 = .ok (.invokevirtual 91, 3) := by decide +kernel
theorem d_L_law_1418 : decode cL_law 1418 = .ok (.iload 5, 2) := by decide +kernel
theorem d_L_law_1420 : decode cL_law 1420 = .ok (.if_icmp .eq 5, 3) := by decide +kernel
theorem d_L_law_1425 : decode cL_law 1425 = .ok (.iload 5, 2) := by decide +kernel
theorem d_L_law_1427 : decode cL_law 1427 = .ok (.ifCond .ne 15, 3) := by decide +kernel
theorem d_L_law_1442 : decode cL_law 1442 = .ok (.goto 128, 3) := by decide +kernel
theorem d_L_law_1430 : decode cL_law 1430 = .ok (.aload_n 3, 1) := by decide +kernel
theorem d_L_law_1431 : decode cL_law 1431 = .ok (.iconst 0, 1) := by decide +kernel
theorem d_L_law_1432 : decode cL_law 1432 = .ok (.laload, 1) := by decide +kernel
theorem d_L_law_1433 : decode cL_law 1433 = .ok (.iload 6, 2) := by decide +kernel
theorem d_L_law_1435 : decode cL_law 1435 = .ok (.i2l, 1) := by decide +kernel
theorem d_L_law_1436 : decode cL_law 1436 = .ok (.lcmp, 1) := by decide +kernel
theorem d_L_law_1437 : decode cL_law 1437 = .ok (.ifCond .eq 5, 3) := by decide +kernel
theorem d_L_law_1440 : decode cL_law 1440 = .ok (.iconst 0, 1) := by decide +kernel
theorem d_L_law_1441 : decode cL_law 1441 = .ok (.ireturn, 1) := by decide +kernel
theorem d_L_law_1423 : decode cL_law 1423 = .ok (.iconst 0, 1) := by decide +kernel
theorem d_L_law_1424 : decode cL_law 1424 = .ok (.ireturn, 1) := by decide +kernel
theorem d_L_law_1445 : decode cL_law 1445 = .ok (.aload_n 1, 1) := by decide +kernel
theorem d_L_law_1446 : decode cL_law 1446 = .ok (.aload_n 0, 1) := by decide +kernel
theorem d_L_law_1447 : decode cL_law 1447 = .ok (.iload 4, 2) := by decide +kernel
theorem d_L_law_1449 : decode cL_law 1449 = .ok (.iconst 1, 1) := by decide +kernel
theorem d_L_law_1450 : decode cL_law 1450 = .ok (.iadd, 1) := by decide +kernel
theorem d_L_law_1451 : decode cL_law 1451 = .ok (.iaload, 1) := by decide +kernel
theorem d_L_law_1452 : decode cL_law 1452 = .ok (.aload_n 3, 1) := by decide +kernel
theorem d_L_law_1453 : decode cL_law 1453 = .ok (.invokestatic 171, 3) := by decide +kernel
theorem mk_L_write : MKH Y_L_write 3 := ⟨KW.at (i := 74) (by decide +kernel) rfl, KW.at (i := 1042) (by decide +kernel) rfl, ⟨by decide +kernel, by decide +kernel⟩, by decide +kernel, by decide +kernel, by decide⟩
theorem sm_L_write : KW (.static (yN Y_L_write)) := KW.at (i := 1041) (by decide +kernel) rfl
theorem ck_RL_171 : CKH RL 171 Y_L_write 3 := ⟨KW.at (i := 1040) (by decide +kernel) rfl, sm_L_write, mk_L_write⟩
theorem d_L_law_1456 : decode cL_law 1456 = .ok (.istore 5, 2) := by decide +kernel
theorem d_L_law_1458 : decode cL_law 1458 = .ok (.aload_n 2, 1) := by decide +kernel
theorem d_L_law_1459 : decode cL_law 1459 = .ok (.aload_n 0, 1) := by decide +kernel
theorem d_L_law_1460 : decode cL_law 1460 = .ok (.iload 4, 2) := by decide +kernel
theorem d_L_law_1462 : decode cL_law 1462 = .ok (.iconst 1, 1) := by decide +kernel
theorem d_L_law_1463 : decode cL_law 1463 = .ok (.iadd, 1) := by decide +kernel
theorem d_L_law_1464 : decode cL_law 1464 = .ok (.iaload, 1) := by decide +kernel
theorem d_L_law_1465 : decode cL_law 1465 = .ok (.invokevirtual 173, 3) := by decide +kernel
theorem mk_X8_write : MK Y_X8_write 1 := ⟨KW.at (i := 85) (by decide +kernel) rfl, KW.at (i := 1478) (by decide +kernel) rfl, ⟨by decide +kernel, by decide +kernel⟩, by decide +kernel, by decide +kernel, rfl, by decide⟩
theorem vm_X8_write : KW (.instanceMethod (yN Y_X8_write)) ∧ KW (.selects (yN Y_X8_write).cls (yN Y_X8_write) (yN Y_X8_write)) := ⟨KW.at (i := 1476) (by decide +kernel) rfl, KW.at (i := 1477) (by decide +kernel) rfl⟩
theorem ck_RL_173 : CKV RL 173 Y_X8_write 1 := ⟨KW.at (i := 1475) (by decide +kernel) rfl, vm_X8_write.1, vm_X8_write.2, mk_X8_write⟩
theorem d_L_law_1468 : decode cL_law 1468 = .ok (.istore 6, 2) := by decide +kernel
theorem d_L_law_1470 : decode cL_law 1470 = .ok (.aload_n 2, 1) := by decide +kernel
theorem d_L_law_1471 : decode cL_law 1471 = .ok (.invokevirtual 91, 3) := by decide +kernel
theorem d_L_law_1474 : decode cL_law 1474 = .ok (.iload 5, 2) := by decide +kernel
theorem d_L_law_1476 : decode cL_law 1476 = .ok (.if_icmp .eq 5, 3) := by decide +kernel
theorem d_L_law_1481 : decode cL_law 1481 = .ok (.iload 5, 2) := by decide +kernel
theorem d_L_law_1483 : decode cL_law 1483 = .ok (.ifCond .ne 15, 3) := by decide +kernel
theorem d_L_law_1498 : decode cL_law 1498 = .ok (.goto 72, 3) := by decide +kernel
theorem d_L_law_1486 : decode cL_law 1486 = .ok (.aload_n 3, 1) := by decide +kernel
theorem d_L_law_1487 : decode cL_law 1487 = .ok (.iconst 0, 1) := by decide +kernel
theorem d_L_law_1488 : decode cL_law 1488 = .ok (.laload, 1) := by decide +kernel
theorem d_L_law_1489 : decode cL_law 1489 = .ok (.iload 6, 2) := by decide +kernel
theorem d_L_law_1491 : decode cL_law 1491 = .ok (.i2l, 1) := by decide +kernel
theorem d_L_law_1492 : decode cL_law 1492 = .ok (.lcmp, 1) := by decide +kernel
theorem d_L_law_1493 : decode cL_law 1493 = .ok (.ifCond .eq 5, 3) := by decide +kernel
theorem d_L_law_1496 : decode cL_law 1496 = .ok (.iconst 0, 1) := by decide +kernel
theorem d_L_law_1497 : decode cL_law 1497 = .ok (.ireturn, 1) := by decide +kernel
theorem d_L_law_1479 : decode cL_law 1479 = .ok (.iconst 0, 1) := by decide +kernel
theorem d_L_law_1480 : decode cL_law 1480 = .ok (.ireturn, 1) := by decide +kernel
theorem d_L_law_1501 : decode cL_law 1501 = .ok (.aload_n 1, 1) := by decide +kernel
theorem d_L_law_1502 : decode cL_law 1502 = .ok (.aload_n 0, 1) := by decide +kernel
theorem d_L_law_1503 : decode cL_law 1503 = .ok (.iload 4, 2) := by decide +kernel
theorem d_L_law_1505 : decode cL_law 1505 = .ok (.iconst 1, 1) := by decide +kernel
theorem d_L_law_1506 : decode cL_law 1506 = .ok (.iadd, 1) := by decide +kernel
theorem d_L_law_1507 : decode cL_law 1507 = .ok (.iaload, 1) := by decide +kernel
theorem d_L_law_1508 : decode cL_law 1508 = .ok (.aload_n 3, 1) := by decide +kernel
theorem d_L_law_1509 : decode cL_law 1509 = .ok (.invokestatic 174, 3) := by decide +kernel
theorem mk_L_log : MKH Y_L_log 3 := ⟨KW.at (i := 74) (by decide +kernel) rfl, KW.at (i := 1058) (by decide +kernel) rfl, ⟨by decide +kernel, by decide +kernel⟩, by decide +kernel, by decide +kernel, by decide⟩
theorem sm_L_log : KW (.static (yN Y_L_log)) := KW.at (i := 1057) (by decide +kernel) rfl
theorem ck_RL_174 : CKH RL 174 Y_L_log 3 := ⟨KW.at (i := 1056) (by decide +kernel) rfl, sm_L_log, mk_L_log⟩
theorem d_L_law_1512 : decode cL_law 1512 = .ok (.istore 5, 2) := by decide +kernel
theorem d_L_law_1514 : decode cL_law 1514 = .ok (.aload_n 2, 1) := by decide +kernel
theorem d_L_law_1515 : decode cL_law 1515 = .ok (.aload_n 0, 1) := by decide +kernel
theorem d_L_law_1516 : decode cL_law 1516 = .ok (.iload 4, 2) := by decide +kernel
theorem d_L_law_1518 : decode cL_law 1518 = .ok (.iconst 1, 1) := by decide +kernel
theorem d_L_law_1519 : decode cL_law 1519 = .ok (.iadd, 1) := by decide +kernel
theorem d_L_law_1520 : decode cL_law 1520 = .ok (.iaload, 1) := by decide +kernel
theorem d_L_law_1521 : decode cL_law 1521 = .ok (.invokevirtual 176, 3) := by decide +kernel
theorem mk_X8_log : MK Y_X8_log 1 := ⟨KW.at (i := 85) (by decide +kernel) rfl, KW.at (i := 1486) (by decide +kernel) rfl, ⟨by decide +kernel, by decide +kernel⟩, by decide +kernel, by decide +kernel, rfl, by decide⟩
theorem vm_X8_log : KW (.instanceMethod (yN Y_X8_log)) ∧ KW (.selects (yN Y_X8_log).cls (yN Y_X8_log) (yN Y_X8_log)) := ⟨KW.at (i := 1484) (by decide +kernel) rfl, KW.at (i := 1485) (by decide +kernel) rfl⟩
theorem ck_RL_176 : CKV RL 176 Y_X8_log 1 := ⟨KW.at (i := 1483) (by decide +kernel) rfl, vm_X8_log.1, vm_X8_log.2, mk_X8_log⟩
theorem d_L_law_1524 : decode cL_law 1524 = .ok (.istore 6, 2) := by decide +kernel
theorem d_L_law_1526 : decode cL_law 1526 = .ok (.aload_n 2, 1) := by decide +kernel
theorem d_L_law_1527 : decode cL_law 1527 = .ok (.invokevirtual 91, 3) := by decide +kernel
theorem d_L_law_1530 : decode cL_law 1530 = .ok (.iload 5, 2) := by decide +kernel
theorem d_L_law_1532 : decode cL_law 1532 = .ok (.if_icmp .eq 5, 3) := by decide +kernel
theorem d_L_law_1537 : decode cL_law 1537 = .ok (.iload 5, 2) := by decide +kernel
theorem d_L_law_1539 : decode cL_law 1539 = .ok (.ifCond .ne 15, 3) := by decide +kernel
theorem d_L_law_1554 : decode cL_law 1554 = .ok (.goto 16, 3) := by decide +kernel
theorem d_L_law_1542 : decode cL_law 1542 = .ok (.aload_n 3, 1) := by decide +kernel
theorem d_L_law_1543 : decode cL_law 1543 = .ok (.iconst 0, 1) := by decide +kernel
theorem d_L_law_1544 : decode cL_law 1544 = .ok (.laload, 1) := by decide +kernel
theorem d_L_law_1545 : decode cL_law 1545 = .ok (.iload 6, 2) := by decide +kernel
theorem d_L_law_1547 : decode cL_law 1547 = .ok (.i2l, 1) := by decide +kernel
theorem d_L_law_1548 : decode cL_law 1548 = .ok (.lcmp, 1) := by decide +kernel
theorem d_L_law_1549 : decode cL_law 1549 = .ok (.ifCond .eq 5, 3) := by decide +kernel
theorem d_L_law_1552 : decode cL_law 1552 = .ok (.iconst 0, 1) := by decide +kernel
theorem d_L_law_1553 : decode cL_law 1553 = .ok (.ireturn, 1) := by decide +kernel
theorem d_L_law_1535 : decode cL_law 1535 = .ok (.iconst 0, 1) := by decide +kernel
theorem d_L_law_1536 : decode cL_law 1536 = .ok (.ireturn, 1) := by decide +kernel
theorem d_L_law_1557 : decode cL_law 1557 = .ok (.aload_n 1, 1) := by decide +kernel
theorem d_L_law_1558 : decode cL_law 1558 = .ok (.invokevirtual 177, 3) := by decide +kernel
theorem mk_X7_crash : MK Y_X7_crash 0 := ⟨KW.at (i := 75) (by decide +kernel) rfl, KW.at (i := 505) (by decide +kernel) rfl, ⟨by decide +kernel, by decide +kernel⟩, by decide +kernel, by decide +kernel, rfl, by decide⟩
theorem vm_X7_crash : KW (.instanceMethod (yN Y_X7_crash)) ∧ KW (.selects (yN Y_X7_crash).cls (yN Y_X7_crash) (yN Y_X7_crash)) := ⟨KW.at (i := 503) (by decide +kernel) rfl, KW.at (i := 504) (by decide +kernel) rfl⟩
theorem ck_RL_177 : CKV RL 177 Y_X7_crash 0 := ⟨KW.at (i := 502) (by decide +kernel) rfl, vm_X7_crash.1, vm_X7_crash.2, mk_X7_crash⟩
theorem d_L_law_1561 : decode cL_law 1561 = .ok (.aload_n 2, 1) := by decide +kernel
theorem d_L_law_1562 : decode cL_law 1562 = .ok (.invokevirtual 180, 3) := by decide +kernel
theorem mk_X8_crash : MK Y_X8_crash 0 := ⟨KW.at (i := 85) (by decide +kernel) rfl, KW.at (i := 1490) (by decide +kernel) rfl, ⟨by decide +kernel, by decide +kernel⟩, by decide +kernel, by decide +kernel, rfl, by decide⟩
theorem vm_X8_crash : KW (.instanceMethod (yN Y_X8_crash)) ∧ KW (.selects (yN Y_X8_crash).cls (yN Y_X8_crash) (yN Y_X8_crash)) := ⟨KW.at (i := 1488) (by decide +kernel) rfl, KW.at (i := 1489) (by decide +kernel) rfl⟩
theorem ck_RL_180 : CKV RL 180 Y_X8_crash 0 := ⟨KW.at (i := 1487) (by decide +kernel) rfl, vm_X8_crash.1, vm_X8_crash.2, mk_X8_crash⟩
theorem d_L_law_1565 : decode cL_law 1565 = .ok (.if_icmp .eq 5, 3) := by decide +kernel
theorem d_L_law_1568 : decode cL_law 1568 = .ok (.iconst 0, 1) := by decide +kernel
theorem d_L_law_1569 : decode cL_law 1569 = .ok (.ireturn, 1) := by decide +kernel
