/-! a callee with handlers, a call that is caught, the native copy -/
def cpy2 (D : DD) (a0 a1 n : Nat) : DD := fun x => if x = a1 then (fun j => if j < n then D a0 j else D a1 j) else D x
def AK (own : String) (idx : Nat) : Prop := KW (.methodLink own idx arraycopyName) ∧ KW (.native arraycopyName) ∧ KW (.static arraycopyName) ∧ KW (.initialized "java/lang/System")
def HK (y : YT) (pc n hpc : Nat) : Prop := ∃ (pre : List (Nat × Nat × Nat × Nat)) (x : Nat × Nat × Nat × Nat) (suf : List (Nat × Nat × Nat × Nat)), yH y = pre ++ x :: suf ∧ (∀ z ∈ pre, z.2.2.2 ≠ 0 ∧ ∃ nm, KW (.classLink (yN y).cls z.2.2.2 nm) ∧ (exn n, nm) ∈ ncT) ∧
  (x.1 ≤ pc ∧ pc < x.2.1) ∧ x.2.2.1 = hpc ∧ x.2.2.2 ≠ 0 ∧ KW (.classLink (yN y).cls x.2.2.2 (exn n)) ∧ KW (.castable (exn n) (exn n))
section CALLS2
variable {Γ : GG} {rg : Nat → Bool} {κ : Nat} {y : YT} {pc : Nat} {ls st : List PV} {D : DD} {Φ : OT → DD → Prop}
theorem r_callH {y' : YT} {as rest : List PV} {ls' : List PV} {idx n κ1 κ2 : Nat} {Ψ : OT → DD → Prop} (hd : decode (yB y) pc = .ok (.invokestatic idx, 3)) (hC : CKH (yN y).cls idx y' n) (hn : as.length = n)
    (hst : st = as.reverse ++ rest) (hok : argok as = true) (hrest : (rest.map pcat).sum ≤ 8) (hfit : (lg_sl (as.map (mv Γ 0))).length ≤ yL y')
    (hk : yK y' < yK y) (hκ : κ1 + κ2 = κ) (hh : yH y = []) (hls : ent (yL y') as = ls') (hR : Run Γ rg κ1 y' 0 ls' [] D Ψ)
    (kret : ∀ (v : Option PV) (D' : DD), Ψ (.inl v) D' → Run Γ rg κ2 y (pc + 3) ls (v.toList ++ rest) D' Φ) (kthr : ∀ (n : Nat) (D' : DD), Ψ (.inr n) D' → Φ (.inr n) D') : Run Γ rg κ y pc ls st D Φ := by
  intro p e R s m args below meth c H locs lsm cells slots q mc ms C hH hS hl h1 h2 h3 h4
  obtain ⟨hx, hb, hml, hown, hlk, hrt, htb, hfr, hlo, hE⟩ := id C
  subst hls
  obtain ⟨c1, c2, hM⟩ := hC
  obtain ⟨m1, m2, m3, m4, m5, m7⟩ := id hM
  have hrun := vx_runSX (args := args) (own := (yN y).cls) (Ts := []) (index := idx) (bytes := yB y') (maxL := yL y') (ret := yR y') (hh := yH y') (As := as.map (mv Γ 0)) (n := n) (rest := rest.map (mv Γ q)) (g := F0 m pc lsm (st.map (mv Γ q))) (locs := locs) (cells := cells) (slots := slots) (below := below) (meth := meth) (e := e) (R := R)
    ⟨hx, hb, hml, hown, fun w hw => by cases hw⟩ (ctr_ofH hM hfit hR)
    ⟨⟨rfl, rfl, by show yK y' + 1 ≤ R.frames; omega, by show 8 + (yL y' + 11) + 36 * yK y' ≤ R.locals; omega, code_ws hE m2 rfl, List.mem_singleton.mpr rfl⟩, hE.word m2, hE.word m1, m3, fun sig h => by rw [h] at m4; exact (Option.some.inj m4).symm, hE.word c1, hE.word c2⟩
    ⟨pc_blind, fun U hU hW => ⟨rfl, hE.move hU hS hW, by rw [hU]; exact hH⟩⟩
    rfl (by rw [List.length_map]; exact hn) hl.1
    (by show st.map (mv Γ q) = _; rw [hst, List.map_append, List.map_reverse, argok_map (q' := 0) hok])
    (by show 2 * 0 + _ ≤ 8; rw [pcat_sum]; omega) hd ⟨by omega, by omega⟩
  exact run_after C hS hl h1 h2 h3 h4 hκ hrun kret (fun n D' H1 locs1 q9 ce hn' hp hH' hS' a1 a2 a3 => run_out C hh hn' (kthr n D' hp) hH' hS' a1 a2 a3 (by omega) (by omega))
/-- caught by this method's table -/
theorem run_catch {p : Program} {e : Env} {R : Room} {s : State} {m : MethodId} {args : Array Value} {below : List Frame} {meth : Method} {c : Code} {H1 : Heap} {locs1 : List Loc} {lsm : Array Slot} {stm : List Value} {cells slots q mc ms n hpc : Nat} {q9 : Addr} {ce : Cell} {D' : DD}
    (C : Cx Γ y R p s m meth c) (hK : HK y pc n hpc) (hl : lvr Γ q (yL y) ls lsm) (hv : ls.all (fun v => v.1 != 4 && v.1 != 6 && v.1 != 2) = true) (hH : HW Γ rg D' H1) (hS : va_S (Ab Γ) s.heap H1 locs1) (hce : H1[q9]? = some ce) (hcv : ce.vm = .none) (hcl : s.vm.findClass (exn n) = some ce.cls) (h1 : cells + κ ≤ mc) (h2 : slots + 6 * κ ≤ ms) (h3 : mc ≤ R.cells) (h4 : ms ≤ R.slots)
    (k : Run Γ rg κ y hpc ls [(4, 0)] D' Φ) :
    vx_W p Γ.1 e R s m args below meth c H1 locs1 cells slots (vx_MQ below (Qcc Γ rg Φ) (XCc Γ rg Φ) args s mc ms (Ab Γ)) (F0 m pc lsm stm) q9 := by
  obtain ⟨hx, hb, hml, hown, hlk, hrt, htb, hfr, hlo, hE⟩ := id C
  obtain ⟨pre, x, suf, e1, e2, e3, e4, e5, e6, e7⟩ := hK
  refine vx_catch (own := (yN y).cls) (name := exn n) (E := exn n) (ce := ce) hown (tableOf pre) ⟨x.1, x.2.1, x.2.2.1, x.2.2.2⟩ (tableOf suf) (by rw [htb, e1]; simp [tableOf]) (fun z hz => ?_) ?_ e5 (hE.word e6) (hE.word e7) hce hcv hcl ?_
  · obtain ⟨r, hr, rfl⟩ := List.mem_map.mp hz
    obtain ⟨z1, nm, z2, z3⟩ := e2 r hr
    exact Or.inr ⟨z1, nm, hE.word z2, hE.2.2.2.2.2.2.1 _ z3⟩
  · simp only [covers, Bool.and_eq_true, decide_eq_true_eq]
    exact e3
  · rw [← e4] at k
    exact k p e R s m args below meth c H1 locs1 lsm cells slots q9 mc ms C hH hS (hl.q hv) h1 h2 h3 h4
theorem r_callC {y' : YT} {as rest : List PV} {ls' : List PV} {a idx ci n N κ1 κ2 : Nat} {cs : List Nat} {TT : u_T} {z : Int} {Ψ : OT → DD → Prop} (hd : decode (yB y) pc = .ok (.invokevirtual idx, 3)) (hC : CKV (yN y).cls idx y' n) (hn : as.length = n)
    (hs : SH.getD a (9, 0, []) = (0, ci, cs)) (hci : vwCl[ci]? = some ((yN y').cls, TT, N)) (ha : a < NA) (hr : rg a = true) (hst : st = as.reverse ++ (a + 8, z) :: rest) (hok : argok as = true) (hrest : (rest.map pcat).sum ≤ 8) (hfit : (lg_sl (((a + 8, z) :: as).map (mv Γ 0))).length ≤ yL y')
    (hk : yK y' < yK y) (hκ : κ1 + κ2 = κ) (hls : ent (yL y') ((a + 8, z) :: as) = ls') (hv : ls.all (fun v => v.1 != 4 && v.1 != 6 && v.1 != 2) = true) (hR : Run Γ rg κ1 y' 0 ls' [] D Ψ)
    (kret : ∀ (v : Option PV) (D' : DD), Ψ (.inl v) D' → Run Γ rg κ2 y (pc + 3) ls (v.toList ++ rest) D' Φ)
    (kthr : ∀ (n : Nat) (D' : DD), n ≤ 2 → Ψ (.inr n) D' → ∃ hpc, HK y pc n hpc ∧ Run Γ rg κ2 y hpc ls [(4, 0)] D' Φ) : Run Γ rg κ y pc ls st D Φ := by
  intro p e R s m args below meth c H locs lsm cells slots q mc ms C hH hS hl h1 h2 h3 h4
  obtain ⟨hx, hb, hml, hown, hlk, hrt, htb, hfr, hlo, hE⟩ := id C
  subst hls
  obtain ⟨c1, c2, c3, hM⟩ := hC
  obtain ⟨m1, m2, m3, m4, m5, m6, m7⟩ := id hM
  obtain ⟨q0, -, hq⟩ := wsl_at ha hr
  have hce : cellOf Γ D a = .inr (ci, (List.range cs.length).map (fun k => fvz Γ (cs.getD k 0) (D a k))) := by unfold cellOf; simp only [hs]
  have hat := (hq Γ D).1
  rw [hce] at hat
  have hrun := vx_runV (args := args) (C := (yN y').cls) (own := (yN y).cls) (Ts := []) (index := idx) (bytes := yB y') (maxL := yL y') (ret := yR y') (As := as.map (mv Γ 0)) (b := gB Γ + a) (n := n) (rest := rest.map (mv Γ q)) (g := F0 m pc lsm (st.map (mv Γ q))) (locs := locs) (cells := cells) (slots := slots) (below := below) (meth := meth) (e := e) (R := R)
    ⟨hx, hb, hml, hown, fun w hw => by cases hw⟩ (ctr_of hM hfit hR)
    ⟨⟨rfl, rfl, by show yK y' + 1 ≤ R.frames; omega, by show 8 + (yL y' + 11) + 36 * yK y' ≤ R.locals; omega, code_ws hE m2 rfl, List.mem_singleton.mpr rfl, hE.word m2, hE.word m1, m3, fun sig h => by rw [h] at m4; exact (Option.some.inj m4).symm, hE.word c1⟩, hE.word c2, hE.word c3⟩
    ⟨pc_blind, va_recv hE.2.2.1 hH.1 hci hat, fun U hU hW => ⟨rfl, hE.move hU hS hW, by rw [hU]; exact hH⟩⟩
    rfl (by rw [List.length_map]; exact hn) hl.1
    (by show st.map (mv Γ q) = _; rw [hst, List.map_append, List.map_reverse, argok_map (q' := 0) hok]; rfl)
    (by show 2 * 0 + _ ≤ 8; rw [pcat_sum]; omega) hd ⟨by omega, by omega⟩
  refine run_after C hS hl h1 h2 h3 h4 hκ hrun kret (fun n D' H1 locs1 q9 ce hn' hp hH' hS' a1 a2 a3 => ?_)
  obtain ⟨hpc, hK, hkr⟩ := kthr n D' hn' hp
  exact run_catch C hK hl hv hH' hS' a1 a2 a3 (by omega) (by omega) h3 h4 hkr
theorem r_acopy {a0 a1 n0 n1 idx : Nat} {z0 z1 n : Int} {cs0 cs1 : List Nat} {rest : List PV} (hd : decode (yB y) pc = .ok (.invokestatic idx, 3)) (hA : AK (yN y).cls idx) (hs0 : SH.getD a0 (9, 0, []) = (1, n0, cs0)) (hs1 : SH.getD a1 (9, 0, []) = (1, n1, cs1)) (ha0 : a0 < NA) (ha1 : a1 < NA) (hr0 : rg a0 = true) (hr1 : rg a1 = true)
    (hn0 : n0 < 2147483648) (hn : 0 ≤ n) (hn1 : n ≤ n0) (hn2 : n ≤ n1) (hrest : (rest.map pcat).sum ≤ 8) (hK : 1 ≤ yK y)
    (kk : Run Γ rg κ y (pc + 3) ls rest (cpy2 D a0 a1 n.toNat) Φ) : Run Γ rg κ y pc ls ((0, n) :: (0, 0) :: (a1 + 8, z1) :: (0, 0) :: (a0 + 8, z0) :: rest) D Φ := by
  intro p e R s m args below meth c H locs lsm cells slots q mc ms C hH hS hl h1 h2 h3 h4
  obtain ⟨hx, hb, hml, hown, hlk, hrt, htb, hfr, hlo, hE⟩ := id C
  obtain ⟨q0, -, hq0⟩ := wsl_at ha0 hr0
  obtain ⟨q1, -, hq1⟩ := wsl_at ha1 hr1
  have c0 : cellOf Γ D a0 = .inl (gI Γ, n0, .inl (fun j => Int32.ofInt (D a0 j))) := by unfold cellOf; simp only [hs0]
  have c1 : ∀ D : DD, cellOf Γ D a1 = .inl (gI Γ, n1, .inl (fun j => Int32.ofInt (D a1 j))) := fun D => by unfold cellOf; simp only [hs1]
  have hat0 := (hq0 Γ D).1
  have hat1 := (hq1 Γ D).1
  have hset := (hq1 Γ D).2 (cpy2 D a0 a1 n.toNat) (fun b hb => by unfold cpy2; rw [if_neg hb])
  rw [c0] at hat0
  rw [c1] at hat1 hset
  have hRn : inR n := ⟨by omega, by omega⟩
  have e0 : (Int32.ofInt 0).toNatClampNeg = 0 := rfl
  have en : (Int32.ofInt n).toNatClampNeg = n.toNat := ofI_clamp hRn
  refine va_copyi (cc := yB y) (ty := .int) hx hb (hml.trans hl.1.symm) hown (hE.word hA.1) (hE.word hA.2.1) (hE.word hA.2.2.1) (hE.word hA.2.2.2) hE.2.2.1 hH.1 (wsl_D Γ rg D) (H0 := H) ⟨Nat.le_refl _, fun _ _ _ => rfl, hS.2.2⟩ q0 q1 0 0 hat0 hat1 rfl rfl rfl
    (sp := Int32.ofInt 0) (dp := Int32.ofInt 0) (n := Int32.ofInt n) (by decide) (by decide) (by rw [ofI_0, ofI_lt hRn inR_0]; omega) (by rw [e0, en]; omega) (by rw [e0, en]; omega) (fun _ _ => rfl) (by omega) ?_ hd (fun H1 locs1 hP1 hD1 hS1 => ?_)
  · rw [pcat_sum]
    show _ + (nativeFrameWords "java/lang/System" "arraycopy" 5 + 11) ≤ R.locals
    have : nativeFrameWords "java/lang/System" "arraycopy" 5 = 7 := by decide +kernel
    rw [this]
    omega
  · rw [e0, en] at hP1
    have ef : va_cpy (fun j => Int32.ofInt (D a0 j)) (fun j => Int32.ofInt (D a1 j)) 0 0 n.toNat = fun j => Int32.ofInt (cpy2 D a0 a1 n.toNat a1 j) := by
      funext j
      unfold va_cpy cpy2
      rw [if_pos rfl]
      dsimp only
      by_cases hj : j < n.toNat
      · rw [if_pos ⟨Nat.zero_le _, by omega⟩, if_pos hj, Nat.zero_add, Nat.sub_zero]
      · rw [if_neg (fun h => hj (by omega)), if_neg hj]
    rw [ef, hset] at hP1
    have h99 : cpy2 D a0 a1 n.toNat 99 = D 99 := by unfold cpy2; rw [if_neg (n99 ha1)]
    exact kk p e R s m args below meth c H1 locs1 lsm cells slots q mc ms C (hH.sto hS hP1 hS1 h99).1 (hH.sto hS hP1 hS1 h99).2 hl h1 h2 h3 h4
end CALLS2
