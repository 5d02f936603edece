/-! throws, calls, the native copy -/
def kwb (w : Cond) : Bool := decide (w ∈ lw_tbl) && kk w
theorem KW.of {w : Cond} (h : kwb w = true) : KW w := by
  simp only [kwb, Bool.and_eq_true, decide_eq_true_eq] at h
  exact h
theorem KW.all {L : List Cond} (h : L.all kwb = true) : ∀ w ∈ L, KW w := fun w hw => KW.of (List.all_eq_true.mp h w hw)
def thn : List String := ["java/lang/RuntimeException", "java/lang/Exception"]
def TK (own : String) (n ik ic : Nat) : Prop := KW (.classLink own ik (exn n)) ∧ KW (.initialized (exn n)) ∧ (∀ w ∈ vx_atS own ic (exn n) thn, KW w) ∧ Bundle.fit (exn n) = true ∧ n ≤ 2
theorem thn_fit : ∀ n ∈ thn, Bundle.fit n = true := by decide +kernel
def MK (y : YT) (n : Nat) : Prop := KW (.initialized (yN y).cls) ∧ KW (.code (yN y) (yB y) (yL y) (yR y)) ∧ ((yN y).cls ≠ "java/lang/invoke/MethodHandle" ∧ (yN y).cls ≠ "java/lang/invoke/VarHandle") ∧ (parseMethodDescriptor (yN y).desc).map (fun d => d.parameters.length) = some n ∧ plainName (yN y).cls = true ∧ yH y = [] ∧ yL y ≤ 17
def MKH (y : YT) (n : Nat) : Prop := KW (.initialized (yN y).cls) ∧ KW (.codeWith (yN y) (yB y) (yL y) (yR y) (yH y)) ∧ ((yN y).cls ≠ "java/lang/invoke/MethodHandle" ∧ (yN y).cls ≠ "java/lang/invoke/VarHandle") ∧ (parseMethodDescriptor (yN y).desc).map (fun d => d.parameters.length) = some n ∧ plainName (yN y).cls = true ∧ yL y ≤ 17
def CKV (own : String) (idx : Nat) (y : YT) (n : Nat) : Prop := KW (.methodLink own idx (yN y)) ∧ KW (.instanceMethod (yN y)) ∧ KW (.selects (yN y).cls (yN y) (yN y)) ∧ MK y n
def CKS (own : String) (idx : Nat) (y : YT) (n : Nat) : Prop := KW (.methodLink own idx (yN y)) ∧ KW (.static (yN y)) ∧ MK y n
def CKN (own : String) (idx : Nat) (y : YT) (n : Nat) : Prop := KW (.methodLinkNest own idx (yN y) "HiveKeys") ∧ KW (.static (yN y)) ∧ MK y n
def CKH (own : String) (idx : Nat) (y : YT) (n : Nat) : Prop := KW (.methodLink own idx (yN y)) ∧ KW (.static (yN y)) ∧ MKH y n
def rmy (y : YT) (κ : Nat) : Room := { frames := yK y, cells := κ, slots := 6 * κ, locals := 36 * yK y }
def pcat (v : PV) : Nat := if v.1 = 1 then 2 else 1
theorem pcat_sum (Γ : GG) (q : Nat) (st : List PV) : (((st.map (mv Γ q)).map fun v => v.category).sum) = (st.map pcat).sum := by
  congr 1
  rw [List.map_map]
  apply List.map_congr_left
  intro v _
  exact mv_cat Γ q v
def argok (as : List PV) : Bool := as.all (fun v => v.1 != 4 && v.1 != 5 && v.1 != 6 && v.1 != 2)
theorem argok_map {Γ : GG} {q q' : Nat} {as : List PV} (h : argok as = true) : as.map (mv Γ q) = as.map (mv Γ q') := by
  apply List.map_congr_left
  intro v hv
  have := List.all_eq_true.mp h v hv
  simp only [Bool.and_eq_true, bne_iff_ne] at this
  exact mv_q this.1.1.1 this.1.1.2 this.1.2 this.2
section CALLS
variable {Γ : GG} {rg : Nat → Bool} {κ : Nat} {y : YT} {pc : Nat} {ls st : List PV} {D : DD} {Φ : OT → DD → Prop}
theorem HW.bump {H H1 : Heap} (h : HW Γ rg D H) (hz : H.size + 1 ≤ H1.size) (hq : ∀ q : Nat, q < H.size → H1[q]? = H[q]?) : HW Γ rg (bmp D) H1 := by
  refine ⟨by rw [wsl_bmp]; exact va_P.kept h.1 (fun k q hk => hq q.1 (h.1 k q hk).lt), ?_⟩
  have h2 := h.2
  have e : bmp D 99 0 = D 99 0 + 1 := by unfold bmp; rw [up2_at]; exact if_pos rfl
  rw [e]
  omega
theorem r_throw {n ik is ic : Nat} {text : String} (hT : TK (yN y).cls n ik ic) (hstr : ((yN y).cls, is, text) ∈ strT)
    (d0 : decode (yB y) pc = .ok (.new ik, 3)) (d3 : decode (yB y) (pc + 3) = .ok (.dup, 1)) (d4 : decode (yB y) (pc + 4) = .ok (.ldc is, 2)) (d6 : decode (yB y) (pc + 6) = .ok (.invokespecial ic, 3)) (d9 : decode (yB y) (pc + 9) = .ok (.athrow, 1))
    (hh : yH y = []) (hK : 6 ≤ yK y) (hst : (st.map pcat).sum ≤ 20) (hκ : 1 ≤ κ) (hΦ : Φ (.inr n) (bmp D)) : Run Γ rg κ y pc ls st D Φ := by
  intro p e R s m args below meth c H locs lsm cells slots q mc ms C hH hS hl h1 h2 h3 h4
  obtain ⟨hx, hb, hml, hown, hlk, hrt, htb, hfr, hlo, hE⟩ := id C
  obtain ⟨sa, hsa⟩ := hE.2.2.2.2.2.1 _ hstr
  have hsum := pcat_sum Γ q st
  refine vx_throwS (names := thn) (mc := mc) (ms := ms) (A := Ab Γ) hx hb hE.1 hown hT.2.2.2.1 thn_fit (hE.word hT.1) (hE.word hT.2.1) hsa (fun w hw => hE.word (hT.2.2.1 w hw)) (fun w hw => ?_) hE.2.2.2.1 hE.2.2.2.2.1 hS (hl.1.trans hml.symm) d0 d3 d4 d6 d9 (fun x hx' => ?_) ?_ ?_ (by omega) (by omega) hlk (fun t ht hz hq => ⟨n, bmp D, hT.2.2.2.2, rfl, hΦ, hH.bump hz hq, Nat.le_trans hS.1 (Nat.le_of_succ_le hz), fun q' h1' h2' => ?_⟩) hS.2.2 (by omega) (by omega)
  · have : KW w := by
      rcases List.mem_cons.mp hw with rfl | hw
      · exact hT.1
      · rcases List.mem_cons.mp hw with rfl | hw
        · exact hT.2.1
        · exact hT.2.2.1 w hw
    unfold vx_ot
    rw [kk_on this.2]; rfl
  · rw [htb, hh] at hx'
    cases hx'
  · show 2 + 3 < R.frames
    omega
  · rw [hsum]
    show _ + (13 * (2 + 1) + 43) ≤ R.locals
    omega
  · rw [hq q' (Nat.lt_of_lt_of_le h1' hS.1)]
    exact hS.2.1 q' h1' h2'
theorem r_throwW {n ik is ic : Nat} {text : String} (hT : TK (yN y).cls n ik ic) (hstr : ((yN y).cls, is, text) ∈ strT)
    (d0 : decode (yB y) pc = .ok (.new ik, 3)) (d3 : decode (yB y) (pc + 3) = .ok (.dup, 1)) (d4 : decode (yB y) (pc + 4) = .ok (.ldc_w is, 3)) (d7 : decode (yB y) (pc + 7) = .ok (.invokespecial ic, 3)) (d10 : decode (yB y) (pc + 10) = .ok (.athrow, 1))
    (hh : yH y = []) (hK : 6 ≤ yK y) (hst : (st.map pcat).sum ≤ 20) (hκ : 1 ≤ κ) (hΦ : Φ (.inr n) (bmp D)) : Run Γ rg κ y pc ls st D Φ := by
  intro p e R s m args below meth c H locs lsm cells slots q mc ms C hH hS hl h1 h2 h3 h4
  obtain ⟨hx, hb, hml, hown, hlk, hrt, htb, hfr, hlo, hE⟩ := id C
  obtain ⟨sa, hsa⟩ := hE.2.2.2.2.2.1 _ hstr
  have hsum := pcat_sum Γ q st
  refine vx_throwSW (names := thn) (mc := mc) (ms := ms) (A := Ab Γ) hx hb hE.1 hown hT.2.2.2.1 thn_fit (hE.word hT.1) (hE.word hT.2.1) hsa (fun w hw => hE.word (hT.2.2.1 w hw)) (fun w hw => ?_) hE.2.2.2.1 hE.2.2.2.2.1 hS (hl.1.trans hml.symm) d0 d3 d4 d7 d10 (fun x hx' => ?_) ?_ ?_ (by omega) (by omega) hlk (fun t ht hz hq => ⟨n, bmp D, hT.2.2.2.2, rfl, hΦ, hH.bump hz hq, Nat.le_trans hS.1 (Nat.le_of_succ_le hz), fun q' h1' h2' => ?_⟩) hS.2.2 (by omega) (by omega)
  · have : KW w := by
      rcases List.mem_cons.mp hw with rfl | hw
      · exact hT.1
      · rcases List.mem_cons.mp hw with rfl | hw
        · exact hT.2.1
        · exact hT.2.2.1 w hw
    unfold vx_ot
    rw [kk_on this.2]; rfl
  · rw [htb, hh] at hx'
    cases hx'
  · show 2 + 3 < R.frames
    omega
  · rw [hsum]
    show _ + (13 * (2 + 1) + 43) ≤ R.locals
    omega
  · rw [hq q' (Nat.lt_of_lt_of_le h1' hS.1)]
    exact hS.2.1 q' h1' h2'
/-- a method's contract out of its run from the entry -/
theorem ctr_of {as : List PV} {n : Nat} (hM : MK y n) (hfit : (lg_sl (as.map (mv Γ 0))).length ≤ yL y) (hR : Run Γ rg κ y 0 (ent (yL y) as) [] D Φ) :
    vx_Met Γ.1 (yN y) [.code (yN y) (yB y) (yL y) (yR y)] (rmy y κ) (va_Pc (as.map (mv Γ 0)) (fun U => EV Γ U ∧ HW Γ rg D U.heap)) (Qcc Γ rg Φ) (XCc Γ rg Φ) κ (6 * κ) (Ab Γ) := by
  refine vx_ofW (cc := yB y) (maxL := yL y) (ret := yR y) hM.2.2.2.2.1 rfl ?_
  intro p e s m args below meth c s₁ B hml htab hP
  obtain ⟨rfl, hE, hH⟩ := hP
  rw [lg_entry_eq]
  refine hR p e (rmy y κ) s m _ below meth c s.heap [] _ 0 0 0 κ (6 * κ) ⟨B.exec, B.bytes, hml, findClass_of_methodNamed B.named, B.notSynchronized, B.returns, ?_, Nat.le_refl _, Nat.le_refl _, hE⟩ hH va_S.rf (lvr.entry hfit) (by omega) (by omega) (Nat.le_refl _) (Nat.le_refl _)
  rw [hM.2.2.2.2.2.1]
  exact List.eq_nil_iff_forall_not_mem.mpr (fun x hx => htab x hx)
theorem ctr_ofH {as : List PV} {n : Nat} (hM : MKH y n) (hfit : (lg_sl (as.map (mv Γ 0))).length ≤ yL y) (hR : Run Γ rg κ y 0 (ent (yL y) as) [] D Φ) :
    vx_Met Γ.1 (yN y) [.codeWith (yN y) (yB y) (yL y) (yR y) (yH y)] (rmy y κ) (va_Pc (as.map (mv Γ 0)) (fun U => EV Γ U ∧ HW Γ rg D U.heap)) (Qcc Γ rg Φ) (XCc Γ rg Φ) κ (6 * κ) (Ab Γ) := by
  refine vx_ofWH (cc := yB y) (maxL := yL y) (ret := yR y) hM.2.2.2.2.1 rfl ?_
  intro p e s m args below meth c s₁ B hml hP
  obtain ⟨rfl, hE, hH⟩ := hP
  rw [lg_entry_eq]
  have htb := vx_table (x := yN y) B (hE.word (args := #[]) hM.2.1)
  exact hR p e (rmy y κ) s m _ below meth c s.heap [] _ 0 0 0 κ (6 * κ) ⟨B.exec, B.bytes, hml, findClass_of_methodNamed B.named, B.notSynchronized, B.returns, htb, Nat.le_refl _, Nat.le_refl _, hE⟩ hH va_S.rf (lvr.entry hfit) (by omega) (by omega) (Nat.le_refl _) (Nat.le_refl _)
theorem pc_blind {av : List Value} : FrameBlind (va_Pc av (fun U => EV Γ U ∧ HW Γ rg D U.heap)) := fun a U g mk h => ⟨h.1, h.2.1.calling g mk a, h.2.2⟩
/-- behind a call -/
theorem run_after {p : Program} {e : Env} {R : Room} {s : State} {m : MethodId} {args a : Array Value} {below : List Frame} {meth : Method} {c : Code} {H : Heap} {locs : List Loc} {lsm : Array Slot} {stm : List Value} {rest : List PV} {cells slots q mc ms κ1 κ2 : Nat} {Ψ : OT → DD → Prop}
    (C : Cx Γ y R p s m meth c) (hS : va_S (Ab Γ) s.heap H locs) (hl : lvr Γ q (yL y) ls lsm) (h1 : cells + κ ≤ mc) (h2 : slots + 6 * κ ≤ ms) (h3 : mc ≤ R.cells) (h4 : ms ≤ R.slots) (hκ : κ1 + κ2 = κ)
    (hr : vx_Run p Γ.1 e R s m args below meth c H locs cells slots κ1 (6 * κ1) (F0 m pc lsm stm) (rest.map (mv Γ q)) (Qcc Γ rg Ψ a) (XCc Γ rg Ψ) (Ab Γ))
    (kret : ∀ (v : Option PV) (D' : DD), Ψ (.inl v) D' → Run Γ rg κ2 y (pc + 3) ls (v.toList ++ rest) D' Φ)
    (kx : ∀ (n : Nat) (D' : DD) (H1 : Heap) (locs1 : List Loc) (q9 : Addr) (ce : Cell), n ≤ 2 → Ψ (.inr n) D' → HW Γ rg D' H1 → va_S (Ab Γ) s.heap H1 locs1 → H1[q9]? = some ce → ce.vm = .none → s.vm.findClass (exn n) = some ce.cls →
      vx_W p Γ.1 e R s m args below meth c H1 locs1 (cells + κ1) (slots + 6 * κ1) (vx_MQ below (Qcc Γ rg Φ) (XCc Γ rg Φ) args s mc ms (Ab Γ)) (F0 m pc lsm (rest.map (mv Γ q))) q9) :
    W p Γ.1 e R s m args below meth c H locs cells slots (vx_MQ below (Qcc Γ rg Φ) (XCc Γ rg Φ) args s mc ms (Ab Γ)) (F0 m pc lsm stm) := by
  intro T hT X
  rcases hr T hT X with ⟨v, st₀, t, T', L, h0, X', hL, e1, e2, ⟨w, D', hv, hw, hp, hH', hF⟩, hst⟩ | ⟨q9, st₀, t, T', L, E, ce, h0, X', hL, e1, e2, ⟨n, D', hn, hE, hp, hH', hF⟩, hce, hcv, hcl, hst⟩
  · obtain ⟨k1, k2, k3⟩ := vx_keep h0 e1 hS (fun _ _ h => h) (fun _ h => h) hL hF
    have hv' : v = w.map (mv Γ 0) := by injection hv
    have hwm : v.toList = (w.toList).map (mv Γ q) := by
      rw [hv']
      cases w with
      | none => rfl
      | some u =>
        have := hw u rfl
        show [mv Γ 0 u] = [mv Γ q u]
        rw [mv_q (q := 0) (q' := q) (by omega) (by omega) (by omega) (by omega)]
    obtain ⟨t2, a1, b1⟩ := kret w D' hp p e R s m args below meth c T'.heap (locs ++ L) lsm (cells + κ1) (slots + 6 * κ1) q mc ms C (by rw [e1]; exact hH') k3 hl (by omega) (by omega) h3 h4 T' rfl X'
    rw [List.map_append, ← hwm] at a1
    exact ⟨t2, hst t2 a1, b1⟩
  · obtain ⟨k1, k2, k3⟩ := vx_keep h0 e1 hS (fun _ _ h => h) (fun _ h => h) hL hF
    obtain ⟨t2, a1, b1⟩ := kx n D' T'.heap (locs ++ L) q9 ce hn hp (by rw [e1]; exact hH') k3 (by rw [e1]; exact hce) hcv (by rw [← hE]; exact hcl) T' rfl X'
    exact ⟨t2, hst.trans a1, b1⟩
/-- not caught -/
theorem run_out {p : Program} {e : Env} {R : Room} {s : State} {m : MethodId} {args : Array Value} {below : List Frame} {meth : Method} {c : Code} {H1 : Heap} {locs1 : List Loc} {lsm : Array Slot} {stm : List Value} {cells slots mc ms n : Nat} {q9 : Addr} {ce : Cell} {D' : DD}
    (C : Cx Γ y R p s m meth c) (hh : yH y = []) (hn : n ≤ 2) (hΦ : Φ (.inr n) D') (hH : HW Γ rg D' H1) (hS : va_S (Ab Γ) s.heap H1 locs1) (hce : H1[q9]? = some ce) (hcv : ce.vm = .none) (hcl : s.vm.findClass (exn n) = some ce.cls) (h1 : cells ≤ mc) (h2 : slots ≤ ms) :
    vx_W p Γ.1 e R s m args below meth c H1 locs1 cells slots (vx_MQ below (Qcc Γ rg Φ) (XCc Γ rg Φ) args s mc ms (Ab Γ)) (F0 m pc lsm stm) q9 := by
  obtain ⟨hx, hb, hml, hown, hlk, hrt, htb, hfr, hlo, hE⟩ := id C
  exact vx_out (E := exn n) (fun x hx' => by rw [htb, hh] at hx'; cases hx') hlk hce hcv hcl (fun t ht _ => ⟨n, D', hn, rfl, hΦ, by rw [ht]; exact hH, hS.F ht⟩) hS.2.2 h1 h2
theorem code_ws {Γ : GG} {s : State} {w : Cond} (hE : EV Γ s) (hw : KW w) (hg : (w.onTables && w.keeps) = true) : ∀ w' ∈ [w], ∀ (a' : Array Value) (U : State), s.WarmedH U.vm → w'.before a' U = true := fun w' h' a' U hW => by
  rw [List.mem_singleton.mp h']
  exact word_at (args := #[]) hW (Or.inl hg) (hE.2.1 w hw)
theorem r_callV {y' : YT} {as rest : List PV} {ls' : List PV} {a idx ci n N κ1 κ2 : Nat} {cs : List Nat} {TT : u_T} {z : Int} {Ψ : OT → DD → Prop} (hd : decode (yB y) pc = .ok (.invokevirtual idx, 3)) (hC : CKV (yN y).cls idx y' n) (hn : as.length = n)
    (hs : SH.getD a (9, 0, []) = (0, ci, cs)) (hci : vwCl[ci]? = some ((yN y').cls, TT, N)) (ha : a < NA) (hr : rg a = true) (hst : st = as.reverse ++ (a + 8, z) :: rest) (hok : argok as = true) (hrest : (rest.map pcat).sum ≤ 8) (hfit : (lg_sl (((a + 8, z) :: as).map (mv Γ 0))).length ≤ yL y')
    (hk : yK y' < yK y) (hκ : κ1 + κ2 = κ) (hh : yH y = []) (hls : ent (yL y') ((a + 8, z) :: as) = ls') (hR : Run Γ rg κ1 y' 0 ls' [] D Ψ)
    (kret : ∀ (v : Option PV) (D' : DD), Ψ (.inl v) D' → Run Γ rg κ2 y (pc + 3) ls (v.toList ++ rest) D' Φ) (kthr : ∀ (n : Nat) (D' : DD), Ψ (.inr n) D' → Φ (.inr n) D') : Run Γ rg κ y pc ls st D Φ := by
  intro p e R s m args below meth c H locs lsm cells slots q mc ms C hH hS hl h1 h2 h3 h4
  obtain ⟨hx, hb, hml, hown, hlk, hrt, htb, hfr, hlo, hE⟩ := id C
  subst hls
  obtain ⟨c1, c2, c3, hM⟩ := hC
  obtain ⟨m1, m2, m3, m4, m5, m6, m7⟩ := id hM
  obtain ⟨q0, -, hq⟩ := wsl_at ha hr
  have hce : cellOf Γ D a = .inr (ci, (List.range cs.length).map (fun k => fvz Γ (cs.getD k 0) (D a k))) := by unfold cellOf; simp only [hs]
  have hat := (hq Γ D).1
  rw [hce] at hat
  have hrun := vx_runV (args := args) (C := (yN y').cls) (own := (yN y).cls) (Ts := []) (index := idx) (bytes := yB y') (maxL := yL y') (ret := yR y') (As := as.map (mv Γ 0)) (b := gB Γ + a) (n := n) (rest := rest.map (mv Γ q)) (g := F0 m pc lsm (st.map (mv Γ q))) (locs := locs) (cells := cells) (slots := slots) (below := below) (meth := meth) (e := e) (R := R)
    ⟨hx, hb, hml, hown, fun w hw => by cases hw⟩ (ctr_of hM hfit hR)
    ⟨⟨rfl, rfl, by show yK y' + 1 ≤ R.frames; omega, by show 8 + (yL y' + 11) + 36 * yK y' ≤ R.locals; omega, code_ws hE m2 rfl, List.mem_singleton.mpr rfl, hE.word m2, hE.word m1, m3, fun sig h => by rw [h] at m4; exact (Option.some.inj m4).symm, hE.word c1⟩, hE.word c2, hE.word c3⟩
    ⟨pc_blind, va_recv hE.2.2.1 hH.1 hci hat, fun U hU hW => ⟨rfl, hE.move hU hS hW, by rw [hU]; exact hH⟩⟩
    rfl (by rw [List.length_map]; exact hn) hl.1
    (by show st.map (mv Γ q) = _; rw [hst, List.map_append, List.map_reverse, argok_map (q' := 0) hok]; rfl)
    (by show 2 * 0 + _ ≤ 8; rw [pcat_sum]; omega) hd ⟨by omega, by omega⟩
  exact run_after C hS hl h1 h2 h3 h4 hκ hrun kret (fun n D' H1 locs1 q9 ce hn' hp hH' hS' a1 a2 a3 => run_out C hh hn' (kthr n D' hp) hH' hS' a1 a2 a3 (by omega) (by omega))
theorem r_callS {y' : YT} {as rest : List PV} {ls' : List PV} {idx n κ1 κ2 : Nat} {Ψ : OT → DD → Prop} (hd : decode (yB y) pc = .ok (.invokestatic idx, 3)) (hC : CKS (yN y).cls idx y' n) (hn : as.length = n)
    (hst : st = as.reverse ++ rest) (hok : argok as = true) (hrest : (rest.map pcat).sum ≤ 8) (hfit : (lg_sl (as.map (mv Γ 0))).length ≤ yL y')
    (hk : yK y' < yK y) (hκ : κ1 + κ2 = κ) (hh : yH y = []) (hls : ent (yL y') as = ls') (hR : Run Γ rg κ1 y' 0 ls' [] D Ψ)
    (kret : ∀ (v : Option PV) (D' : DD), Ψ (.inl v) D' → Run Γ rg κ2 y (pc + 3) ls (v.toList ++ rest) D' Φ) (kthr : ∀ (n : Nat) (D' : DD), Ψ (.inr n) D' → Φ (.inr n) D') : Run Γ rg κ y pc ls st D Φ := by
  intro p e R s m args below meth c H locs lsm cells slots q mc ms C hH hS hl h1 h2 h3 h4
  obtain ⟨hx, hb, hml, hown, hlk, hrt, htb, hfr, hlo, hE⟩ := id C
  subst hls
  obtain ⟨c1, c2, hM⟩ := hC
  obtain ⟨m1, m2, m3, m4, m5, m6, m7⟩ := id hM
  have hrun := vx_runS (args := args) (own := (yN y).cls) (Ts := []) (index := idx) (bytes := yB y') (maxL := yL y') (ret := yR y') (As := as.map (mv Γ 0)) (n := n) (rest := rest.map (mv Γ q)) (g := F0 m pc lsm (st.map (mv Γ q))) (locs := locs) (cells := cells) (slots := slots) (below := below) (meth := meth) (e := e) (R := R)
    ⟨hx, hb, hml, hown, fun w hw => by cases hw⟩ (ctr_of hM hfit hR)
    ⟨⟨rfl, rfl, by show yK y' + 1 ≤ R.frames; omega, by show 8 + (yL y' + 11) + 36 * yK y' ≤ R.locals; omega, code_ws hE m2 rfl, List.mem_singleton.mpr rfl, hE.word m2, hE.word m1, m3, fun sig h => by rw [h] at m4; exact (Option.some.inj m4).symm, hE.word c1⟩, hE.word c2⟩
    ⟨pc_blind, fun U hU hW => ⟨rfl, hE.move hU hS hW, by rw [hU]; exact hH⟩⟩
    rfl (by rw [List.length_map]; exact hn) hl.1
    (by show st.map (mv Γ q) = _; rw [hst, List.map_append, List.map_reverse, argok_map (q' := 0) hok])
    (by show 2 * 0 + _ ≤ 8; rw [pcat_sum]; omega) hd ⟨by omega, by omega⟩
  exact run_after C hS hl h1 h2 h3 h4 hκ hrun kret (fun n D' H1 locs1 q9 ce hn' hp hH' hS' a1 a2 a3 => run_out C hh hn' (kthr n D' hp) hH' hS' a1 a2 a3 (by omega) (by omega))
theorem r_callN {y' : YT} {as rest : List PV} {ls' : List PV} {idx n κ1 κ2 : Nat} {Ψ : OT → DD → Prop} (hd : decode (yB y) pc = .ok (.invokestatic idx, 3)) (hC : CKN (yN y).cls idx y' n) (hn : as.length = n)
    (hst : st = as.reverse ++ rest) (hok : argok as = true) (hrest : (rest.map pcat).sum ≤ 8) (hfit : (lg_sl (as.map (mv Γ 0))).length ≤ yL y')
    (hk : yK y' < yK y) (hκ : κ1 + κ2 = κ) (hh : yH y = []) (hls : ent (yL y') as = ls') (hR : Run Γ rg κ1 y' 0 ls' [] D Ψ)
    (kret : ∀ (v : Option PV) (D' : DD), Ψ (.inl v) D' → Run Γ rg κ2 y (pc + 3) ls (v.toList ++ rest) D' Φ) (kthr : ∀ (n : Nat) (D' : DD), Ψ (.inr n) D' → Φ (.inr n) D') : Run Γ rg κ y pc ls st D Φ := by
  intro p e R s m args below meth c H locs lsm cells slots q mc ms C hH hS hl h1 h2 h3 h4
  obtain ⟨hx, hb, hml, hown, hlk, hrt, htb, hfr, hlo, hE⟩ := id C
  subst hls
  obtain ⟨c1, c2, hM⟩ := hC
  obtain ⟨m1, m2, m3, m4, m5, m6, m7⟩ := id hM
  have hrun := vx_runSN (args := args) (host := "HiveKeys") (own := (yN y).cls) (Ts := []) (index := idx) (bytes := yB y') (maxL := yL y') (ret := yR y') (As := as.map (mv Γ 0)) (n := n) (rest := rest.map (mv Γ q)) (g := F0 m pc lsm (st.map (mv Γ q))) (locs := locs) (cells := cells) (slots := slots) (below := below) (meth := meth) (e := e) (R := R)
    ⟨hx, hb, hml, hown, fun w hw => by cases hw⟩ (ctr_of hM hfit hR)
    ⟨⟨⟨rfl, rfl, by show yK y' + 1 ≤ R.frames; omega, by show 8 + (yL y' + 11) + 36 * yK y' ≤ R.locals; omega, code_ws hE m2 rfl, List.mem_singleton.mpr rfl⟩, hE.word m2, hE.word m1, m3, fun sig h => by rw [h] at m4; exact (Option.some.inj m4).symm, hE.word c1⟩, hE.word c2, trivial⟩
    ⟨pc_blind, fun U hU hW => ⟨rfl, hE.move hU hS hW, by rw [hU]; exact hH⟩⟩
    rfl (by rw [List.length_map]; exact hn) hl.1
    (by show st.map (mv Γ q) = _; rw [hst, List.map_append, List.map_reverse, argok_map (q' := 0) hok])
    (by show 2 * 0 + _ ≤ 8; rw [pcat_sum]; omega) hd ⟨by omega, by omega⟩
  exact run_after C hS hl h1 h2 h3 h4 hκ hrun kret (fun n D' H1 locs1 q9 ce hn' hp hH' hS' a1 a2 a3 => run_out C hh hn' (kthr n D' hp) hH' hS' a1 a2 a3 (by omega) (by omega))
end CALLS
