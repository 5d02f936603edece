/-! constructors: new cells, calls of constructors -/
theorem arr_word {s : State} {cA : ClassId} {ty : FieldType} {args : Array Value} (h1 : ArrOfT s cA ty) (h2 : s.vm.findClass ("[" ++ ty.toString) = some cA) : (Cond.arrayClass ty).before args s = true := by
  obtain ⟨-, kA, h3, comp, h4⟩ := h1 0 (fun _ => .null)
  have h3 : s.vm.classes[cA]? = some kA := h3
  simp [Cond.before, Cond.holds, Cond.value, h2, h3, h4]
section CT
variable {Γ : GG} {n0 mc ms : Nat} {Qc : Array Value → State → Outcome → State → Prop} {XC : String → State → State → Prop} {y : YT} {pc : Nat} {ls st : List PV} {n : Nat} {M : MP} {D : DD}
theorem n_sz {s : State} {H : Heap} {locs : List Loc} (hE : EV Γ s) (hz : s.heap.size ≤ gB Γ + n0) (hn : n0 ≤ n) (hH : HN Γ n M D H) (hS : va_S (Ab Γ) s.heap H locs) (h : H.size ≤ s.heap.size + (n - n0)) : H.size = gB Γ + n := by
  have h1 := hH.size (Nat.le_trans hE.2.2.2.2.2.2.2.2.2 hS.1)
  omega
theorem HN.push {s : State} {H H1 : Heap} (hH : HN Γ n M D H) (hsz : H.size = gB Γ + n) (o1 : ∀ q, q < gB Γ + n → H1[q]? = H[q]?) (hc : va_at (gG Γ) vwCl (gB Γ + n, cellN Γ M D n) H1) : HN Γ (n + 1) M D H1 := by
  unfold HN
  rw [wsn_succ]
  refine (HN.kept hH (fun q hq => o1 q (by omega))).app (fun k x hx => ?_)
  have hz : k < 1 := (List.getElem?_eq_some_iff.mp hx).1
  rw [show k = 0 by omega] at hx
  cases hx
  exact hc
theorem va_S.new {s : State} {H H1 : Heap} {locs : List Loc} {b : Nat} (hS : va_S (Ab Γ) s.heap H locs) (hsz : H.size = b) (z1 : H1.size = b + 1) (o1 : ∀ q, q < b → H1[q]? = H[q]?) : va_S (Ab Γ) s.heap H1 locs := by
  have h1 := hS.1
  exact ⟨by omega, fun x h1' h2 => (o1 x (by omega)).trans (hS.2.1 x h1' h2), hS.2.2⟩
theorem n_new {idx ci N : Nat} {cs : List Nat} (hd : decode (yB y) pc = .ok (.new idx, 3)) (hK : NK (yN y).cls idx ci N cs) (hs : SH.getD n (9, 0, []) = (0, ci, cs)) (hn : n0 ≤ n) (hc : n + 1 - n0 ≤ mc) (hsl : sl (n + 1) - sl n0 ≤ ms) (hD : ∀ k, D n k = 0) (hM : ∀ k, k < cs.length → M.contains (n, k) = false)
    (k : RunN Γ n0 mc ms Qc XC y (pc + 3) ls ((n + 8, 0) :: st) (n + 1) M D) : RunN Γ n0 mc ms Qc XC y pc ls st n M D := by
  intro p e R s m args below meth c H locs lsm q C hN hz hH hS hl h3 h4
  obtain ⟨Cn, T, ty, e1, e2, e3, e4, e5, e6, e7, e8⟩ := hK
  obtain ⟨hx, hb, hml, hown, hlk, hrt, htb, hfr, hlo, hE⟩ := id C
  have hKn := hE.2.2.1.1 ci _ e1
  have hsle := sl_le hn
  have hsn : sl (n + 1) = sl n + N := by rw [sl_succ, hs]; show _ + cs.length = _; rw [e7]
  refine W.sized (fun hsz' => ?_)
  have hsz := n_sz hE hz hn hH hS hsz'
  refine W.newcK hx hb hown (hE.word e4) (hE.word e5) (hE.word e6) rfl hd (by omega) (by omega) hKn.2.1 hsz (fun H1 kC hkC g1 z1 o1 => ?_)
  rw [show n - n0 + 1 = n + 1 - n0 by omega, show sl n - sl n0 + N = sl (n + 1) - sl n0 by omega]
  refine k p e R s m args below meth c H1 locs lsm q C hN hz (HN.push (s := s) hH hsz o1 ?_) (hS.new hsz z1 o1) hl h3 h4
  rw [show cellN Γ M D n = .inr (ci, (List.range cs.length).map (fun k => fvn Γ (M.contains (n, k)) (cs.getD k 0) (D n k))) by unfold cellN; simp only [hs]]
  refine ⟨_, e1, (u_born (args := args) ty (fun w hw => hE.word (e2 w hw)) (fun _ h => h) hKn hkC g1 e3).to (fun j hj => ?_)⟩
  have h9 : defaultValue (ty j) = dcode (cs.getD j 0) := List.map_inj_left.mp e8 j (List.mem_range.mpr hj)
  have h10 : vp_V ((List.range cs.length).map (fun k => fvn Γ (M.contains (n, k)) (cs.getD k 0) (D n k))) j = fvn Γ false (cs.getD j 0) 0 := by
    rw [vp_V, List.getD_eq_getElem?_getD, List.getElem?_map, List.getElem?_range (by omega), Option.map_some, Option.getD_some, hM j (by omega), hD]
  refine h9.trans (Eq.trans ?_ h10.symm)
  unfold fvn dcode fvz
  by_cases h1 : cs.getD j 0 ≤ 1
  · rw [if_pos h1, if_pos (by omega), if_pos h1]; rfl
  · rw [if_neg h1]
    by_cases h2 : cs.getD j 0 = 2
    · rw [if_pos h2, if_pos (by omega), if_neg h1, if_pos h2]; rfl
    · rw [if_neg h2, if_neg (by omega), if_neg (by decide)]
theorem n_newI {len : Nat} {cs : List Nat} (hd : decode (yB y) pc = .ok (.newarray .int, 2)) (hs : SH.getD n (9, 0, []) = (1, len, cs)) (hl9 : len ≤ 100000) (hn : n0 ≤ n) (hc : n + 1 - n0 ≤ mc) (hsl : sl (n + 1) - sl n0 ≤ ms) (hD : ∀ k, D n k = 0)
    (k : RunN Γ n0 mc ms Qc XC y (pc + 2) ls ((n + 8, 0) :: st) (n + 1) M D) : RunN Γ n0 mc ms Qc XC y pc ls ((0, (len : Int)) :: st) n M D := by
  intro p e R s m args below meth c H locs lsm q C hN hz hH hS hl h3 h4
  obtain ⟨hx, hb, hml, hown, hlk, hrt, htb, hfr, hlo, hE⟩ := id C
  have hsle := sl_le hn
  have hsn : sl (n + 1) = sl n + len := by rw [sl_succ, hs]; rfl
  refine W.sized (fun hsz' => ?_)
  have hsz := n_sz hE hz hn hH hS hsz'
  have hR : inR (len : Int) := ⟨by omega, by omega⟩
  refine va_newaK hx hb (atype := .int) (arr_word (hE.2.2.1.2 0 _ rfl).1 (hE.2.2.1.2 0 _ rfl).2) rfl hd (n := Int32.ofInt (len : Int)) (N := len) (rest := st.map (mv Γ q)) rfl (by rw [ofI_0, ofI_lt hR inR_0]; omega) (by rw [ofI_clamp hR]; rfl) (by show len * 4 ≤ _; omega) (by omega) (by omega) hsz (fun H1 cA g1 z1 o1 hAr hNm => ?_)
  have hcA : cA = gI Γ := Option.some.inj (hNm.symm.trans (hE.2.2.1.2 0 _ rfl).2)
  subst hcA
  rw [show n - n0 + 1 = n + 1 - n0 by omega, show sl n - sl n0 + len = sl (n + 1) - sl n0 by omega]
  refine k p e R s m args below meth c H1 locs lsm q C hN hz (HN.push (s := s) hH hsz o1 ?_) (hS.new hsz z1 o1) hl h3 h4
  rw [show cellN Γ M D n = .inl (gI Γ, len, .inl (fun j => Int32.ofInt (D n j))) by unfold cellN cellOf; simp only [hs]]
  show H1[gB Γ + n]? = some (vp_cell _ _)
  rw [vp_cell_i, g1]
  simp only [hD]
  rfl
theorem n_newJ {len : Nat} {cs : List Nat} (hd : decode (yB y) pc = .ok (.newarray .long, 2)) (hs : SH.getD n (9, 0, []) = (3, len, cs)) (hl9 : len ≤ 100000) (hn : n0 ≤ n) (hc : n + 1 - n0 ≤ mc) (hsl : sl (n + 1) - sl n0 ≤ ms) (hD : ∀ k, D n k = 0)
    (k : RunN Γ n0 mc ms Qc XC y (pc + 2) ls ((n + 8, 0) :: st) (n + 1) M D) : RunN Γ n0 mc ms Qc XC y pc ls ((0, (len : Int)) :: st) n M D := by
  intro p e R s m args below meth c H locs lsm q C hN hz hH hS hl h3 h4
  obtain ⟨hx, hb, hml, hown, hlk, hrt, htb, hfr, hlo, hE⟩ := id C
  have hsle := sl_le hn
  have hsn : sl (n + 1) = sl n + len := by rw [sl_succ, hs]; rfl
  refine W.sized (fun hsz' => ?_)
  have hsz := n_sz hE hz hn hH hS hsz'
  have hR : inR (len : Int) := ⟨by omega, by omega⟩
  refine va_newaK hx hb (atype := .long) (arr_word (hE.2.2.1.2 2 _ rfl).1 (hE.2.2.1.2 2 _ rfl).2) rfl hd (n := Int32.ofInt (len : Int)) (N := len) (rest := st.map (mv Γ q)) rfl (by rw [ofI_0, ofI_lt hR inR_0]; omega) (by rw [ofI_clamp hR]; rfl) (by show len * 8 ≤ _; omega) (by omega) (by omega) hsz (fun H1 cA g1 z1 o1 hAr hNm => ?_)
  have hcA : cA = gJ Γ := Option.some.inj (hNm.symm.trans (hE.2.2.1.2 2 _ rfl).2)
  subst hcA
  rw [show n - n0 + 1 = n + 1 - n0 by omega, show sl n - sl n0 + len = sl (n + 1) - sl n0 by omega]
  refine k p e R s m args below meth c H1 locs lsm q C hN hz (HN.push (s := s) hH hsz o1 ?_) (hS.new hsz z1 o1) hl h3 h4
  rw [show cellN Γ M D n = .inl (gJ Γ, len, .inr (.inl (fun j => Int64.ofInt (D n j)))) by unfold cellN cellOf; simp only [hs]]
  show H1[gB Γ + n]? = some (vp_cell _ _)
  rw [vp_cell_l, g1]
  simp only [hD]
  rfl
/-- a constructor's contract out of its run -/
def rmn (y : YT) (mc ms : Nat) : Room := { frames := yK y, cells := mc, slots := ms, locals := 36 * yK y }
def PcN (Γ : GG) (n : Nat) (M : MP) (D : DD) (as : List PV) : Array Value → State → Prop := va_Pc (as.map (mv Γ 0)) (fun U => EV Γ U ∧ U.heap.size ≤ gB Γ + n ∧ HN Γ n M D U.heap)
theorem pcn_blind {as : List PV} : FrameBlind (PcN Γ n M D as) := fun a U g mk h => ⟨h.1, h.2.1.calling g mk a, h.2.2⟩
theorem ctr_n {as : List PV} {cnt n1 : Nat} {M1 : MP} {Ψ : DD → Prop} (hM : MK y cnt) (hfit : (lg_sl (as.map (mv Γ 0))).length ≤ yL y) (hR : RunN Γ n (n1 - n) (sl n1 - sl n) (Qn Γ n1 M1 Ψ) XF y 0 (ent (yL y) as) [] n M D) :
    vx_Met Γ.1 (yN y) [.code (yN y) (yB y) (yL y) (yR y)] (rmn y (n1 - n) (sl n1 - sl n)) (PcN Γ n M D as) (Qn Γ n1 M1 Ψ) XF (n1 - n) (sl n1 - sl n) (Ab Γ) := by
  refine vx_ofW (cc := yB y) (maxL := yL y) (ret := yR y) hM.2.2.2.2.1 rfl ?_
  intro p e s m args below meth c s₁ B hml htab hP
  obtain ⟨rfl, hE, hsz, hH⟩ := hP
  rw [lg_entry_eq]
  have := hR p e (rmn y (n1 - n) (sl n1 - sl n)) s m (as.map (mv Γ 0)).toArray below meth c s.heap [] (lg_sl (as.map (mv Γ 0)) ++ List.replicate (yL y - (lg_sl (as.map (mv Γ 0))).length) Slot.unset).toArray 0 ⟨B.exec, B.bytes, hml, findClass_of_methodNamed B.named, B.notSynchronized, B.returns, by
    rw [hM.2.2.2.2.2.1]
    exact List.eq_nil_iff_forall_not_mem.mpr (fun x hx => htab x hx), Nat.le_refl _, Nat.le_refl _, hE⟩ (name_of_methodNamed B.named B.method).1 hsz hH va_S.rf (lvr.entry hfit) (Nat.le_refl _) (Nat.le_refl _)
  rw [Nat.sub_self, Nat.sub_self] at this
  exact this
def CKI (own : String) (idx : Nat) (y : YT) (cnt : Nat) : Prop := (yN y).name = "<init>" ∧ yR y = none ∧ KW (.methodLink own idx (yN y)) ∧ KW (.instanceMethod (yN y)) ∧ MK y cnt
def CKJ (own : String) (idx : Nat) (y : YT) (cnt : Nat) : Prop := (yN y).name = "<init>" ∧ yR y = none ∧ KW (.methodLinkNest own idx (yN y) "HiveKeys") ∧ KW (.instanceMethod (yN y)) ∧ MK y cnt
theorem n_after {p : Program} {e : Env} {R : Room} {s : State} {m : MethodId} {args a : Array Value} {below : List Frame} {meth : Method} {c : Code} {H : Heap} {locs : List Loc} {lsm : Array Slot} {stm : List Value} {rest : List PV} {q n1 : Nat} {M1 : MP} {Ψ : DD → Prop}
    (C : Cx Γ y R p s m meth c) (hN : meth.name = (yN y).name) (hz : s.heap.size ≤ gB Γ + n0) (hS : va_S (Ab Γ) s.heap H locs) (hl : lvr Γ q (yL y) ls lsm) (h3 : mc ≤ R.cells) (h4 : ms ≤ R.slots) (hn : n0 ≤ n) (hn1 : n ≤ n1)
    (hr : vx_Run p Γ.1 e R s m args below meth c H locs (n - n0) (sl n - sl n0) (n1 - n) (sl n1 - sl n) (F0 m pc lsm stm) (rest.map (mv Γ q)) (Qn Γ n1 M1 Ψ a) XF (Ab Γ))
    (k : ∀ D', Ψ D' → RunN Γ n0 mc ms Qc XC y (pc + 3) ls rest n1 M1 D') :
    W p Γ.1 e R s m args below meth c H locs (n - n0) (sl n - sl n0) (vx_MQ below Qc XC args s mc ms (Ab Γ)) (F0 m pc lsm stm) := by
  intro T hT X
  rcases hr T hT X with ⟨v, st₀, t, T', L, h0, X', hL, e1, e2, ⟨hv, ⟨D', hp, hH'⟩, hF⟩, hst⟩ | ⟨q9, st₀, t, T', L, E, ce, h0, X', hL, e1, e2, hx, -⟩
  · obtain ⟨k1, k2, k3⟩ := vx_keep h0 e1 hS (fun _ _ h => h) (fun _ h => h) hL hF
    have hv' : v = none := by injection hv
    subst hv'
    have s1 := sl_le hn
    have s2 := sl_le hn1
    rw [show n - n0 + (n1 - n) = n1 - n0 by omega, show sl n - sl n0 + (sl n1 - sl n) = sl n1 - sl n0 by omega] at X'
    obtain ⟨t2, a1, b1⟩ := k D' hp p e R s m args below meth c T'.heap (locs ++ L) lsm q C hN hz (by rw [e1]; exact hH') k3 hl h3 h4 T' rfl X'
    exact ⟨t2, hst t2 a1, b1⟩
  · exact hx.elim
theorem n_callI {y' : YT} {as rest : List PV} {ls' : List PV} {a idx cnt n1 : Nat} {z : Int} {M1 : MP} {Ψ : DD → Prop} (hd : decode (yB y) pc = .ok (.invokespecial idx, 3)) (hC : CKI (yN y).cls idx y' cnt) (hcn : as.length = cnt)
    (hst : st = as.reverse ++ (a + 8, z) :: rest) (hok : argok as = true) (hrest : (rest.map pcat).sum ≤ 8) (hfit : (lg_sl (((a + 8, z) :: as).map (mv Γ 0))).length ≤ yL y')
    (hk : yK y' < yK y) (hls : ent (yL y') ((a + 8, z) :: as) = ls') (hn : n0 ≤ n) (hn1 : n ≤ n1) (hc : n1 - n0 ≤ mc) (hsl : sl n1 - sl n0 ≤ ms) (hR : RunN Γ n (n1 - n) (sl n1 - sl n) (Qn Γ n1 M1 Ψ) XF y' 0 ls' [] n M D)
    (k : ∀ D', Ψ D' → RunN Γ n0 mc ms Qc XC y (pc + 3) ls rest n1 M1 D') : RunN Γ n0 mc ms Qc XC y pc ls st n M D := by
  intro p e R s m args below meth c H locs lsm q C hN hz hH hS hl h3 h4
  obtain ⟨hx, hb, hml, hown, hlk, hrt, htb, hfr, hlo, hE⟩ := id C
  subst hls
  obtain ⟨c0, c00, c1, c2, hM⟩ := hC
  obtain ⟨m1, m2, m3, m4, m5, m6, m7⟩ := id hM
  have s1 := sl_le hn
  have s2 := sl_le hn1
  refine W.sized (fun hsz' => ?_)
  have hsz := n_sz hE hz hn hH hS hsz'
  have hrun := vx_runI (args := args) (own := (yN y).cls) (Ts := []) (index := idx) (bytes := yB y') (maxL := yL y') (As := as.map (mv Γ 0)) (b := gB Γ + a) (n := cnt) (rest := rest.map (mv Γ q)) (g := F0 m pc lsm (st.map (mv Γ q))) (locs := locs) (cells := n - n0) (slots := sl n - sl n0) (below := below) (meth := meth) (e := e) (R := R)
    ⟨hx, hb, hml, hown, fun w hw => by cases hw⟩ (ctr_n hM hfit hR)
    ⟨⟨rfl, rfl, by show yK y' + 1 ≤ R.frames; omega, by show 8 + (yL y' + 11) + 36 * yK y' ≤ R.locals; omega, code_ws hE m2 rfl, by rw [c00]; exact List.mem_singleton.mpr rfl, by have := hE.word (args := args) m2; rw [c00] at this; exact this, hE.word m1, m3, fun sig h => by rw [h] at m4; exact (Option.some.inj m4).symm, hE.word c1⟩, c0, hE.word c2⟩
    ⟨pcn_blind, fun U hU hW => ⟨rfl, hE.move hU hS hW, by rw [hU]; omega, by rw [hU]; exact hH⟩⟩
    rfl (by rw [List.length_map]; exact hcn) hl.1
    (by show st.map (mv Γ q) = _; rw [hst, List.map_append, List.map_reverse, argok_map (q' := 0) hok]; rfl)
    (by show 2 * 0 + _ ≤ 8; rw [pcat_sum]; omega) hd ⟨by omega, by omega⟩
  exact n_after C hN hz hS hl h3 h4 hn hn1 hrun k
theorem n_callJ {y' : YT} {as rest : List PV} {ls' : List PV} {a idx cnt n1 : Nat} {z : Int} {M1 : MP} {Ψ : DD → Prop} (hd : decode (yB y) pc = .ok (.invokespecial idx, 3)) (hC : CKJ (yN y).cls idx y' cnt) (hcn : as.length = cnt)
    (hst : st = as.reverse ++ (a + 8, z) :: rest) (hok : argok as = true) (hrest : (rest.map pcat).sum ≤ 8) (hfit : (lg_sl (((a + 8, z) :: as).map (mv Γ 0))).length ≤ yL y')
    (hk : yK y' < yK y) (hls : ent (yL y') ((a + 8, z) :: as) = ls') (hn : n0 ≤ n) (hn1 : n ≤ n1) (hc : n1 - n0 ≤ mc) (hsl : sl n1 - sl n0 ≤ ms) (hR : RunN Γ n (n1 - n) (sl n1 - sl n) (Qn Γ n1 M1 Ψ) XF y' 0 ls' [] n M D)
    (k : ∀ D', Ψ D' → RunN Γ n0 mc ms Qc XC y (pc + 3) ls rest n1 M1 D') : RunN Γ n0 mc ms Qc XC y pc ls st n M D := by
  intro p e R s m args below meth c H locs lsm q C hN hz hH hS hl h3 h4
  obtain ⟨hx, hb, hml, hown, hlk, hrt, htb, hfr, hlo, hE⟩ := id C
  subst hls
  obtain ⟨c0, c00, c1, c2, hM⟩ := hC
  obtain ⟨m1, m2, m3, m4, m5, m6, m7⟩ := id hM
  have s1 := sl_le hn
  have s2 := sl_le hn1
  refine W.sized (fun hsz' => ?_)
  have hsz := n_sz hE hz hn hH hS hsz'
  have hrun := vx_runIN (args := args) (own := (yN y).cls) (host := "HiveKeys") (Ts := []) (index := idx) (bytes := yB y') (maxL := yL y') (As := as.map (mv Γ 0)) (b := gB Γ + a) (n := cnt) (rest := rest.map (mv Γ q)) (g := F0 m pc lsm (st.map (mv Γ q))) (locs := locs) (cells := n - n0) (slots := sl n - sl n0) (below := below) (meth := meth) (e := e) (R := R)
    ⟨hx, hb, hml, hown, fun w hw => by cases hw⟩ (ctr_n hM hfit hR)
    ⟨⟨⟨rfl, rfl, by show yK y' + 1 ≤ R.frames; omega, by show 8 + (yL y' + 11) + 36 * yK y' ≤ R.locals; omega, code_ws hE m2 rfl, by rw [c00]; exact List.mem_singleton.mpr rfl⟩, by have := hE.word (args := args) m2; rw [c00] at this; exact this, hE.word m1, m3, fun sig h => by rw [h] at m4; exact (Option.some.inj m4).symm, hE.word c1⟩, c0, hE.word c2⟩
    ⟨pcn_blind, fun U hU hW => ⟨rfl, hE.move hU hS hW, by rw [hU]; omega, by rw [hU]; exact hH⟩⟩
    rfl (by rw [List.length_map]; exact hcn) hl.1
    (by show st.map (mv Γ q) = _; rw [hst, List.map_append, List.map_reverse, argok_map (q' := 0) hok]; rfl)
    (by show 2 * 0 + _ ≤ 8; rw [pcat_sum]; omega) hd ⟨by omega, by omega⟩
  exact n_after C hN hz hS hl h3 h4 hn hn1 hrun k
theorem n_callN {y' : YT} {as rest : List PV} {ls' : List PV} {idx cnt : Nat} {Ψ : DD → Prop} (hd : decode (yB y) pc = .ok (.invokestatic idx, 3)) (hC : CKN (yN y).cls idx y' cnt) (hret : yR y' = none) (hcn : as.length = cnt)
    (hst : st = as.reverse ++ rest) (hok : argok as = true) (hrest : (rest.map pcat).sum ≤ 8) (hfit : (lg_sl (as.map (mv Γ 0))).length ≤ yL y')
    (hk : yK y' < yK y) (hls : ent (yL y') as = ls') (hn : n0 ≤ n) (hc : n - n0 ≤ mc) (hsl : sl n - sl n0 ≤ ms) (hR : RunN Γ n (n - n) (sl n - sl n) (Qn Γ n M Ψ) XF y' 0 ls' [] n M D)
    (k : ∀ D', Ψ D' → RunN Γ n0 mc ms Qc XC y (pc + 3) ls rest n M D') : RunN Γ n0 mc ms Qc XC y pc ls st n M D := by
  intro p e R s m args below meth c H locs lsm q C hN hz hH hS hl h3 h4
  obtain ⟨hx, hb, hml, hown, hlk, hrt, htb, hfr, hlo, hE⟩ := id C
  subst hls
  obtain ⟨c1, c2, hM⟩ := hC
  obtain ⟨m1, m2, m3, m4, m5, m6, m7⟩ := id hM
  have s1 := sl_le hn
  refine W.sized (fun hsz' => ?_)
  have hsz := n_sz hE hz hn hH hS hsz'
  have hrun := vx_runSN (args := args) (host := "HiveKeys") (own := (yN y).cls) (Ts := []) (index := idx) (bytes := yB y') (maxL := yL y') (ret := yR y') (As := as.map (mv Γ 0)) (n := cnt) (rest := rest.map (mv Γ q)) (g := F0 m pc lsm (st.map (mv Γ q))) (locs := locs) (cells := n - n0) (slots := sl n - sl n0) (below := below) (meth := meth) (e := e) (R := R)
    ⟨hx, hb, hml, hown, fun w hw => by cases hw⟩ (ctr_n hM hfit hR)
    ⟨⟨⟨rfl, rfl, by show yK y' + 1 ≤ R.frames; omega, by show 8 + (yL y' + 11) + 36 * yK y' ≤ R.locals; omega, code_ws hE m2 rfl, List.mem_singleton.mpr rfl⟩, hE.word m2, hE.word m1, m3, fun sig h => by rw [h] at m4; exact (Option.some.inj m4).symm, hE.word c1⟩, hE.word c2, trivial⟩
    ⟨pcn_blind, fun U hU hW => ⟨rfl, hE.move hU hS hW, by rw [hU]; omega, by rw [hU]; exact hH⟩⟩
    rfl (by rw [List.length_map]; exact hcn) hl.1
    (by show st.map (mv Γ q) = _; rw [hst, List.map_append, List.map_reverse, argok_map (q' := 0) hok])
    (by show 2 * 0 + _ ≤ 8; rw [pcat_sum]; omega) hd ⟨by omega, by omega⟩
  exact n_after C hN hz hS hl h3 h4 hn (Nat.le_refl n) hrun k
/-- no field is null any more: the rest is a Run -/
def full (M : MP) (n : Nat) : Bool := (List.range n).all (fun a => match SH.getD a (9, 0, []) with
  | (0, _, cs) => (List.range cs.length).all (fun k => Nat.ble (cs.getD k 0) 2 || M.contains (a, k))
  | _ => true)
theorem full_cell {a : Nat} (h : full M n = true) (ha : a < n) : cellN Γ M D a = cellOf Γ D a := by
  have h1 := List.all_eq_true.mp h a (List.mem_range.mpr ha)
  unfold cellN cellOf
  revert h1
  match SH.getD a (9, 0, []) with
  | (0, ci, cs) =>
    intro h1
    show (Sum.inr (ci, (List.range cs.length).map (fun k => fvn Γ (M.contains (a, k)) (cs.getD k 0) (D a k))) : va_E) = Sum.inr (ci, (List.range cs.length).map (fun k => fvz Γ (cs.getD k 0) (D a k)))
    congr 2
    apply List.map_congr_left
    intro k hk
    have h2 := List.all_eq_true.mp h1 k hk
    unfold fvn
    by_cases g : cs.getD k 0 ≤ 2
    · rw [if_pos g]
    · rw [if_neg g]
      have h3 : M.contains (a, k) = true := by
        rcases (Bool.or_eq_true _ _).mp h2 with h | h
        · exact absurd (Nat.le_of_ble_eq_true h) g
        · exact h
      rw [h3, if_pos rfl]
      unfold fvz
      rw [if_neg (by omega), if_neg (by omega)]
  | (1, _, _) => intro _; rfl
  | (2, _, _) => intro _; rfl
  | (k + 3, _, _) => intro _; rfl
theorem full_wsl (h : full M n = true) (hn : n ≤ NA) : wsl Γ (fun a => Nat.blt a n) D = wsn Γ n M D := by
  have hr : wsi (fun a => Nat.blt a n) = List.range n := by
    unfold wsi
    rw [show NA = n + (NA - n) by omega, List.range_add, List.filter_append]
    have e1 : (List.range n).filter (fun a => Nat.blt a n) = List.range n := List.filter_eq_self.mpr (fun a ha => Nat.ble_eq.mpr (List.mem_range.mp ha))
    have e2 : ((List.range (NA - n)).map (n + ·)).filter (fun a => Nat.blt a n) = [] := by
      apply List.filter_eq_nil_iff.mpr
      intro a ha
      obtain ⟨x, -, rfl⟩ := List.mem_map.mp ha
      intro g
      have := Nat.le_of_ble_eq_true g
      omega
    rw [e1, e2, List.append_nil]
  unfold wsl wsn
  rw [hr]
  apply List.map_congr_left
  intro a ha
  rw [full_cell h (List.mem_range.mp ha)]
theorem n_run {κ : Nat} {Φ : OT → DD → Prop} (h : full M n = true) (hn : n ≤ NA) (hc : n - n0 + κ ≤ mc) (hsl : sl n - sl n0 + 6 * κ ≤ ms) (hcn : (D 99 0).toNat ≤ n)
    (hR : Run Γ (fun a => Nat.blt a n) κ y pc ls st D Φ) : RunN Γ n0 mc ms (Qcc Γ (fun a => Nat.blt a n) Φ) (XCc Γ (fun a => Nat.blt a n) Φ) y pc ls st n M D := by
  intro p e R s m args below meth c H locs lsm q C hN hz hH hS hl h3 h4
  obtain ⟨hx, hb, hml, hown, hlk, hrt, htb, hfr, hlo, hE⟩ := id C
  have h9 := hH.size (Nat.le_trans hE.2.2.2.2.2.2.2.2.2 hS.1)
  exact hR p e R s m args below meth c H locs lsm _ _ q mc ms C ⟨by rw [full_wsl h hn]; exact hH, by omega⟩ hS hl hc hsl h3 h4
theorem RunN.post {Qc' : Array Value → State → Outcome → State → Prop} {XC' : String → State → State → Prop} (hq : ∀ a st o t, Qc a st o t → Qc' a st o t) (hx : ∀ E st t, XC E st t → XC' E st t) (h : RunN Γ n0 mc ms Qc XC y pc ls st n M D) : RunN Γ n0 mc ms Qc' XC' y pc ls st n M D := by
  intro p e R s m args below meth c H locs lsm q C hN hz hH hS hl h3 h4 T hT X
  obtain ⟨t, a1, o, b1, b2, b3⟩ := h p e R s m args below meth c H locs lsm q C hN hz hH hS hl h3 h4 T hT X
  refine ⟨t, a1, o, b1, b2, ?_⟩
  rcases b3 with ⟨c1, b4⟩ | ⟨q', c0, E, ce, L, c1, b4⟩
  · exact Or.inl ⟨hq _ _ _ _ c1, b4⟩
  · exact Or.inr ⟨q', c0, E, ce, L, hx _ _ _ c1, b4⟩
/-- a constructor's tail -/
theorem n_tail {Ψ : DD → Prop} (h : full M n = true) (hn : n ≤ NA) (hcn : (D 99 0).toNat ≤ n) (hR : Run Γ (fun a => Nat.blt a n) 0 y pc ls st D (fun o D' => o = .inl none ∧ Ψ D')) : RunN Γ n0 (n - n0) (sl n - sl n0) (Qn Γ n M Ψ) XF y pc ls st n M D := by
  refine RunN.post (fun a st o t q => ?_) (fun E st t q => ?_) (n_run (κ := 0) h hn (by omega) (by omega) hcn hR)
  · obtain ⟨v, D', rfl, hv, ⟨hp, hΨ⟩, hH, hF⟩ := q
    cases hp
    refine ⟨rfl, ⟨D', hΨ, ?_⟩, hF⟩
    have hH := hH.1
    rw [full_wsl h hn] at hH
    exact hH
  · obtain ⟨n9, D', -, -, ⟨hp, -⟩, -⟩ := q
    cases hp
end CT
