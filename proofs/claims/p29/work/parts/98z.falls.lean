/-! THE STATEMENT IS FALSE: at the printed start (start1) the law makes more new cells than the statement's room -/
def R_law : String := "HiveKeysLaw"
/-- a wider room; where there is so much room, the law makes more than 173 new cells -/
def R9 : Room := { frames := 13, cells := 600, slots := 13000, locals := 544 }
theorem esc_of {l : Launch} {S : Spec} {cc : ByteArray} {mL : Nat} {rt : Option FieldType} {xx : MethodName} {Z : State → Prop} (hx : plainFor xx = true) {p : Program} {e : Env} (ha : l.admits e) (hc : FairCas e.choices) (hk : FairClock e.choices) {s : State} {m : MethodId} {args : Array Value} {below : List Frame}
    (hf : s.frames = .invoking m args :: below) (happ : S.appliesLoose xx e.platform s = true) (his : ∃ meth c, s.vm.method? m = some meth ∧ meth.code = some c ∧ c.code = cc ∧ c.maxLocals = mL ∧ meth.sig.returnType = rt ∧ meth.locks = false)
    (body : ∀ meth c s₁, BodyLoose p l xx S cc mL rt e s m args below meth c s₁ → c.maxLocals = mL → ∃ s₂, Steps p.tables e below (s₁.setTop (entryFrame m args mL)) s₂ ∧ Z s₂) : ∃ s₂, Steps p.tables e below s s₂ ∧ Z s₂ := by
  obtain ⟨hrun, hable, halone, hname, hhears, hinit, hroom, hpre⟩ := (Spec.appliesLoose_iff hf).mp happ
  obtain ⟨meth, c, hmeth, hcode, hbytes, hlocals, hret, hlocks⟩ := his
  have hcur := State.cur_lt_of_frames hf
  have hf1 : (s.setFrames (.java (entryFrame m args mL) :: below)).frames = .java (entryFrame m args mL) :: below := State.frames_setFrames _ hcur
  have ht1 := State.topJava?_of_frames hf1
  have hplain : (s.setFrames (.java (entryFrame m args mL) :: below)).plainMethod m := State.plainMethod.of_named (s := s) hx hname hmeth
  have hAt : At (s.setFrames (.java (entryFrame m args mL) :: below)) m c below :=
    ⟨by rw [ht1]; rfl, ⟨[], by rw [hf1]; rfl⟩, hrun, by simpa using hable, by simpa using halone, by rw [State.code?_eq]; simp [State.setFrames, hmeth, hcode], hplain⟩
  have hstep : (stepThread p.tables e s).1 = (s.setFrames (.java (entryFrame m args mL) :: below)).setTop (entryFrame m args mL) := by
    have hfull : e.platform.stackFull (s.setFrames below).me (s.setFrames below).frames c.maxLocals = false := by
      obtain ⟨-, h1, -, h2⟩ := State.hasRoom_stack hroom
      rw [hf, List.length_cons] at h1
      rw [State.localsInUse_invoking hf hmeth hcode] at h2
      have hw := stackUse_le_stackWeight below
      rw [State.frames_setFrames _ hcur]
      exact Platform.stackFull_eq_false (by rw [State.stackLimits_setFrames]; omega) (by rw [State.stackLimits_setFrames]; omega)
    rw [stepThread_invoking hf, (doInvoke_java (s := s.setFrames below) (e := e) (meth := meth) (code := c) hmeth hcode hlocks hfull).1, State.setTop_self ht1]
    simp only [State.pushFrame, State.frames_setFrames _ hcur, State.setFrames_setFrames, hlocals, entryFrame]
  obtain ⟨s₂, hs, hp⟩ := body meth c _ ⟨ha, hc, hk, by cases p <;> rfl, hf, hname, hhears, hinit, hroom, hpre, hmeth, hret, hlocks, hbytes, rfl, hAt⟩ hlocals
  exact ⟨s₂, Steps.head (tb := p.tables) (e := e) ⟨hrun, hable, halone⟩ ⟨[.invoking m args], hf, by simp, by simp⟩ (hstep ▸ hs), hp⟩
theorem not_both {s : State} {below : List Frame} {v : Option Value} (h : Within s below) (g : Ended s below (.returned v)) : False := by
  obtain ⟨above, h1, h2, -⟩ := h
  have hl : s.frames.length = below.length := by
    cases below with
    | nil => exact congrArg List.length g.2
    | cons f r =>
      cases f with
      | java gg =>
        obtain ⟨c, i, len, -, -, g⟩ := g
        rw [g]; rfl
      | native gg =>
        have g2 : s.frames = .native { gg with awaiting := false, answer := some (.returned v) } :: r := g
        rw [g2]; rfl
      | proc gg =>
        have g2 : s.frames = .proc { gg with awaiting := false, answer := some (.returned v) } :: r := g
        rw [g2]; rfl
      | _ => exact congrArg List.length g.2
  rw [h1, List.length_append] at hl
  have : above.length ≠ 0 := fun q => h2 (List.length_eq_zero_iff.mp q)
  omega
theorem makes_more {l : Launch} (hflags : l.flags = flags0) {p : Program} {e : Env} (ha : l.admits e) (hc : FairCas e.choices) (hk : FairClock e.choices) {s : State} {m : MethodId} {below : List Frame} {b : Addr} (hf : s.frames = .invoking m #[.ref b] :: below)
    (happ : (headSpec (Jvm.Cond.code x code maxLocals ret :: tables_1) room_1).applies x e.platform s = true) (hroom : s.hasRoom e.platform R9 = true) (hgv : (Jvm.Cond.and given_1 narrow_1).before #[.ref b] s = true) (hscr : s.IntsAt b scr) : ∃ t, Steps p.tables e below s t ∧ s.heap.size + 174 ≤ t.heap.size := by
  have h0 := (Spec.appliesLoose_iff hf).mp ((Spec.applies_iff_loose hf).mp happ).1
  obtain ⟨q1, q2, q3, q4, q5, q6, -, q8⟩ := h0
  have hpre : (headSpec (Jvm.Cond.code x code maxLocals ret :: tables_1) R9).pre.before #[.ref b] s = true := q8
  have hts0 : ∀ c ∈ (Jvm.Cond.code x code maxLocals ret :: tables_1), c.before #[Value.ref b] s = true := atoms_spec (ws := Jvm.Cond.code x code maxLocals ret :: tables_1) q8
  refine esc_of (l := l) (S := headSpec (Jvm.Cond.code x code maxLocals ret :: tables_1) R9) (cc := code) (mL := maxLocals) (rt := ret) (plainFor_of_name (by decide)) ha hc hk hf ((Spec.appliesLoose_iff hf).mpr ⟨q1, q2, q3, q4, q5, q6, hroom, hpre⟩) ?_ ?_
  · obtain ⟨meth, c, h1, h2, h3, h4, h5, h6, -, -⟩ := Cond.code_spec q4 (hts0 _ List.mem_cons_self)
    exact ⟨meth, c, h1, h2, h3, h4, h5, h6⟩
  · intro meth c s₁ B hml0
    obtain ⟨scr9, harrAt, hlist, hof, hsmall⟩ := hscr
    obtain ⟨hcb, hkn, -, -⟩ := State.arrayAt?_spec harrAt
    have hown : s.vm.findClass R_law = some m.cls := findClass_of_methodNamed B.named
    have hts : ∀ w ∈ lw_tbl, w.before #[Value.ref b] s = true := k2_hts_sels lw_privs (fun w hw => hts0 w (List.mem_cons_of_mem _ hw)) lw_privs_ok
    have X₀ : Stand p l e R9 s m #[Value.ref b] below meth c s₁ [] 0 0 := Stand.of_body B
    have hh0 : s₁.heap = s.heap := by rw [B.state]; rfl
    have hsz : scr9.slots.size = 100 := by rw [← Array.length_toList, hlist, List.length_map]; rfl
    have hval : ∀ j : Nat, j < 100 → scr9.slots[j]? = some (.int (XS j)) := fun j hj => by
      rw [← Array.getElem?_toList, hlist]
      have hl : j < scr.length := hj
      simp [XS, hl]
    have hbl : b < s.heap.size := (Array.getElem?_eq_some_iff.mp hcb).1
    have hX : va_X b 100 XS s s.heap := ⟨scr9, hcb, hof, hkn, hsz, hval⟩
    obtain ⟨G, cI, cZ, cJ, hE⟩ := start_EV hflags hts hX hbl hgv
    have htab : c.exceptionTable.toList = [] := by
      obtain ⟨meth9, c9, h1, h2, -, -, -, -, h7, -⟩ := Cond.code_spec B.named (hts0 _ List.mem_cons_self)
      cases Option.some.inj (h1.symm.trans B.method)
      cases Option.some.inj (h2.symm.trans (Stand.of_body B).code)
      rw [Array.isEmpty_iff.mp h7]
    have hR := law_first (Γ := (l, (s.heap.size, b, 100, XS), (G, cI, cZ, cJ))) rfl rfl
    have hW := hR p e R9 s m #[Value.ref b] below meth c s.heap [] _ 0 ⟨B.exec, B.bytes, hml0, hown, B.notSynchronized, B.returns, htab, by decide, by decide, hE⟩ (name_of_methodNamed B.named B.method).1 (Nat.le_refl _) (fun k q h => by cases h) va_S.rf (lvr.entry (n := 27) (as := [(7, 0)]) (Nat.le_of_ble_eq_true rfl)) (Nat.le_refl _) (Nat.le_refl _)
    obtain ⟨t, a1, a2⟩ := hW s₁ hh0 X₀
    refine ⟨t, ?_, a2⟩
    have e1 : entryFrame m #[Value.ref b] maxLocals = entryFrame m ([Value.ref b] : List Value).toArray 27 := rfl
    rw [e1, lg_entry_eq]
    exact a1
/-- the statement does not hold, where such a start is -/
theorem p29_falls {l : Launch} (hflags : l.flags = flags0) (hlists : Lists l classFile x code maxLocals ret tables_1 room_1) {p : Program} {e : Env} (ha : l.admits e) (hc : FairCas e.choices) (hk : FairClock e.choices) {s : State} {m : MethodId} {below : List Frame} {b : Addr} (hf : s.frames = .invoking m #[.ref b] :: below)
    (hfit : argsFit s.vm m #[.ref b] = true) (hheap : heapFits s = true) (happ : (headSpec (Jvm.Cond.code x code maxLocals ret :: tables_1) room_1).applies x e.platform s = true) (hroom : s.hasRoom e.platform R9 = true) (hrest : rest_1 p.tables e #[.ref b] s) (hpre : Pre_1 p.tables e #[.ref b] s) (hscr : s.IntsAt b scr) : ¬ Claimed_1_1 := by
  intro hcl
  obtain ⟨n, o, h1, h2, h3, h4⟩ := hcl l hflags hlists trivial p e ha hc hk s m #[.ref b] below hf hfit hheap happ ⟨trivial, hrest, hpre⟩
  obtain ⟨-, ⟨v, hv⟩, -, hsm⟩ := h4
  subst hv
  have h5 : (stepsAlone p.tables e n s).heap.size ≤ s.heap.size + 173 := hsm.2.2.1
  obtain ⟨t, ⟨k, hk1, hk2⟩, hz⟩ := makes_more hflags ha hc hk hf happ hroom hpre hscr
  by_cases g : k ≤ n
  · obtain ⟨d, rfl⟩ := Nat.exists_eq_add_of_le g
    have h6 := stepsAlone_heap_le p.tables e d (stepsAlone p.tables e k s)
    rw [← stepsAlone_add, hk1] at h6
    omega
  · exact not_both (hk2 n (by omega)) h3
theorem scr_1 : start1.about.IntsAt 0 scr := by
  have hs := flat_of_before _ (show (Jvm.Cond.and given_1 narrow_1).before start1.args0 start1.about = true from start1.atStart.2.2.2.2.2.2.2.2.2.2.2.2)
  have hq := flat_of_before _ (show rest_1_c.before start1.args0 start1.about = true from start1.atStart.2.2.2.2.2.2.2.2.2.2.2.1)
  have harr : (Cond.arrayOf (.arg 0) .int).before start1.args0 start1.about = true := hs _ (by decide +kernel)
  have hlen : (Cond.isInt (.length (.arg 0))).before start1.args0 start1.about = true := hq _ (by decide +kernel)
  have hall : (Cond.all (.arg 0) (.isInt (.elem (.arg 0) (.index 0)))).before start1.args0 start1.about = true := hq _ (by decide +kernel)
  obtain ⟨b, xs, hb, hx⟩ := State.ints_of_pre rfl harr hlen hall
  have hb0 : b = 0 := by
    have h1 : (start1.args0)[0]? = some (.ref 0) := rfl
    have h2 : (start1.args0)[0]? = some (.ref b) := hb
    rw [h1] at h2
    cases h2
    rfl
  subst hb0
  have hxs : xs = scr := by
    obtain ⟨scr9, h1, h2, -, -⟩ := id hx
    obtain ⟨h3, -, -, -⟩ := State.arrayAt?_spec h1
    have h4 : start1.about.heap[0]? = some { cls := 23, slots := start1.cells0, vm := .none } := rfl
    rw [h4] at h3
    cases h3
    have h5 : start1.cells0.toList = xs.map Value.int := h2
    have h6 : start1.cells0.toList = scr.map Value.int := by decide +kernel
    rw [h6] at h5
    exact ((List.map_inj_right (fun a b h => by injection h)).mp h5).symm
  rw [hxs] at hx
  exact hx
/-- what is owed does not hold -/
theorem p29_is_false : ¬ (Claimed_1_1 ∧ Claimed_1_2) := by
  intro h
  obtain ⟨h1, -, h3, -, h5, h6, h7, h8, h9, h10, -, h12, h13⟩ := start1.atStart
  exact p29_falls (l := launch0) rfl h1 h3 h5 h6 h7 h8 h9 h10 (launch0.hasRoom_least _ R9 (by decide +kernel) (by decide +kernel) (by decide +kernel) (by decide +kernel) (by decide +kernel) (by decide +kernel)) h12 h13 scr_1 h.1
