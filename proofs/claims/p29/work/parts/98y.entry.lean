/-! what holds at the law's entry -/
theorem str_in : (strT.all fun r => decide (Cond.stringRef r.1 r.2.1 r.2.2 ∈ lw_tbl)) = true := by decide +kernel
theorem str_of {own tx : String} {k : Nat} {args : Array Value} {s : State} (h : (Cond.stringRef own k tx).before args s = true) : ∃ a, vk_R own k tx a s := by
  have h1 : (Cond.stringRef own k tx).before #[] s = true := by
    simp only [Cond.before, Cond.holds, Cond.value] at h ⊢
    exact h
  have hcur : ∃ cur, s.vm.findClass own = some cur := by
    simp only [Cond.before, Cond.holds, Cond.value] at h
    cases hc : s.vm.findClass own with
    | none => simp [hc] at h
    | some cur => exact ⟨cur, rfl⟩
  obtain ⟨cur, hcur⟩ := hcur
  obtain ⟨k9, cf, i, a, -, -, -, -, -, he⟩ := Cond.stringRef_spec hcur h1
  exact ⟨a, h1, he⟩
theorem arr_of {s : State} {args : Array Value} {ty : FieldType} (h : (Cond.arrayClass ty).before args s = true) : ∃ cA, ArrOfT s cA ty ∧ s.vm.findClass ("[" ++ ty.toString) = some cA := by
  obtain ⟨c, k, comp, h1, h2, h3⟩ := Cond.arrayClass_spec h
  exact ⟨c, fun n z => ⟨fun k h => (by cases h), k, h2, comp, h3⟩, h1⟩
theorem start_K {s : State} {args : Array Value} (hts : ∀ w ∈ lw_tbl, w.before args s = true) : ∃ (G : va_G) (cI cZ cJ : ClassId), va_K G vwCl [(cI, .int), (cZ, .byte), (cJ, .long)] s := by
  obtain ⟨c0, i0, k0⟩ := u_known (C := RX0) (T := TX0) (N := 6) (n := 6) hts (fun w hw => (ws_X0 w hw).1) (hts (.instantiable RX0 6) (List.mem_of_getElem? (i := 97) (by decide +kernel)))
  obtain ⟨c1, i1, k1⟩ := u_known (C := RX1) (T := TX1) (N := 7) (n := 7) hts (fun w hw => (ws_X1 w hw).1) (hts (.instantiable RX1 7) (List.mem_of_getElem? (i := 187) (by decide +kernel)))
  obtain ⟨c2, i2, k2⟩ := u_known (C := RX2) (T := TX2) (N := 6) (n := 6) hts (fun w hw => (ws_X2 w hw).1) (hts (.instantiable RX2 6) (List.mem_of_getElem? (i := 63) (by decide +kernel)))
  obtain ⟨c3, i3, k3⟩ := u_known (C := RX3) (T := TX3) (N := 2) (n := 2) hts (fun w hw => (ws_X3 w hw).1) (hts (.instantiable RX3 2) (List.mem_of_getElem? (i := 123) (by decide +kernel)))
  obtain ⟨c4, i4, k4⟩ := u_known (C := RX4) (T := TX4) (N := 3) (n := 3) hts (fun w hw => (ws_X4 w hw).1) (hts (.instantiable RX4 3) (List.mem_of_getElem? (i := 149) (by decide +kernel)))
  obtain ⟨c5, i5, k5⟩ := u_known (C := RX5) (T := TX5) (N := 2) (n := 2) hts (fun w hw => (ws_X5 w hw).1) (hts (.instantiable RX5 2) (List.mem_of_getElem? (i := 136) (by decide +kernel)))
  obtain ⟨c6, i6, k6⟩ := u_known (C := RX6) (T := TX6) (N := 5) (n := 5) hts (fun w hw => (ws_X6 w hw).1) (hts (.instantiable RX6 5) (List.mem_of_getElem? (i := 165) (by decide +kernel)))
  obtain ⟨c7, i7, k7⟩ := u_known (C := RX7) (T := TX7) (N := 8) (n := 8) hts (fun w hw => (ws_X7 w hw).1) (hts (.instantiable RX7 8) (List.mem_of_getElem? (i := 55) (by decide +kernel)))
  obtain ⟨cI, a1, a2⟩ := arr_of (ty := .int) (hts _ (List.mem_of_getElem? (i := 95) (by decide +kernel)))
  obtain ⟨cZ, b1, b2⟩ := arr_of (ty := .byte) (hts _ (List.mem_of_getElem? (i := 431) (by decide +kernel)))
  obtain ⟨cJ, d1, d2⟩ := arr_of (ty := .long) (hts _ (List.mem_of_getElem? (i := 1069) (by decide +kernel)))
  refine ⟨(fun k => match k with | 0 => c0 | 1 => c1 | 2 => c2 | 3 => c3 | 4 => c4 | 5 => c5 | 6 => c6 | _ => c7, fun k => match k with | 0 => i0 | 1 => i1 | 2 => i2 | 3 => i3 | 4 => i4 | 5 => i5 | 6 => i6 | _ => i7), cI, cZ, cJ, fun k q hq => ?_, fun k q hq => ?_⟩
  · match k, hq with
    | 0, hq => cases hq; exact k0
    | 1, hq => cases hq; exact k1
    | 2, hq => cases hq; exact k2
    | 3, hq => cases hq; exact k3
    | 4, hq => cases hq; exact k4
    | 5, hq => cases hq; exact k5
    | 6, hq => cases hq; exact k6
    | 7, hq => cases hq; exact k7
    | k + 8, hq => simp [vwCl] at hq
  · match k, hq with
    | 0, hq => cases hq; exact ⟨a1, a2⟩
    | 1, hq => cases hq; exact ⟨b1, b2⟩
    | 2, hq => cases hq; exact ⟨d1, d2⟩
    | k + 3, hq => simp at hq
theorem start_EV {l : Launch} {s : State} {b L : Nat} {xs : Nat → Int32} (hflags : l.flags = flags0) (hts : ∀ w ∈ lw_tbl, w.before #[Value.ref b] s = true) (hX : va_X b L xs s s.heap) (hbl : b < s.heap.size) (hgv : (Jvm.Cond.and given_1 narrow_1).before #[Value.ref b] s = true) :
    ∃ (G : va_G) (cI cZ cJ : ClassId), EV (l, (s.heap.size, b, L, xs), (G, cI, cZ, cJ)) s := by
  obtain ⟨G, cI, cZ, cJ, hK⟩ := start_K hts
  have hs := flat_of_before _ hgv
  have hA : ∀ a : Nat, a < s.heap.size → ¬ s.heap.size ≤ a := fun a h => Nat.not_le.mpr h
  have hini : (Cond.initialized Bundle.tN).before #[Value.ref b] s = true := hts _ (by decide +kernel)
  refine ⟨G, cI, cZ, cJ, ?_, fun w hw => va_Nw.of (kk_on hw.2) (hts w hw.1), hK, ?_, ?_, fun r hr => ?_, fun r hr => ?_, hX, hbl, Nat.le_refl _⟩
  · show l.stackTraces = false
    unfold Launch.stackTraces
    rw [hflags]
    decide +kernel
  · exact vx_Zqof (hts _ (List.mem_of_getElem? (i := 391) (by decide +kernel))) hini (hs _ (by decide +kernel)) hA
  · exact vx_Zqof (hts _ (List.mem_of_getElem? (i := 393) (by decide +kernel))) hini (hs _ (by decide +kernel)) hA
  · exact str_of (hts _ (of_decide_eq_true (List.all_eq_true.mp str_in r hr)))
  · have : ∀ r ∈ ncT, Cond.not (.castable r.1 r.2) ∈ flatC (Jvm.Cond.and given_1 narrow_1) := by decide +kernel
    exact va_Nc.of (hs _ (this r hr))
