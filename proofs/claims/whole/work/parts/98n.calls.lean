/-! the law: no call tells class and reference apart -/
section LAW
variable {D D' : DD} {m n : Int}
theorem St.cc {Dc Dm Dc' Dm' : DD} (h : St Dc Dm m) (hc : ∀ b, b < 32 → Dc' b = Dc b) (hm : ∀ b, 32 ≤ b → b < 68 → Dm' b = Dm b) : St Dc' Dm' m :=
  ⟨h.1.eqv (fun b x y => hc b (by omega)) (fun b x y => hm b (by omega) (by omega)), h.2.1.cong (by rw [hc 7 (by decide)]) (hm 58 (by decide) (by decide)),
   h.2.2.1.cong (hc 16 (by decide)) (hc 17 (by decide)) (hc 18 (by decide)) (hc 19 (by decide)) (by rw [hc 15 (by decide)]) (hm 59 (by decide) (by decide)) (hm 60 (by decide) (by decide)) (hm 61 (by decide) (by decide)) (hm 62 (by decide) (by decide)) (hm 63 (by decide) (by decide)) (by rw [hm 32 (by decide) (by decide)]), h.2.2.2⟩
theorem Fl.cc {Dc Dm Dc' Dm' : DD} (h : Fl Dc Dm n) (hc : ∀ b, b < 32 → Dc' b = Dc b) (hm : ∀ b, 32 ≤ b → b < 68 → Dm' b = Dm b) : Fl Dc' Dm' n := by
  obtain ⟨h1, h2, h3, h4, h5⟩ := h
  have ec : ∀ o, o ≤ 27 → cI o Dc' = cI o Dc := fun o ho => by
    funext b
    unfold cI
    rw [hc o (by omega), hc (o + 1) (by omega), hc (o + 2) (by omega), hc (o + 3) (by omega), hc (o + 4) (by omega)]
  unfold Fl
  rw [hc 20 (by decide), hm 32 (by decide) (by decide), ec 21 (by decide), ec 26 (by decide)]
  refine ⟨h1, h2, fun i a b => ?_, h4.mm (lr (fun b x y => hm b (by omega) (by omega)) 2), fun z => ⟨(h5 z).1.mm (lr (fun b x y => hm b (by omega) (by omega)) 1), (h5 z).2⟩⟩
  rw [R_cg (hc 31 (by decide)), R_cg (hm 64 (by decide) (by decide))]
  exact h3 i a b
/-- class and reference, side by side in one heap -/
def Lw (D : DD) (m n : Int) : Prop := St D D m ∧ Fl D D n
/-- a call of the class, then of the reference -/
theorem call_both {L : List (Nat × Int)} {rc rm : DD → Res} (h : Lw D m n) (hm : m ≤ 600000) (hok : ∀ Dc Dm, St Dc Dm m → Fl Dc Dm n → OkF L Dc Dm m n (rc Dc) (rm Dm)) :
    ∃ C, (∀ b, 32 ≤ b → C b = D b) ∧ ∃ v, ((rc D = okR v C) ∨ ∃ e, e ∈ L ∧ rc D = erR e.1 C) ∧ ∀ D2, (∀ b, b ≠ 68 → D2 b = C b) → ∃ D3 v7, rm D2 = okR v7 D3 ∧ D3 68 = D2 68 ∧ Lw D3 (m + 80) (n + 1) ∧ ((rc D = okR v7 C ∧ D3 32 42 = 0) ∨ ∃ e, e ∈ L ∧ rc D = erR e.1 C ∧ D3 32 42 = e.2) := by
  obtain ⟨C, M, v, a1, a2, a3, a4, a5, a6⟩ := hok D D h.1 h.2
  refine ⟨C, a4, v, ?_, fun D2 h2 => ?_⟩
  · rcases a6 with y | ⟨e, y1, y2, -⟩
    · exact Or.inl y.1
    · exact Or.inr ⟨e, y1, y2⟩
  · have s2 : ∀ b, 32 ≤ b → b < 68 → D2 b = D b := fun b x y => by rw [h2 b (by omega), a4 b x]
    obtain ⟨C', D3, v7, b1, b2, b3, b4, b5, b6⟩ := hok D D2 (h.1.cc (fun _ _ => rfl) s2) (h.2.cc (fun _ _ => rfl) s2)
    have eC : C' = C := by
      rcases a6 with ⟨y, -⟩ | ⟨e, -, y, -⟩ <;> rcases b6 with ⟨w, -⟩ | ⟨e', -, w, -⟩
      · have := w.symm.trans y
        simp only [okR, Option.some.injEq, Prod.mk.injEq] at this
        exact this.2
      · have := w.symm.trans y
        simp [okR, erR] at this
      · have := w.symm.trans y
        simp [okR, erR] at this
      · have := w.symm.trans y
        simp only [erR, Option.some.injEq, Prod.mk.injEq] at this
        exact this.2
    subst eC
    have s3 : ∀ b, b < 32 → D3 b = C' b := fun b hb => by rw [b5 b (Or.inl hb), h2 b (by omega)]
    have st : St C' D3 (m + 80) := ⟨b2.1, b2.2.1, b2.2.2, by omega⟩
    exact ⟨D3, v7, b1, b5 68 (by omega), ⟨st.cc s3 (fun _ _ _ => rfl), b3.cc s3 (fun _ _ _ => rfl)⟩, b6⟩
theorem lcm_self (x : Int) : lcmZ x x = 0 := by
  unfold lcmZ
  rw [if_neg (Int.lt_irrefl _), if_pos rfl]
/-- with a wrapper, that says what was thrown -/
theorem law_call {L : List (Nat × Int)} {rc rm : DD → Res} {pE : Res} {t : Int → Int} (h : Lw D m n) (hm : m ≤ 600000) (hok : ∀ Dc Dm, St Dc Dm m → Fl Dc Dm n → OkF L Dc Dm m n (rc Dc) (rm Dm)) (hE1 : ∀ v C, rc D = okR v C → pE = okR 0 (up2 C 68 0 (t v))) (hE2 : ∀ e, e ∈ L → ∀ C, rc D = erR e.1 C → pE = okR e.2 C) (hL : ∀ e, e ∈ L → 1 ≤ e.2 ∧ e.2 ≤ 3) :
    ∃ v4 D2 v7 D3, pE = okR v4 D2 ∧ rm D2 = okR v7 D3 ∧ w32 (pM_thrown D3) = w32 v4 ∧ (w32 v4 = 0 → D3 68 0 = t v7) ∧ Lw D3 (m + 80) (n + 1) := by
  obtain ⟨C, a1, v, a2, a3⟩ := call_both h hm hok
  rcases a2 with y | ⟨e, y1, y2⟩
  · obtain ⟨D3, v7, b1, b2, b3, b4⟩ := a3 (up2 C 68 0 (t v)) (fun b hb => up2_ot hb)
    rcases b4 with ⟨z1, z2⟩ | ⟨e', -, z1, -⟩
    · have := z1.symm.trans y
      simp only [okR, Option.some.injEq, Prod.mk.injEq, Sum.inl.injEq] at this
      refine ⟨0, _, v7, D3, hE1 v C y, b1, ?_, fun _ => ?_, b3⟩
      · unfold pM_thrown
        rw [z2]
      · rw [b2, up2_eq, this.1]
    · have := z1.symm.trans y
      simp [okR, erR] at this
  · obtain ⟨D3, v7, b1, b2, b3, b4⟩ := a3 C (fun _ _ => rfl)
    rcases b4 with ⟨z1, z2⟩ | ⟨e', z0, z1, z2⟩
    · have := z1.symm.trans y2
      simp [okR, erR] at this
    · have hl := hL e' z0
      refine ⟨e'.2, C, v7, D3, hE2 e' z0 C z1, b1, ?_, fun z => ?_, b3⟩
      · unfold pM_thrown
        rw [z2]
      · rw [w32_of (by omega)] at z
        omega
/-- without -/
theorem law_plain {rc rm : DD → Res} (h : Lw D m n) (hm : m ≤ 600000) (hok : ∀ Dc Dm, St Dc Dm m → Fl Dc Dm n → OkF [] Dc Dm m n (rc Dc) (rm Dm)) : ∃ v D2 D3, rc D = okR v D2 ∧ rm D2 = okR v D3 ∧ Lw D3 (m + 80) (n + 1) := by
  obtain ⟨C, a1, v, a2, a3⟩ := call_both h hm hok
  obtain ⟨D3, v7, b1, b2, b3, b4⟩ := a3 C (fun _ _ => rfl)
  rcases b4 with ⟨z1, -⟩ | ⟨e, z, -⟩
  · exact ⟨v7, C, D3, z1, b1, b3⟩
  · exact absurd z List.not_mem_nil
theorem rdX_ok {X : Nat → Int32} {L : Nat} {i : Int} {D : DD} {c : Int → Res} (h : 0 ≤ i ∧ i < L ∧ (L : Int) ≤ 2147483647) : rdX X L i D c = c (X i.toNat).toInt := by
  unfold rdX
  rw [w32_of (by omega), if_pos ⟨h.1, h.2.1⟩]
theorem i32_bd (x : Int32) : -2147483648 ≤ x.toInt ∧ x.toInt ≤ 2147483647 := by
  have h1 := Int32.le_toInt x
  have h2 := Int32.toInt_lt x
  omega
theorem law_make {p1 p2 : Int} (h : Lw D m n) (hm : m ≤ 600000) (hn : n ≤ 600000) (hp1 : -2147483648 ≤ p1 ∧ p1 ≤ 2147483647) (hp2 : -2147483648 ≤ p2 ∧ p2 ≤ 2147483647) : ∃ v4 D2 v7 D3, pE_make p1 p2 D = okR v4 D2 ∧ pM_make p1 p2 D2 = okR v7 D3 ∧ w32 (pM_thrown D3) = w32 v4 ∧ (w32 v4 = 0 → D3 68 0 = (w32) v7) ∧ Lw D3 (m + 80) (n + 1) :=
  law_call (L := [(0, 1), (1, 2), (2, 3)]) (rc := fun D => pH_make p1 p2 D) (rm := fun D => pM_make p1 p2 D) h hm (fun Dc Dm hs hf => (make_ok hs hp1 hp2).okF hf) (fun v C e => by
    unfold pE_make
    rw [e]
    rfl) (fun e he C y => by
    simp only [List.mem_cons, List.not_mem_nil, or_false] at he
    rcases he with he | he | he
    · subst he
      unfold pE_make
      rw [y]
      rfl
    · subst he
      unfold pE_make
      rw [y]
      rfl
    · subst he
      unfold pE_make
      rw [y]
      rfl) (fun e he => by
    simp only [List.mem_cons, List.not_mem_nil, or_false] at he
    rcases he with he | he | he <;> subst he <;> decide)
theorem law_makeLink {p1 p2 p3 : Int} (h : Lw D m n) (hm : m ≤ 600000) (hn : n ≤ 600000) (hp1 : -2147483648 ≤ p1 ∧ p1 ≤ 2147483647) (hp2 : -2147483648 ≤ p2 ∧ p2 ≤ 2147483647) (hp3 : -2147483648 ≤ p3 ∧ p3 ≤ 2147483647) : ∃ v4 D2 v7 D3, pE_makeLink p1 p2 p3 D = okR v4 D2 ∧ pM_makeLink p1 p2 p3 D2 = okR v7 D3 ∧ w32 (pM_thrown D3) = w32 v4 ∧ (w32 v4 = 0 → D3 68 0 = (w32) v7) ∧ Lw D3 (m + 80) (n + 1) :=
  law_call (L := [(0, 1), (1, 2), (2, 3)]) (rc := fun D => pH_makeLink p1 p2 p3 D) (rm := fun D => pM_makeLink p1 p2 p3 D) h hm (fun Dc Dm hs hf => (makeLink_ok hs hp1 hp2 hp3).okF hf) (fun v C e => by
    unfold pE_makeLink
    rw [e]
    rfl) (fun e he C y => by
    simp only [List.mem_cons, List.not_mem_nil, or_false] at he
    rcases he with he | he | he
    · subst he
      unfold pE_makeLink
      rw [y]
      rfl
    · subst he
      unfold pE_makeLink
      rw [y]
      rfl
    · subst he
      unfold pE_makeLink
      rw [y]
      rfl) (fun e he => by
    simp only [List.mem_cons, List.not_mem_nil, or_false] at he
    rcases he with he | he | he <;> subst he <;> decide)
theorem law_rename {p1 p2 : Int} (h : Lw D m n) (hm : m ≤ 600000) (hn : n ≤ 600000) (hp1 : -2147483648 ≤ p1 ∧ p1 ≤ 2147483647) (hp2 : -2147483648 ≤ p2 ∧ p2 ≤ 2147483647) : ∃ v4 D2 v7 D3, pE_rename p1 p2 D = okR v4 D2 ∧ pM_rename p1 p2 D2 = okR v7 D3 ∧ w32 (pM_thrown D3) = w32 v4 ∧ (w32 v4 = 0 → D3 68 0 = (w32) v7) ∧ Lw D3 (m + 80) (n + 1) :=
  law_call (L := [(0, 1), (1, 2), (2, 3)]) (rc := fun D => pH_rename p1 p2 D) (rm := fun D => pM_rename p1 p2 D) h hm (fun Dc Dm hs hf => (rename_ok hs hp1 hp2).okF hf) (fun v C e => by
    unfold pE_rename
    rw [e]
    rfl) (fun e he C y => by
    simp only [List.mem_cons, List.not_mem_nil, or_false] at he
    rcases he with he | he | he
    · subst he
      unfold pE_rename
      rw [y]
      rfl
    · subst he
      unfold pE_rename
      rw [y]
      rfl
    · subst he
      unfold pE_rename
      rw [y]
      rfl) (fun e he => by
    simp only [List.mem_cons, List.not_mem_nil, or_false] at he
    rcases he with he | he | he <;> subst he <;> decide)
theorem law_delete {p1 : Int} (h : Lw D m n) (hm : m ≤ 600000) (hn : n ≤ 600000) (hp1 : -2147483648 ≤ p1 ∧ p1 ≤ 2147483647) : ∃ v4 D2 v7 D3, pE_delete p1 D = okR v4 D2 ∧ pM_delete p1 D2 = okR v7 D3 ∧ w32 (pM_thrown D3) = w32 v4 ∧ (w32 v4 = 0 → D3 68 0 = (w32) v7) ∧ Lw D3 (m + 80) (n + 1) :=
  law_call (L := [(0, 1), (2, 2)]) (rc := fun D => pH_delete p1 D) (rm := fun D => pM_delete p1 D) h hm (fun Dc Dm hs hf => (delete_ok hs hp1).okF hf) (fun v C e => by
    unfold pE_delete
    rw [e]
    rfl) (fun e he C y => by
    simp only [List.mem_cons, List.not_mem_nil, or_false] at he
    rcases he with he | he
    · subst he
      unfold pE_delete
      rw [y]
      rfl
    · subst he
      unfold pE_delete
      rw [y]
      rfl) (fun e he => by
    simp only [List.mem_cons, List.not_mem_nil, or_false] at he
    rcases he with he | he <;> subst he <;> decide)
theorem law_find {p1 p2 : Int} (h : Lw D m n) (hm : m ≤ 600000) (hn : n ≤ 600000) (hp1 : -2147483648 ≤ p1 ∧ p1 ≤ 2147483647) (hp2 : -2147483648 ≤ p2 ∧ p2 ≤ 2147483647) : ∃ v4 D2 v7 D3, pE_find p1 p2 D = okR v4 D2 ∧ pM_find p1 p2 D2 = okR v7 D3 ∧ w32 (pM_thrown D3) = w32 v4 ∧ (w32 v4 = 0 → D3 68 0 = (w32) v7) ∧ Lw D3 (m + 80) (n + 1) :=
  law_call (L := [(0, 1), (1, 2)]) (rc := fun D => pH_find p1 p2 D) (rm := fun D => pM_find p1 p2 D) h hm (fun Dc Dm hs hf => (find_ok hs hp1 hp2).okF hf) (fun v C e => by
    unfold pE_find
    rw [e]
    rfl) (fun e he C y => by
    simp only [List.mem_cons, List.not_mem_nil, or_false] at he
    rcases he with he | he
    · subst he
      unfold pE_find
      rw [y]
      rfl
    · subst he
      unfold pE_find
      rw [y]
      rfl) (fun e he => by
    simp only [List.mem_cons, List.not_mem_nil, or_false] at he
    rcases he with he | he <;> subst he <;> decide)
theorem law_subkeyAt {p1 p2 : Int} (h : Lw D m n) (hm : m ≤ 600000) (hn : n ≤ 600000) (hp1 : -2147483648 ≤ p1 ∧ p1 ≤ 2147483647) (hp2 : -2147483648 ≤ p2 ∧ p2 ≤ 2147483647) : ∃ v4 D2 v7 D3, pE_subkeyAt p1 p2 D = okR v4 D2 ∧ pM_subkeyAt p1 p2 D2 = okR v7 D3 ∧ w32 (pM_thrown D3) = w32 v4 ∧ (w32 v4 = 0 → D3 68 0 = (w32) v7) ∧ Lw D3 (m + 80) (n + 1) :=
  law_call (L := [(0, 1)]) (rc := fun D => pH_subkeyAt p1 p2 D) (rm := fun D => pM_subkeyAt p1 p2 D) h hm (fun Dc Dm hs hf => (subkeyAt_ok hs hp1 hp2).okF hf) (fun v C e => by
    unfold pE_subkeyAt
    rw [e]
    rfl) (fun e he C y => by
    simp only [List.mem_cons, List.not_mem_nil, or_false] at he
    subst he
    unfold pE_subkeyAt
    rw [y]
    rfl) (fun e he => by
    simp only [List.mem_cons, List.not_mem_nil, or_false] at he
    subst he; decide)
theorem law_list {p1 : Int} (h : Lw D m n) (hm : m ≤ 600000) (hn : n ≤ 600000) (hp1 : -2147483648 ≤ p1 ∧ p1 ≤ 2147483647) : ∃ v4 D2 v7 D3, pE_list p1 D = okR v4 D2 ∧ pM_list p1 D2 = okR v7 D3 ∧ w32 (pM_thrown D3) = w32 v4 ∧ (w32 v4 = 0 → D3 68 0 = (w32) v7) ∧ Lw D3 (m + 80) (n + 1) :=
  law_call (L := [(0, 1)]) (rc := fun D => pH_list p1 D) (rm := fun D => pM_list p1 D) h hm (fun Dc Dm hs hf => (list_ok hs hp1).okF hf) (fun v C e => by
    unfold pE_list
    rw [e]
    rfl) (fun e he C y => by
    simp only [List.mem_cons, List.not_mem_nil, or_false] at he
    subst he
    unfold pE_list
    rw [y]
    rfl) (fun e he => by
    simp only [List.mem_cons, List.not_mem_nil, or_false] at he
    subst he; decide)
theorem law_follow {p1 : Int} (h : Lw D m n) (hm : m ≤ 600000) (hn : n ≤ 600000) (hp1 : -2147483648 ≤ p1 ∧ p1 ≤ 2147483647) : ∃ v4 D2 v7 D3, pE_follow p1 D = okR v4 D2 ∧ pM_follow p1 D2 = okR v7 D3 ∧ w32 (pM_thrown D3) = w32 v4 ∧ (w32 v4 = 0 → D3 68 0 = (w32) v7) ∧ Lw D3 (m + 80) (n + 1) :=
  law_call (L := [(0, 1)]) (rc := fun D => pH_follow p1 D) (rm := fun D => pM_follow p1 D) h hm (fun Dc Dm hs hf => (follow_ok hs hp1).okF hf) (fun v C e => by
    unfold pE_follow
    rw [e]
    rfl) (fun e he C y => by
    simp only [List.mem_cons, List.not_mem_nil, or_false] at he
    subst he
    unfold pE_follow
    rw [y]
    rfl) (fun e he => by
    simp only [List.mem_cons, List.not_mem_nil, or_false] at he
    subst he; decide)
theorem law_setValue {p1 p2 p3 p4 : Int} (h : Lw D m n) (hm : m ≤ 600000) (hn : n ≤ 600000) (hp1 : -2147483648 ≤ p1 ∧ p1 ≤ 2147483647) (hp2 : -2147483648 ≤ p2 ∧ p2 ≤ 2147483647) (hp3 : -2147483648 ≤ p3 ∧ p3 ≤ 2147483647) : ∃ v4 D2 v7 D3, pE_setValue p1 p2 p3 p4 D = okR v4 D2 ∧ pM_setValue p1 p2 p3 p4 D2 = okR v7 D3 ∧ w32 (pM_thrown D3) = w32 v4 ∧ (w32 v4 = 0 → D3 68 0 = (w32) v7) ∧ Lw D3 (m + 80) (n + 1) :=
  law_call (L := [(0, 1), (1, 2), (2, 3)]) (rc := fun D => pH_setValue p1 p2 p3 p4 D) (rm := fun D => pM_setValue p1 p2 p3 p4 D) h hm (fun Dc Dm hs hf => (setValue_ok hs hp1 hp2 hp3).okF hf) (fun v C e => by
    unfold pE_setValue
    rw [e]
    rfl) (fun e he C y => by
    simp only [List.mem_cons, List.not_mem_nil, or_false] at he
    rcases he with he | he | he
    · subst he
      unfold pE_setValue
      rw [y]
      rfl
    · subst he
      unfold pE_setValue
      rw [y]
      rfl
    · subst he
      unfold pE_setValue
      rw [y]
      rfl) (fun e he => by
    simp only [List.mem_cons, List.not_mem_nil, or_false] at he
    rcases he with he | he | he <;> subst he <;> decide)
theorem law_resize {p1 p2 p3 : Int} (h : Lw D m n) (hm : m ≤ 600000) (hn : n ≤ 600000) (hp1 : -2147483648 ≤ p1 ∧ p1 ≤ 2147483647) (hp2 : -2147483648 ≤ p2 ∧ p2 ≤ 2147483647) (hp3 : -2147483648 ≤ p3 ∧ p3 ≤ 2147483647) : ∃ v4 D2 v7 D3, pE_resize p1 p2 p3 D = okR v4 D2 ∧ pM_resize p1 p2 p3 D2 = okR v7 D3 ∧ w32 (pM_thrown D3) = w32 v4 ∧ (w32 v4 = 0 → D3 68 0 = (w32) v7) ∧ Lw D3 (m + 80) (n + 1) :=
  law_call (L := [(0, 1), (1, 2), (2, 3)]) (rc := fun D => pH_resize p1 p2 p3 D) (rm := fun D => pM_resize p1 p2 p3 D) h hm (fun Dc Dm hs hf => (resize_ok hs hp1 hp2 hp3).okF hf) (fun v C e => by
    unfold pE_resize
    rw [e]
    rfl) (fun e he C y => by
    simp only [List.mem_cons, List.not_mem_nil, or_false] at he
    rcases he with he | he | he
    · subst he
      unfold pE_resize
      rw [y]
      rfl
    · subst he
      unfold pE_resize
      rw [y]
      rfl
    · subst he
      unfold pE_resize
      rw [y]
      rfl) (fun e he => by
    simp only [List.mem_cons, List.not_mem_nil, or_false] at he
    rcases he with he | he | he <;> subst he <;> decide)
theorem law_dropValue {p1 p2 : Int} (h : Lw D m n) (hm : m ≤ 600000) (hn : n ≤ 600000) (hp1 : -2147483648 ≤ p1 ∧ p1 ≤ 2147483647) (hp2 : -2147483648 ≤ p2 ∧ p2 ≤ 2147483647) : ∃ v4 D2 v7 D3, pE_dropValue p1 p2 D = okR v4 D2 ∧ pM_dropValue p1 p2 D2 = okR v7 D3 ∧ w32 (pM_thrown D3) = w32 v4 ∧ (w32 v4 = 0 → D3 68 0 = (w32) v7) ∧ Lw D3 (m + 80) (n + 1) :=
  law_call (L := [(0, 1)]) (rc := fun D => pH_dropValue p1 p2 D) (rm := fun D => pM_dropValue p1 p2 D) h hm (fun Dc Dm hs hf => (dropValue_ok hs hp1 hp2).okF hf) (fun v C e => by
    unfold pE_dropValue
    rw [e]
    rfl) (fun e he C y => by
    simp only [List.mem_cons, List.not_mem_nil, or_false] at he
    subst he
    unfold pE_dropValue
    rw [y]
    rfl) (fun e he => by
    simp only [List.mem_cons, List.not_mem_nil, or_false] at he
    subst he; decide)
theorem law_unit {p1 p2 p3 : Int} (h : Lw D m n) (hm : m ≤ 600000) (hn : n ≤ 600000) (hp1 : -2147483648 ≤ p1 ∧ p1 ≤ 2147483647) (hp2 : -2147483648 ≤ p2 ∧ p2 ≤ 2147483647) (hp3 : -2147483648 ≤ p3 ∧ p3 ≤ 2147483647) : ∃ v4 D2 v7 D3, pE_unit p1 p2 p3 D = okR v4 D2 ∧ pM_unit p1 p2 p3 D2 = okR v7 D3 ∧ w32 (pM_thrown D3) = w32 v4 ∧ (w32 v4 = 0 → D3 68 0 = (w32) v7) ∧ Lw D3 (m + 80) (n + 1) :=
  law_call (L := [(0, 1)]) (rc := fun D => pH_unit p1 p2 p3 D) (rm := fun D => pM_unit p1 p2 p3 D) h hm (fun Dc Dm hs hf => (unit_ok hs hp1 hp2 hp3).okF hf) (fun v C e => by
    unfold pE_unit
    rw [e]
    rfl) (fun e he C y => by
    simp only [List.mem_cons, List.not_mem_nil, or_false] at he
    subst he
    unfold pE_unit
    rw [y]
    rfl) (fun e he => by
    simp only [List.mem_cons, List.not_mem_nil, or_false] at he
    subst he; decide)
theorem law_setRights {p1 p2 : Int} (h : Lw D m n) (hm : m ≤ 600000) (hn : n ≤ 600000) (hp1 : -2147483648 ≤ p1 ∧ p1 ≤ 2147483647) (hp2 : -2147483648 ≤ p2 ∧ p2 ≤ 2147483647) : ∃ v4 D2 v7 D3, pE_setRights p1 p2 D = okR v4 D2 ∧ pM_setRights p1 p2 D2 = okR v7 D3 ∧ w32 (pM_thrown D3) = w32 v4 ∧ (w32 v4 = 0 → D3 68 0 = (w32) v7) ∧ Lw D3 (m + 80) (n + 1) :=
  law_call (L := [(0, 1), (1, 2), (2, 3)]) (rc := fun D => pH_setRights p1 p2 D) (rm := fun D => pM_setRights p1 p2 D) h hm (fun Dc Dm hs hf => (setRights_ok hs hp1 hp2).okF hf) (fun v C e => by
    unfold pE_setRights
    rw [e]
    rfl) (fun e he C y => by
    simp only [List.mem_cons, List.not_mem_nil, or_false] at he
    rcases he with he | he | he
    · subst he
      unfold pE_setRights
      rw [y]
      rfl
    · subst he
      unfold pE_setRights
      rw [y]
      rfl
    · subst he
      unfold pE_setRights
      rw [y]
      rfl) (fun e he => by
    simp only [List.mem_cons, List.not_mem_nil, or_false] at he
    rcases he with he | he | he <;> subst he <;> decide)
theorem law_sharers {p1 : Int} (h : Lw D m n) (hm : m ≤ 600000) (hn : n ≤ 600000) (hp1 : -2147483648 ≤ p1 ∧ p1 ≤ 2147483647) : ∃ v4 D2 v7 D3, pE_sharers p1 D = okR v4 D2 ∧ pM_sharers p1 D2 = okR v7 D3 ∧ w32 (pM_thrown D3) = w32 v4 ∧ (w32 v4 = 0 → D3 68 0 = (w32) v7) ∧ Lw D3 (m + 80) (n + 1) :=
  law_call (L := [(1, 1)]) (rc := fun D => pH_sharers p1 D) (rm := fun D => pM_sharers p1 D) h hm (fun Dc Dm hs hf => (sharers_ok hs hp1).okF hf) (fun v C e => by
    unfold pE_sharers
    rw [e]
    rfl) (fun e he C y => by
    simp only [List.mem_cons, List.not_mem_nil, or_false] at he
    subst he
    unfold pE_sharers
    rw [y]
    rfl) (fun e he => by
    simp only [List.mem_cons, List.not_mem_nil, or_false] at he
    subst he; decide)
theorem law_cell {p1 : Int} (h : Lw D m n) (hm : m ≤ 600000) (hn : n ≤ 600000) (hp1 : -2147483648 ≤ p1 ∧ p1 ≤ 2147483647) : ∃ v4 D2 v7 D3, pE_cell p1 D = okR v4 D2 ∧ pM_cell p1 D2 = okR v7 D3 ∧ w32 (pM_thrown D3) = w32 v4 ∧ (w32 v4 = 0 → D3 68 0 = (w32) v7) ∧ Lw D3 (m + 80) (n + 1) :=
  law_call (L := [(0, 1)]) (rc := fun D => pH_cell p1 D) (rm := fun D => pM_cell p1 D) h hm (fun Dc Dm hs hf => (cell_ok hs hp1).okF hf) (fun v C e => by
    unfold pE_cell
    rw [e]
    rfl) (fun e he C y => by
    simp only [List.mem_cons, List.not_mem_nil, or_false] at he
    subst he
    unfold pE_cell
    rw [y]
    rfl) (fun e he => by
    simp only [List.mem_cons, List.not_mem_nil, or_false] at he
    subst he; decide)
theorem law_place {p1 : Int} (h : Lw D m n) (hm : m ≤ 600000) (hn : n ≤ 600000) (hp1 : -2147483648 ≤ p1 ∧ p1 ≤ 2147483647) : ∃ v4 D2 v7 D3, pE_place p1 D = okR v4 D2 ∧ pM_place p1 D2 = okR v7 D3 ∧ w32 (pM_thrown D3) = w32 v4 ∧ (w32 v4 = 0 → D3 68 0 = (w32) v7) ∧ Lw D3 (m + 80) (n + 1) :=
  law_call (L := [(0, 1)]) (rc := fun D => pH_place p1 D) (rm := fun D => pM_place p1 D) h hm (fun Dc Dm hs hf => (place_ok hs hp1).okF hf) (fun v C e => by
    unfold pE_place
    rw [e]
    rfl) (fun e he C y => by
    simp only [List.mem_cons, List.not_mem_nil, or_false] at he
    subst he
    unfold pE_place
    rw [y]
    rfl) (fun e he => by
    simp only [List.mem_cons, List.not_mem_nil, or_false] at he
    subst he; decide)
theorem law_flush (h : Lw D m n) (hm : m ≤ 600000) (hn : n ≤ 600000) : ∃ v4 D2 v7 D3, pE_flush  D = okR v4 D2 ∧ pM_flush  D2 = okR v7 D3 ∧ w32 (pM_thrown D3) = w32 v4 ∧ (w32 v4 = 0 → D3 68 0 = (w32) v7) ∧ Lw D3 (m + 80) (n + 1) :=
  law_call (L := [(2, 1)]) (rc := fun D => pH_flush  D) (rm := fun D => pM_flush  D) h hm (fun Dc Dm hs hf => flush_ok hs hf ) (fun v C e => by
    unfold pE_flush
    rw [e]
    rfl) (fun e he C y => by
    simp only [List.mem_cons, List.not_mem_nil, or_false] at he
    subst he
    unfold pE_flush
    rw [y]
    rfl) (fun e he => by
    simp only [List.mem_cons, List.not_mem_nil, or_false] at he
    subst he; decide)
theorem law_write {p1 : Int} (h : Lw D m n) (hm : m ≤ 600000) (hn : n ≤ 600000) (hp1 : -2147483648 ≤ p1 ∧ p1 ≤ 2147483647) : ∃ v4 D2 v7 D3, pE_write p1 D = okR v4 D2 ∧ pM_write p1 D2 = okR v7 D3 ∧ w32 (pM_thrown D3) = w32 v4 ∧ (w32 v4 = 0 → D3 68 0 = (w32) v7) ∧ Lw D3 (m + 80) (n + 1) :=
  law_call (L := [(1, 1), (2, 2)]) (rc := fun D => pH_write p1 D) (rm := fun D => pM_write p1 D) h hm (fun Dc Dm hs hf => write_ok hs hf (by omega) hp1) (fun v C e => by
    unfold pE_write
    rw [e]
    rfl) (fun e he C y => by
    simp only [List.mem_cons, List.not_mem_nil, or_false] at he
    rcases he with he | he
    · subst he
      unfold pE_write
      rw [y]
      rfl
    · subst he
      unfold pE_write
      rw [y]
      rfl) (fun e he => by
    simp only [List.mem_cons, List.not_mem_nil, or_false] at he
    rcases he with he | he <;> subst he <;> decide)
theorem law_log {p1 : Int} (h : Lw D m n) (hm : m ≤ 600000) (hn : n ≤ 600000) (hp1 : -2147483648 ≤ p1 ∧ p1 ≤ 2147483647) : ∃ v4 D2 v7 D3, pE_log p1 D = okR v4 D2 ∧ pM_log p1 D2 = okR v7 D3 ∧ w32 (pM_thrown D3) = w32 v4 ∧ (w32 v4 = 0 → D3 68 0 = (w32) v7) ∧ Lw D3 (m + 80) (n + 1) :=
  law_call (L := [(1, 1)]) (rc := fun D => pH_log p1 D) (rm := fun D => pM_log p1 D) h hm (fun Dc Dm hs hf => log_ok hs hf hp1) (fun v C e => by
    unfold pE_log
    rw [e]
    rfl) (fun e he C y => by
    simp only [List.mem_cons, List.not_mem_nil, or_false] at he
    subst he
    unfold pE_log
    rw [y]
    rfl) (fun e he => by
    simp only [List.mem_cons, List.not_mem_nil, or_false] at he
    subst he; decide)
theorem law_watch {p1 p2 p3 : Int} (h : Lw D m n) (hm : m ≤ 600000) (hn : n ≤ 600000) (hp1 : -2147483648 ≤ p1 ∧ p1 ≤ 2147483647) (hp2 : -2147483648 ≤ p2 ∧ p2 ≤ 2147483647)  (hd : p3 = 0 ∨ p3 = 1): ∃ v4 D2 v7 D3, pE_watch p1 p2 p3 D = okR v4 D2 ∧ pM_watch p1 p2 p3 D2 = okR v7 D3 ∧ w32 (pM_thrown D3) = w32 v4 ∧ (w32 v4 = 0 → D3 68 0 = (fun v => if w32 v = 0 then 0 else 1) v7) ∧ Lw D3 (m + 80) (n + 1) :=
  law_call (L := [(0, 1), (1, 2)]) (rc := fun D => pH_watch p1 p2 p3 D) (rm := fun D => pM_watch p1 p2 p3 D) h hm (fun Dc Dm hs hf => (watch_ok hs hp1 hp2 hd).okF hf) (fun v C e => by
    unfold pE_watch
    rw [e]
    simp only [ctc, okR, jnR, gD]
    by_cases z : w32 v = 0
    · rw [if_pos z, if_pos z]
    · rw [if_neg z, if_neg z]) (fun e he C y => by
    simp only [List.mem_cons, List.not_mem_nil, or_false] at he
    rcases he with he | he
    · subst he
      unfold pE_watch
      rw [y]
      rfl
    · subst he
      unfold pE_watch
      rw [y]
      rfl) (fun e he => by
    simp only [List.mem_cons, List.not_mem_nil, or_false] at he
    rcases he with he | he <;> subst he <;> decide)
end LAW
