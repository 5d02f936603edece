/-! what make and rename ask for -/
section REQUIRES
variable {Dc Dm : DD}
theorem noLink_c {k : Int} (h : Tr Dc Dm) (hk : 0 ≤ k ∧ k < 80) (ht : th Dm k) : pH_requireNoLink k Dc = if Rz 240 39 Dm k = -1 then okR 0 Dc else erR 2 Dc := by
  unfold pH_requireNoLink
  rw [isLink_c h hk ht]
  by_cases g : Rz 240 39 Dm k = -1
  · rw [if_pos g, if_pos rfl, if_pos g]
  · rw [if_neg g, if_neg (by decide), if_neg g]
/-- a name in a list: class and reference -/
theorem named_both {k x : Int} (h : Tr Dc Dm) (hk : 0 ≤ k ∧ k < 80) (ht : th Dm k) (hx : 0 ≤ x ∧ x ≤ 9999) : ∃ r, ((r = -1 ∧ ∀ j, 0 ≤ j → j < sm (mc Dm k) (Rz 240 42 Dm k) → mn_ Dm k j ≠ x) ∨ (0 ≤ r ∧ r < sm (mc Dm k) (Rz 240 42 Dm k) ∧ mn_ Dm k r = x)) ∧ pH_requireNameFree (Rz 240 40 Dm k) x Dc = (if r = -1 then okR 0 Dc else erR 2 Dc) ∧ pM_entryOf k x Dm = okR r Dm ∧ (r = -1 ∨ (0 ≤ r ∧ r < 32)) := by
  obtain ⟨p1, p2, p3⟩ := h.place hk ht
  have hkr := St.kr h hk ht
  have hT := h.1.1.1
  have hsc := h.1.1.2.1
  have tot := hkr.tot
  obtain ⟨r, hr⟩ := hkr.2.2.2.2.2.1.named x
  refine ⟨r, hr, ?_, entryOf_m hk hkr.2.2.2.2.2.1 hx hr, by rcases hr with ⟨z, -⟩ | ⟨z1, z2, -⟩ <;> omega⟩
  unfold pH_requireNameFree
  rw [subkeyNamed_c rfl hkr.2.2.2.2.1 hkr.2.2.2.2.2.1 hT (by omega) (by omega) hx hr, bnd_ok]
  rcases hr with ⟨z, -⟩ | ⟨z1, z2, -⟩
  · rw [if_pos z, w32_m1, if_pos rfl, if_pos z]
  · have hb := (hkr.2.2.2.2.2.1.2.2.1 r z1 z2).2
    rw [if_neg (show ¬ r = -1 by omega), w32_of (by omega), if_neg (show ¬ me Dm k r = -1 by omega), if_neg (show ¬ r = -1 by omega)]
end REQUIRES
