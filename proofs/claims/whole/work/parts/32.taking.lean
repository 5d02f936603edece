/-! a place of a function of places changed; the file grows; a cell is taken out of a free one; one is given back -/
def uI (s : Int → Int) (i v : Int) : Int → Int := fun k => if k = i then v else s k
theorem uI_eq {s : Int → Int} {i v : Int} : uI s i v i = v := if_pos rfl
theorem uI_ne {s : Int → Int} {i v k : Int} (h : k ≠ i) : uI s i v k = s k := if_neg h
theorem R_uI {n a : Nat} {D : DD} {i v : Int} (h : 0 ≤ i ∧ i < n) : Rz n a (Tz n a D i v) = uI (Rz n a D) i v := by
  funext k
  rw [R_T]
  unfold uI
  by_cases g : k = i
  · rw [if_pos g, if_pos ⟨h, g⟩]
  · rw [if_neg g, if_neg (fun q => g q.2)]
def grw (s : Int → Int) (e r : Int) : Int → Int := if r = -1 then uI s e (-16) else uI s r (s r - 16)
theorem Til.zero {s : Int → Int} {e : Int} (h : Til s e) {k : Int} (hk : k < 4 ∨ e ≤ k) : s k = 0 := Classical.byContradiction fun g => by
  have := h.1 k g
  omega
theorem Til.grow {s : Int → Int} {e r : Int} (h : Til s e) (he : 4 < e) (hr : AH s e r) : Til (grw s e r) (e + 16) := by
  obtain ⟨h1, h2, h3, h4, h5⟩ := id h
  have hz := fun {k : Int} => h.zero (k := k)
  unfold grw
  rcases hr with ⟨r1, r2⟩ | ⟨r1, r2, r3, r4⟩
  · rw [if_pos r1]
    refine ⟨fun u hu => ?_, fun u v hu huv hv => ?_, ?_, fun u hu hue => ?_, fun u hu hue => ?_⟩
    · by_cases g : u = e
      · subst g; rw [uI_eq] at hu ⊢; omega
      · rw [uI_ne g] at hu ⊢
        have := h1 u hu
        omega
    · by_cases g : u = e
      · subst g
        rw [uI_ne (by omega)]
        exact hz (by omega)
      · rw [uI_ne g] at hu hv
        have := h1 u hu
        rw [uI_ne (by omega)]
        exact h2 u v hu huv hv
    · rw [uI_ne (by omega)]; exact h3
    · have g : u ≠ e := fun g => by subst g; rw [uI_eq] at hu; omega
      rw [uI_ne g] at hu hue ⊢
      by_cases q : u + s u = e
      · rw [q, uI_eq]; decide
      · rw [uI_ne q]
        have := h1 u (by omega)
        exact h4 u hu (by omega)
    · by_cases g : u = e
      · subst g; rw [uI_eq] at hue; omega
      · rw [uI_ne g] at hu hue ⊢
        have := h1 u (by omega)
        have q : u - s u ≠ e := fun q => r2 u ⟨hu, q⟩
        rw [uI_ne q]
        exact h5 u hu (by omega)
  · rw [if_neg (by omega)]
    refine ⟨fun u hu => ?_, fun u v hu huv hv => ?_, ?_, fun u hu hue => ?_, fun u hu hue => ?_⟩
    · by_cases g : u = r
      · subst g; rw [uI_eq] at hu ⊢; omega
      · rw [uI_ne g] at hu ⊢
        have := h1 u hu
        omega
    · by_cases g : u = r
      · subst g
        rw [uI_eq] at hv
        rw [uI_ne (by omega)]
        by_cases q : v < e
        · exact h2 u v (by omega) huv (by omega)
        · exact hz (by omega)
      · rw [uI_ne g] at hu hv
        by_cases q : v = r
        · subst q
          have := h2 u v hu huv hv
          omega
        · rw [uI_ne q]
          exact h2 u v hu huv hv
    · by_cases g : (4 : Int) = r
      · rw [← g, uI_eq]
        rw [← g] at r3
        omega
      · rw [uI_ne g]; exact h3
    · have g : u ≠ r := fun g => by subst g; rw [uI_eq] at hu; omega
      rw [uI_ne g] at hu hue ⊢
      have b := h1 u (by omega)
      have hne : u + s u ≠ e := fun q => by
        by_cases q2 : u < r
        · have := h2 u r (by omega) q2 (by omega)
          omega
        · have := h2 r u (by omega) (by omega) (by omega)
          omega
      by_cases q : u + s u = r
      · rw [q, uI_eq]; omega
      · rw [uI_ne q]
        exact h4 u hu (by omega)
    · by_cases g : u = r
      · subst g; rw [uI_eq] at hue; omega
      · rw [uI_ne g] at hu hue ⊢
        have b := h1 u (by omega)
        have hne : u - s u ≠ e := fun q => by
          by_cases q2 : u < r
          · have := h2 u r (by omega) q2 (by omega)
            omega
          · have := h2 r u (by omega) (by omega) (by omega)
            omega
        have := h5 u hu (by omega)
        by_cases q : u - s u = r
        · rw [q] at this; omega
        · rw [uI_ne q]; exact this
def tkn (s : Int → Int) (r n : Int) : Int → Int := uI (if s r + n < 0 then uI s (r + n) (s r + n) else s) r n
theorem tkn_used {s : Int → Int} {e r n : Int} (h : Til s e) (hn : 1 ≤ n) (hr : s r ≤ -n) {u : Int} (hu : 0 < s u) : tkn s r n u = s u := by
  unfold tkn
  have g : u ≠ r := fun g => by subst g; omega
  rw [uI_ne g]
  split
  · have g2 : u ≠ r + n := fun g2 => by
      have := h.2.1 r u (by omega) (by omega) (by omega)
      omega
    rw [uI_ne g2]
  · rfl
theorem Til.take {s : Int → Int} {e r n : Int} (h : Til s e) (hn : 1 ≤ n) (hr : s r ≤ -n) : Til (tkn s r n) e := by
  obtain ⟨h1, h2, h3, h4, h5⟩ := id h
  have br := h1 r (by omega)
  unfold tkn
  by_cases gr : s r + n < 0
  · rw [if_pos gr]
    have hin : ∀ v, r < v → v < r - s r → s v = 0 := fun v a b => h2 r v (by omega) a (by omega)
    have hrn := hin (r + n) (by omega) (by omega)
    have val : ∀ u, uI (uI s (r + n) (s r + n)) r n u = if u = r then n else if u = r + n then s r + n else s u := fun u => rfl
    simp only [Til, val]
    refine ⟨fun u hu => ?_, fun u v hu huv hv => ?_, ?_, fun u hu hue => ?_, fun u hu hue => ?_⟩
    · by_cases g : u = r
      · simp only [if_pos g] at hu ⊢; omega
      · by_cases g2 : u = r + n
        · simp only [if_neg g, if_pos g2] at hu ⊢; omega
        · simp only [if_neg g, if_neg g2] at hu ⊢
          exact h1 u hu
    · by_cases g : u = r
      · simp only [if_pos g] at hv
        rw [if_neg (by omega), if_neg (by omega)]
        exact hin v (by omega) (by omega)
      · by_cases g2 : u = r + n
        · simp only [if_neg g, if_pos g2] at hv
          rw [if_neg (by omega), if_neg (by omega)]
          exact hin v (by omega) (by omega)
        · simp only [if_neg g, if_neg g2] at hu hv
          have hv0 := h2 u v hu huv hv
          by_cases q : v = r
          · subst q; omega
          · by_cases q2 : v = r + n
            · exfalso
              by_cases q3 : u < r
              · have := h2 u r hu q3 (by omega)
                omega
              · exact hu (hin u (by omega) (by omega))
            · rw [if_neg q, if_neg q2]; exact hv0
    · by_cases g : (4 : Int) = r
      · rw [if_pos g]; omega
      · rw [if_neg g]
        by_cases g2 : (4 : Int) = r + n
        · omega
        · rw [if_neg g2]; exact h3
    · by_cases g : u = r
      · simp only [if_pos g] at hue ⊢
        rw [g, if_neg (by omega), if_pos rfl]; omega
      · by_cases g2 : u = r + n
        · simp only [if_neg g, if_pos g2] at hu; omega
        · simp only [if_neg g, if_neg g2] at hu hue ⊢
          have q := h4 u hu hue
          by_cases q1 : u + s u = r
          · rw [if_pos q1]; omega
          · rw [if_neg q1]
            by_cases q2 : u + s u = r + n
            · rw [if_pos q2]; omega
            · rw [if_neg q2]; exact q
    · by_cases g : u = r
      · simp only [if_pos g] at hu; omega
      · by_cases g2 : u = r + n
        · simp only [if_neg g, if_pos g2] at hu hue ⊢
          have q := h5 r (by omega) (by omega)
          rw [show u - (s r + n) = r - s r by omega, if_neg (by omega), if_neg (by omega)]
          exact q
        · simp only [if_neg g, if_neg g2] at hu hue ⊢
          have q := h5 u hu hue
          by_cases q1 : u - s u = r
          · rw [q1] at q; omega
          · by_cases q2 : u - s u = r + n
            · rw [q2] at q; omega
            · rw [if_neg q1, if_neg q2]; exact q
  · rw [if_neg gr]
    have val : ∀ u, uI s r n u = if u = r then n else s u := fun u => rfl
    simp only [Til, val]
    refine ⟨fun u hu => ?_, fun u v hu huv hv => ?_, ?_, fun u hu hue => ?_, fun u hu hue => ?_⟩
    · by_cases g : u = r
      · simp only [if_pos g] at hu ⊢; omega
      · simp only [if_neg g] at hu ⊢
        exact h1 u hu
    · by_cases g : u = r
      · simp only [if_pos g] at hv
        rw [if_neg (by omega)]
        exact h2 r v (by omega) (by omega) (by omega)
      · simp only [if_neg g] at hu hv
        have hv0 := h2 u v hu huv hv
        by_cases q : v = r
        · subst q; omega
        · rw [if_neg q]; exact hv0
    · by_cases g : (4 : Int) = r
      · rw [if_pos g]; omega
      · rw [if_neg g]; exact h3
    · by_cases g : u = r
      · simp only [if_pos g] at hue ⊢
        have q := h5 r (by omega) (by omega)
        rw [show u + n = r - s r by omega, if_neg (by omega)]
        omega
      · simp only [if_neg g] at hu hue ⊢
        have q := h4 u hu hue
        by_cases q1 : u + s u = r
        · rw [if_pos q1]; omega
        · rw [if_neg q1]; exact q
    · by_cases g : u = r
      · simp only [if_pos g] at hu; omega
      · simp only [if_neg g] at hu hue ⊢
        have q := h5 u hu hue
        by_cases q1 : u - s u = r
        · rw [q1] at q; omega
        · rw [if_neg q1]; exact q
/-- a used cell is given back: nx, the free cell behind, goes into it; r, the free cell ahead, takes it in -/
def gvn (s : Int → Int) (p r : Int) : Int → Int :=
  if r = -1 then uI (if s (p + s p) < 0 then uI s (p + s p) 0 else s) p (-(if s (p + s p) < 0 then s p - s (p + s p) else s p))
  else uI (uI (if s (p + s p) < 0 then uI s (p + s p) 0 else s) p 0) r (s r - (if s (p + s p) < 0 then s p - s (p + s p) else s p))
theorem gvn_used {s : Int → Int} {p r : Int} (hr : AH s p r) {u : Int} (hu : 0 < s u) (hne : u ≠ p) : gvn s p r u = s u := by
  have hin : ∀ t : Int → Int, (t = if s (p + s p) < 0 then uI s (p + s p) 0 else s) → t u = s u := fun t ht => by
    subst ht
    split
    · rename_i q
      exact uI_ne (fun g => by rw [← g] at q; omega)
    · rfl
  unfold gvn
  rcases hr with ⟨r1, -⟩ | ⟨r1, r2, r3, r4⟩
  · rw [if_pos r1, uI_ne hne, hin _ rfl]
  · rw [if_neg (by omega), uI_ne (fun g => by subst g; omega), uI_ne hne, hin _ rfl]
theorem Til.merge {s : Int → Int} {e c b : Int} (h : Til s e) (hc : s c ≠ 0) (hcb : c < b) (hb : b ≤ e) (hbs : b = e ∨ 0 < s b) (hno : ∀ u, ¬ (s u < 0 ∧ u - s u = c)) : Til (fun u => if u = c then -(b - c) else if c < u ∧ u < b then 0 else s u) e := by
  obtain ⟨h1, h2, h3, h4, h5⟩ := id h
  have bc := h1 c hc
  have hout : ∀ u, s u ≠ 0 → u < c → u + s u ≤ c ∧ u - s u ≤ c := fun u hu huc => by
    have q : ¬ (c < u + s u ∨ c < u - s u) := fun w => hc (h2 u c hu huc w)
    omega
  unfold Til
  dsimp only
  refine ⟨fun u hu => ?_, fun u v hu huv hv => ?_, ?_, fun u hu hue => ?_, fun u hu hue => ?_⟩
  · by_cases g : u = c
    · simp only [if_pos g] at hu ⊢; omega
    · simp only [if_neg g] at hu ⊢
      by_cases g2 : c < u ∧ u < b
      · rw [if_pos g2] at hu; exact absurd rfl hu
      · rw [if_neg g2] at hu ⊢; exact h1 u hu
  · by_cases g : u = c
    · simp only [if_pos g] at hv
      rw [if_neg (by omega), if_pos (by omega)]
    · simp only [if_neg g] at hu hv
      by_cases g2 : c < u ∧ u < b
      · rw [if_pos g2] at hu; exact absurd rfl hu
      · rw [if_neg g2] at hu hv
        have hv0 := h2 u v hu huv hv
        by_cases q : v = c
        · rw [q] at hv0; exact absurd hv0 hc
        · rw [if_neg q]
          split
          · rfl
          · exact hv0
  · by_cases g : (4 : Int) = c
    · rw [if_pos g]; omega
    · rw [if_neg g, if_neg (by omega)]; exact h3
  · by_cases g : u = c
    · simp only [if_pos g] at hu; omega
    · simp only [if_neg g] at hu hue ⊢
      by_cases g2 : c < u ∧ u < b
      · rw [if_pos g2] at hu; omega
      · rw [if_neg g2] at hu hue ⊢
        have q := h4 u hu hue
        have o := hout u (by omega)
        by_cases q1 : u + s u = c
        · rw [if_pos q1]; omega
        · rw [if_neg q1, if_neg (by omega)]; exact q
  · by_cases g : u = c
    · simp only [if_pos g] at hu hue ⊢
      rw [show u - -(b - c) = b by omega, if_neg (by omega), if_neg (by omega)]
      rcases hbs with q | q
      · omega
      · exact q
    · simp only [if_neg g] at hu hue ⊢
      by_cases g2 : c < u ∧ u < b
      · rw [if_pos g2] at hu; omega
      · rw [if_neg g2] at hu hue ⊢
        have q := h5 u hu hue
        have o := hout u (by omega)
        have q1 : u - s u ≠ c := fun q1 => hno u ⟨hu, q1⟩
        rw [if_neg q1, if_neg (by omega)]
        exact q
theorem Til.give {s : Int → Int} {e p r : Int} (h : Til s e) (hp : 0 < s p) (hr : AH s p r) : Til (gvn s p r) e := by
  obtain ⟨h1, h2, h3, h4, h5⟩ := id h
  have bp := h1 p (by omega)
  -- the part behind
  obtain ⟨b, t, hb1, hb2, hb3, ht1, ht2⟩ : ∃ (b : Int) (t : Int → Int), (if s (p + s p) < 0 then s p - s (p + s p) else s p) = b - p ∧ b ≤ e ∧ (b = e ∨ 0 < s b) ∧ (if s (p + s p) < 0 then uI s (p + s p) 0 else s) = t ∧ ∀ u, u ≠ p → t u = if p < u ∧ u < b then 0 else s u := by
    by_cases g : s (p + s p) < 0
    · rw [if_pos g, if_pos g]
      have bn := h1 (p + s p) (by omega)
      refine ⟨p + s p - s (p + s p), _, by omega, by omega, ?_, rfl, fun u hu => ?_⟩
      · by_cases q : p + s p - s (p + s p) = e
        · exact Or.inl q
        · exact Or.inr (h5 (p + s p) g (by omega))
      · by_cases q : u = p + s p
        · rw [q, uI_eq, if_pos (by omega)]
        · rw [uI_ne q]
          split
          · by_cases q2 : u < p + s p
            · exact h2 p u (by omega) (by omega) (by omega)
            · exact h2 (p + s p) u (by omega) (by omega) (by omega)
          · rfl
    · rw [if_neg g, if_neg g]
      refine ⟨p + s p, _, by omega, by omega, ?_, rfl, fun u hu => ?_⟩
      · by_cases q : p + s p = e
        · exact Or.inl q
        · have := h4 p hp (by omega)
          exact Or.inr (by omega)
      · split
        · exact h2 p u (by omega) (by omega) (by omega)
        · rfl
  have hpb : p < b := by
    by_cases g : s (p + s p) < 0
    · rw [if_pos g] at hb1; omega
    · rw [if_neg g] at hb1; omega
  unfold gvn
  rw [hb1, ht1]
  rcases hr with ⟨r1, r2⟩ | ⟨r1, r2, r3, r4⟩
  · rw [if_pos r1]
    refine (h.merge (c := p) (b := b) (by omega) hpb hb2 hb3 r2).cong (fun u => ?_)
    by_cases g : u = p
    · rw [g, uI_eq, if_pos rfl]
    · rw [uI_ne g, if_neg g]; exact ht2 u g
  · rw [if_neg (by omega)]
    refine (h.merge (c := r) (b := b) (by omega) (by omega) hb2 hb3 (fun u hu => ?_)).cong (fun u => ?_)
    · have q := h5 u hu.1 (by omega)
      rw [hu.2] at q
      omega
    · by_cases g : u = r
      · rw [g, uI_eq, if_pos rfl]; omega
      · rw [uI_ne g, if_neg g]
        by_cases g2 : u = p
        · rw [g2, uI_eq, if_pos (by omega)]
        · rw [uI_ne g2, ht2 u g2]
          by_cases q : p < u ∧ u < b
          · rw [if_pos q, if_pos (by omega)]
          · rw [if_neg q]
            split
            · exact h2 r u (by omega) (by omega) (by omega)
            · rfl
