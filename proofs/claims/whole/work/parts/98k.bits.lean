/-! the bits of a long are counted -/
section BITS
def UU (x : Int) : Nat := (Int64.ofInt x).toBitVec.toNat
theorem UU_mod (x : Int) : UU x = (x % 18446744073709551616).toNat := by
  unfold UU
  rw [Int64.toBitVec_ofInt, BitVec.toNat_ofInt]
  rfl
theorem UU_lt (x : Int) : UU x < 18446744073709551616 := by rw [UU_mod]; omega
theorem UU_nat {n : Nat} (h : n < 18446744073709551616) : UU (n : Int) = n := by rw [UU_mod]; omega
theorem i64_toInt (x : Int64) (h : x.toBitVec.toNat < 9223372036854775808) : x.toInt = (x.toBitVec.toNat : Int) := by
  rw [← Int64.toInt_toBitVec, BitVec.toInt_eq_toNat_cond, if_pos (by omega)]
theorem land_n {a b : Int} (h : UU b < 9223372036854775808) : landZ a b = ((UU a &&& UU b : Nat) : Int) := by
  have e : (Int64.ofInt a &&& Int64.ofInt b).toBitVec.toNat = UU a &&& UU b := by
    rw [Int64.toBitVec_and, BitVec.toNat_and]
    rfl
  unfold landZ
  rw [i64_toInt _ (by rw [e]; exact Nat.lt_of_le_of_lt Nat.and_le_right h), e]
theorem shr_n {a : Int} {k : Nat} (h : k = 1 ∨ k = 2 ∨ k = 4 ∨ k = 8 ∨ k = 16 ∨ k = 32) : lushrZ a (k : Int) = ((UU a / 2 ^ k : Nat) : Int) := by
  have e : ((Int64.ofInt a).toUInt64 >>> ((Int32.ofInt (k : Int)).toInt64.toUInt64 &&& Int64.toUInt64 63)).toInt64.toBitVec.toNat = UU a / 2 ^ k := by
    have hs : ((Int32.ofInt (k : Int)).toInt64.toUInt64 &&& Int64.toUInt64 63) = UInt64.ofNat k := by
      rcases h with h | h | h | h | h | h <;> subst h <;> rfl
    rw [hs]
    have e1 : ∀ x : UInt64, x.toInt64.toBitVec.toNat = x.toNat := fun _ => rfl
    rw [e1, UInt64.toNat_shiftRight, Nat.shiftRight_eq_div_pow]
    have e2 : (Int64.ofInt a).toUInt64.toNat = UU a := rfl
    have e3 : (UInt64.ofNat k).toNat % 64 = k := by rcases h with h | h | h | h | h | h <;> subst h <;> rfl
    rw [e2, e3]
  unfold lushrZ
  have hlt := UU_lt a
  have h2 : UU a / 2 ^ k < 9223372036854775808 := by
    have : UU a / 2 ^ k ≤ UU a / 2 := by
      rcases h with h | h | h | h | h | h <;> subst h <;> omega
    omega
  rw [i64_toInt _ (by rw [e]; exact h2), e]
theorem and8 {h l mh ml : Nat} (hl : l < 256) (hm : ml < 256) : (256 * h + l) &&& (256 * mh + ml) = 256 * (h &&& mh) + (l &&& ml) := by
  refine Nat.eq_of_testBit_eq (fun i => ?_)
  have e := fun (a b : Nat) (hb : b < 256) => Nat.testBit_two_pow_mul_add a (b := b) (i := 8) hb i
  rw [Nat.testBit_and, show 256 = 2 ^ 8 from rfl, e h l hl, e mh ml hm, e _ _ (Nat.lt_of_le_of_lt Nat.and_le_left hl)]
  by_cases q : i < 8
  · rw [if_pos q, if_pos q, if_pos q, Nat.testBit_and]
  · rw [if_neg q, if_neg q, if_neg q, Nat.testBit_and]
def ck (c : Nat) : Nat → Nat
  | 0 => 0
  | k + 1 => 256 * ck c k + c
def f1 (l : Nat) : Nat := l - ((l / 2) &&& 85)
def f2 (l : Nat) : Nat := (l &&& 51) + ((l / 4) &&& 51)
def f3 (l : Nat) : Nat := (l + l / 16) &&& 15
def popB (l : Nat) : Nat := l % 2 + l / 2 % 2 + l / 4 % 2 + l / 8 % 2 + l / 16 % 2 + l / 32 % 2 + l / 64 % 2 + l / 128 % 2
theorem t1 : ∀ l : Fin 256, ∀ c : Fin 2, ((l.val / 2 + 128 * c.val) &&& 85) = ((l.val / 2) &&& 85) ∧ ((l.val / 2) &&& 85) ≤ l.val := by decide +kernel
theorem t2 : ∀ l : Fin 256, ∀ c : Fin 4, ((l.val / 4 + 64 * c.val) &&& 51) = ((l.val / 4) &&& 51) := by decide +kernel
theorem t3 : ∀ l : Fin 69, ∀ c : Fin 5, ((l.val + l.val / 16 + 16 * c.val) &&& 15) = f3 l.val := by decide +kernel
theorem t4 : ∀ l : Fin 256, f3 (f2 (f1 l.val)) = popB l.val ∧ f2 (f1 l.val) ≤ 68 ∧ f2 (f1 l.val) % 16 ≤ 4 ∧ popB l.val ≤ 8 := by decide +kernel
theorem p1_s {k h l : Nat} (hl : l < 256) : ((256 * h + l) / 2) &&& ck 85 (k + 1) = 256 * ((h / 2) &&& ck 85 k) + ((l / 2) &&& 85) := by
  have e : (256 * h + l) / 2 = 256 * (h / 2) + (l / 2 + 128 * (h % 2)) := by omega
  rw [e, ck, and8 (by omega) (by decide), (t1 ⟨l, hl⟩ ⟨h % 2, by omega⟩).1]
theorem p1_le : ∀ k N : Nat, N < 256 ^ k → ((N / 2) &&& ck 85 k) ≤ N
  | 0, N, _ => by rw [ck, Nat.and_zero]; exact Nat.zero_le _
  | k + 1, N, h => by
    have hh : N / 256 < 256 ^ k := by rw [Nat.pow_succ] at h; omega
    have ih := p1_le k (N / 256) hh
    have e := p1_s (k := k) (h := N / 256) (l := N % 256) (by omega)
    rw [show 256 * (N / 256) + N % 256 = N by omega] at e
    have := (t1 ⟨N % 256, by omega⟩ ⟨0, by omega⟩).2
    simp only at this
    omega
def g1 (k N : Nat) : Nat := N - ((N / 2) &&& ck 85 k)
def g2 (k y : Nat) : Nat := (y &&& ck 51 k) + ((y / 4) &&& ck 51 k)
def g3 (k y : Nat) : Nat := (y + y / 16) &&& ck 15 k
theorem g1_s {k h l : Nat} (hh : h < 256 ^ k) (hl : l < 256) : g1 (k + 1) (256 * h + l) = 256 * g1 k h + f1 l := by
  unfold g1 f1
  rw [p1_s hl]
  have a := p1_le k h hh
  have b := (t1 ⟨l, hl⟩ ⟨0, by omega⟩).2
  simp only at b
  omega
theorem g2_s {k h l : Nat} (hl : l < 256) : g2 (k + 1) (256 * h + l) = 256 * g2 k h + f2 l := by
  unfold g2 f2
  have e : (256 * h + l) / 4 = 256 * (h / 4) + (l / 4 + 64 * (h % 4)) := by omega
  rw [e, ck, and8 hl (by decide), and8 (by omega) (by decide), t2 ⟨l, hl⟩ ⟨h % 4, by omega⟩]
  simp only
  omega
theorem g3_s {k h l : Nat} (hl : l ≤ 68) (hh : h % 16 ≤ 4) : g3 (k + 1) (256 * h + l) = 256 * g3 k h + f3 l := by
  unfold g3
  have e : 256 * h + l + (256 * h + l) / 16 = 256 * (h + h / 16) + (l + l / 16 + 16 * (h % 16)) := by omega
  rw [e, ck, and8 (by omega) (by decide), t3 ⟨l, by omega⟩ ⟨h % 16, by omega⟩]
def popK : Nat → Nat → Nat
  | 0, _ => 0
  | k + 1, N => 256 * popK k (N / 256) + popB (N % 256)
theorem swar : ∀ k N : Nat, N < 256 ^ k → g3 k (g2 k (g1 k N)) = popK k N ∧ g2 k (g1 k N) % 16 ≤ 4
  | 0, N, h => by
    have : N = 0 := by omega
    subst this
    unfold g3 g2 g1 ck popK
    simp
  | k + 1, N, h => by
    have hh : N / 256 < 256 ^ k := by rw [Nat.pow_succ] at h; omega
    obtain ⟨i1, i2⟩ := swar k (N / 256) hh
    have e : 256 * (N / 256) + N % 256 = N := by omega
    obtain ⟨q1, q2, q3, q4⟩ := t4 ⟨N % 256, by omega⟩
    simp only at q1 q2 q3 q4
    have b1 : f1 (N % 256) < 256 := by unfold f1; omega
    have s1 := g1_s (l := N % 256) hh (by omega)
    rw [e] at s1
    rw [s1, g2_s b1, g3_s q2 i2, i1, q1]
    refine ⟨rfl, ?_⟩
    omega
/-- the sum of the bytes -/
theorem dvA {x h l : Nat} (e : x = 65536 * h + l) (hl : l < 65536) : x / 65536 = h := by omega
theorem dvB {x h l : Nat} (e : x = 4294967296 * h + l) (hl : l < 4294967296) : x / 4294967296 = h := by omega
theorem dvC {x h l : Nat} (e : x = 256 * h + l) (hl : l < 256) : x / 256 = h := by omega
theorem st4 {x3 a b c y0 y1 y2 : Nat} (h3 : x3 = 256 * a + y0) (ha : a = 256 * b + y1) (hb : b = 256 * c + y2) : x3 + a = 65536 * (b + c) + (256 * (y1 + y2) + (y0 + y1)) := by omega
theorem st5 {x4 b c d e f g y0 y1 y2 y3 y4 y5 y6 : Nat} (h4 : x4 = 65536 * (b + c) + (256 * (y1 + y2) + (y0 + y1))) (hb : b = 256 * c + y2) (hc : c = 256 * d + y3) (hd : d = 256 * e + y4) (he : e = 256 * f + y5) (hf : f = 256 * g + y6) : x4 + (b + c) = 4294967296 * (d + e + f + g) + (16777216 * (y3 + y4 + y5 + y6) + 65536 * (y2 + y3 + y4 + y5) + 256 * (y1 + y2 + y3 + y4) + (y0 + y1 + y2 + y3)) := by omega
theorem st6 {x5 d e f g A B C D s0 s1 y4 y5 y6 : Nat} (h5 : x5 = 4294967296 * D + (16777216 * A + 65536 * B + 256 * C + s0)) (hD : D = d + e + f + g) (hd : d = 256 * e + y4) (he : e = 256 * f + y5) (hf : f = 256 * g + y6) (h1 : s1 = y4 + y5 + y6 + g) (hs : s0 + s1 ≤ 64) : (x5 + D) % 128 = s0 + s1 := by omega
theorem bd_s {h y M : Nat} (a : h ≤ M) (b : y ≤ 8) : 256 * h + y ≤ 256 * M + 8 := by omega
theorem lm1 {y : Nat} (h : y ≤ 8) : y < 256 := by omega
theorem lm2 {y0 y1 y2 : Nat} (h0 : y0 ≤ 8) (h1 : y1 ≤ 8) (h2 : y2 ≤ 8) : 256 * (y1 + y2) + (y0 + y1) < 65536 := by omega
theorem lm3 {y0 y1 y2 y3 y4 y5 y6 : Nat} (h0 : y0 ≤ 8) (h1 : y1 ≤ 8) (h2 : y2 ≤ 8) (h3 : y3 ≤ 8) (h4 : y4 ≤ 8) (h5 : y5 ≤ 8) (h6 : y6 ≤ 8) : 16777216 * (y3 + y4 + y5 + y6) + 65536 * (y2 + y3 + y4 + y5) + 256 * (y1 + y2 + y3 + y4) + (y0 + y1 + y2 + y3) < 4294967296 := by omega
theorem lm4 {y0 y1 y2 y3 y4 y5 y6 g : Nat} (h0 : y0 ≤ 8) (h1 : y1 ≤ 8) (h2 : y2 ≤ 8) (h3 : y3 ≤ 8) (h4 : y4 ≤ 8) (h5 : y5 ≤ 8) (h6 : y6 ≤ 8) (h7 : g ≤ 8) : y0 + y1 + y2 + y3 + (y4 + y5 + y6 + g) ≤ 64 := by omega
theorem lm5 {x3 a b c d e f g x4 x5 x6 : Nat} (e6 : x6 = x5 + (d + e + f + g)) (e5 : x5 = x4 + (b + c)) (e4 : x4 = x3 + a) (b3 : x3 ≤ 256 * 2260630401189896 + 8) (ba : a ≤ 256 * 8830587504648 + 8) (bb : b ≤ 256 * 34494482440 + 8) (bc : c ≤ 256 * 134744072 + 8) (bd : d ≤ 256 * 526344 + 8) (be : e ≤ 256 * 2056 + 8) (bf : f ≤ 256 * 8 + 8) (bg : g ≤ 8) : x6 < 9223372036854775808 ∧ x3 < 9223372036854775808 ∧ x4 < 9223372036854775808 ∧ x5 < 9223372036854775808 := by omega
theorem bytes_sum {y0 y1 y2 y3 y4 y5 y6 y7 x3 x4 x5 x6 : Nat} (h0 : y0 ≤ 8) (h1 : y1 ≤ 8) (h2 : y2 ≤ 8) (h3 : y3 ≤ 8) (h4 : y4 ≤ 8) (h5 : y5 ≤ 8) (h6 : y6 ≤ 8) (h7 : y7 ≤ 8) (e3 : x3 = 256 * (256 * (256 * (256 * (256 * (256 * (256 * (256 * 0 + y7) + y6) + y5) + y4) + y3) + y2) + y1) + y0) (e4 : x4 = x3 + x3 / 256) (e5 : x5 = x4 + x4 / 65536) (e6 : x6 = x5 + x5 / 4294967296) : x6 % 128 = y0 + y1 + y2 + y3 + y4 + y5 + y6 + y7 ∧ x6 < 9223372036854775808 ∧ x3 < 9223372036854775808 ∧ x4 < 9223372036854775808 ∧ x5 < 9223372036854775808 := by
  obtain ⟨g, hg⟩ : ∃ g, g = 256 * 0 + y7 := ⟨_, rfl⟩
  obtain ⟨f, hf⟩ : ∃ f, f = 256 * g + y6 := ⟨_, rfl⟩
  obtain ⟨e, he⟩ : ∃ e, e = 256 * f + y5 := ⟨_, rfl⟩
  obtain ⟨d, hd⟩ : ∃ d, d = 256 * e + y4 := ⟨_, rfl⟩
  obtain ⟨c, hc⟩ : ∃ c, c = 256 * d + y3 := ⟨_, rfl⟩
  obtain ⟨b, hb⟩ : ∃ b, b = 256 * c + y2 := ⟨_, rfl⟩
  obtain ⟨a, ha⟩ : ∃ a, a = 256 * b + y1 := ⟨_, rfl⟩
  rw [← hg, ← hf, ← he, ← hd, ← hc, ← hb, ← ha] at e3
  have q1 := dvC e3 (lm1 h0)
  rw [q1] at e4
  have k4 := e4.trans (st4 e3 ha hb)
  have q2 := dvA k4 (lm2 h0 h1 h2)
  rw [q2] at e5
  have k5 := e5.trans (st5 k4 hb hc hd he hf)
  have q3 := dvB k5 (lm3 h0 h1 h2 h3 h4 h5 h6)
  rw [q3] at e6
  have hg' : g = y7 := by rw [hg, Nat.mul_zero, Nat.zero_add]
  have bg : g ≤ 8 := by rw [hg']; exact h7
  have m1 := st6 (s1 := y4 + y5 + y6 + g) k5 rfl hd he hf rfl (lm4 h0 h1 h2 h3 h4 h5 h6 bg)
  have bf : f ≤ 256 * 8 + 8 := by rw [hf]; exact bd_s bg h6
  have be : e ≤ 256 * 2056 + 8 := by rw [he]; exact bd_s bf h5
  have bdd : d ≤ 256 * 526344 + 8 := by rw [hd]; exact bd_s be h4
  have bc : c ≤ 256 * 134744072 + 8 := by rw [hc]; exact bd_s bdd h3
  have bb : b ≤ 256 * 34494482440 + 8 := by rw [hb]; exact bd_s bc h2
  have ba : a ≤ 256 * 8830587504648 + 8 := by rw [ha]; exact bd_s bb h1
  have b3 : x3 ≤ 256 * 2260630401189896 + 8 := by rw [e3]; exact bd_s ba h0
  refine ⟨?_, lm5 e6 e5 e4 b3 ba bb bc bdd be bf bg⟩
  rw [e6, m1, hg', Nat.add_assoc (y0 + y1 + y2 + y3), Nat.add_assoc (y0 + y1 + y2 + y3), Nat.add_assoc (y0 + y1 + y2 + y3)]
theorem iand_n {n : Nat} (h : n < 9223372036854775808) : iandZ (n : Int) 127 = ((n % 128 : Nat) : Int) := by
  unfold iandZ
  have e : (Int32.ofInt (n : Int) &&& Int32.ofInt 127).toBitVec.toNat = n % 128 := by
    rw [Int32.toBitVec_and, BitVec.toNat_and, Int32.toBitVec_ofInt, BitVec.toNat_ofInt]
    have e1 : (Int32.ofInt 127).toBitVec.toNat = 127 := rfl
    rw [e1, show (127 : Nat) = 2 ^ 7 - 1 from rfl, Nat.and_two_pow_sub_one_eq_mod]
    omega
  rw [← Int32.toInt_toBitVec, BitVec.toInt_eq_toNat_cond, if_pos (by rw [e]; omega), e]
theorem count_n {v : Int} : pJ_bitCount v = ((popB (UU v % 256) + popB (UU v / 256 % 256) + popB (UU v / 256 / 256 % 256) + popB (UU v / 256 / 256 / 256 % 256) + popB (UU v / 256 / 256 / 256 / 256 % 256) + popB (UU v / 256 / 256 / 256 / 256 / 256 % 256) + popB (UU v / 256 / 256 / 256 / 256 / 256 / 256 % 256) + popB (UU v / 256 / 256 / 256 / 256 / 256 / 256 / 256 % 256) : Nat) : Int) := by
  have hlt := UU_lt v
  obtain ⟨N, hN⟩ : ∃ N, UU v = N := ⟨_, rfl⟩
  rw [hN] at hlt ⊢
  have c5 : UU 6148914691236517205 = ck 85 8 := by decide +kernel
  have c3 : UU 3689348814741910323 = ck 51 8 := by decide +kernel
  have cf : UU 1085102592571150095 = ck 15 8 := by decide +kernel
  have b5 : ck 85 8 < 9223372036854775808 := by decide +kernel
  have b3 : ck 51 8 < 4611686018427387904 := by decide +kernel
  have bf : ck 15 8 < 9223372036854775808 := by decide +kernel
  have hP : N < 256 ^ 8 := hlt
  have le1 := p1_le 8 N hP
  have x1 : UU (v - landZ (lushrZ v 1) 6148914691236517205) = g1 8 N := by
    have s := shr_n (a := v) (k := 1) (Or.inl rfl)
    rw [show ((1 : Nat) : Int) = 1 from rfl] at s
    rw [s, land_n (by rw [c5]; exact b5), UU_nat (by omega), c5, hN, UU_mod]
    have := UU_mod v
    rw [hN] at this
    unfold g1
    rw [show (2 : Nat) ^ 1 = 2 from rfl]
    omega
  obtain ⟨X1, hX1⟩ : ∃ X, v - landZ (lushrZ v 1) 6148914691236517205 = X := ⟨_, rfl⟩
  rw [hX1] at x1
  have a2 : ∀ y : Nat, y &&& ck 51 8 < 4611686018427387904 := fun y => Nat.lt_of_le_of_lt Nat.and_le_right b3
  have x2 : landZ X1 3689348814741910323 + landZ (lushrZ X1 2) 3689348814741910323 = ((g2 8 (g1 8 N) : Nat) : Int) := by
    have s := shr_n (a := X1) (k := 2) (Or.inr (Or.inl rfl))
    rw [show ((2 : Nat) : Int) = 2 from rfl] at s
    have hX := UU_lt X1
    rw [s, land_n (by rw [c3]; omega), land_n (by rw [c3]; omega), UU_nat (by omega), c3, x1, show (2 : Nat) ^ 2 = 4 from rfl]
    rfl
  have b2 : g2 8 (g1 8 N) < 9223372036854775808 := by
    have h1 := a2 (g1 8 N)
    have h2 := a2 (g1 8 N / 4)
    show (g1 8 N &&& ck 51 8) + ((g1 8 N / 4) &&& ck 51 8) < _
    omega
  obtain ⟨X2, hX2⟩ : ∃ X, g2 8 (g1 8 N) = X := ⟨_, rfl⟩
  rw [hX2] at x2 b2
  have x3 : landZ (((X2 : Nat) : Int) + lushrZ ((X2 : Nat) : Int) 4) 1085102592571150095 = ((g3 8 X2 : Nat) : Int) := by
    have s := shr_n (a := ((X2 : Nat) : Int)) (k := 4) (Or.inr (Or.inr (Or.inl rfl)))
    rw [show ((4 : Nat) : Int) = 4 from rfl, UU_nat (by omega)] at s
    rw [s, land_n (by rw [cf]; exact bf), cf, show ((X2 : Nat) : Int) + ((X2 / 2 ^ 4 : Nat) : Int) = ((X2 + X2 / 16 : Nat) : Int) by rw [show (2 : Nat) ^ 4 = 16 from rfl]; omega, UU_nat (by omega)]
    rfl
  have sw := (swar 8 N hP).1
  rw [hX2] at sw
  have p := fun n => (t4 ⟨n % 256, by omega⟩).2.2.2
  simp only at p
  obtain ⟨X4, hX4⟩ : ∃ X, X = g3 8 X2 + g3 8 X2 / 256 := ⟨_, rfl⟩
  obtain ⟨X5, hX5⟩ : ∃ X, X = X4 + X4 / 65536 := ⟨_, rfl⟩
  obtain ⟨X6, hX6⟩ : ∃ X, X = X5 + X5 / 4294967296 := ⟨_, rfl⟩
  obtain ⟨s1, s2, s3, s4, s5⟩ := bytes_sum (p _) (p _) (p _) (p _) (p _) (p _) (p _) (p _) (sw.trans rfl) hX4 hX5 hX6
  have y4 : ((g3 8 X2 : Nat) : Int) + lushrZ ((g3 8 X2 : Nat) : Int) 8 = ((X4 : Nat) : Int) := by
    have s := shr_n (a := ((g3 8 X2 : Nat) : Int)) (k := 8) (Or.inr (Or.inr (Or.inr (Or.inl rfl))))
    rw [show ((8 : Nat) : Int) = 8 from rfl, UU_nat (by omega), show (2 : Nat) ^ 8 = 256 from rfl] at s
    rw [s, hX4]
    omega
  have y5 : ((X4 : Nat) : Int) + lushrZ ((X4 : Nat) : Int) 16 = ((X5 : Nat) : Int) := by
    have s := shr_n (a := ((X4 : Nat) : Int)) (k := 16) (Or.inr (Or.inr (Or.inr (Or.inr (Or.inl rfl)))))
    rw [show ((16 : Nat) : Int) = 16 from rfl, UU_nat (by omega), show (2 : Nat) ^ 16 = 65536 from rfl] at s
    rw [s, hX5]
    omega
  have y6 : ((X5 : Nat) : Int) + lushrZ ((X5 : Nat) : Int) 32 = ((X6 : Nat) : Int) := by
    have s := shr_n (a := ((X5 : Nat) : Int)) (k := 32) (Or.inr (Or.inr (Or.inr (Or.inr (Or.inr rfl)))))
    rw [show ((32 : Nat) : Int) = 32 from rfl, UU_nat (by omega), show (2 : Nat) ^ 32 = 4294967296 from rfl] at s
    rw [s, hX6]
    omega
  unfold pJ_bitCount
  simp only [ltR]
  rw [hX1, x2, x3, y4, y5, y6, iand_n s2, s1]
theorem sm_8 {f : Int → Int} : ∀ n : Nat, sm f (8 + n) = sm f 8 + sm (fun t => f (t + 8)) n := by
  intro n
  induction n with
  | zero => rw [show (8 : Int) + ((0 : Nat) : Int) = 8 by omega, show ((0 : Nat) : Int) = 0 from rfl, sm_0, Int.add_zero]
  | succ n ih =>
    rw [show (8 : Int) + ((n + 1 : Nat) : Int) = 8 + n + 1 by omega, sm_s (by omega), ih, show ((n + 1 : Nat) : Int) = (n : Int) + 1 by omega, sm_s (by omega), show (8 : Int) + n = n + 8 by omega]
    omega
def bN (N : Nat) : Int → Int := fun t => ((N / 2 ^ t.toNat % 2 : Nat) : Int)
theorem bN_8 (N : Nat) : sm (bN N) 8 = ((popB (N % 256) : Nat) : Int) := by
  have e : sm (bN N) 8 = 0 + bN N 0 + bN N 1 + bN N 2 + bN N 3 + bN N 4 + bN N 5 + bN N 6 + bN N 7 := rfl
  have p : ∀ k : Nat, bN N (k : Int) = ((N / 2 ^ k % 2 : Nat) : Int) := fun k => by
    unfold bN
    rw [Int.toNat_natCast]
  have p0 : bN N 0 = ((N % 2 : Nat) : Int) := by have := p 0; rw [Nat.pow_zero, Nat.div_one] at this; exact this
  have p1 : bN N 1 = ((N / 2 % 2 : Nat) : Int) := p 1
  have p2 : bN N 2 = ((N / 4 % 2 : Nat) : Int) := p 2
  have p3 : bN N 3 = ((N / 8 % 2 : Nat) : Int) := p 3
  have p4 : bN N 4 = ((N / 16 % 2 : Nat) : Int) := p 4
  have p5 : bN N 5 = ((N / 32 % 2 : Nat) : Int) := p 5
  have p6 : bN N 6 = ((N / 64 % 2 : Nat) : Int) := p 6
  have p7 : bN N 7 = ((N / 128 % 2 : Nat) : Int) := p 7
  rw [e, p0, p1, p2, p3, p4, p5, p6, p7]
  unfold popB
  omega
theorem bN_s (N : Nat) : (fun t => bN N (t + 8)) = fun t => if 0 ≤ t then bN (N / 256) t else bN N (t + 8) := by
  funext t
  by_cases h : 0 ≤ t
  · rw [if_pos h]
    unfold bN
    rw [show (t + 8).toNat = 8 + t.toNat by omega, Nat.pow_add, ← Nat.div_div_eq_div_mul]
  · rw [if_neg h]
theorem bN_sum (N : Nat) (n : Nat) : sm (bN N) (8 + n) = ((popB (N % 256) : Nat) : Int) + sm (bN (N / 256)) n := by
  rw [sm_8, bN_8, bN_s]
  congr 1
  exact sm_cong (fun t a _ => if_pos a)
theorem count_sum {v : Int} : pJ_bitCount v = sm (fun t => if bit v t = true then 1 else 0) 64 := by
  have e : sm (fun t => if bit v t = true then 1 else 0) 64 = sm (bN (UU v)) 64 := sm_cong (fun t a b => by
    unfold bit bN
    rw [← BitVec.testBit_toNat]
    show (if (UU v).testBit t.toNat = true then (1 : Int) else 0) = _
    rw [Nat.testBit_eq_decide_div_mod_eq]
    by_cases q : UU v / 2 ^ t.toNat % 2 = 1
    · rw [if_pos (by simp [q]), q]; rfl
    · rw [if_neg (by simp [q]), show UU v / 2 ^ t.toNat % 2 = 0 by omega]; rfl)
  rw [e, count_n]
  obtain ⟨N, hN⟩ : ∃ N, UU v = N := ⟨_, rfl⟩
  rw [hN]
  have a1 := bN_sum N 56
  have a2 := bN_sum (N / 256) 48
  have a3 := bN_sum (N / 256 / 256) 40
  have a4 := bN_sum (N / 256 / 256 / 256) 32
  have a5 := bN_sum (N / 256 / 256 / 256 / 256) 24
  have a6 := bN_sum (N / 256 / 256 / 256 / 256 / 256) 16
  have a7 := bN_sum (N / 256 / 256 / 256 / 256 / 256 / 256) 8
  have a8 := bN_8 (N / 256 / 256 / 256 / 256 / 256 / 256 / 256)
  have h1 : sm (bN N) 64 = sm (bN N) (8 + ((56 : Nat) : Int)) := rfl
  have h2 : sm (bN (N / 256)) ((56 : Nat) : Int) = sm (bN (N / 256)) (8 + ((48 : Nat) : Int)) := rfl
  have h3 : sm (bN (N / 256 / 256)) ((48 : Nat) : Int) = sm (bN (N / 256 / 256)) (8 + ((40 : Nat) : Int)) := rfl
  have h4 : sm (bN (N / 256 / 256 / 256)) ((40 : Nat) : Int) = sm (bN (N / 256 / 256 / 256)) (8 + ((32 : Nat) : Int)) := rfl
  have h5 : sm (bN (N / 256 / 256 / 256 / 256)) ((32 : Nat) : Int) = sm (bN (N / 256 / 256 / 256 / 256)) (8 + ((24 : Nat) : Int)) := rfl
  have h6 : sm (bN (N / 256 / 256 / 256 / 256 / 256)) ((24 : Nat) : Int) = sm (bN (N / 256 / 256 / 256 / 256 / 256)) (8 + ((16 : Nat) : Int)) := rfl
  have h7 : sm (bN (N / 256 / 256 / 256 / 256 / 256 / 256)) ((16 : Nat) : Int) = sm (bN (N / 256 / 256 / 256 / 256 / 256 / 256)) (8 + ((8 : Nat) : Int)) := rfl
  have h8 : sm (bN (N / 256 / 256 / 256 / 256 / 256 / 256 / 256)) ((8 : Nat) : Int) = sm (bN (N / 256 / 256 / 256 / 256 / 256 / 256 / 256)) 8 := rfl
  rw [h1, a1, h2, a2, h3, a3, h4, a4, h5, a5, h6, a6, h7, a7, h8, a8]
  omega
end BITS
