/-! bits -/
theorem zn32 {x : Nat} (h : x < 2147483648) : (z32 (x : Int)).toBitVec.toNat = x := by
  unfold z32
  rw [Int32.toBitVec_ofInt, BitVec.toNat_ofInt]
  have : ((x : Int) % ((2 ^ 32 : Nat) : Int)) = x := by
    apply Int.emod_eq_of_lt (by omega)
    have : ((2 ^ 32 : Nat) : Int) = 4294967296 := by decide
    omega
  rw [this]
  omega
theorem zi32 {v : Int32} {n : Nat} (h : v.toBitVec.toNat = n) (hn : n < 2147483648) : v.toInt = n := by
  have := BitVec.toInt_eq_toNat_of_lt (x := v.toBitVec) (by rw [h]; omega)
  rw [h] at this
  exact this
theorem zor_n {x y : Nat} (hx : x < 2147483648) (hy : y < 2147483648) : zor (x : Int) (y : Int) = ((x ||| y : Nat) : Int) := by
  unfold zor
  apply zi32
  · rw [Int32.toBitVec_or, BitVec.toNat_or, zn32 hx, zn32 hy]
  · exact Nat.or_lt_two_pow (n := 31) hx hy
theorem zand_n {x y : Nat} (hx : x < 2147483648) (hy : y < 2147483648) : zand (x : Int) (y : Int) = ((x &&& y : Nat) : Int) := by
  unfold zand
  apply zi32
  · rw [Int32.toBitVec_and, BitVec.toNat_and, zn32 hx, zn32 hy]
  · exact Nat.and_lt_two_pow (n := 31) _ hy
theorem zsm32 {s : Nat} (h : s ≤ 30) : ((z32 (s : Int) &&& 31).toBitVec.smod 32).toNat = s := by
  have : ∀ s : Fin 31, ((z32 ((s.val : Nat) : Int) &&& 31).toBitVec.smod 32).toNat = s.val := by decide
  exact this ⟨s, by omega⟩
theorem zshr_n {x s : Nat} (hx : x < 2147483648) (hs : s ≤ 30) : zshr (x : Int) (s : Int) = ((x / 2 ^ s : Nat) : Int) := by
  unfold zshr
  apply zi32
  · rw [Int32.toBitVec_shiftRight, BitVec.sshiftRight', zsm32 hs, BitVec.sshiftRight_eq_of_msb_false, BitVec.toNat_ushiftRight, zn32 hx, Nat.shiftRight_eq_div_pow]
    rw [BitVec.msb_eq_false_iff_two_mul_lt, zn32 hx]
    omega
  · exact Nat.lt_of_le_of_lt (Nat.div_le_self _ _) hx
theorem zshl_n {x s : Nat} (hs : s ≤ 30) (hx : x * 2 ^ s < 2147483648) : zshl (x : Int) (s : Int) = ((x * 2 ^ s : Nat) : Int) := by
  have hx' : x < 2147483648 := Nat.lt_of_le_of_lt (Nat.le_mul_of_pos_right _ (Nat.two_pow_pos s)) hx
  unfold zshl
  apply zi32 _ hx
  rw [Int32.toBitVec_shiftLeft, BitVec.shiftLeft_eq', zsm32 hs, BitVec.toNat_shiftLeft, zn32 hx', Nat.shiftLeft_eq]
  exact Nat.mod_eq_of_lt (by omega)
theorem zbit {c i : Nat} (hc : c < 2147483648) (hi : i ≤ 30) : zand (zshr (c : Int) (i : Int)) 1 = if c.testBit i = true then 1 else 0 := by
  rw [zshr_n hc hi, show (1 : Int) = ((1 : Nat) : Int) from rfl, zand_n (Nat.lt_of_le_of_lt (Nat.div_le_self _ _) hc) (by decide), Nat.testBit_eq_decide_div_mod_eq]
  have : c / 2 ^ i &&& 1 = c / 2 ^ i % 2 := Nat.and_two_pow_sub_one_eq_mod _ 1
  rw [this]
  by_cases h : c / 2 ^ i % 2 = 1
  · rw [h]; simp
  · have : c / 2 ^ i % 2 = 0 := by omega
    rw [this]; simp
theorem znot {a c : Nat} (ha : a < 2147483648) (hc : c < 2147483648) : zand (a : Int) (zxor (c : Int) (-1)) = 0 ↔ ∀ j, a.testBit j = true → c.testBit j = true := by
  have e : zand (a : Int) (zxor (c : Int) (-1)) = (z32 a &&& (z32 c ^^^ -1)).toInt := by
    unfold zand
    rw [← zxor_ok]
    rfl
  rw [e, show ((z32 (a : Int) &&& (z32 (c : Int) ^^^ -1)).toInt = 0) ↔ ((z32 (a : Int) &&& (z32 (c : Int) ^^^ -1)).toBitVec.toNat = 0) by
    constructor
    · intro h
      have : (z32 (a : Int) &&& (z32 (c : Int) ^^^ -1)).toBitVec.toInt = 0 := h
      rw [BitVec.toInt_eq_toNat_cond] at this
      have l := (z32 (a : Int) &&& (z32 (c : Int) ^^^ -1)).toBitVec.isLt
      split at this <;> omega
    · intro h
      exact zi32 h (by decide)]
  have e2 : (z32 (a : Int) &&& (z32 (c : Int) ^^^ -1)).toBitVec.toNat = a &&& (c ^^^ (2 ^ 32 - 1)) := by
    rw [Int32.toBitVec_and, BitVec.toNat_and, zn32 ha, Int32.toBitVec_xor, BitVec.toNat_xor, zn32 hc]
    rfl
  rw [e2]
  constructor
  · intro h j hj
    have := congrArg (fun x => Nat.testBit x j) h
    simp only [Nat.testBit_and, Nat.testBit_xor, Nat.testBit_two_pow_sub_one, hj, Bool.true_and, Nat.zero_testBit] at this
    have hj32 : j < 32 := by
      by_cases q : j < 32
      · exact q
      · exfalso
        have := Nat.testBit_lt_two_pow (x := a) (i := j) (Nat.lt_of_lt_of_le (show a < 2 ^ 31 from ha) (Nat.pow_le_pow_right (by decide) (by omega)))
        rw [this] at hj
        exact Bool.noConfusion hj
    simp [hj32] at this
    exact this
  · intro h
    apply Nat.eq_of_testBit_eq
    intro j
    simp only [Nat.testBit_and, Nat.testBit_xor, Nat.testBit_two_pow_sub_one, Nat.zero_testBit]
    by_cases hj : a.testBit j = true
    · have hj32 : j < 32 := by
        by_cases q : j < 32
        · exact q
        · exfalso
          have := Nat.testBit_lt_two_pow (x := a) (i := j) (Nat.lt_of_lt_of_le (show a < 2 ^ 31 from ha) (Nat.pow_le_pow_right (by decide) (by omega)))
          rw [this] at hj
          exact Bool.noConfusion hj
      simp [h j hj, hj32]
    · simp [hj]
theorem zb2 {i n : Nat} (hi : i < n) (hn : n ≤ 10) : 2 ^ i < 2147483648 := Nat.lt_of_lt_of_le (Nat.pow_lt_pow_right (by decide) hi) (Nat.le_trans (Nat.pow_le_pow_right (by decide) hn) (by decide))
theorem zc10 {c n : Nat} (hc : c < 2 ^ n) (hn : n ≤ 10) : c < 1024 := Nat.lt_of_lt_of_le hc (Nat.pow_le_pow_right (n := 2) (by decide) hn)
/-- one more has come -/
theorem zor_c {c n : Nat} {i : Int} (hc : c < 2 ^ n) (hn : n ≤ 10) (h0 : 0 ≤ i) (hi : i < n) : zor (c : Int) (zshl 1 i) = ((c ||| 2 ^ i.toNat : Nat) : Int) := by
  have h10 := zc10 hc hn
  have b := zb2 (i := i.toNat) (n := n) (by omega) hn
  rw [zshl_1 h0 (by omega), show ((2 : Int) ^ i.toNat) = ((2 ^ i.toNat : Nat) : Int) by rw [Int.natCast_pow]; rfl, zor_n (by omega) b]
theorem zor_lt {c n i : Nat} (hc : c < 2 ^ n) (hi : i < n) : c ||| 2 ^ i < 2 ^ n := Nat.or_lt_two_pow hc (Nat.pow_lt_pow_right (by decide) hi)
section S63
variable {K d : Nat} {mu : Mem} {Q : AV → Mem → Prop}
theorem s_isIn {P i : Int} {c : Nat} (hK : 64 ≤ K) (hP : isP K P) (hc : c < 2147483648) (hi : 0 ≤ i ∧ i ≤ 30) (h : Q (zI (if c.testBit i.toNat = true then 1 else 0)) mu) : zC K d mX2_isIn [zR P, zI c, zI i] mu Q := by
  have e := zbit (c := c) (i := i.toNat) hc (by omega)
  rw [show ((i.toNat : Nat) : Int) = i by omega] at e
  refine ce_X2_isIn (sg_X2_isIn_0 (by omega) hK hP ?_)
  rw [e]
  refine ⟨zbin _, fun c => ?_, fun c => ?_⟩
  · split at c
    · exact absurd c (by decide)
    · rename_i q
      rwa [if_neg q] at h
  · split at c
    · rename_i q
      rwa [if_pos q] at h
    · exact absurd rfl c
theorem m_has {i : Int} {c : Nat} (hK : 93 ≤ K) (hc : c < 2147483648) (hi : 0 ≤ i ∧ i ≤ 30) (h : Q (zI (if c.testBit i.toNat = true then 1 else 0)) mu) : zC K d mX9_has [zI c, zI i] mu Q := by
  have e := zbit (c := c) (i := i.toNat) hc (by omega)
  rw [show ((i.toNat : Nat) : Int) = i by omega] at e
  refine ce_X9_has (sg_X9_has_0 (by omega) hK ?_)
  rw [e]
  refine ⟨zbin _, fun c => ?_, fun c => ?_⟩
  · split at c
    · exact absurd rfl c
    · rename_i q
      rwa [if_neg q] at h
  · split at c
    · rename_i q
      rwa [if_pos q] at h
    · exact absurd c (by decide)
end S63
