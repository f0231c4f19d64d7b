/-! BITS of sets, as naturals -/
theorem bx_and (a b : Nat) : nI a &&& nI b = nI (a &&& b) := by
  apply Int32.toBitVec.inj
  simp [nI]
theorem bx_or (a b : Nat) : nI a ||| nI b = nI (a ||| b) := by
  apply Int32.toBitVec.inj
  simp [nI]
theorem bx_xor (a b : Nat) : nI a ^^^ nI b = nI (a ^^^ b) := by
  apply Int32.toBitVec.inj
  simp [nI]
theorem bx_m1 : (-1 : Int32) = nI 4294967295 := by decide
theorem bx_inj {a b : Nat} (ha : a < 4294967296) (hb : b < 4294967296) : (nI a = nI b) = (a = b) := by
  apply propext
  constructor
  · intro h
    have := congrArg (fun z => z.toBitVec.toNat) h
    simp only [pk_tn (show a < 2 ^ 32 by omega), pk_tn (show b < 2 ^ 32 by omega)] at this
    exact this
  · intro h
    rw [h]
theorem bx_all (p : Int32) : ∃ m, m < 4294967296 ∧ p = nI m := by
  refine ⟨p.toBitVec.toNat, by have := p.toBitVec.isLt; omega, ?_⟩
  apply Int32.toBitVec.inj
  simp [nI]
theorem bx_ge {m : Nat} (hm : m < 4294967296) : (0 ≤ nI m) = (m < 2147483648) := by
  apply propext
  rw [Int32.le_iff_toInt_le]
  have h0 : (0 : Int32).toInt = 0 := rfl
  have e : (nI m).toInt = (nI m).toBitVec.toInt := rfl
  rw [h0, e, BitVec.toInt_eq_toNat_cond, pk_tn (by omega)]
  split <;> omega
theorem s31 : ∀ n, n < 32 → ((nI n &&& 31).toBitVec.smod 32).toNat = n := by decide +kernel
theorem bx_1shl {j : Nat} (hj : j < 31) : (1 : Int32) <<< (nI j &&& 31) = nI (2 ^ j) := by
  have h2 : (2 : Nat) ^ j < 2 ^ 31 := Nat.pow_lt_pow_right (by decide) hj
  have := pk_shlN (n := 1) (nI j &&& 31) j (s31 j (by omega)) (by omega)
  rw [Nat.one_mul] at this
  exact this
theorem bx_below {j : Nat} (hj : j < 31) : ((1 : Int32) <<< (nI j &&& 31)) - 1 = nI (2 ^ j - 1) := by
  rw [bx_1shl hj]
  exact pk_sub (Nat.one_le_two_pow)
theorem bx_bit {m j : Nat} (hm : m < 2147483648) (hj : j < 32) : (nI m >>> (nI j &&& 31)) &&& 1 = nI (m.testBit j).toNat := by
  rw [pk_shrN (by omega) _ j (s31 j hj), show (1 : Int32) = nI 1 from rfl, bx_and, Nat.and_one_is_mod]
  congr 1
  rw [Nat.testBit_eq_decide_div_mod_eq]
  by_cases h : m / 2 ^ j % 2 = 1
  · simp [h]
  · have : m / 2 ^ j % 2 = 0 := by omega
    simp [this]
theorem bx_bit0 {m j : Nat} (hm : m < 2147483648) (hj : j < 32) : ((nI m >>> (nI j &&& 31)) &&& 1 = 0) = (m.testBit j = false) := by
  rw [bx_bit hm hj]
  cases m.testBit j <;> decide
theorem bx_bit1 {m j : Nat} (hm : m < 2147483648) (hj : j < 32) : ((nI m >>> (nI j &&& 31)) &&& 1 = 1) = (m.testBit j = true) := by
  rw [bx_bit hm hj]
  cases m.testBit j <;> decide
theorem bx_andnot {m k : Nat} (hm : m < 4294967296) : nI m &&& (nI k ^^^ (-1)) = nI (m ^^^ (m &&& k)) := by
  rw [bx_m1, bx_xor, bx_and]
  congr 1
  apply Nat.eq_of_testBit_eq
  intro i
  rw [Nat.testBit_and, Nat.testBit_xor, Nat.testBit_xor, Nat.testBit_and, show (4294967295 : Nat) = 2 ^ 32 - 1 by decide, Nat.testBit_two_pow_sub_one]
  by_cases hi : i < 32
  · simp [hi]
    cases m.testBit i <;> cases k.testBit i <;> rfl
  · have : m.testBit i = false := Nat.testBit_lt_two_pow (Nat.lt_of_lt_of_le (show m < 2 ^ 32 by omega) (Nat.pow_le_pow_right (by decide) (by omega)))
    simp [this]
theorem bx_lt2 {a b N : Nat} (ha : a < 2 ^ N) (hb : b < 2 ^ N) : a ^^^ b < 2 ^ N := Nat.xor_lt_two_pow ha hb
theorem bx_known {p : Int32} {N : Nat} (hN : N < 31) : (p &&& (nI (2 ^ N - 1) ^^^ (-1)) = 0) = (0 ≤ p ∧ p ≤ nI (2 ^ N - 1)) := by
  obtain ⟨m, hm, rfl⟩ := bx_all p
  have h2 : (2 : Nat) ^ N < 2 ^ 31 := Nat.pow_lt_pow_right (by decide) hN
  have h1 : 1 ≤ 2 ^ N := Nat.one_le_two_pow
  rw [bx_andnot hm, bx_ge hm, show (0 : Int32) = nI 0 from rfl, Nat.and_two_pow_sub_one_eq_mod]
  have hlt : m ^^^ (m % 2 ^ N) < 2 ^ 32 := Nat.xor_lt_two_pow (by omega) (Nat.lt_of_le_of_lt (Nat.mod_le _ _) (by omega))
  rw [bx_inj (by omega) (by omega)]
  apply propext
  constructor
  · intro h
    have e : m = m % 2 ^ N := by
      have := congrArg (fun z => z ^^^ (m % 2 ^ N)) h
      simp only [Nat.xor_assoc, Nat.xor_self, Nat.xor_zero, Nat.zero_xor] at this
      exact this
    have hl : m < 2 ^ N := by rw [e]; exact Nat.mod_lt _ (by omega)
    exact ⟨by omega, by rw [le_nI (by omega) (by omega)]; omega⟩
  · intro h
    have h3 := h.2
    rw [le_nI (by omega) (by omega)] at h3
    rw [Nat.mod_eq_of_lt (by omega), Nat.xor_self]
theorem bx_set {p : Int32} {N : Nat} (hN : N < 31) (h : 0 ≤ p ∧ p ≤ nI (2 ^ N - 1)) : ∃ m, m < 2 ^ N ∧ p = nI m := by
  have h2 : (2 : Nat) ^ N < 2 ^ 31 := Nat.pow_lt_pow_right (by decide) hN
  have h1 : 1 ≤ 2 ^ N := Nat.one_le_two_pow
  obtain ⟨m, hm, rfl⟩ := bx_all p
  have h3 := h.1
  rw [bx_ge hm] at h3
  have h4 := h.2
  rw [le_nI (by omega) (by omega)] at h4
  exact ⟨m, by omega, rfl⟩
section KNOWN
variable {X : XT} {Y : YT} {Q : Int32 → XT → YT → Prop} {p : Int32} {N : Nat}
theorem eq_areKnown (hN : N ≤ 10) (hn : X 3 9 = nI N) : PX1_areKnown p X Y Q = Q (bI (0 ≤ p ∧ p ≤ nI (2 ^ N - 1))) X Y := by
  apply propext
  unfold PX1_areKnown BX1_areKnown_s
  rw [eq_allBelow, hn, bx_below (by omega), bx_known (by omega)]
  by_cases h : 0 ≤ p ∧ p ≤ nI (2 ^ N - 1) <;> simp [bI, h]
theorem eq_noSet (hN : N ≤ 10) (hn : X 48 1 = nI N) : PX10_noSet p X Y Q = Q (bI (¬ (0 ≤ p ∧ p ≤ nI (2 ^ N - 1)))) X Y := by
  apply propext
  unfold PX10_noSet BX10_noSet_s
  rw [hn, bx_below (by omega), l64_0, eq_in3]
  by_cases h : 0 ≤ p ∧ p ≤ nI (2 ^ N - 1) <;> simp [bI, h]
end KNOWN
