/-! ===== masks: naturals as ints ===== -/
theorem bi_or (a b : Nat) : nI a ||| nI b = nI (a ||| b) := by
  apply Int32.toBitVec_inj.1
  show BitVec.ofNat 32 a ||| BitVec.ofNat 32 b = BitVec.ofNat 32 (a ||| b)
  apply BitVec.eq_of_getLsbD_eq
  intro i hi
  simp [hi]
theorem bi_and (a b : Nat) : nI a &&& nI b = nI (a &&& b) := by
  apply Int32.toBitVec_inj.1
  show BitVec.ofNat 32 a &&& BitVec.ofNat 32 b = BitVec.ofNat 32 (a &&& b)
  apply BitVec.eq_of_getLsbD_eq
  intro i hi
  simp [hi]
theorem bi_shl : ∀ l, l < 31 → ((1 : Int32) <<< (nI l &&& 31)) = nI (2 ^ l) := by decide +kernel
theorem bi_0 {a : Nat} (h : a < 2 ^ 31) : nI a = 0 ↔ a = 0 := by
  rw [← nI_0, nI_eq h (by omega)]
theorem bi_tb (a l : Nat) : a &&& 2 ^ l = 0 ↔ a.testBit l = false := by
  constructor
  · intro h
    have h' : (a &&& 2 ^ l).testBit l = false := by rw [h, Nat.zero_testBit]
    rw [Nat.testBit_and, Nat.testBit_two_pow_self, Bool.and_true] at h'
    exact h'
  · intro h
    apply Nat.eq_of_testBit_eq
    intro i
    rw [Nat.testBit_and, Nat.testBit_two_pow, Nat.zero_testBit]
    by_cases e : l = i
    · subst e; rw [h, Bool.false_and]
    · rw [decide_eq_false e, Bool.and_false]
theorem bi_le {a b : Nat} (h : a < 2 ^ 31) : a &&& b < 2 ^ 31 := Nat.lt_of_le_of_lt Nat.and_le_left h
theorem bi_test {a l : Nat} (ha : a < 2 ^ 31) (hl : l < 31) : nI a &&& ((1 : Int32) <<< (nI l &&& 31)) = 0 ↔ a.testBit l = false := by
  rw [bi_shl l hl, bi_and, bi_0 (bi_le ha), bi_tb]
theorem bi_sl : ∀ l, l < 32 → ((nI l &&& 31).toBitVec.smod 32).toNat = l := by decide +kernel
theorem bi_shr {a l : Nat} (ha : a < 2 ^ 31) (hl : l < 32) : nI a >>> (nI l &&& 31) &&& 1 = 0 ↔ a.testBit l = false := by
  rw [pk_shrN ha _ l (bi_sl l hl)]
  have h1 : a / 2 ^ l ≤ a := Nat.div_le_self _ _
  show nI (a / 2 ^ l) &&& nI 1 = 0 ↔ _
  rw [bi_and, Nat.and_one_is_mod, bi_0 (by omega), Nat.testBit_eq_decide_div_mod_eq, decide_eq_false_iff_not]
  generalize a / 2 ^ l = z
  omega
theorem bi_bit (a : Nat) {i : Nat} (hi : i < 32) : (nI a).toBitVec.getLsbD i = a.testBit i := by
  show (BitVec.ofNat 32 a).getLsbD i = _
  rw [BitVec.getLsbD_ofNat]
  simp [hi]
theorem bi_m1 : ∀ i, i < 32 → (-1 : Int32).toBitVec.getLsbD i = true := by decide +kernel
theorem bi_new {a m : Nat} (hm : m < 2 ^ 31) : nI m &&& (nI a ^^^ (-1)) = 0 ↔ so_sub m a := by
  constructor
  · intro h
    refine so_sub_bit.mpr (fun i hi => ?_)
    have h31 : i < 31 := by
      rcases Nat.lt_or_ge i 31 with q | q
      · exact q
      · have h2 : m < 2 ^ i := Nat.lt_of_lt_of_le hm (Nat.pow_le_pow_right (by decide) q)
        rw [Nat.testBit_lt_two_pow h2] at hi
        cases hi
    have h' : (nI m &&& (nI a ^^^ (-1))).toBitVec.getLsbD i = (0 : Int32).toBitVec.getLsbD i := by rw [h]
    rw [Int32.toBitVec_and, BitVec.getLsbD_and, Int32.toBitVec_xor, BitVec.getLsbD_xor, bi_m1 i (by omega), bi_bit m (by omega), bi_bit a (by omega), hi] at h'
    have h0 : (0 : Int32).toBitVec.getLsbD i = false := BitVec.getLsbD_zero
    rw [h0] at h'
    cases e : a.testBit i with
    | true => rfl
    | false => rw [e] at h'; cases h'
  · intro h
    apply Int32.toBitVec_inj.1
    apply BitVec.eq_of_getLsbD_eq
    intro i hi
    have h0 : (0 : Int32).toBitVec.getLsbD i = false := BitVec.getLsbD_zero
    rw [Int32.toBitVec_and, BitVec.getLsbD_and, Int32.toBitVec_xor, BitVec.getLsbD_xor, bi_m1 i hi, bi_bit m hi, bi_bit a hi, h0]
    cases e : m.testBit i with
    | false => rfl
    | true => rw [so_sub_bit.mp h i e]; rfl
theorem bi_16 {a : Nat} (ha : a < 2 ^ 31) : nI a &&& 65536 = 0 ↔ a.testBit 16 = false := by
  show nI a &&& nI 65536 = 0 ↔ _
  rw [bi_and, bi_0 (bi_le ha)]
  exact bi_tb a 16
theorem bi_65535 {a : Nat} (ha : a < 2 ^ 31) : nI a &&& 65535 = 0 ↔ a % 65536 = 0 := by
  show nI a &&& nI 65535 = 0 ↔ _
  rw [bi_and, bi_0 (bi_le ha), show (65535 : Nat) = 2 ^ 16 - 1 from rfl, Nat.and_two_pow_sub_one_eq_mod]
theorem bi_low {a : Nat} (ha : a < 2 ^ 31) (h0 : 0 < a) : nI a &&& (nI a - 1) = 0 ↔ a &&& (a - 1) = 0 := by
  have e : nI a - 1 = nI (a - 1) := by
    have h := nI_pred (a - 1)
    rwa [Nat.sub_add_cancel h0] at h
  rw [e, bi_and, bi_0 (bi_le ha)]
/-! ===== values as longs ===== -/
def bi_enc (v : ev_V) : Int64 := match v with
  | .inl i => i.toInt64 &&& 4294967295
  | .inr k => 4294967296 ||| (nI k).toInt64
theorem bi_m32 : ∀ i, i < 64 → (4294967295 : Int64).toBitVec.getLsbD i = decide (i < 32) := by decide +kernel
theorem bi_c32 : ∀ i, i < 64 → (4294967296 : Int64).toBitVec.getLsbD i = decide (i = 32) := by decide +kernel
theorem bi_i (i : Int32) : (i.toInt64 &&& 4294967295).toInt32 = i := by
  apply Int32.toBitVec_inj.1
  apply BitVec.eq_of_getLsbD_eq
  intro j hj
  show ((i.toInt64 &&& 4294967295).toBitVec.signExtend 32).getLsbD j = _
  rw [BitVec.getLsbD_signExtend, if_pos (show j < 64 by omega), Int64.toBitVec_and, BitVec.getLsbD_and, bi_m32 j (by omega), decide_eq_true hj, Bool.true_and, Bool.and_true]
  show (i.toBitVec.signExtend 64).getLsbD j = _
  rw [BitVec.getLsbD_signExtend, if_pos hj, decide_eq_true (show j < 64 by omega), Bool.true_and]
theorem bi_n (i : Int32) : (i.toInt64 &&& 4294967295) &&& 4294967296 = 0 := by
  apply Int64.toBitVec_inj.1
  apply BitVec.eq_of_getLsbD_eq
  intro j hj
  have h0 : (0 : Int64).toBitVec.getLsbD j = false := BitVec.getLsbD_zero
  rw [Int64.toBitVec_and, BitVec.getLsbD_and, Int64.toBitVec_and, BitVec.getLsbD_and, bi_m32 j hj, bi_c32 j hj, h0]
  by_cases z : j = 32
  · subst z; simp
  · simp [z]
theorem bi_z (i : Int32) : i.toInt64 &&& 4294967295 = 0 ↔ i = 0 := by
  constructor
  · intro h
    have := bi_i i
    rw [h] at this
    rw [← this]
    rfl
  · intro h
    subst h
    decide +kernel
theorem bi_k : ∀ k, k < 64 → (4294967296 ||| (nI k).toInt64).toInt32 = nI k ∧ ¬ ((4294967296 ||| (nI k).toInt64) &&& 4294967296 = 0) ∧ ¬ (4294967296 ||| (nI k).toInt64 = 0) := by decide +kernel
