/-! bits of ints, as naturals -/
theorem bv_of (a : Nat) : (Int32.ofInt (a : Int)).toBitVec = BitVec.ofNat 32 a := by
  show BitVec.ofInt 32 (a : Int) = _
  exact BitVec.ofInt_natCast 32 a
theorem ti_bv (x : Int32) : x.toInt = x.toBitVec.toInt := rfl
theorem bv_ti {v : BitVec 32} (h : v.toNat < 2147483648) : v.toInt = (v.toNat : Int) := by
  rw [BitVec.toInt_eq_toNat_cond, if_pos (by omega)]
theorem and_lt' {a b : Nat} (ha : a < 2147483648) : a &&& b < 2147483648 := Nat.lt_of_le_of_lt Nat.and_le_left ha
theorem or_lt' {a b : Nat} (ha : a < 2147483648) (hb : b < 2147483648) : a ||| b < 2147483648 := Nat.or_lt_two_pow (n := 31) ha hb
theorem and_nat {a b : Nat} (ha : a < 2147483648) (hb : b < 2147483648) : am_and (a : Int) (b : Int) = ((a &&& b : Nat) : Int) := by
  show (Int32.ofInt (a : Int) &&& Int32.ofInt (b : Int)).toInt = _
  have hn : (Int32.ofInt (a : Int) &&& Int32.ofInt (b : Int)).toBitVec.toNat = a &&& b := by
    rw [Int32.toBitVec_and, bv_of, bv_of, BitVec.toNat_and, BitVec.toNat_ofNat, BitVec.toNat_ofNat, Nat.mod_eq_of_lt (by omega), Nat.mod_eq_of_lt (by omega)]
  rw [ti_bv, bv_ti (by rw [hn]; exact and_lt' ha), hn]
theorem or_nat {a b : Nat} (ha : a < 2147483648) (hb : b < 2147483648) : am_or (a : Int) (b : Int) = ((a ||| b : Nat) : Int) := by
  show (Int32.ofInt (a : Int) ||| Int32.ofInt (b : Int)).toInt = _
  have hn : (Int32.ofInt (a : Int) ||| Int32.ofInt (b : Int)).toBitVec.toNat = a ||| b := by
    rw [Int32.toBitVec_or, bv_of, bv_of, BitVec.toNat_or, BitVec.toNat_ofNat, BitVec.toNat_ofNat, Nat.mod_eq_of_lt (by omega), Nat.mod_eq_of_lt (by omega)]
  rw [ti_bv, bv_ti (by rw [hn]; exact or_lt' ha hb), hn]
theorem sh_amt {k : Nat} (hk : k < 32) : (Int32.ofInt (k : Int) &&& 31).toBitVec = BitVec.ofNat 32 k := by
  have : ∀ k : Nat, k < 32 → (Int32.ofInt (k : Int) &&& 31).toBitVec = BitVec.ofNat 32 k := by decide +kernel
  exact this k hk
theorem shr_nat {a k : Nat} (ha : a < 2147483648) (hk : k < 32) : am_shr (a : Int) (k : Int) = ((a >>> k : Nat) : Int) := by
  show (Int32.ofInt (a : Int) >>> (Int32.ofInt (k : Int) &&& 31)).toInt = _
  have hlt : a >>> k < 2147483648 := Nat.lt_of_le_of_lt (Nat.shiftRight_le a k) ha
  have hb : (Int32.ofInt (a : Int) >>> (Int32.ofInt (k : Int) &&& 31)).toBitVec = BitVec.ofNat 32 (a >>> k) := by
    rw [Int32.toBitVec_shiftRight, bv_of, sh_amt hk]
    have h2 : ∀ k : Nat, k < 32 → (BitVec.ofNat 32 k).smod 32 = BitVec.ofNat 32 k := by decide +kernel
    rw [h2 k hk]
    have h3 : (BitVec.ofNat 32 a).msb = false := by
      rw [BitVec.msb_eq_false_iff_two_mul_lt, BitVec.toNat_ofNat, Nat.mod_eq_of_lt (by omega)]
      omega
    rw [BitVec.sshiftRight', BitVec.sshiftRight_eq_of_msb_false h3]
    apply BitVec.eq_of_toNat_eq
    rw [BitVec.toNat_ushiftRight, BitVec.toNat_ofNat, BitVec.toNat_ofNat, BitVec.toNat_ofNat, Nat.mod_eq_of_lt (by omega), Nat.mod_eq_of_lt (by omega), Nat.mod_eq_of_lt (by omega)]
  rw [ti_bv, hb, bv_ti (by rw [BitVec.toNat_ofNat, Nat.mod_eq_of_lt (by omega)]; exact hlt), BitVec.toNat_ofNat, Nat.mod_eq_of_lt (by omega)]
theorem shl_nat {a k : Nat} (hk : k < 32) (h : a <<< k < 2147483648) : am_shl (a : Int) (k : Int) = ((a <<< k : Nat) : Int) := by
  show (Int32.ofInt (a : Int) <<< (Int32.ofInt (k : Int) &&& 31)).toInt = _
  have hb : (Int32.ofInt (a : Int) <<< (Int32.ofInt (k : Int) &&& 31)).toBitVec = BitVec.ofNat 32 (a <<< k) := by
    rw [Int32.toBitVec_shiftLeft, bv_of, sh_amt hk]
    have h2 : ∀ k : Nat, k < 32 → (BitVec.ofNat 32 k).smod 32 = BitVec.ofNat 32 k := by decide +kernel
    rw [h2 k hk]
    apply BitVec.eq_of_toNat_eq
    rw [BitVec.shiftLeft_eq', BitVec.toNat_shiftLeft, BitVec.toNat_ofNat, BitVec.toNat_ofNat, BitVec.toNat_ofNat, Nat.mod_eq_of_lt (show k < 2 ^ 32 by omega), Nat.shiftLeft_eq, Nat.shiftLeft_eq]
    rw [Nat.mod_mul_mod]
  rw [ti_bv, hb, bv_ti (by rw [BitVec.toNat_ofNat, Nat.mod_eq_of_lt (by omega)]; exact h), BitVec.toNat_ofNat, Nat.mod_eq_of_lt (by omega)]
/-- the bit of a set, as both programs ask for it -/
theorem bit_nat {a k : Nat} (ha : a < 2147483648) (hk : k < 32) : am_and (am_shr (a : Int) (k : Int)) 1 = if a.testBit k then 1 else 0 := by
  rw [shr_nat ha hk]
  have h1 : am_and ((a >>> k : Nat) : Int) 1 = (((a >>> k) &&& 1 : Nat) : Int) := and_nat (b := 1) (Nat.lt_of_le_of_lt (Nat.shiftRight_le a k) ha) (by decide)
  rw [h1]
  unfold Nat.testBit
  rw [Nat.and_comm 1]
  rcases Nat.mod_two_eq_zero_or_one (a >>> k) with h | h <;> simp [Nat.and_one_is_mod, h]
