/-! BITS -/
theorem bv_of {a : Nat} (h : a < 2147483648) : (Int32.ofInt (a : Int)).toBitVec.toNat = a := by
  show (BitVec.ofInt 32 (a : Int)).toNat = _
  rw [BitVec.toNat_ofInt]
  show ((a : Int) % 4294967296).toNat = a
  omega
theorem i32_nat {x : Int32} {a : Nat} (h : x.toBitVec.toNat = a) (h2 : a < 2147483648) : x.toInt = (a : Int) := by
  show BitVec.toInt x.toBitVec = _
  rw [BitVec.toInt_eq_toNat_of_lt (by rw [h]; omega), h]
theorem or_lt {a b : Nat} (ha : a < 2147483648) (hb : b < 2147483648) : a ||| b < 2147483648 := Nat.or_lt_two_pow (n := 31) ha hb
theorem ior_nat {a b : Nat} (ha : a < 2147483648) (hb : b < 2147483648) : ior (a : Int) (b : Int) = ((a ||| b : Nat) : Int) := by
  unfold ior
  refine i32_nat ?_ (or_lt ha hb)
  rw [Int32.toBitVec_or, BitVec.toNat_or, bv_of ha, bv_of hb]
theorem iand_nat {a b : Nat} (ha : a < 2147483648) (hb : b < 2147483648) : iand (a : Int) (b : Int) = ((a &&& b : Nat) : Int) := by
  unfold iand
  refine i32_nat ?_ (Nat.lt_of_le_of_lt Nat.and_le_left ha)
  rw [Int32.toBitVec_and, BitVec.toNat_and, bv_of ha, bv_of hb]
theorem ishl_one : ∀ t : Fin 31, ishl 1 ((t.val : Nat) : Int) = ((2 ^ t.val : Nat) : Int) := by decide +kernel
theorem ishl_1 {t : Nat} (h : t < 31) : ishl 1 (t : Int) = ((2 ^ t : Nat) : Int) := ishl_one ⟨t, h⟩
theorem shr_amt : ∀ t : Fin 32, ((Int32.ofInt ((t.val : Nat) : Int) &&& 31).toBitVec.smod 32).toNat = t.val := by decide +kernel
theorem ishr_of {x : Int} {t : Nat} (h0 : -2147483648 ≤ x) (h1 : x ≤ 2147483647) (h : t < 32) : ishr x (t : Int) = x / 2 ^ t := by
  have ha := shr_amt ⟨t, h⟩
  have hx : (Int32.ofInt x).toBitVec.toInt = x := toInt_of32 h0 h1
  show BitVec.toInt (BitVec.sshiftRight (Int32.ofInt x).toBitVec ((Int32.ofInt (t : Int) &&& 31).toBitVec.smod 32).toNat) = _
  rw [show ((Int32.ofInt (t : Int) &&& 31).toBitVec.smod 32).toNat = t from ha, BitVec.toInt_sshiftRight, hx, Int.shiftRight_eq_div_pow]
  simp
theorem iand_1 (z : Int) : iand z 1 = z % 2 := by
  show BitVec.toInt (Int32.toBitVec (Int32.ofInt z &&& Int32.ofInt 1)) = _
  rw [Int32.toBitVec_and]
  have e : ((Int32.ofInt z).toBitVec &&& (Int32.ofInt 1).toBitVec).toNat = (z % 2).toNat := by
    rw [BitVec.toNat_and]
    have e1 : (Int32.ofInt z).toBitVec.toNat = (z % 4294967296).toNat := by
      show (BitVec.ofInt 32 z).toNat = _
      rw [BitVec.toNat_ofInt]; rfl
    have e2 : (Int32.ofInt 1).toBitVec.toNat = 1 := by decide
    rw [e1, e2, Nat.and_one_is_mod]
    omega
  rw [BitVec.toInt_eq_toNat_of_lt (by rw [e]; omega), e]
  omega
/-- a bit of a number -/
theorem bit_iff {a t : Nat} (ha : a < 2147483648) (ht : t < 31) : (iand (ishr (a : Int) (t : Int)) 1 = 1) ↔ a.testBit t = true := by
  rw [ishr_of (by omega) (by omega) (by omega), iand_1, Nat.testBit_eq_decide_div_mod_eq]
  have e : ((a : Int) / 2 ^ t) % 2 = ((a / 2 ^ t % 2 : Nat) : Int) := by
    rw [Int.natCast_emod, Int.natCast_ediv, Int.natCast_pow]
    rfl
  rw [e]
  simp
  omega
theorem tb_pow {t i : Nat} : (2 ^ t).testBit i = decide (t = i) := Nat.testBit_two_pow
