/-! ===== the bytes of a number ===== -/
def byt (w : Int32) (sh : Nat) : Nat := w.toUInt32.toNat / 2 ^ sh % 256
theorem byt_lt (w : Int32) (sh : Nat) : byt w sh < 256 := Nat.mod_lt _ (by decide)
theorem u32_ext {a b : UInt32} (h : a.toNat = b.toNat) : a = b := UInt32.toNat_inj.mp h
theorem byt_c (w : Int32) (u : UInt32) (sh : Nat) (hu : u.toNat = sh) (hs : sh < 32) : m_i2c ((w.toUInt32 >>> u).toInt32 &&& 255) = nI (byt w sh) := by
  have e : (((w.toUInt32 >>> u).toInt32 &&& 255 : Int32).toUInt32 % 65536) = UInt32.ofNat (byt w sh) := by
    apply u32_ext
    have e1 : (((w.toUInt32 >>> u).toInt32 &&& 255 : Int32).toUInt32) = (w.toUInt32 >>> u) &&& 255 := rfl
    rw [e1, UInt32.toNat_mod, UInt32.toNat_and, UInt32.toNat_shiftRight, hu, Nat.mod_eq_of_lt hs]
    show ((w.toUInt32.toNat >>> sh) &&& (2 ^ 8 - 1)) % 65536 = _
    rw [Nat.and_two_pow_sub_one_eq_mod, Nat.shiftRight_eq_div_pow, UInt32.toNat_ofNat']
    unfold byt
    omega
  exact congrArg UInt32.toInt32 e
theorem byt_8 : ∀ b ∈ List.range 256, (Int8.ofNat b).toInt32 = sgb b := by decide +kernel
theorem byt_b (w y : Int32) (sh : Nat) (hy : (y.toBitVec.smod 32).toNat = sh) (hs : sh ≤ 24) : m_i2b (w >>> y) = sgb (byt w sh) := by
  have e : ((w >>> y).toInt8).toBitVec = BitVec.ofNat 8 (byt w sh) := by
    apply BitVec.eq_of_getLsbD_eq
    intro i hi
    rw [Int32.toBitVec_toInt8, BitVec.getLsbD_signExtend, Int32.toBitVec_shiftRight, BitVec.getLsbD_sshiftRight', BitVec.getLsbD_ofNat, hy, if_pos (by omega), if_pos (by omega), decide_eq_true hi, decide_eq_false (show ¬ 32 ≤ i by omega)]
    show (true && (! false && w.toUInt32.toNat.testBit (sh + i))) = (true && (byt w sh).testBit i)
    unfold byt
    rw [show (256 : Nat) = 2 ^ 8 from rfl, Nat.testBit_mod_two_pow, Nat.testBit_div_two_pow, decide_eq_true hi, Nat.add_comm i sh]
    rfl
  have e2 : (w >>> y).toInt8 = Int8.ofNat (byt w sh) := Int8.toBitVec_inj.mp e
  unfold m_i2b
  rw [e2]
  exact byt_8 _ (List.mem_range.mpr (byt_lt w sh))
