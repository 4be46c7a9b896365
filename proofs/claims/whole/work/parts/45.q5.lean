theorem h31 : ∀ h, h < 32 → nI h &&& 31 = nI h := by decide +kernel
theorem hsm : ∀ h, h < 32 → (nI h).toBitVec.smod 32 = BitVec.ofNat 32 h := by decide +kernel
theorem bit_sh {m h : Nat} (hm : m < 2 ^ 24) (hh : h < 24) : (nI m >>> (nI h &&& 31)) &&& 1 = if m.testBit h then 1 else 0 := by
  rw [h31 h (by omega)]
  apply Int32.toBitVec_inj.mp
  rw [Int32.toBitVec_and, Int32.toBitVec_shiftRight, hsm h (by omega)]
  have hx : (nI m).toBitVec = BitVec.ofNat 32 m := rfl
  have hmsb : (BitVec.ofNat 32 m).msb = false := by
    rw [BitVec.msb_eq_false_iff_two_mul_lt, BitVec.toNat_ofNat]
    omega
  rw [hx, BitVec.sshiftRight_eq', BitVec.sshiftRight_eq_of_msb_false hmsb]
  apply BitVec.eq_of_toNat_eq
  rw [BitVec.toNat_and, BitVec.toNat_ushiftRight, BitVec.toNat_ofNat, BitVec.toNat_ofNat]
  have h1 : m % 2 ^ 32 = m := Nat.mod_eq_of_lt (by omega)
  have h2 : h % 2 ^ 32 = h := Nat.mod_eq_of_lt (by omega)
  rw [h1, h2, Nat.testBit, Nat.and_comm]
  show 1 &&& m >>> h = _
  rw [Nat.and_comm, Nat.and_one_is_mod]
  rcases Nat.mod_two_eq_zero_or_one (m >>> h) with e | e
  · rw [e]; rfl
  · rw [e]; rfl
