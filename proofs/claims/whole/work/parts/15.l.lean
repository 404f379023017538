/-! the bytes of a long -/
theorem sx_sw {w : Nat} (x : BitVec w) {v : Nat} (h : v ≤ w) : x.signExtend v = x.setWidth v := by
  first
  | exact BitVec.signExtend_eq_setWidth_of_le x h
  | exact BitVec.signExtend_eq_setWidth_of_lt x h
  | exact BitVec.signExtend_eq_setWidth_of_le h
theorem fb_cu : ∀ k, k < 64 → ((nI k).toInt64.toUInt64 &&& Int64.toUInt64 63) = UInt64.ofNat k := by decide +kernel
theorem fb_sm : ∀ k, k < 64 → (((nI k).toInt64 &&& 63).toBitVec.smod 64).toNat = k := by decide +kernel
theorem fb_i8 (z : Int32) : z.toInt8.toInt32 &&& 255 = nI (z.toBitVec.toNat % 256) := by
  have h := sc_k8 (z.toBitVec.toNat % 256) (Nat.mod_lt _ (by decide))
  have e : z.toInt8 = (nI (z.toBitVec.toNat % 256)).toInt8 := by
    apply Int8.toBitVec_inj.mp
    apply BitVec.eq_of_toNat_eq
    show (z.toBitVec.signExtend 8).toNat = ((nI (z.toBitVec.toNat % 256)).toBitVec.signExtend 8).toNat
    rw [sx_sw _ (by decide), sx_sw _ (by decide)]
    rw [BitVec.toNat_setWidth, BitVec.toNat_setWidth, pk_tn (by omega)]
    omega
  rw [e, h]
theorem fb_x (v : Int64) {k : Nat} (hk : k < 64) : (vp_nar .byte ((((v.toUInt64 >>> ((nI k).toInt64.toUInt64 &&& Int64.toUInt64 63)).toInt64).toInt32).toInt8.toInt32)) &&& 255 = nI (v.toBitVec.toNat / 2 ^ k % 256) := by
  rw [pk_vb, fb_i8, fb_cu k hk]
  congr 1
  show ((v.toUInt64 >>> UInt64.ofNat k).toBitVec.signExtend 32).toNat % 256 = _
  rw [sx_sw _ (by decide)]
  rw [BitVec.toNat_setWidth]
  have e : (v.toUInt64 >>> UInt64.ofNat k).toBitVec.toNat = v.toBitVec.toNat / 2 ^ k := by
    show (v.toUInt64 >>> UInt64.ofNat k).toNat = _
    rw [UInt64.toNat_shiftRight, Nat.shiftRight_eq_div_pow]
    have : (UInt64.ofNat k).toNat % 64 = k := by
      rw [UInt64.toNat_ofNat']
      omega
    rw [this]
    rfl
  rw [e]
  omega
theorem fb_m (v : Int64) {k : Nat} (hk : k ≤ 56) : ((v >>> ((nI k).toInt64 &&& 63)) &&& (255 : Int64)).toInt32 = nI (v.toBitVec.toNat / 2 ^ k % 256) := by
  apply Int32.toBitVec_inj.mp
  apply BitVec.eq_of_toNat_eq
  rw [pk_tn (by have := Nat.mod_lt (v.toBitVec.toNat / 2 ^ k) (show 0 < 256 by decide); omega)]
  show (((v.toBitVec.sshiftRight (((nI k).toInt64 &&& 63).toBitVec.smod 64).toNat) &&& (255#64)).signExtend 32).toNat = _
  rw [sx_sw _ (by decide)]
  rw [fb_sm k (by omega), BitVec.toNat_setWidth, BitVec.toNat_and]
  have e : (255#64).toNat = 2 ^ 8 - 1 := by decide
  rw [e, Nat.and_two_pow_sub_one_eq_mod]
  apply Nat.eq_of_testBit_eq
  intro i
  have e2 : (v.toBitVec.sshiftRight k).toNat % 2 ^ 8 % 2 ^ 32 = (v.toBitVec.sshiftRight k).toNat % 2 ^ 8 := by omega
  have e3 : (256 : Nat) = 2 ^ 8 := by decide
  rw [e2, e3, Nat.testBit_mod_two_pow, Nat.testBit_mod_two_pow, Nat.testBit_div_two_pow]
  by_cases hi : i < 8
  · have : (v.toBitVec.sshiftRight k).toNat.testBit i = (v.toBitVec.sshiftRight k).getLsbD i := rfl
    rw [this, BitVec.getLsbD_sshiftRight]
    have h1 : ¬ 64 ≤ i := by omega
    have h2 : k + i < 64 := by omega
    simp [h1, h2, hi]
    rw [Nat.add_comm i k]
    rfl
  · simp [hi]
