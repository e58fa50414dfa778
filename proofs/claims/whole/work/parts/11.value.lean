/-! a value in one long -/
theorem xv_lt (a : Int32) : a.toBitVec.toNat < 4294967296 := a.toBitVec.isLt
theorem xv_of (a : Int32) : nI a.toBitVec.toNat = a := Int32.toBitVec_inj.mp (by show BitVec.ofNat 32 _ = _; simp)
theorem xv_lo (a : Int32) : a.toInt64 &&& 4294967295 = lN a.toBitVec.toNat := by
  apply wb_inj
  apply BitVec.eq_of_toNat_eq
  show ((a.toInt64).toBitVec &&& 4294967295#64).toNat = (BitVec.ofNat 64 a.toBitVec.toNat).toNat
  have h := xv_lt a
  rw [BitVec.toNat_and, show (4294967295#64).toNat = 2 ^ 32 - 1 from by decide, Nat.and_two_pow_sub_one_eq_mod, BitVec.toNat_ofNat, Int32.toBitVec_toInt64, BitVec.toNat_signExtend, BitVec.toNat_setWidth]
  split <;> omega
theorem xv_vo {k : Nat} (hk : k < 4) (a : Int32) : ((nI k).toInt64 <<< ((32 : Int32).toInt64 &&& 63)) ||| (a.toInt64 &&& 4294967295) = xm_vo k a := by
  have h := xv_lt a
  have e : (nI k).toInt64 <<< ((32 : Int32).toInt64 &&& 63) = lN (k * 4294967296) := by
    rw [nI_l (by omega)]
    exact wb_shl k (k := 32) (by decide)
  rw [e, xv_lo]
  exact g_or (k := 32) (by decide) h (by omega)
theorem xv_kd {k : Nat} (hk : k < 4) (a : Int32) : (xm_vo k a >>> ((32 : Int32).toInt64 &&& 63)).toInt32 = nI k := by
  have h := xv_lt a
  unfold xm_vo
  rw [pf_shr (d := 32) (by decide) (by omega), lN_i]
  exact congrArg nI (by omega)
theorem xv_k0 : ((0 : Int64) >>> ((32 : Int32).toInt64 &&& 63)).toInt32 = 0 := by decide
theorem xv_ct (k : Nat) (a : Int32) : (xm_vo k a).toInt32 = a := by
  unfold xm_vo
  rw [lN_i]
  apply Int32.toBitVec_inj.mp
  show BitVec.ofNat 32 _ = _
  apply BitVec.eq_of_toNat_eq
  have h := xv_lt a
  rw [BitVec.toNat_ofNat]
  omega
theorem xv_ne {k : Nat} (h0 : 0 < k) (hk : k < 4) (a : Int32) : ¬ xm_vo k a = 0 := by
  have h := xv_lt a
  unfold xm_vo
  intro z
  have z' : lN (k * 4294967296 + a.toBitVec.toNat) = lN 0 := z
  rw [pk_lEQ (by omega) (by omega)] at z'
  omega
