/-! The model's longs: a kind and what is told. -/
section MLONG
theorem l_in {x : Int} (h : -4000000000000 ≤ x ∧ x ≤ 4000000000000) : (Int64.ofInt x).toInt = x := Int64.toInt_ofInt_of_le (by omega) (by omega)
theorem l_i {u : Int} (h : rg u) : zL2i u = u := by
  unfold rg at h
  unfold zL2i
  rw [Int64.toInt_toInt32, l_in (by omega)]
  exact Int.bmod_eq_of_le (by omega) (by omega)
theorem zk_7 {v k : Int} (hk : 0 ≤ k ∧ k < 8) : zL2i (zLand (8 * v + k) 7) = k := by
  have n7 : (BitVec.ofInt 64 7).toNat = 2 ^ 3 - 1 := by decide
  have n : (Int64.ofInt (8 * v + k) &&& Int64.ofInt 7).toBitVec.toNat = k.toNat := by
    rw [Int64.toBitVec_and, Int64.toBitVec_ofInt, Int64.toBitVec_ofInt, BitVec.toNat_and, n7, Nat.and_two_pow_sub_one_eq_mod, BitVec.toNat_ofInt]
    omega
  have e : zLand (8 * v + k) 7 = k := by
    unfold zLand
    show (Int64.ofInt (8 * v + k) &&& Int64.ofInt 7).toBitVec.toInt = k
    rw [BitVec.toInt_eq_toNat_of_lt (by omega), n]
    omega
  rw [e]
  exact l_i (by unfold rg; omega)
theorem zk_3 {v k : Int} (hv : rg v) (hk : 0 ≤ k ∧ k < 8) : zL2i (zLshr (8 * v + k) 3) = v := by
  unfold rg at hv
  have e : zLshr (8 * v + k) 3 = v := by
    unfold zLshr
    have s3 : ((Int32.ofInt 3).toInt64 &&& 63) = 3 := by decide
    rw [s3]
    show (Int64.ofInt (8 * v + k) >>> 3).toBitVec.toInt = v
    have t : (Int64.ofInt (8 * v + k) >>> 3).toBitVec = (Int64.ofInt (8 * v + k)).toBitVec.sshiftRight 3 := rfl
    rw [t, BitVec.toInt_sshiftRight]
    show (Int64.ofInt (8 * v + k)).toInt >>> 3 = v
    rw [l_in (by omega), Int.shiftRight_eq_div_pow]
    omega
  rw [e]
  exact l_i (by unfold rg; omega)
end MLONG
