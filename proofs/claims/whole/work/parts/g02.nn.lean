/-! A finite number is none that isn't one. -/
theorem fin_nn {b : UInt64} (h : FP.Core.DFin b) : nn b = true := by
  have h := (FP.Core.fin_bits b).mp h
  unfold nn
  refine decide_eq_true ?_
  rw [UInt64.le_iff_toNat_le, UInt64.toNat_and, show (0x7fffffffffffffff : UInt64).toNat = 2 ^ 63 - 1 from rfl, Nat.and_two_pow_sub_one_eq_mod, show (0x7ff0000000000000 : UInt64).toNat = 9218868437227405312 from rfl]
  omega
