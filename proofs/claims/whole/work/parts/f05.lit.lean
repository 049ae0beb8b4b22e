/-! A literal's real is finite. -/
section LIT
theorem k_1000 : FP.Core.val64 (FP.i2d 1000) = .fin false 8796093022208000 (-43) := by decide +kernel
theorem lead_le {c d : Nat} (hc : c < 2 ^ 53) (h0 : c ≠ 0) : FP.Core.leading c d ≤ 52 := by
  have h := (Nat.log2_lt h0).mpr hc
  unfold FP.Core.leading
  dsimp only
  split <;> omega
theorem rr_fin {s : Bool} {c d : Nat} {e : Int} (hc : c < 2 ^ 53) (he : e ≤ 100) : ∃ t m q, FP.Core.roundRatio FP.Core.b64 s c d e = .fin t m q := by
  unfold FP.Core.roundRatio
  split
  · exact ⟨_, _, _, rfl⟩
  · next h0 =>
    have l := lead_le (d := d) hc h0
    have q1 : FP.Core.quantum FP.Core.b64 c d e ≤ 150 := by
      unfold FP.Core.quantum
      have a : FP.Core.b64.qmin = -1074 := by decide
      have b : FP.Core.b64.p = 53 := rfl
      rw [a, b]
      omega
    have a : FP.Core.b64.qmax = 971 := by decide
    unfold FP.Core.roundAt FP.Core.settle FP.Core.bound
    rw [a]
    split
    · rw [if_pos (by omega)]; exact ⟨_, _, _, rfl⟩
    · rw [if_pos (by omega)]; exact ⟨_, _, _, rfl⟩
theorem lit_fin {z : Int} (h0 : 0 ≤ z) (h1 : z ≤ 9999999) : FP.Core.DFin (FP.ddiv (FP.i2d (Int32.ofInt z)) (FP.i2d 1000)) := by
  obtain ⟨s, c, q, e⟩ := i2d_fin (Int32.ofInt z)
  have W := FP.Core.i2d_int (Int32.ofInt z)
  unfold FP.Core.DInt at W
  rw [show FP.Core.val64 (FP.Core.i2d (Int32.ofInt z)) = .fin s c q from e, Int32.toInt_ofInt_of_le (by omega) (by omega)] at W
  have F := FP.Core.val64_fits (FP.i2d (Int32.ofInt z))
  rw [e] at F
  obtain ⟨f1, f2, f3, f4⟩ := F
  have f1 : c < 2 ^ 53 := f1
  have hq : q ≤ 0 := by
    by_cases w : q ≤ 0
    · exact w
    · have f4 : FP.Core.b64.tails ≤ c := by
        rcases f4 with f4 | f4
        · have : FP.Core.b64.qmin = -1074 := by decide
          omega
        · exact f4
      have t : FP.Core.b64.tails = 4503599627370496 := by decide
      have W : FP.Core.signed s (c * 2 ^ q.toNat) = z * ((2 ^ (-q).toNat : Nat) : Int) := W
      rw [show (-q).toNat = 0 by omega] at W
      have p : 1 ≤ 2 ^ q.toNat := Nat.one_le_two_pow
      have p2 : c * 1 ≤ c * 2 ^ q.toNat := Nat.mul_le_mul_left c p
      generalize c * 2 ^ q.toNat = m at W p2
      unfold FP.Core.signed at W
      cases s <;> simp at W <;> omega
  obtain ⟨t, m, r, g⟩ := rr_fin (s := (s != false)) (c := c) (d := 8796093022208000) (e := q - (-43)) f1 (by omega)
  have v : FP.Core.val64 (FP.ddiv (FP.i2d (Int32.ofInt z)) (FP.i2d 1000)) = FP.Core.quotient FP.Core.b64 (FP.Core.val64 (FP.i2d (Int32.ofInt z))) (FP.Core.val64 (FP.i2d 1000)) := FP.Core.val64_ddiv _ _
  rw [e, k_1000] at v
  have v2 : FP.Core.quotient FP.Core.b64 (.fin s c q) (.fin false 8796093022208000 (-43)) = FP.Core.roundRatio FP.Core.b64 (s != false) c 8796093022208000 (q - (-43)) := by unfold FP.Core.quotient; exact if_neg (by decide)
  rw [v2, g] at v
  exact ⟨t, m, r, v⟩
/-- what the reals are: finite numbers -/
theorem rcl : RCl FP.Core.DFin := by
  refine ⟨fun z h0 h1 => lit_fin h0 h1, fun z _ => i2d_fin _, fun b hb => ?_, fun z a b ha hb hz h1 h2 h0 h => op_fin ha hb hz h1 h2 h0 h⟩
  obtain ⟨s, c, q, e⟩ := hb
  have v : FP.Core.val64 (FP.dneg b) = FP.Core.negate (FP.Core.val64 b) := FP.val64_dneg b
  rw [e] at v
  exact ⟨!s, c, q, v⟩
end LIT
