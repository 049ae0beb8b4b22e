/-! The reals of a run are finite numbers. -/
section RLS
theorem fin_of {a : UInt64} (h : FP.Core.dIsNaN a = false) (h1 : FP.Core.val64 a ≠ .inf false) (h2 : FP.Core.val64 a ≠ .inf true) : FP.Core.DFin a := by
  cases e : FP.Core.val64 a with
  | nan => exact absurd e ((FP.Core.notNaN_iff a).mp h)
  | inf s =>
    cases s with
    | false => exact absurd e h1
    | true => exact absurd e h2
  | fin s c q => exact ⟨s, c, q, e⟩
theorem i2d_fin (x : Int32) : FP.Core.DFin (FP.i2d x) := by
  have h := FP.Core.i2d_int x
  unfold FP.Core.DInt at h
  cases e : FP.Core.val64 (FP.i2d x) with
  | nan => rw [show FP.Core.val64 (FP.i2d x) = .nan from e] at h; exact h.elim
  | inf s => rw [show FP.Core.val64 (FP.i2d x) = .inf s from e] at h; exact h.elim
  | fin s c q => exact ⟨s, c, q, e⟩
theorem big_lt {a : UInt64} (h : FP.Core.val64 a = .inf false) : dLt big9 a = true := by
  obtain ⟨s, c, q, e⟩ := i2d_fin 1000000000
  have : FP.dcmp big9 a = some .lt := by
    show FP.Core.order (FP.Core.val64 big9) (FP.Core.val64 a) = some .lt
    rw [show FP.Core.val64 big9 = .fin s c q from e, h]
    rfl
  unfold dLt
  rw [this]; rfl
theorem lt_big {a : UInt64} (h : FP.Core.val64 a = .inf true) : dLt a (FP.dneg big9) = true := by
  have hb : ∃ s c q, FP.Core.val64 (FP.dneg big9) = .fin s c q := (FP.Core.fin_bits _).mpr (by decide +kernel)
  obtain ⟨s, c, q, e⟩ := hb
  have : FP.dcmp a (FP.dneg big9) = some .lt := by
    show FP.Core.order (FP.Core.val64 a) (FP.Core.val64 (FP.dneg big9)) = some .lt
    rw [e, h]
    rfl
  unfold dLt
  rw [this]; rfl
theorem zero_eq {b : UInt64} (h : FP.Core.DZero b) : FP.dcmp b 0 = some .eq := by
  obtain ⟨s, q, h⟩ := h
  have h0 : ∃ t r, FP.Core.val64 0 = .fin t 0 r := ⟨false, -1074, by decide +kernel⟩
  obtain ⟨t, r, h0⟩ := h0
  show FP.Core.order (FP.Core.val64 b) (FP.Core.val64 0) = some .eq
  rw [h, h0]
  have e : ∀ (u : Bool) (x y : Int), FP.Core.signed u (FP.Core.inUnits 0 x y) = 0 := fun u x y => by
    unfold FP.Core.inUnits FP.Core.signed
    cases u <;> simp
  show some (compare (FP.Core.signed s (FP.Core.inUnits 0 q (min q r))) (FP.Core.signed t (FP.Core.inUnits 0 r (min q r)))) = some .eq
  rw [e, e]; rfl
theorem op_fin {z : Int} {a b : UInt64} (ha : FP.Core.DFin a) (hb : FP.Core.DFin b) (hz : opZ z) (h1 : 128 ≤ z) (h2 : z ≠ 188) (h0 : ¬ (z = 175 ∧ FP.dcmp b 0 = some .eq)) (h : ¬ (dLt big9 (opD z a b) = true ∨ dLt (opD z a b) (FP.dneg big9) = true)) : FP.Core.DFin (opD z a b) := by
  have nn : FP.Core.dIsNaN (opD z a b) = false := by
    unfold opD
    by_cases q1 : z = 171
    · rw [if_pos q1]; exact FP.Core.dadd_out ha.notNaN hb
    rw [if_neg q1]
    by_cases q2 : z = 173
    · rw [if_pos q2]; exact FP.Core.dsub_out ha.notNaN hb
    rw [if_neg q2]
    by_cases q3 : z = 170
    · rw [if_pos q3]; exact FP.Core.dmul_out ha hb
    rw [if_neg q3]
    have q4 : z = 175 := by unfold opZ at hz; omega
    exact FP.Core.ddiv_out ha.notNaN hb (fun w => h0 ⟨q4, zero_eq w⟩)
  exact fin_of nn (fun e => h (Or.inl (big_lt e))) (fun e => h (Or.inr (lt_big e)))
end RLS
