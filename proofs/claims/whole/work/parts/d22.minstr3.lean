/-! The model's operations: ~ and those with two parts. -/
/-- the type that an operation asks, that it gives -/
def oqN (x : Int) : Int := if x = 126 then 2 else if x ≤ 128 then 0 else 2
def orN (x : Int) : Int := if x = 61 then 1 else if zRem x 128 ≠ 60 then oqN x else 1
section MN3
variable {σ σ' m m4 m5 m8 : Mem} {d : Nat} {p k x n : Int}
theorem r_opd (hx : rg x) : Rn (d + 4) yMo_operand [.ref 58, vi x] σ (some (oqN x)) σ := by
  refine M_Mo_operand hx ?_
  unfold B_Mo_operand oqN
  by_cases a : x = 126
  · rw [if_pos a, if_pos a]; exact ⟨rfl, rfl⟩
  · rw [if_neg a, if_neg a]
    by_cases b : x ≤ 128
    · rw [if_pos b, if_pos b]; exact ⟨rfl, rfl⟩
    · rw [if_neg b, if_neg b]; exact ⟨rfl, rfl⟩
theorem oqN_r : 0 ≤ oqN x ∧ oqN x ≤ 2 := by unfold oqN; split <;> (try split) <;> decide
theorem orN_r : 0 ≤ orN x ∧ orN x ≤ 2 := by
  have := oqN_r (x := x)
  unfold orN
  split
  · decide
  · split
    · exact this
    · decide
theorem o_63 (hx : rg x) (h1 : 0 ≤ σ 58 37 ∧ σ 58 37 < 120) (h2 : 0 ≤ σ 58 43 ∧ σ 58 43 < 260) : B_Mo_operation_63 (d + 9) x σ none (puM σ (orN x)) := by
  have q := oqN_r (x := x)
  have P := fun y (hy : 0 ≤ y ∧ y ≤ 2) => r_push (d := d + 8) (σ := σ) (x := y) ⟨by omega, by omega⟩ h1 h2
  unfold B_Mo_operation_63 orN
  by_cases a : x = 61
  · rw [if_pos a, if_pos a]
    exact ⟨_, P 1 (by decide), rfl, rfl⟩
  · rw [if_neg a, if_neg a]
    by_cases b : zRem x 128 ≠ 60
    · rw [if_pos b, if_pos b]
      exact ⟨_, _, r_opd (d := d + 8) hx, _, P _ q, rfl, rfl⟩
    · rw [if_neg b, if_neg b]
      exact ⟨_, P 1 (by decide), rfl, rfl⟩
/-- ~ -/
theorem o_neg (r : rmS σ) (ht : 1 ≤ σ 58 37) (U : Rn (d + 12) yMo_unify [.ref 58, vi (σ 83 (σ 58 37 - 1)), vi 2] (mup σ 58 37 (σ 58 37 - 1)) none m4) (F : FU (mup σ 58 37 (σ 58 37 - 1)) m4) : Rn (d + 13) yMo_operation [.ref 58, vi 126] σ none (puM m4 2) := by
  obtain ⟨r1, r2, r3⟩ := r
  have f37 : m4 58 37 = σ 58 37 - 1 := (F.2 37 (by decide) (by decide) (by decide)).trans mup_eq
  have f43 : m4 58 43 = σ 58 43 := (F.2 43 (by decide) (by decide) (by decide)).trans (mup_nk (by decide))
  refine M_Mo_operation (d := d + 9) (rgk rfl) ?_
  unfold B_Mo_operation
  refine ⟨_, _, r_pop (d := d + 8) ⟨ht, by omega⟩, ?_⟩
  rw [if_pos (by decide)]
  refine ⟨_, _, r_opd (d := d + 8) (rgk rfl), m4, U, ?_⟩
  rw [if_pos rfl]
  have := o_63 (d := d) (x := 126) (σ := m4) (rgk rfl) (by rw [f37]; omega) (by rw [f43]; exact r2)
  exact this
/-- two parts, two demands -/
theorem o_op (hx : rg x) (h44 : x ≠ 44) (h126 : x ≠ 126) (r : rmS σ) (ht : 2 ≤ σ 58 37) (U : Rn (d + 12) yMo_unify [.ref 58, vi (σ 83 (σ 58 37 - 1)), vi (oqN x)] (mup σ 58 37 (σ 58 37 - 1)) none m4) (F : FU (mup σ 58 37 (σ 58 37 - 1)) m4) (U2 : Rn (d + 12) yMo_unify [.ref 58, vi (σ 83 (σ 58 37 - 2)), vi (oqN x)] (mup m4 58 37 (σ 58 37 - 2)) none m8) (F2 : FU (mup m4 58 37 (σ 58 37 - 2)) m8) : Rn (d + 13) yMo_operation [.ref 58, vi x] σ none (puM m8 (orN x)) := by
  obtain ⟨r1, r2, r3⟩ := r
  have f37 : m4 58 37 = σ 58 37 - 1 := (F.2 37 (by decide) (by decide) (by decide)).trans mup_eq
  have f43 : m4 58 43 = σ 58 43 := (F.2 43 (by decide) (by decide) (by decide)).trans (mup_nk (by decide))
  have f83 : m4 83 = σ 83 := (F.1 83 (by decide) (by decide) (by decide) (by decide)).trans (mup_obj (by decide))
  have g37 : m8 58 37 = σ 58 37 - 2 := (F2.2 37 (by decide) (by decide) (by decide)).trans mup_eq
  have g43 : m8 58 43 = σ 58 43 := ((F2.2 43 (by decide) (by decide) (by decide)).trans (mup_nk (by decide))).trans f43
  have R3 := r_pop (σ := m4) (d := d + 8) (by rw [f37]; omega)
  rw [f37, f83, show σ 58 37 - 1 - 1 = σ 58 37 - 2 by omega] at R3
  refine M_Mo_operation (d := d + 9) hx ?_
  unfold B_Mo_operation
  refine ⟨_, _, r_pop (d := d + 8) ⟨by omega, by omega⟩, ?_⟩
  rw [if_pos h44]
  refine ⟨_, _, r_opd (d := d + 8) hx, m4, U, ?_⟩
  rw [if_neg h126]
  exact ⟨_, _, R3, _, _, r_opd (d := d + 8) hx, m8, U2, o_63 (d := d) (x := x) (σ := m8) hx (by rw [g37]; omega) (by rw [g43]; exact r2)⟩
/-- what they ask and give, in the theory's words -/
theorem oq_T (h : x = 43 ∨ x = 45 ∨ x = 42 ∨ x = 47 ∨ x = 60 ∨ x = 61 ∨ x = 171 ∨ x = 173 ∨ x = 170 ∨ x = 175 ∨ x = 188) : opdT x = gK (oqN x + 1) ∧ opT x = gK (orN x + 1) := by
  rcases h with h | h | h | h | h | h | h | h | h | h | h <;> rw [h] <;> exact ⟨rfl, rfl⟩
end MN3
