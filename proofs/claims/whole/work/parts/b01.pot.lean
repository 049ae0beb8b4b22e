/-! How many names a program binds: a potential. -/
/-- what is true of each function's body, wherever it stands -/
def allL (Q : Tr → Prop) : Std.Format → Prop
  | .tag k f => (k = 12 → ∀ z A R, f = .nest z (.append A R) → Q A) ∧ allL Q f
  | .nest _ f => allL Q f
  | .append a b => allL Q a ∧ allL Q b
  | .group f _ => allL Q f
  | _ => True
/-- n moves: the steps, and how many names were bound -/
def Run (T : Tr) : Nat → AS → Int → Int → Prop
  | 0, st, n, g => st = ([(0, T)], eN, [], []) ∧ n = 0 ∧ g = 0
  | m + 1, st, n, g => ∃ s0 n0 g0, Run T m s0 n0 g0 ∧ ((mvA s0 = some st ∧ n = n0 ∧ g = g0) ∨ ∃ b : Nat, spA s0 = some (.inl (st, b)) ∧ n = n0 + 1 ∧ g = g0 + b)
/-- the most that a path can bind beyond 17 half names a step; k: what comes behind -/
def ndk : Tr → Int → Int
  | .tag j (.nest z (.append A (.append B C))), k => match j with
    | 8 => ndk A (max 0 (k - 17))
    | 9 => ndk A (ndk B (max 0 (k - 17)))
    | 10 => ndk A (ndk B (max 0 (k - 17)))
    | 11 => ndk A (ndk B k)
    | 13 => ndk A (max 0 (ndk B k - 15))
    | 14 => ndk A (max 0 (ndk B k - 15))
    | 15 => ndk A (max 0 (max (ndk B k) (ndk C k) - 17))
    | 16 => ndk A (ndk B k)
    | 17 => max (max 0 (2 * (z.toNat : Int) - 17 + ndk B k)) (ndk C k)
    | _ => k
  | _, _ => 0
def ptI : Nat × Tr → Int → Int
  | (0, T), k => ndk T k
  | (1, .tag j (.nest _ (.append _ (.append B C)))), k => match j with
    | 8 => max 0 (k - 17)
    | 9 => max 0 (k - 17)
    | 10 => max 0 (k - 17)
    | 13 => max 0 (ndk B k - 15)
    | 14 => max 0 (ndk B k - 15)
    | 15 => max 0 (max (ndk B k) (ndk C k) - 17)
    | 16 => ndk B k
    | _ => k
  | _, k => k
def wN : Wl → Int
  | [] => 0
  | i :: w => ptI i (wN w)
def fN : List (Wl × En) → Int
  | [] => 0
  | f :: fs => wN f.1 + fN fs
theorem ndk_ge : ∀ {T : Tr} {k : Int}, 0 ≤ k → 0 ≤ ndk T k := by
  intro T k
  fun_induction ndk T k with
  | case1 z A B C k i1 => intro h; exact i1 (by omega)
  | case2 z A B C k i1 i2 => intro h; exact i2 (i1 (by omega))
  | case3 z A B C k i1 i2 => intro h; exact i2 (i1 (by omega))
  | case4 z A B C k i1 i2 => intro h; exact i2 (i1 h)
  | case5 z A B C k i1 i2 => intro h; exact i2 (by omega)
  | case6 z A B C k i1 i2 => intro h; exact i2 (by omega)
  | case7 z A B C k i1 i2 i3 => intro h; exact i3 (by omega)
  | case8 z A B C k i1 i2 => intro h; exact i2 (i1 h)
  | case9 z A B C k i1 i2 => intro h; omega
  | case10 => intro h; exact h
  | case11 => intro h; exact Int.le_refl _
theorem ptI_ge : ∀ {i : Nat × Tr} {k : Int}, 0 ≤ k → 0 ≤ ptI i k := by
  intro i k h
  unfold ptI
  split
  · exact ndk_ge h
  · split
    · omega
    · omega
    · omega
    · omega
    · omega
    · omega
    · exact ndk_ge h
    · exact h
  · exact h
theorem wN_ge : ∀ {w : Wl}, 0 ≤ wN w
  | [] => Int.le_refl _
  | _ :: _ => ptI_ge wN_ge
theorem fN_ge : ∀ {fs : List (Wl × En)}, 0 ≤ fN fs
  | [] => Int.le_refl _
  | f :: fs => by
    have := wN_ge (w := f.1)
    have := fN_ge (fs := fs)
    show 0 ≤ wN f.1 + fN fs
    omega
section POT
variable {Q : Tr → Prop}
def allS (Q : Tr → Prop) (st : AS) : Prop := (∀ i ∈ st.1, allL Q i.2) ∧ allL Q st.2.1 ∧ (∀ v ∈ st.2.2.1, allL Q v) ∧ ∀ f ∈ st.2.2.2, (∀ i ∈ f.1, allL Q i.2) ∧ allL Q f.2
theorem allL_nd {k : Nat} {z : Int} {A B C : Tr} (h : allL Q (nd k z A B C)) : (k = 12 → Q A) ∧ allL Q A ∧ allL Q B ∧ allL Q C := ⟨fun e => h.1 e _ _ _ rfl, h.2.1, h.2.2.1, h.2.2.2⟩
theorem allL_lkp {z : Int} : ∀ {ρ : En}, allL Q ρ → allL Q (lkp z ρ) := by
  intro ρ
  fun_induction lkp z ρ with
  | case1 => intro c; exact c.1
  | case2 => rename_i ih; intro c; exact ih c.2
  | case3 => intro _; trivial
theorem allL_drp : ∀ {n : Nat} {ρ : En}, allL Q ρ → allL Q (drp n ρ) := by
  intro n ρ
  fun_induction drp n ρ with
  | case1 => intro c; exact c
  | case2 => rename_i ih; intro c; exact ih c.2
  | case3 => intro c; exact c
theorem allL_fit : ∀ {P : Tr} {v : Va} {ρ ρ' : En}, fitE P v ρ = some ρ' → allL Q v → allL Q ρ → allL Q ρ' := by
  intro P v ρ
  fun_induction fitE P v ρ with
  | case1 | case3 | case5 => intro ρ' h _ c; cases h; exact c
  | case2 | case4 | case6 => intro ρ' h; cases h
  | case7 => intro ρ' h d c; cases h; exact ⟨d, c⟩
  | case8 => intro ρ' h _ c; cases h; exact c
  | case9 =>
    rename_i h1 i1 i2
    intro ρ' h d c
    exact i2 h d.2 (i1 h1 d.1 c)
  | case10 => intro ρ' h; cases h
  | case11 => intro ρ' h; cases h
  | case12 => intro ρ' h; cases h
  | case13 => intro ρ' h; cases h
/-- the branch that fits is one of them -/
theorem br_sp {k : Int} : ∀ {B : Tr} {v : Va} {ρ : En} {E br : Tr} {ρ' : En}, brF B v ρ = some (E, br, ρ') → allL Q B → allL Q v → allL Q ρ → allL Q E ∧ allL Q br ∧ allL Q ρ' ∧ 2 * (numB br : Int) - 17 + ndk E k ≤ ndk B k := by
  intro B v ρ
  fun_induction brF B v ρ with
  | case1 z P E C v ρ ρ1 h =>
    intro E' br ρ' e a b c
    cases e
    have d : allL Q (nd 17 z P E C) := a
    obtain ⟨-, d2, d3, d4⟩ := allL_nd d
    refine ⟨d3, d, allL_fit h b c, ?_⟩
    have : ndk (nd 17 z P E C) k = max (max 0 (2 * (z.toNat : Int) - 17 + ndk E k)) (ndk C k) := rfl
    have e2 : numB (nd 17 z P E C) = z.toNat := rfl
    show 2 * (numB (nd 17 z P E C) : Int) - 17 + ndk E k ≤ ndk (nd 17 z P E C) k
    rw [this, e2]; omega
  | case2 z P E C v ρ h ih =>
    intro E' br ρ' e a b c
    have d : allL Q (nd 17 z P E C) := a
    obtain ⟨-, d2, d3, d4⟩ := allL_nd d
    obtain ⟨r1, r2, r3, r4⟩ := ih e d4 b c
    refine ⟨r1, r2, r3, ?_⟩
    have : ndk (nd 17 z P E C) k = max (max 0 (2 * (z.toNat : Int) - 17 + ndk E k)) (ndk C k) := rfl
    show 2 * (numB br : Int) - 17 + ndk E' k ≤ ndk (nd 17 z P E C) k
    rw [this]; omega
  | case3 => intro E' br ρ' e; cases e
end POT
