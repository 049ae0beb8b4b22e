/-! D2: where no branch of 17 names or more is ever taken in a function. -/
/-- as ndk, but branches of 17 names or more don't count -/
def ndq : Tr → Int → Int
  | .tag j (.nest z (.append A (.append B C))), k => match j with
    | 8 => ndq A (max 0 (k - 17))
    | 9 => ndq A (ndq B (max 0 (k - 17)))
    | 10 => ndq A (ndq B (max 0 (k - 17)))
    | 11 => ndq A (ndq B k)
    | 13 => ndq A (max 0 (ndq B k - 15))
    | 14 => ndq A (max 0 (ndq B k - 15))
    | 15 => ndq A (max 0 (max (ndq B k) (ndq C k) - 17))
    | 16 => ndq A (ndq B k)
    | 17 => max (max 0 (if 17 ≤ z.toNat then 0 else 2 * (z.toNat : Int) - 17 + ndq B k)) (ndq C k)
    | _ => k
  | _, _ => 0
def ptQ : Nat × Tr → Int → Int
  | (0, T), k => ndq T k
  | (1, .tag j (.nest _ (.append _ (.append B C)))), k => match j with
    | 8 => max 0 (k - 17)
    | 9 => max 0 (k - 17)
    | 10 => max 0 (k - 17)
    | 13 => max 0 (ndq B k - 15)
    | 14 => max 0 (ndq B k - 15)
    | 15 => max 0 (max (ndq B k) (ndq C k) - 17)
    | 16 => ndq B k
    | _ => k
  | _, k => k
def wQ : Wl → Int
  | [] => 0
  | i :: w => ptQ i (wQ w)
/-- the last caller is the program itself -/
def pot : Wl → List (Wl × En) → Int
  | w, [] => wN w
  | w, f :: fs => wQ w + pot f.1 fs
/-- in functions no branch of 17 names or more is taken -/
def nbF (T : Tr) : Prop := ∀ {m : Nat} {st st' : AS} {n g : Int} {b : Nat}, Run T m st n g → spA st = some (.inl (st', b)) → st.2.2.2 ≠ [] → b ≤ 16
theorem ndq_ge : ∀ {T : Tr} {k : Int}, 0 ≤ k → 0 ≤ ndq T k := by
  intro T k
  fun_induction ndq T k with
  | case1 z A B C k i1 => intro h; exact i1 (by omega)
  | case2 z A B C k i1 i2 => intro h; exact i2 (i1 (by omega))
  | case3 z A B C k i1 i2 => intro h; exact i2 (i1 (by omega))
  | case4 z A B C k i1 i2 => intro h; exact i2 (i1 h)
  | case5 z A B C k i1 i2 => intro h; exact i2 (by omega)
  | case6 z A B C k i1 i2 => intro h; exact i2 (by omega)
  | case7 z A B C k i1 i2 i3 => intro h; exact i3 (by omega)
  | case8 z A B C k i1 i2 => intro h; exact i2 (i1 h)
  | case9 z A B C k i1 i2 => intro h; omega
  | case10 => intro h; exact h
  | case11 => intro h; exact Int.le_refl _
theorem ptQ_ge : ∀ {i : Nat × Tr} {k : Int}, 0 ≤ k → 0 ≤ ptQ i k := by
  intro i k h
  unfold ptQ
  split
  · exact ndq_ge h
  · split
    · omega
    · omega
    · omega
    · omega
    · omega
    · omega
    · exact ndq_ge h
    · exact h
  · exact h
theorem wQ_ge : ∀ {w : Wl}, 0 ≤ wQ w
  | [] => Int.le_refl _
  | _ :: _ => ptQ_ge wQ_ge
theorem pot_ge : ∀ {w : Wl} {fs : List (Wl × En)}, 0 ≤ pot w fs
  | w, [] => wN_ge
  | w, f :: fs => by
    have := wQ_ge (w := w)
    have := pot_ge (w := f.1) (fs := fs)
    show 0 ≤ wQ w + pot f.1 fs
    omega
theorem br_q {k : Int} : ∀ {B : Tr} {v : Va} {ρ : En} {E br : Tr} {ρ' : En}, brF B v ρ = some (E, br, ρ') → numB br ≤ 16 → 2 * (numB br : Int) - 17 + ndq E k ≤ ndq B k := by
  intro B v ρ
  fun_induction brF B v ρ with
  | case1 z P E C v ρ ρ1 h =>
    intro E' br ρ' e hb
    cases e
    have e1 : ndq (nd 17 z P E C) k = max (max 0 (if 17 ≤ z.toNat then 0 else 2 * (z.toNat : Int) - 17 + ndq E k)) (ndq C k) := rfl
    have e2 : numB (nd 17 z P E C) = z.toNat := rfl
    rw [e2] at hb
    rw [if_neg (by omega)] at e1
    show 2 * (numB (nd 17 z P E C) : Int) - 17 + ndq E k ≤ ndq (nd 17 z P E C) k
    rw [e1, e2]; omega
  | case2 z P E C v ρ h ih =>
    intro E' br ρ' e hb
    have r := ih e hb
    have e1 : ndq (nd 17 z P E C) k = max (max 0 (if 17 ≤ z.toNat then 0 else 2 * (z.toNat : Int) - 17 + ndq E k)) (ndq C k) := rfl
    show 2 * (numB br : Int) - 17 + ndq E' k ≤ ndq (nd 17 z P E C) k
    rw [e1]; omega
  | case3 => intro E' br ρ' e; cases e
