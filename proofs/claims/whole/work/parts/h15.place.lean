/-! Where a function stands costs something, too. -/
def laB : Tr → Int
  | .tag k (.nest _ _) => if k = 12 then 2 else 0
  | _ => 0
/-- brackets round functions; LET, REC, IF -/
def pxW : Tr → Int
  | .tag k (.nest _ (.append A (.append B _))) => if k = 8 then laB A else if k = 9 ∨ k = 10 ∨ k = 11 then laB A + laB B else if k = 13 ∨ k = 14 ∨ k = 15 then 5 else 0
  | _ => 0
/-- choices, patterns, places of functions -/
def xxW (N : Tr) : Int := ((kI 16 N + kI 16 N) + p17 N) + pxW N
section PLC
variable {S T A B C : Tr} {k : Nat} {z : Int}
theorem laB_ge {X : Tr} : 0 ≤ laB X := by
  unfold laB
  split
  · split <;> decide
  · decide
theorem pxW_ge : ∀ N, 0 ≤ pxW N := by
  intro N
  unfold pxW
  split
  · next k z A B t =>
    have := laB_ge (X := A)
    have := laB_ge (X := B)
    split
    · omega
    · split
      · omega
      · split <;> omega
  · decide
theorem xxW_ge : ∀ N, 0 ≤ xxW N := by
  intro N
  have := kI_ge (j := 16) N
  have := p17_ge N
  have := pxW_ge N
  show 0 ≤ ((kI 16 N + kI 16 N) + p17 N) + pxW N
  omega
theorem brk_la {l : Int} {X : Tr} (h : 1 ≤ l) : laB X ≤ brk l X := by
  have b := brk_ge (l := l) (T := X)
  unfold laB
  split
  · next k y f =>
    split
    · next hk =>
      subst hk
      have e : prc (.tag 12 (.nest y f)) = 0 := rfl
      unfold brk
      rw [e, if_pos (by omega)]
      omega
    · exact b
  · exact b
theorem lf_1 {z : Int} : 1 ≤ lf9 z := by unfold lf9; split <;> decide
theorem rt_1 {z : Int} : 1 ≤ rt9 z := by unfold rt9; split <;> (try split) <;> decide
/-- the price in parts, places too -/
theorem own_px : sumW (fun N => ((kI 10 N + kI 10 N) + kI 11 N) + (((kI 12 N + kI 12 N) + kI 12 N) + xxW N)) T ≤ sumW ownP T := by
  refine sw_le2 (fun k z A B C => ?_)
  have b1 := fun l (X : Tr) => brk_ge (l := l) (T := X)
  have b2 := fun l (X : Tr) (h : 1 ≤ l) => brk_la (l := l) (X := X) h
  have e : ∀ j, kI j (nd k z A B C) = if k = j then 1 else 0 := fun _ => rfl
  have e2 : p17 (nd k z A B C) = if k = 17 then rpl A + 3 else 0 := rfl
  have e3 : pxW (nd k z A B C) = if k = 8 then laB A else if k = 9 ∨ k = 10 ∨ k = 11 then laB A + laB B else if k = 13 ∨ k = 14 ∨ k = 15 then 5 else 0 := rfl
  have e4 : xxW (nd k z A B C) = ((kI 16 (nd k z A B C) + kI 16 (nd k z A B C)) + p17 (nd k z A B C)) + pxW (nd k z A B C) := rfl
  show ((kI 10 (nd k z A B C) + kI 10 (nd k z A B C)) + kI 11 (nd k z A B C)) + (((kI 12 (nd k z A B C) + kI 12 (nd k z A B C)) + kI 12 (nd k z A B C)) + xxW (nd k z A B C)) ≤ ownP (nd k z A B C)
  rw [e4, e, e, e, e, e2, e3]
  have r := rpl_ge0 (P := A)
  by_cases q : k ≤ 17 ∧ 8 ≤ k
  · have q : k = 8 ∨ k = 9 ∨ k = 10 ∨ k = 11 ∨ k = 12 ∨ k = 13 ∨ k = 14 ∨ k = 15 ∨ k = 16 ∨ k = 17 := by omega
    rcases q with rfl | rfl | rfl | rfl | rfl | rfl | rfl | rfl | rfl | rfl
    · have := b2 6 A (by decide)
      show _ ≤ 1 + brk 6 A
      simp; omega
    · have := b2 (lf9 z) A lf_1
      have := b2 (rt9 z) B rt_1
      show _ ≤ 2 + brk (lf9 z) A + brk (rt9 z) B
      simp; omega
    · have := b2 2 A (by decide)
      have := b2 1 B (by decide)
      show _ ≤ 2 + brk 2 A + brk 1 B
      simp; omega
    · have := b2 5 A (by decide)
      have := b2 6 B (by decide)
      show _ ≤ 1 + brk 5 A + brk 6 B
      simp; omega
    · show _ ≤ (3 : Int)
      simp
    · show _ ≤ (5 : Int)
      simp
    · show _ ≤ (5 : Int)
      simp
    · show _ ≤ (5 : Int)
      simp
    · show _ ≤ (2 : Int)
      simp
    · show _ ≤ rpl A + 3
      simp
  · have : 0 ≤ ownP (nd k z A B C) := by
      have c1 := b1 6 A
      have c2 := b1 (lf9 z) A
      have c3 := b1 (rt9 z) B
      have c4 := b1 2 A
      have c5 := b1 1 B
      have c6 := b1 5 A
      have c7 := b1 6 B
      unfold nd ownP
      simp only []
      split <;> omega
    rw [if_neg (by omega), if_neg (by omega), if_neg (by omega), if_neg (by omega), if_neg (by omega), if_neg (by omega), if_neg (by omega), if_neg (by omega)]
    omega
theorem wf_k (h : wf (nd k z A B C)) : (k ≤ 5 ∧ A = nl ∧ B = nl ∧ C = nl) ∨ (8 ≤ k ∧ k ≤ 17 ∧ (k ≤ 11 → C = nl) ∧ (k = 8 → B = nl)) := by
  unfold nd wf at h
  split at h <;> first
    | exact h.elim
    | exact Or.inl ⟨by decide, h.2.1, h.2.2.1, h.2.2.2⟩
    | exact Or.inr ⟨by decide, by decide, fun _ => h.2.2.2.2, fun _ => h.2.2.2.1⟩
    | exact Or.inr ⟨by decide, by decide, fun _ => h.2.2.2.2.2, fun e => by cases e⟩
    | exact Or.inr ⟨by decide, by decide, fun e => absurd e (by decide), fun e => by cases e⟩
/-- a function that isn't the whole: its place, or that of the functions around it -/
theorem plc : ∀ {T : Tr}, bo S T → wf T ∨ T = nl → laB T = 2 ∨ sumW xxW S + 2 ≤ sumW xxW T := by
  intro T
  fun_induction bo S T with
  | case1 k z A B C i1 i2 i3 =>
    intro h w
    rcases w with w | w
    · obtain ⟨a, b, c⟩ := wf_ch (k := k) (z := z) (A := A) (B := B) (C := C) w
      by_cases hk : k = 12
      · subst hk; exact Or.inl rfl
      right
      have e : sumW xxW (nd k z A B C) = xxW (nd k z A B C) + ((if k = 17 then 0 else sumW xxW A) + (sumW xxW B + sumW xxW C)) := rfl
      have g0 := xxW_ge (nd k z A B C)
      have g1 := sw_ge xxW_ge (T := A)
      have g2 := sw_ge xxW_ge (T := B)
      have g3 := sw_ge xxW_ge (T := C)
      have e3 : pxW (nd k z A B C) = if k = 8 then laB A else if k = 9 ∨ k = 10 ∨ k = 11 then laB A + laB B else if k = 13 ∨ k = 14 ∨ k = 15 then 5 else 0 := rfl
      have e4 : xxW (nd k z A B C) = (((if k = 16 then 1 else 0) + (if k = 16 then 1 else 0)) + (if k = 17 then rpl A + 3 else 0)) + pxW (nd k z A B C) := rfl
      have la := laB_ge (X := A)
      have lb := laB_ge (X := B)
      have r := rpl_ge0 (P := A)
      have sb : ∀ {X : Tr}, bo S X → sumW xxW S ≤ sumW xxW X := fun {X} h => by
        obtain ⟨x, y, u, q⟩ := sw_bo xxW_ge h
        have := xxW_ge (nd 12 x S y u)
        omega
      show sumW xxW S + 2 ≤ sumW xxW (nd k z A B C)
      rw [e]
      rcases wf_k (k := k) (z := z) (A := A) (B := B) (C := C) w with ⟨q, rfl, rfl, rfl⟩ | ⟨q1, q2, q3, q4⟩
      · rcases h with ⟨x, -⟩ | ⟨-, h⟩ | h | h
        · exact absurd x hk
        · exact h.elim
        · exact h.elim
        · exact h.elim
      · rcases h with ⟨x, -⟩ | ⟨q, h⟩ | h | h
        · exact absurd x hk
        · rw [if_neg q]
          rcases i1 h (a q) with x | x
          · have := sb h
            have : 2 ≤ xxW (nd k z A B C) := by rw [e4, e3]; split <;> split <;> (try split) <;> (try split) <;> (try split) <;> omega
            omega
          · omega
        · rcases i2 h b with x | x
          · have := sb h
            have : k ≠ 8 := fun q => by
              have := q4 q
              subst this
              exact h.elim
            have : 2 ≤ xxW (nd k z A B C) := by rw [e4, e3]; split <;> split <;> (try split) <;> (try split) <;> (try split) <;> omega
            split <;> omega
          · split <;> omega
        · rcases i3 h c with x | x
          · have := sb h
            have : ¬ k ≤ 11 := fun q => by
              have := q3 q
              subst this
              exact h.elim
            have : 2 ≤ xxW (nd k z A B C) := by rw [e4, e3]; split <;> split <;> (try split) <;> (try split) <;> (try split) <;> omega
            split <;> omega
          · split <;> omega
    · cases w
  | case2 => intro h; exact h.elim
end PLC
