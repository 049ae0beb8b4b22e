/-! Where no function that makes lists was bound, a big branch is never taken in a function (but for patterns of two to five brackets). -/
/-- as Run, as long as no big branch is taken and nothing that weighs is bound -/
def RunZ (w : Tr → Int) (T : Tr) : Nat → AS → Int → Prop
  | 0, st, e => st = ([(0, T)], eN, [], []) ∧ e = 0
  | m + 1, st, e => ∃ s0 e0, RunZ w T m s0 e0 ∧ ((mvA s0 = some st ∧ e = e0) ∨ ∃ b : Nat, (b ≤ 16 ∧ bzN w s0) ∧ spA s0 = some (.inl (st, b)) ∧ e = e0 + w (hdN s0))
/-- what a pattern costs -/
def p17 : Tr → Int
  | .tag k (.nest _ (.append A _)) => if k = 17 then rpl A + 3 else 0
  | _ => 0
section ZER
variable {w w' : Tr → Int} {S T : Tr}
theorem sw_str (hw : ∀ N, 0 ≤ w N) : ∀ {T : Tr}, str S T → sumW w S ≤ sumW w T := by
  intro T
  fun_induction str S T with
  | case1 k z A B C i1 i2 i3 =>
    intro h
    rcases h with e | ⟨hk, h⟩
    · rw [e]; exact Int.le_refl _
    · have e : sumW w (nd k z A B C) = w (nd k z A B C) + ((if k = 17 then 0 else sumW w A) + (sumW w B + sumW w C)) := rfl
      have := hw (nd k z A B C)
      have := sw_ge hw (T := A)
      have := sw_ge hw (T := B)
      have := sw_ge hw (T := C)
      show sumW w S ≤ sumW w (nd k z A B C)
      rw [e]
      rcases h with ⟨q, h⟩ | h | h
      · have := i1 h
        rw [if_neg q]; omega
      · have := i2 h
        split <;> omega
      · have := i3 h
        split <;> omega
  | case2 t hx => intro h; rw [h]; exact Int.le_refl _
theorem sw_bo (hw : ∀ N, 0 ≤ w N) : ∀ {T : Tr}, bo S T → ∃ z B C, w (nd 12 z S B C) + sumW w S ≤ sumW w T := by
  intro T
  fun_induction bo S T with
  | case1 k z A B C i1 i2 i3 =>
    intro h
    have e : sumW w (nd k z A B C) = w (nd k z A B C) + ((if k = 17 then 0 else sumW w A) + (sumW w B + sumW w C)) := rfl
    have := hw (nd k z A B C)
    have := sw_ge hw (T := A)
    have := sw_ge hw (T := B)
    have := sw_ge hw (T := C)
    show ∃ z' B' C', w (nd 12 z' S B' C') + sumW w S ≤ sumW w (nd k z A B C)
    rw [e]
    rcases h with ⟨hk, rfl⟩ | ⟨q, h⟩ | h | h
    · subst hk
      exact ⟨z, B, C, by rw [if_neg (by decide)]; omega⟩
    · obtain ⟨z', B', C', h⟩ := i1 h
      exact ⟨z', B', C', by rw [if_neg q]; omega⟩
    · obtain ⟨z', B', C', h⟩ := i2 h
      exact ⟨z', B', C', by split <;> omega⟩
    · obtain ⟨z', B', C', h⟩ := i3 h
      exact ⟨z', B', C', by split <;> omega⟩
  | case2 => intro h; exact h.elim
theorem sw_le2 (h : ∀ k z A B C, w (nd k z A B C) ≤ w' (nd k z A B C)) : ∀ {T : Tr}, sumW w T ≤ sumW w' T := by
  intro T
  fun_induction sumW w T with
  | case1 k z A B C iA iB iC =>
    have := h k z A B C
    show _ ≤ w' (nd k z A B C) + ((if k = 17 then 0 else sumW w' A) + (sumW w' B + sumW w' C))
    split <;> omega
  | case2 t hx =>
    unfold sumW
    split
    · exact (hx _ _ _ _ _ rfl).elim
    · exact Int.le_refl _
theorem fs_sw (hw : ∀ N, 0 ≤ w N) : ∀ {T : Tr}, fsW w T ≤ sumW w T := by
  intro T
  fun_induction fsW w T with
  | case1 k z A B C iA iB iC =>
    have := sw_ge hw (T := B)
    show _ ≤ w (nd k z A B C) + ((if k = 17 then 0 else sumW w A) + (sumW w B + sumW w C))
    split <;> split <;> omega
  | case2 t hx =>
    unfold sumW
    split
    · exact (hx _ _ _ _ _ rfl).elim
    · exact Int.le_refl _
theorem rpl_ge0 : ∀ {P : Tr}, 0 ≤ rpl P := by
  intro P
  fun_induction rpl P with
  | case1 => split <;> omega
  | case2 => decide
  | case3 => decide
  | case4 => decide
theorem p17_ge : ∀ N, 0 ≤ p17 N := by
  intro N
  unfold p17
  split
  · next k z A t =>
    have := rpl_ge0 (P := A)
    split <;> omega
  · decide
theorem brk_ge {l : Int} {T : Tr} : 0 ≤ brk l T := by unfold brk; split <;> decide
/-- the price in parts -/
theorem own_ge : sumW (fun N => 2 * kI 10 N + kI 11 N + 3 * kI 12 N + 2 * kI 16 N + p17 N) T ≤ sumW ownP T := by
  refine sw_le2 (fun k z A B C => ?_)
  have b1 := fun l (X : Tr) => brk_ge (l := l) (T := X)
  have e : ∀ j, kI j (nd k z A B C) = if k = j then 1 else 0 := fun _ => rfl
  have e2 : p17 (nd k z A B C) = if k = 17 then rpl A + 3 else 0 := rfl
  show 2 * kI 10 (nd k z A B C) + kI 11 (nd k z A B C) + 3 * kI 12 (nd k z A B C) + 2 * kI 16 (nd k z A B C) + p17 (nd k z A B C) ≤ ownP (nd k z A B C)
  rw [e, e, e, e, e2]
  have go : ∀ j : Nat, k = j → ownP (nd k z A B C) = ownP (nd j z A B C) := fun j h => by rw [h]
  by_cases h10 : k = 10
  · subst h10
    have := b1 2 A
    have := b1 1 B
    show _ ≤ 2 + brk 2 A + brk 1 B
    rw [if_pos rfl, if_neg (by decide), if_neg (by decide), if_neg (by decide), if_neg (by decide)]; omega
  by_cases h11 : k = 11
  · subst h11
    have := b1 5 A
    have := b1 6 B
    show _ ≤ 1 + brk 5 A + brk 6 B
    rw [if_neg (by decide), if_pos rfl, if_neg (by decide), if_neg (by decide), if_neg (by decide)]; omega
  by_cases h12 : k = 12
  · subst h12
    show _ ≤ (3 : Int)
    rw [if_neg (by decide), if_neg (by decide), if_pos rfl, if_neg (by decide), if_neg (by decide)]; omega
  by_cases h16 : k = 16
  · subst h16
    show _ ≤ (2 : Int)
    rw [if_neg (by decide), if_neg (by decide), if_neg (by decide), if_pos rfl, if_neg (by decide)]; omega
  by_cases h17 : k = 17
  · subst h17
    show _ ≤ rpl A + 3
    rw [if_neg (by decide), if_neg (by decide), if_neg (by decide), if_neg (by decide), if_pos rfl]; omega
  rw [if_neg h10, if_neg h11, if_neg h12, if_neg h16, if_neg h17]
  show _ ≤ ownP (nd k z A B C)
  have : 0 ≤ ownP (nd k z A B C) := by
    have r := rpl_ge0 (P := A)
    have c1 := b1 6 A
    have c2 := b1 (lf9 z) A
    have c3 := b1 (rt9 z) B
    have c4 := b1 2 A
    have c5 := b1 1 B
    have c6 := b1 5 A
    have c7 := b1 6 B
    unfold nd ownP
    simp only []
    split <;> omega
  omega
theorem ln_run (hw : ∀ N, 0 ≤ w N) : ∀ (m : Nat) (st : AS) (e : Int), RunZ w T m st e → bz0 w st ∧ e + (pfW w st.1 + pfF w st.2.2.2 + vsW w st.2.2.1) ≤ fsW w T
  | 0, st, e, h => by
    obtain ⟨rfl, rfl⟩ := h
    refine ⟨⟨rfl, (fun f hf => by cases hf), (fun v hv => by cases hv)⟩, ?_⟩
    show 0 + ((fsW w T + 0) + 0 + 0) ≤ fsW w T
    omega
  | m + 1, st, e, h => by
    obtain ⟨s0, e0, h0, h⟩ := h
    obtain ⟨J, p⟩ := ln_run hw m s0 e0 h0
    obtain ⟨l, ρ, vs, fs⟩ := s0
    obtain ⟨l', ρ', vs', fs'⟩ := st
    have p : e0 + (pfW w l + pfF w fs + vsW w vs) ≤ fsW w T := p
    rcases h with ⟨h, rfl⟩ | ⟨b, ⟨hb, Z⟩, h, rfl⟩
    · obtain ⟨x, y⟩ := ln_mv hw h J
      refine ⟨x, ?_⟩
      show e + (pfW w l' + pfF w fs' + vsW w vs') ≤ fsW w T
      omega
    · obtain ⟨x, y⟩ := ln_sp hw h hb Z J
      refine ⟨x, ?_⟩
      show e0 + w (hdN (l, ρ, vs, fs)) + (pfW w l' + pfF w fs' + vsW w vs') ≤ fsW w T
      omega
theorem vsW_ge (hw : ∀ N, 0 ≤ w N) : ∀ {vs : List Va}, 0 ≤ vsW w vs
  | [] => Int.le_refl _
  | v :: vs => by
    have := vWt_ge hw (v := v)
    have := vsW_ge hw (vs := vs)
    show 0 ≤ vWt w v + vsW w vs
    omega
theorem pfW_ge (hw : ∀ N, 0 ≤ w N) : ∀ {l : Wl}, 0 ≤ pfW w l
  | [] => Int.le_refl _
  | i :: l => by
    have h1 : 0 ≤ pfI w i := by
      unfold pfI
      split
      · exact fsW_ge hw
      · next k z A B C =>
        have := hw (nd k z A B C)
        have := fsW_ge hw (T := B)
        have := fsW_ge hw (T := C)
        split <;> omega
      · exact Int.le_refl _
    have := pfW_ge hw (l := l)
    show 0 ≤ pfI w i + pfW w l
    omega
theorem pfF_ge (hw : ∀ N, 0 ≤ w N) : ∀ {fs : List (Wl × En)}, 0 ≤ pfF w fs
  | [] => Int.le_refl _
  | g :: fs => by
    have := pfW_ge hw (l := g.1)
    have := pfF_ge hw (fs := fs)
    show 0 ≤ pfW w g.1 + pfF w fs
    omega
theorem runZ_W : ∀ (m : Nat) (st : AS) (e : Int), RunZ w T m st e → ∃ a, RunW w (fun _ => 0) T m st e a
  | 0, st, e, h => by
    obtain ⟨rfl, rfl⟩ := h
    exact ⟨0, rfl, rfl, rfl⟩
  | m + 1, st, e, h => by
    obtain ⟨s0, e0, h0, h⟩ := h
    obtain ⟨a, r⟩ := runZ_W m s0 e0 h0
    rcases h with ⟨h, rfl⟩ | ⟨b, -, h, rfl⟩
    · exact ⟨a, s0, e, a, r, Or.inl ⟨h, rfl, rfl⟩⟩
    · exact ⟨_, s0, e0, a, r, Or.inr ⟨b, h, rfl, rfl⟩⟩
end ZER
