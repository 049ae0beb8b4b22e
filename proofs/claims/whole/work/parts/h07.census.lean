/-! What a program costs, node by node. -/
/-- a sum over all nodes that are no patterns -/
def sumW (w : Tr → Int) : Tr → Int
  | .tag k (.nest z (.append A (.append B C))) => w (nd k z A B C) + ((if k = 17 then 0 else sumW w A) + (sumW w B + sumW w C))
  | _ => 0
def brk (l : Int) (T : Tr) : Int := if prc T < l then 2 else 0
/-- what a node costs, with the brackets round its parts -/
def ownP : Tr → Int
  | .tag k (.nest z (.append A (.append B _))) => match k with
    | 1 => 2
    | 3 => 1
    | 8 => 1 + brk 6 A
    | 9 => 2 + brk (lf9 z) A + brk (rt9 z) B
    | 10 => 2 + brk 2 A + brk 1 B
    | 11 => 1 + brk 5 A + brk 6 B
    | 12 => 3
    | 13 => 5
    | 14 => 5
    | 15 => 5
    | 16 => 2
    | 17 => rpl A + 3
    | _ => 0
  | _ => 0
section CEN
variable {w w' : Tr → Int}
theorem brk_up {l : Int} {T : Tr} {r : Int} : up l T r = r + brk l T := by
  unfold up brk
  split <;> omega
theorem sw_nd {k : Nat} {z : Int} {A B C : Tr} (h : k ≠ 17) : sumW w (nd k z A B C) = w (nd k z A B C) + (sumW w A + (sumW w B + sumW w C)) := by
  show w (nd k z A B C) + ((if k = 17 then 0 else sumW w A) + (sumW w B + sumW w C)) = _
  rw [if_neg h]
theorem sw_17 {z : Int} {A B C : Tr} : sumW w (nd 17 z A B C) = w (nd 17 z A B C) + (sumW w B + sumW w C) := by
  show w (nd 17 z A B C) + ((if 17 = 17 then 0 else sumW w A) + (sumW w B + sumW w C)) = _
  rw [if_pos rfl]; omega
theorem sw_nl : sumW w nl = 0 := rfl
/-- the nodes' prices together are the price of the whole -/
theorem cen_eq : ∀ {T : Tr}, wf T → (isE T → sumW ownP T + 1 = rwl T) ∧ (isBr T → sumW ownP T = rwl T) := by
  intro T
  have lf : ∀ {k : Nat} {z r : Int}, k ≤ 12 → ownP (nd k z nl nl nl) + 1 = r → rwl (nd k z nl nl nl) = r → (isE (nd k z nl nl nl) → sumW ownP (nd k z nl nl nl) + 1 = rwl (nd k z nl nl nl)) ∧ (isBr (nd k z nl nl nl) → sumW ownP (nd k z nl nl nl) = rwl (nd k z nl nl nl)) := fun {k z r} h a b => by
    refine ⟨fun _ => ?_, fun q => ?_⟩
    · rw [sw_nd (by omega), sw_nl, b]; omega
    · exact absurd (show k = 17 from q) (by omega)
  have nb : ∀ {k : Nat} {z : Int} {A B C : Tr}, k ≠ 17 → sumW ownP (nd k z A B C) + 1 = rwl (nd k z A B C) → (isE (nd k z A B C) → sumW ownP (nd k z A B C) + 1 = rwl (nd k z A B C)) ∧ (isBr (nd k z A B C) → sumW ownP (nd k z A B C) = rwl (nd k z A B C)) := fun h e => ⟨fun _ => e, fun q => absurd q h⟩
  induction T using wf.induct with
  | case1 z A B C => intro ⟨_, h1, h2, h3⟩; subst h1 h2 h3; exact lf (r := 1) (by decide) rfl rfl
  | case2 z A B C => intro ⟨_, h1, h2, h3⟩; subst h1 h2 h3; exact lf (r := 3) (by decide) rfl rfl
  | case3 z A B C => intro ⟨_, h1, h2, h3⟩; subst h1 h2 h3; exact lf (r := 1) (by decide) rfl rfl
  | case4 z A B C => intro ⟨_, h1, h2, h3⟩; subst h1 h2 h3; exact lf (r := 2) (by decide) rfl rfl
  | case5 z A B C => intro ⟨_, h1, h2, h3⟩; subst h1 h2 h3; exact lf (r := 1) (by decide) rfl rfl
  | case6 z A B C => intro ⟨_, h1, h2, h3⟩; subst h1 h2 h3; exact lf (r := 1) (by decide) rfl rfl
  | case7 z A B C iA =>
    intro ⟨_, eA, wA, h2, h3⟩; subst h2 h3
    have a1 := (iA wA).1 eA
    refine nb (by decide) ?_
    rw [sw_nd (by decide), sw_nl]
    show (1 + brk 6 A) + (sumW ownP A + (0 + 0)) + 1 = 1 + up 6 A (rwl A)
    rw [brk_up]; omega
  | case8 z A B C iA iB =>
    intro ⟨_, eA, wA, eB, wB, h3⟩; subst h3
    have a1 := (iA wA).1 eA
    have c1 := (iB wB).1 eB
    refine nb (by decide) ?_
    rw [sw_nd (by decide), sw_nl]
    show (2 + brk (lf9 z) A + brk (rt9 z) B) + (sumW ownP A + (sumW ownP B + 0)) + 1 = 1 + up (lf9 z) A (rwl A) + up (rt9 z) B (rwl B)
    rw [brk_up, brk_up]; omega
  | case9 z A B C iA iB =>
    intro ⟨_, eA, wA, eB, wB, h3⟩; subst h3
    have a1 := (iA wA).1 eA
    have c1 := (iB wB).1 eB
    refine nb (by decide) ?_
    rw [sw_nd (by decide), sw_nl]
    show (2 + brk 2 A + brk 1 B) + (sumW ownP A + (sumW ownP B + 0)) + 1 = 1 + up 2 A (rwl A) + up 1 B (rwl B)
    rw [brk_up, brk_up]; omega
  | case10 z A B C iA iB =>
    intro ⟨_, eA, wA, eB, wB, h3⟩; subst h3
    have a1 := (iA wA).1 eA
    have c1 := (iB wB).1 eB
    refine nb (by decide) ?_
    rw [sw_nd (by decide), sw_nl]
    show (1 + brk 5 A + brk 6 B) + (sumW ownP A + (sumW ownP B + 0)) + 1 = up 5 A (rwl A) + up 6 B (rwl B)
    rw [brk_up, brk_up]; omega
  | case11 z A B C iA =>
    intro ⟨_, eA, wA, h2, h3⟩; subst h2 h3
    have a1 := (iA wA).1 eA
    refine nb (by decide) ?_
    rw [sw_nd (by decide), sw_nl]
    show 3 + (sumW ownP A + (0 + 0)) + 1 = 3 + rwl A
    omega
  | case12 z A B C iA iB =>
    intro ⟨_, eA, wA, eB, wB, h3⟩; subst h3
    have a1 := (iA wA).1 eA
    have c1 := (iB wB).1 eB
    refine nb (by decide) ?_
    rw [sw_nd (by decide), sw_nl]
    show 5 + (sumW ownP A + (sumW ownP B + 0)) + 1 = 4 + rwl A + rwl B
    omega
  | case13 z A B C iA iB =>
    intro ⟨_, eA, wA, eB, wB, h3⟩; subst h3
    have a1 := (iA wA).1 (isFn_E eA)
    have c1 := (iB wB).1 eB
    refine nb (by decide) ?_
    rw [sw_nd (by decide), sw_nl]
    show 5 + (sumW ownP A + (sumW ownP B + 0)) + 1 = 4 + rwl A + rwl B
    omega
  | case14 z A B C iA iB iC =>
    intro ⟨_, eA, wA, eB, wB, eC, wC⟩
    have a1 := (iA wA).1 eA
    have b1 := (iB wB).1 eB
    have c1 := (iC wC).1 eC
    refine nb (by decide) ?_
    rw [sw_nd (by decide)]
    show 5 + (sumW ownP A + (sumW ownP B + sumW ownP C)) + 1 = 3 + rwl A + rwl B + rwl C
    omega
  | case15 z A B C iA iB =>
    intro ⟨_, eA, wA, eB, wB, h3⟩; subst h3
    have a1 := (iA wA).1 eA
    have c1 := (iB wB).2 eB
    refine nb (by decide) ?_
    rw [sw_nd (by decide), sw_nl]
    show 2 + (sumW ownP A + (sumW ownP B + 0)) + 1 = 2 + rwl A + rwl B
    omega
  | case16 z A B C iB iC =>
    intro ⟨_, wP, eB, wB, hC⟩
    have b1 := (iB wB).1 eB
    have hc : sumW ownP C = rwl C := by
      rcases hC with e | e
      · subst e; rfl
      · exact (iC e.2).2 e.1
    refine ⟨fun q => absurd (show (17 : Nat) ≤ 16 ∧ _ from q).1 (by decide), fun _ => ?_⟩
    have e := sw_17 (w := ownP) (z := z) (A := A) (B := B) (C := C)
    show sumW ownP (nd 17 z A B C) = _
    rw [e]
    show (rpl A + 3) + (sumW ownP B + sumW ownP C) = rpl A + 2 + rwl B + rwl C
    omega
  | case17 => intro hw; exfalso; revert hw; unfold wf; split <;> simp_all
  | case18 t hx =>
    intro hw; exfalso; revert hw; unfold wf; split
    · exact (hx _ _ _ _ _ rfl).elim
    · exact id
theorem sw_ge (h : ∀ T, 0 ≤ w T) : ∀ {T : Tr}, 0 ≤ sumW w T := by
  intro T
  fun_induction sumW w T with
  | case1 k z A B C iA iB iC =>
    have := h (nd k z A B C)
    split <;> omega
  | case2 => exact Int.le_refl _
theorem sw_le (h : ∀ T, w T ≤ w' T) : ∀ {T : Tr}, sumW w T ≤ sumW w' T := by
  intro T
  fun_induction sumW w T with
  | case1 k z A B C iA iB iC =>
    have := h (nd k z A B C)
    show _ ≤ w' (nd k z A B C) + ((if k = 17 then 0 else sumW w' A) + (sumW w' B + sumW w' C))
    split <;> omega
  | case2 t hx =>
    unfold sumW
    split
    · exact (hx _ _ _ _ _ rfl).elim
    · exact Int.le_refl _
theorem sw_add : ∀ {T : Tr}, sumW (fun t => w t + w' t) T = sumW w T + sumW w' T := by
  intro T
  fun_induction sumW w T with
  | case1 k z A B C iA iB iC =>
    show (w (nd k z A B C) + w' (nd k z A B C)) + ((if k = 17 then 0 else sumW (fun t => w t + w' t) A) + (sumW (fun t => w t + w' t) B + sumW (fun t => w t + w' t) C)) = _ + (w' (nd k z A B C) + ((if k = 17 then 0 else sumW w' A) + (sumW w' B + sumW w' C)))
    split <;> omega
  | case2 t hx =>
    unfold sumW
    split
    · exact (hx _ _ _ _ _ rfl).elim
    · rfl
end CEN
