/-! A pattern of many names has brackets; what fits it has long lists. -/
/-- how many brackets a pattern has -/
def bkP : Tr → Nat
  | .tag k (.nest _ (.append A (.append B _))) => if k = 10 then (if isCo A then 1 else 0) + bkP A + bkP B else 0
  | _ => 0
/-- how many commas its own list has -/
def spP : Tr → Nat
  | .tag k (.nest _ (.append _ (.append B _))) => if k = 10 then 1 + spP B else 0
  | _ => 0
/-- the longest list in it -/
def mxP : Tr → Nat
  | .tag k (.nest _ (.append A (.append B _))) => if k = 10 then max (1 + mxP A) (max (mxP B) (1 + spP B)) else 0
  | _ => 0
section BGP
theorem spP_le : ∀ {P : Tr}, spP P ≤ mxP P := by
  intro P
  unfold spP
  split
  · next k z A B C =>
    show _ ≤ (if k = 10 then max (1 + mxP A) (max (mxP B) (1 + spP B)) else 0)
    split <;> omega
  · omega
theorem mx_pd : ∀ {P : Tr}, wfP P → mxP P ≤ pdp P ∧ spP P ≤ pdp P := by
  intro P
  induction P using wfP.induct with
  | case1 z A B C => intro _; exact ⟨Nat.zero_le _, Nat.zero_le _⟩
  | case2 z A B C => intro _; exact ⟨Nat.zero_le _, Nat.zero_le _⟩
  | case3 z A B C => intro _; exact ⟨Nat.zero_le _, Nat.zero_le _⟩
  | case4 z A B C => intro _; exact ⟨Nat.zero_le _, Nat.zero_le _⟩
  | case5 z A B C => intro _; exact ⟨Nat.zero_le _, Nat.zero_le _⟩
  | case6 z A B C i1 i2 =>
    intro ⟨_, w1, w2, h3⟩
    obtain ⟨a1, a2⟩ := i1 w1
    obtain ⟨b1, b2⟩ := i2 w2
    show max (1 + mxP A) (max (mxP B) (1 + spP B)) ≤ 1 + max (pdp A) (pdp B) ∧ 1 + spP B ≤ 1 + max (pdp A) (pdp B)
    omega
  | case7 => intro hw; exfalso; revert hw; unfold wfP; split <;> simp_all
  | case8 t hx =>
    intro hw; exfalso; revert hw; unfold wfP; split
    · exact (hx _ _ _ _ _ rfl).elim
    · exact id
theorem nco_P : ∀ {A : Tr}, wfP A → isCo A = false → spP A = 0 ∧ bkP A = 0 ∧ (bnd A).length ≤ 1 := by
  intro A hw h
  unfold wfP at hw
  split at hw
  · next k z X Y Z =>
    split at hw
    · obtain ⟨_, rfl, rfl, rfl⟩ := hw; exact ⟨rfl, rfl, Nat.zero_le _⟩
    · obtain ⟨_, rfl, rfl, rfl⟩ := hw; exact ⟨rfl, rfl, Nat.zero_le _⟩
    · obtain ⟨_, rfl, rfl, rfl⟩ := hw; exact ⟨rfl, rfl, Nat.zero_le _⟩
    · obtain ⟨_, rfl, rfl, rfl⟩ := hw; exact ⟨rfl, rfl, Nat.le_refl _⟩
    · obtain ⟨_, rfl, rfl, rfl⟩ := hw; exact ⟨rfl, rfl, Nat.zero_le _⟩
    · cases (show (10 == 10) = false from h)
    · exact hw.elim
  · exact hw.elim
/-- names, brackets, commas -/
theorem bk_all : ∀ {P : Tr}, wfP P → 2 * ((bnd P).length : Int) + 2 * bkP P ≤ rpl P + 1 ∧ 1 ≤ rpl P ∧ ∀ M : Nat, mxP P ≤ M → (bnd P).length + bkP P ≤ bkP P * M + (spP P + 1) := by
  intro P
  have lf : ∀ {k : Nat} {z : Int}, k ≠ 10 → (bnd (nd k z nl nl nl)).length ≤ 1 → 2 * ((bnd (nd k z nl nl nl)).length : Int) ≤ rpl (nd k z nl nl nl) + 1 → 1 ≤ rpl (nd k z nl nl nl) → 2 * ((bnd (nd k z nl nl nl)).length : Int) + 2 * bkP (nd k z nl nl nl) ≤ rpl (nd k z nl nl nl) + 1 ∧ 1 ≤ rpl (nd k z nl nl nl) ∧ ∀ M : Nat, mxP (nd k z nl nl nl) ≤ M → (bnd (nd k z nl nl nl)).length + bkP (nd k z nl nl nl) ≤ bkP (nd k z nl nl nl) * M + (spP (nd k z nl nl nl) + 1) := fun {k z} hk h1 h2 h3 => by
    have e : bkP (nd k z nl nl nl) = 0 := if_neg hk
    rw [e]
    refine ⟨by omega, h3, fun M _ => ?_⟩
    rw [Nat.zero_mul]; omega
  induction P using wfP.induct with
  | case1 z A B C => intro ⟨_, h1, h2, h3⟩; subst h1 h2 h3; exact lf (k := 0) (by decide) (by show 0 ≤ 1; decide) (by show 2 * ((0 : Nat) : Int) ≤ 1 + 1; decide) (by show (1 : Int) ≤ 1; decide)
  | case2 z A B C => intro ⟨_, h1, h2, h3⟩; subst h1 h2 h3; exact lf (k := 2) (by decide) (by show 0 ≤ 1; decide) (by show 2 * ((0 : Nat) : Int) ≤ 1 + 1; decide) (by show (1 : Int) ≤ 1; decide)
  | case3 z A B C => intro ⟨_, h1, h2, h3⟩; subst h1 h2 h3; exact lf (k := 3) (by decide) (by show 0 ≤ 1; decide) (by show 2 * ((0 : Nat) : Int) ≤ 2 + 1; decide) (by show (1 : Int) ≤ 2; decide)
  | case4 z A B C => intro ⟨_, h1, h2, h3⟩; subst h1 h2 h3; exact lf (k := 6) (by decide) (by show 1 ≤ 1; decide) (by show 2 * ((1 : Nat) : Int) ≤ 1 + 1; decide) (by show (1 : Int) ≤ 1; decide)
  | case5 z A B C => intro ⟨_, h1, h2, h3⟩; subst h1 h2 h3; exact lf (k := 7) (by decide) (by show 0 ≤ 1; decide) (by show 2 * ((0 : Nat) : Int) ≤ 1 + 1; decide) (by show (1 : Int) ≤ 1; decide)
  | case6 z A B C i1 i2 =>
    intro ⟨_, w1, w2, h3⟩
    subst h3
    obtain ⟨a1, a2, a3⟩ := i1 w1
    obtain ⟨b1, b2, b3⟩ := i2 w2
    have e : (bnd (nd 10 z A B nl)).length = (bnd A).length + (bnd B).length := by
      show (bnd A ++ bnd B).length = _
      rw [List.length_append]
    have eb : bkP (nd 10 z A B nl) = (if isCo A then 1 else 0) + bkP A + bkP B := rfl
    have er : rpl (nd 10 z A B nl) = (if isCo A then rpl A + 2 else rpl A) + 1 + rpl B := rfl
    have em : mxP (nd 10 z A B nl) = max (1 + mxP A) (max (mxP B) (1 + spP B)) := rfl
    have es : spP (nd 10 z A B nl) = 1 + spP B := rfl
    show 2 * ((bnd (nd 10 z A B nl)).length : Int) + 2 * bkP (nd 10 z A B nl) ≤ rpl (nd 10 z A B nl) + 1 ∧ 1 ≤ rpl (nd 10 z A B nl) ∧ ∀ M : Nat, mxP (nd 10 z A B nl) ≤ M → (bnd (nd 10 z A B nl)).length + bkP (nd 10 z A B nl) ≤ bkP (nd 10 z A B nl) * M + (spP (nd 10 z A B nl) + 1)
    rw [e, eb, er, em, es]
    refine ⟨by split <;> omega, by split <;> omega, fun M hM => ?_⟩
    have x := a3 M (by omega)
    have y := b3 M (by omega)
    have sa := nco_P w1
    have sA := spP_le (P := A)
    cases hc : isCo A with
    | true =>
      rw [if_pos rfl, Nat.add_mul, Nat.add_mul]
      omega
    | false =>
      obtain ⟨s1, s2, s3⟩ := sa hc
      rw [if_neg (by decide), s2, Nat.add_mul, Nat.add_mul]
      omega
  | case7 => intro hw; exfalso; revert hw; unfold wfP; split <;> simp_all
  | case8 t hx =>
    intro hw; exfalso; revert hw; unfold wfP; split
    · exact (hx _ _ _ _ _ rfl).elim
    · exact id
theorem fit_sp : ∀ {P : Tr} {v : Va} {ρ ρ' : En}, fitE P v ρ = some ρ' → spP P ≤ spn v ∧ mxP P ≤ mxl v := by
  intro P v ρ
  fun_induction fitE P v ρ with
  | case1 | case3 | case5 => intro ρ' h; exact ⟨Nat.zero_le _, Nat.zero_le _⟩
  | case2 | case4 | case6 => intro ρ' h; cases h
  | case7 => intro ρ' h; exact ⟨Nat.zero_le _, Nat.zero_le _⟩
  | case8 => intro ρ' h; exact ⟨Nat.zero_le _, Nat.zero_le _⟩
  | case9 =>
    rename_i h1 i1 i2
    intro ρ' h
    have x := i1 h1
    have y := i2 h
    refine ⟨?_, ?_⟩
    · show 1 + spP _ ≤ 1 + spn _
      omega
    · show max (1 + mxP _) (max (mxP _) (1 + spP _)) ≤ max (1 + mxl _) (max (mxl _) (1 + spn _))
      omega
  | case10 => intro ρ' h; cases h
  | case11 => intro ρ' h; cases h
  | case12 => intro ρ' h; cases h
  | case13 => intro ρ' h; cases h
/-- a pattern of 17 names or more has a bracket; what it costs, and how long a list fits it -/
theorem big_P {P : Tr} (w : wfP P) (d : pdp P ≤ 14) (h : 17 ≤ (bnd P).length) : 1 ≤ bkP P ∧ 2 * ((bnd P).length : Int) + 2 * bkP P ≤ rpl P + 1 ∧ (bnd P).length + bkP P ≤ bkP P * mxP P + (mxP P + 1) := by
  obtain ⟨a, -, c⟩ := bk_all w
  obtain ⟨e1, e2⟩ := mx_pd w
  have c0 := c (mxP P) (Nat.le_refl _)
  have s := spP_le (P := P)
  refine ⟨?_, a, by omega⟩
  by_cases q : bkP P = 0
  · rw [q] at c0
    omega
  · omega
end BGP
