/-! Where branches have few names, only applications count. -/
/-- d for an application -/
def dI (d : Int) : Tr → Int
  | .tag k _ => if k = 11 then d else 0
  | _ => 0
/-- no branch of more than 8 names, functions left out -/
def sm8 : Tr → Prop
  | .tag k (.nest z (.append A (.append B C))) => k = 12 ∨ ((k = 17 → z ≤ 8) ∧ (k ≠ 17 → sm8 A) ∧ sm8 B ∧ sm8 C)
  | _ => True
section SM8
theorem dI_ge {d : Int} (hd : 0 ≤ d) : ∀ N, 0 ≤ dI d N := by
  intro N
  unfold dI
  split
  · split <;> omega
  · decide
theorem nd_sm {d : Int} (hd : 0 ≤ d) : ∀ {T : Tr}, wf T → sm8 T → ∀ k, 0 ≤ k → ndd d T k ≤ k + stW (dI d) T := by
  intro T
  have G : ∀ {X : Tr}, 0 ≤ stW (dI d) X := stW_ge (dI_ge hd)
  have N : ∀ {X : Tr} {k : Int}, 0 ≤ k → 0 ≤ ndd d X k := ndd_ge hd
  have e0 : ∀ {j : Nat} {z : Int} {A B C : Tr}, j ≠ 12 → j ≠ 17 → j ≠ 11 → stW (dI d) (nd j z A B C) = stW (dI d) A + (stW (dI d) B + stW (dI d) C) := fun {j z A B C} h1 h2 h3 => by
    rw [stW_nd h1 h2]
    have : dI d (nd j z A B C) = 0 := if_neg h3
    omega
  have lf : ∀ {j : Nat} {z : Int}, (∀ x, ndd d (nd j z nl nl nl) x = x) → ∀ k, 0 ≤ k → ndd d (nd j z nl nl nl) k ≤ k + stW (dI d) (nd j z nl nl nl) := fun {j z} a k hk => by
    rw [a]
    have := G (X := nd j z nl nl nl)
    omega
  have S : ∀ {j : Nat} {z : Int} {A B C : Tr}, sm8 (nd j z A B C) → j ≠ 12 → ((j = 17 → z ≤ 8) ∧ (j ≠ 17 → sm8 A) ∧ sm8 B ∧ sm8 C) := fun h hj => by
    rcases h with h | h
    · exact absurd h hj
    · exact h
  induction T using wf.induct with
  | case1 z A B C => intro ⟨_, h1, h2, h3⟩ _; subst h1 h2 h3; exact lf (j := 0) (fun _ => rfl)
  | case2 z A B C => intro ⟨_, h1, h2, h3⟩ _; subst h1 h2 h3; exact lf (j := 1) (fun _ => rfl)
  | case3 z A B C => intro ⟨_, h1, h2, h3⟩ _; subst h1 h2 h3; exact lf (j := 2) (fun _ => rfl)
  | case4 z A B C => intro ⟨_, h1, h2, h3⟩ _; subst h1 h2 h3; exact lf (j := 3) (fun _ => rfl)
  | case5 z A B C => intro ⟨_, h1, h2, h3⟩ _; subst h1 h2 h3; exact lf (j := 4) (fun _ => rfl)
  | case6 z A B C => intro ⟨_, h1, h2, h3⟩ _; subst h1 h2 h3; exact lf (j := 5) (fun _ => rfl)
  | case7 z A B C iA =>
    intro ⟨_, eA, wA, h2, h3⟩ s k hk; subst h2 h3
    obtain ⟨-, sA, -, -⟩ := S (j := 8) s (by decide)
    have a := iA wA (sA (by decide)) (max 0 (k - 17)) (by omega)
    have e : ndd d (nd 8 z A nl nl) k = ndd d A (max 0 (k - 17)) := rfl
    have e2 := e0 (j := 8) (z := z) (A := A) (B := nl) (C := nl) (by decide) (by decide) (by decide)
    have := G (X := nl)
    show ndd d (nd 8 z A nl nl) k ≤ k + stW (dI d) (nd 8 z A nl nl)
    rw [e, e2]; omega
  | case8 z A B C iA iB =>
    intro ⟨_, eA, wA, eB, wB, h3⟩ s k hk; subst h3
    obtain ⟨-, sA, sB, -⟩ := S (j := 9) s (by decide)
    have b := iB wB sB (max 0 (k - 17)) (by omega)
    have a := iA wA (sA (by decide)) (ndd d B (max 0 (k - 17))) (N (by omega))
    have e : ndd d (nd 9 z A B nl) k = ndd d A (ndd d B (max 0 (k - 17))) := rfl
    have e2 := e0 (j := 9) (z := z) (A := A) (B := B) (C := nl) (by decide) (by decide) (by decide)
    have := G (X := nl)
    show ndd d (nd 9 z A B nl) k ≤ k + stW (dI d) (nd 9 z A B nl)
    rw [e, e2]; omega
  | case9 z A B C iA iB =>
    intro ⟨_, eA, wA, eB, wB, h3⟩ s k hk; subst h3
    obtain ⟨-, sA, sB, -⟩ := S (j := 10) s (by decide)
    have b := iB wB sB (max 0 (k - 17)) (by omega)
    have a := iA wA (sA (by decide)) (ndd d B (max 0 (k - 17))) (N (by omega))
    have e : ndd d (nd 10 z A B nl) k = ndd d A (ndd d B (max 0 (k - 17))) := rfl
    have e2 := e0 (j := 10) (z := z) (A := A) (B := B) (C := nl) (by decide) (by decide) (by decide)
    have := G (X := nl)
    show ndd d (nd 10 z A B nl) k ≤ k + stW (dI d) (nd 10 z A B nl)
    rw [e, e2]; omega
  | case10 z A B C iA iB =>
    intro ⟨_, eA, wA, eB, wB, h3⟩ s k hk; subst h3
    obtain ⟨-, sA, sB, -⟩ := S (j := 11) s (by decide)
    have b := iB wB sB (k + d) (by omega)
    have a := iA wA (sA (by decide)) (ndd d B (k + d)) (N (by omega))
    have e : ndd d (nd 11 z A B nl) k = ndd d A (ndd d B (k + d)) := rfl
    have e2 := stW_nd (w := dI d) (k := 11) (z := z) (A := A) (B := B) (C := nl) (by decide) (by decide)
    have e3 : dI d (nd 11 z A B nl) = d := rfl
    have := G (X := nl)
    show ndd d (nd 11 z A B nl) k ≤ k + stW (dI d) (nd 11 z A B nl)
    rw [e, e2, e3]; omega
  | case11 z A B C iA =>
    intro ⟨_, eA, wA, h2, h3⟩ s k hk; subst h2 h3
    have e : ndd d (nd 12 z A nl nl) k = k := rfl
    have := G (X := nd 12 z A nl nl)
    show ndd d (nd 12 z A nl nl) k ≤ k + stW (dI d) (nd 12 z A nl nl)
    rw [e]; omega
  | case12 z A B C iA iB =>
    intro ⟨_, eA, wA, eB, wB, h3⟩ s k hk; subst h3
    obtain ⟨-, sA, sB, -⟩ := S (j := 13) s (by decide)
    have b := iB wB sB k hk
    have a := iA wA (sA (by decide)) (max 0 (ndd d B k - 15)) (by omega)
    have g := N (X := B) hk
    have e : ndd d (nd 13 z A B nl) k = ndd d A (max 0 (ndd d B k - 15)) := rfl
    have e2 := e0 (j := 13) (z := z) (A := A) (B := B) (C := nl) (by decide) (by decide) (by decide)
    have := G (X := nl)
    show ndd d (nd 13 z A B nl) k ≤ k + stW (dI d) (nd 13 z A B nl)
    rw [e, e2]; omega
  | case13 z A B C iA iB =>
    intro ⟨_, eA, wA, eB, wB, h3⟩ s k hk; subst h3
    obtain ⟨-, sA, sB, -⟩ := S (j := 14) s (by decide)
    have b := iB wB sB k hk
    have a := iA wA (sA (by decide)) (max 0 (ndd d B k - 15)) (by omega)
    have g := N (X := B) hk
    have e : ndd d (nd 14 z A B nl) k = ndd d A (max 0 (ndd d B k - 15)) := rfl
    have e2 := e0 (j := 14) (z := z) (A := A) (B := B) (C := nl) (by decide) (by decide) (by decide)
    have := G (X := nl)
    show ndd d (nd 14 z A B nl) k ≤ k + stW (dI d) (nd 14 z A B nl)
    rw [e, e2]; omega
  | case14 z A B C iA iB iC =>
    intro ⟨_, eA, wA, eB, wB, eC, wC⟩ s k hk
    obtain ⟨-, sA, sB, sC⟩ := S (j := 15) s (by decide)
    have b := iB wB sB k hk
    have c := iC wC sC k hk
    have a := iA wA (sA (by decide)) (max 0 (max (ndd d B k) (ndd d C k) - 17)) (by omega)
    have g := N (X := B) hk
    have g2 := G (X := B)
    have g3 := G (X := C)
    have e : ndd d (nd 15 z A B C) k = ndd d A (max 0 (max (ndd d B k) (ndd d C k) - 17)) := rfl
    have e2 := e0 (j := 15) (z := z) (A := A) (B := B) (C := C) (by decide) (by decide) (by decide)
    show ndd d (nd 15 z A B C) k ≤ k + stW (dI d) (nd 15 z A B C)
    rw [e, e2]; omega
  | case15 z A B C iA iB =>
    intro ⟨_, eA, wA, eB, wB, h3⟩ s k hk; subst h3
    obtain ⟨-, sA, sB, -⟩ := S (j := 16) s (by decide)
    have b := iB wB sB k hk
    have a := iA wA (sA (by decide)) (ndd d B k) (N hk)
    have e : ndd d (nd 16 z A B nl) k = ndd d A (ndd d B k) := rfl
    have e2 := e0 (j := 16) (z := z) (A := A) (B := B) (C := nl) (by decide) (by decide) (by decide)
    have := G (X := nl)
    show ndd d (nd 16 z A B nl) k ≤ k + stW (dI d) (nd 16 z A B nl)
    rw [e, e2]; omega
  | case16 z A B C iB iC =>
    intro ⟨_, wP, eB, wB, hC⟩ s k hk
    obtain ⟨s8, -, sB, sC⟩ := S (j := 17) s (by decide)
    have s8 := s8 rfl
    have b := iB wB sB k hk
    have g2 := G (X := B)
    have g3 := G (X := C)
    have c : ndd d C k ≤ k + stW (dI d) C := by
      rcases hC with q | q
      · subst q
        show (0 : Int) ≤ k + stW (dI d) nl
        omega
      · exact iC q.2 sC k hk
    have e : ndd d (nd 17 z A B C) k = max (max 0 (2 * (z.toNat : Int) - 17 + ndd d B k)) (ndd d C k) := rfl
    have e2 := stW_17 (w := dI d) (z := z) (A := A) (B := B) (C := C)
    have e3 : dI d (nd 17 z A B C) = 0 := rfl
    show ndd d (nd 17 z A B C) k ≤ k + stW (dI d) (nd 17 z A B C)
    rw [e, e2, e3]; omega
  | case17 => intro hw; exfalso; revert hw; unfold wf; split <;> simp_all
  | case18 t hx =>
    intro hw; exfalso; revert hw; unfold wf; split
    · exact (hx _ _ _ _ _ rfl).elim
    · exact id
end SM8
