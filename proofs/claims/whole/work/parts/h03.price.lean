/-! D2: prices. What binds much costs much. -/
section PRC
variable {Q : Tr → Prop}
theorem rpl_bn : ∀ {P : Tr}, wfP P → 2 * ((bnd P).length : Int) ≤ rpl P + 1 ∧ 1 ≤ rpl P := by
  intro P
  induction P using wfP.induct with
  | case1 z A B C => intro ⟨_, h1, h2, h3⟩; subst h1 h2 h3; exact ⟨(show 2 * ((0 : Nat) : Int) ≤ 1 + 1 by decide), (show (1 : Int) ≤ 1 by decide)⟩
  | case2 z A B C => intro ⟨_, h1, h2, h3⟩; subst h1 h2 h3; exact ⟨(show 2 * ((0 : Nat) : Int) ≤ 1 + 1 by decide), (show (1 : Int) ≤ 1 by decide)⟩
  | case3 z A B C => intro ⟨_, h1, h2, h3⟩; subst h1 h2 h3; exact ⟨(show 2 * ((0 : Nat) : Int) ≤ 2 + 1 by decide), (show (1 : Int) ≤ 2 by decide)⟩
  | case4 z A B C => intro ⟨_, h1, h2, h3⟩; subst h1 h2 h3; exact ⟨(show 2 * ((1 : Nat) : Int) ≤ 1 + 1 by decide), (show (1 : Int) ≤ 1 by decide)⟩
  | case5 z A B C => intro ⟨_, h1, h2, h3⟩; subst h1 h2 h3; exact ⟨(show 2 * ((0 : Nat) : Int) ≤ 1 + 1 by decide), (show (1 : Int) ≤ 1 by decide)⟩
  | case6 z A B C i1 i2 =>
    intro ⟨_, w1, w2, h3⟩
    subst h3
    obtain ⟨a1, a2⟩ := i1 w1
    obtain ⟨b1, b2⟩ := i2 w2
    have e : ((bnd (nd 10 z A B nl)).length : Int) = (bnd A).length + (bnd B).length := by
      show (((bnd A ++ bnd B).length : Nat) : Int) = _
      rw [List.length_append]; omega
    show 2 * ((bnd (nd 10 z A B nl)).length : Int) ≤ (if isCo A then rpl A + 2 else rpl A) + 1 + rpl B + 1 ∧ 1 ≤ (if isCo A then rpl A + 2 else rpl A) + 1 + rpl B
    rw [e]
    split <;> omega
  | case7 => intro hw; exfalso; revert hw; unfold wfP; split <;> simp_all
  | case8 t hx =>
    intro hw; exfalso; revert hw; unfold wfP; split
    · exact (hx _ _ _ _ _ rfl).elim
    · exact id
theorem allL_P : ∀ {P : Tr}, wfP P → allL Q P := by
  intro P
  have lf : ∀ {k : Nat} {z : Int}, k ≠ 12 → allL Q (nd k z nl nl nl) := fun h => ⟨fun e => absurd e h, trivial, trivial, trivial⟩
  induction P using wfP.induct with
  | case1 z A B C => intro ⟨_, h1, h2, h3⟩; subst h1 h2 h3; exact lf (by decide)
  | case2 z A B C => intro ⟨_, h1, h2, h3⟩; subst h1 h2 h3; exact lf (by decide)
  | case3 z A B C => intro ⟨_, h1, h2, h3⟩; subst h1 h2 h3; exact lf (by decide)
  | case4 z A B C => intro ⟨_, h1, h2, h3⟩; subst h1 h2 h3; exact lf (by decide)
  | case5 z A B C => intro ⟨_, h1, h2, h3⟩; subst h1 h2 h3; exact lf (by decide)
  | case6 z A B C i1 i2 =>
    intro ⟨_, w1, w2, h3⟩
    subst h3
    exact ⟨fun e => absurd e (by decide), i1 w1, i2 w2, trivial⟩
  | case7 => intro hw; exfalso; revert hw; unfold wfP; split <;> simp_all
  | case8 t hx =>
    intro hw; exfalso; revert hw; unfold wfP; split
    · exact (hx _ _ _ _ _ rfl).elim
    · exact id
/-- what can be bound beyond the rate, by the price -/
def gP (p : Int) : Int := max 0 (p - 21)
def gQ (p : Int) : Int := max 0 (min 15 (p - 21))
def pRT (T : Tr) (r : Int) : Prop := (isE T → 1 ≤ r ∧ ∀ k, 0 ≤ k → ndk T k ≤ k + gP (r - 1) ∧ (r ≤ 58 → ndq T k ≤ k + gQ (r - 1))) ∧ (isBr T → 4 ≤ r ∧ ∀ k, 0 ≤ k → ndk T k ≤ k + gP (r + 2) ∧ (r ≤ 55 → ndq T k ≤ k + gQ (r + 2)))
theorem pr_T : ∀ {T : Tr}, wf T → pRT T (rwl T) := by
  intro T
  have up1 : ∀ {l : Int} {T : Tr}, rwl T ≤ up l T (rwl T) := fun {l T} => (up_ge (l := l) (T := T) (r := rwl T)).1
  have lf : ∀ {k : Nat} {z r : Int}, (∀ x, ndk (nd k z nl nl nl) x = x) → (∀ x, ndq (nd k z nl nl nl) x = x) → 1 ≤ r → k ≠ 17 → pRT (nd k z nl nl nl) r := fun {k z r} a b d e => by
    refine ⟨fun _ => ⟨d, fun x hx => ⟨?_, fun _ => ?_⟩⟩, fun q => absurd (show k = 17 from q) e⟩
    · rw [a x]; unfold gP; omega
    · rw [b x]; unfold gQ; omega
  induction T using wf.induct with
  | case1 z A B C => intro ⟨_, h1, h2, h3⟩; subst h1 h2 h3; exact (lf (k := 0) (fun _ => rfl) (fun _ => rfl) (by decide) (by decide) : pRT (nd 0 z nl nl nl) 1)
  | case2 z A B C => intro ⟨_, h1, h2, h3⟩; subst h1 h2 h3; exact (lf (k := 1) (fun _ => rfl) (fun _ => rfl) (by decide) (by decide) : pRT (nd 1 z nl nl nl) 3)
  | case3 z A B C => intro ⟨_, h1, h2, h3⟩; subst h1 h2 h3; exact (lf (k := 2) (fun _ => rfl) (fun _ => rfl) (by decide) (by decide) : pRT (nd 2 z nl nl nl) 1)
  | case4 z A B C => intro ⟨_, h1, h2, h3⟩; subst h1 h2 h3; exact (lf (k := 3) (fun _ => rfl) (fun _ => rfl) (by decide) (by decide) : pRT (nd 3 z nl nl nl) 2)
  | case5 z A B C => intro ⟨_, h1, h2, h3⟩; subst h1 h2 h3; exact (lf (k := 4) (fun _ => rfl) (fun _ => rfl) (by decide) (by decide) : pRT (nd 4 z nl nl nl) 1)
  | case6 z A B C => intro ⟨_, h1, h2, h3⟩; subst h1 h2 h3; exact (lf (k := 5) (fun _ => rfl) (fun _ => rfl) (by decide) (by decide) : pRT (nd 5 z nl nl nl) 1)
  | case7 z A B C iA =>
    intro ⟨_, eA, wA, h2, h3⟩; subst h2 h3
    obtain ⟨a1, a2⟩ := (iA wA).1 eA
    have u := up1 (l := 6) (T := A)
    show pRT (nd 8 z A nl nl) (1 + up 6 A (rwl A))
    refine ⟨fun _ => ⟨by omega, fun k hk => ?_⟩, fun q => by cases (show 8 = 17 from q)⟩
    obtain ⟨b1, b2⟩ := a2 (max 0 (k - 17)) (by omega)
    have e1 : ndk (nd 8 z A nl nl) k = ndk A (max 0 (k - 17)) := rfl
    have e2 : ndq (nd 8 z A nl nl) k = ndq A (max 0 (k - 17)) := rfl
    rw [e1, e2]
    unfold gP gQ at *
    exact ⟨by omega, fun h => by have := b2 (by omega); omega⟩
  | case8 z A B C iA iB =>
    intro ⟨_, eA, wA, eB, wB, h3⟩; subst h3
    obtain ⟨a1, a2⟩ := (iA wA).1 eA
    obtain ⟨c1, c2⟩ := (iB wB).1 eB
    have u := up1 (l := lf9 z) (T := A)
    have v := up1 (l := rt9 z) (T := B)
    show pRT (nd 9 z A B nl) (1 + up (lf9 z) A (rwl A) + up (rt9 z) B (rwl B))
    refine ⟨fun _ => ⟨by omega, fun k hk => ?_⟩, fun q => by cases (show 9 = 17 from q)⟩
    obtain ⟨d1, d2⟩ := c2 (max 0 (k - 17)) (by omega)
    have g1 := ndk_ge (T := B) (k := max 0 (k - 17)) (by omega)
    have g2 := ndq_ge (T := B) (k := max 0 (k - 17)) (by omega)
    have b1 := (a2 _ g1).1
    have b2 := (a2 _ g2).2
    have e1 : ndk (nd 9 z A B nl) k = ndk A (ndk B (max 0 (k - 17))) := rfl
    have e2 : ndq (nd 9 z A B nl) k = ndq A (ndq B (max 0 (k - 17))) := rfl
    rw [e1, e2]
    unfold gP gQ at *
    exact ⟨by omega, fun h => by have := b2 (by omega); have := d2 (by omega); omega⟩
  | case9 z A B C iA iB =>
    intro ⟨_, eA, wA, eB, wB, h3⟩; subst h3
    obtain ⟨a1, a2⟩ := (iA wA).1 eA
    obtain ⟨c1, c2⟩ := (iB wB).1 eB
    have u := up1 (l := 2) (T := A)
    have v := up1 (l := 1) (T := B)
    show pRT (nd 10 z A B nl) (1 + up 2 A (rwl A) + up 1 B (rwl B))
    refine ⟨fun _ => ⟨by omega, fun k hk => ?_⟩, fun q => by cases (show 10 = 17 from q)⟩
    obtain ⟨d1, d2⟩ := c2 (max 0 (k - 17)) (by omega)
    have g1 := ndk_ge (T := B) (k := max 0 (k - 17)) (by omega)
    have g2 := ndq_ge (T := B) (k := max 0 (k - 17)) (by omega)
    have b1 := (a2 _ g1).1
    have b2 := (a2 _ g2).2
    have e1 : ndk (nd 10 z A B nl) k = ndk A (ndk B (max 0 (k - 17))) := rfl
    have e2 : ndq (nd 10 z A B nl) k = ndq A (ndq B (max 0 (k - 17))) := rfl
    rw [e1, e2]
    unfold gP gQ at *
    exact ⟨by omega, fun h => by have := b2 (by omega); have := d2 (by omega); omega⟩
  | case10 z A B C iA iB =>
    intro ⟨_, eA, wA, eB, wB, h3⟩; subst h3
    obtain ⟨a1, a2⟩ := (iA wA).1 eA
    obtain ⟨c1, c2⟩ := (iB wB).1 eB
    have u := up1 (l := 5) (T := A)
    have v := up1 (l := 6) (T := B)
    show pRT (nd 11 z A B nl) (up 5 A (rwl A) + up 6 B (rwl B))
    refine ⟨fun _ => ⟨by omega, fun k hk => ?_⟩, fun q => by cases (show 11 = 17 from q)⟩
    obtain ⟨d1, d2⟩ := c2 k hk
    have g1 := ndk_ge (T := B) (k := k) hk
    have g2 := ndq_ge (T := B) (k := k) hk
    have b1 := (a2 _ g1).1
    have b2 := (a2 _ g2).2
    have e1 : ndk (nd 11 z A B nl) k = ndk A (ndk B k) := rfl
    have e2 : ndq (nd 11 z A B nl) k = ndq A (ndq B k) := rfl
    rw [e1, e2]
    unfold gP gQ at *
    exact ⟨by omega, fun h => by have := b2 (by omega); have := d2 (by omega); omega⟩
  | case11 z A B C iA =>
    intro ⟨_, eA, wA, h2, h3⟩; subst h2 h3
    obtain ⟨a1, -⟩ := (iA wA).1 eA
    show pRT (nd 12 z A nl nl) (3 + rwl A)
    refine ⟨fun _ => ⟨by omega, fun k hk => ?_⟩, fun q => by cases (show 12 = 17 from q)⟩
    have e1 : ndk (nd 12 z A nl nl) k = k := rfl
    have e2 : ndq (nd 12 z A nl nl) k = k := rfl
    rw [e1, e2]
    unfold gP gQ
    exact ⟨by omega, fun _ => by omega⟩
  | case12 z A B C iA iB =>
    intro ⟨_, eA, wA, eB, wB, h3⟩; subst h3
    obtain ⟨a1, a2⟩ := (iA wA).1 eA
    obtain ⟨c1, c2⟩ := (iB wB).1 eB
    show pRT (nd 13 z A B nl) (4 + rwl A + rwl B)
    refine ⟨fun _ => ⟨by omega, fun k hk => ?_⟩, fun q => by cases (show 13 = 17 from q)⟩
    obtain ⟨d1, d2⟩ := c2 k hk
    have b1 := (a2 (max 0 (ndk B k - 15)) (by omega)).1
    have b2 := (a2 (max 0 (ndq B k - 15)) (by omega)).2
    have e1 : ndk (nd 13 z A B nl) k = ndk A (max 0 (ndk B k - 15)) := rfl
    have e2 : ndq (nd 13 z A B nl) k = ndq A (max 0 (ndq B k - 15)) := rfl
    rw [e1, e2]
    unfold gP gQ at *
    exact ⟨by omega, fun h => by have := b2 (by omega); have := d2 (by omega); omega⟩
  | case13 z A B C iA iB =>
    intro ⟨_, eA, wA, eB, wB, h3⟩; subst h3
    have eA' : isE A := isFn_E eA
    obtain ⟨a1, a2⟩ := (iA wA).1 eA'
    obtain ⟨c1, c2⟩ := (iB wB).1 eB
    show pRT (nd 14 z A B nl) (4 + rwl A + rwl B)
    refine ⟨fun _ => ⟨by omega, fun k hk => ?_⟩, fun q => by cases (show 14 = 17 from q)⟩
    obtain ⟨d1, d2⟩ := c2 k hk
    have b1 := (a2 (max 0 (ndk B k - 15)) (by omega)).1
    have b2 := (a2 (max 0 (ndq B k - 15)) (by omega)).2
    have e1 : ndk (nd 14 z A B nl) k = ndk A (max 0 (ndk B k - 15)) := rfl
    have e2 : ndq (nd 14 z A B nl) k = ndq A (max 0 (ndq B k - 15)) := rfl
    rw [e1, e2]
    unfold gP gQ at *
    exact ⟨by omega, fun h => by have := b2 (by omega); have := d2 (by omega); omega⟩
  | case14 z A B C iA iB iC =>
    intro ⟨_, eA, wA, eB, wB, eC, wC⟩
    obtain ⟨a1, a2⟩ := (iA wA).1 eA
    obtain ⟨c1, c2⟩ := (iB wB).1 eB
    obtain ⟨f1, f2⟩ := (iC wC).1 eC
    show pRT (nd 15 z A B C) (3 + rwl A + rwl B + rwl C)
    refine ⟨fun _ => ⟨by omega, fun k hk => ?_⟩, fun q => by cases (show 15 = 17 from q)⟩
    obtain ⟨d1, d2⟩ := c2 k hk
    obtain ⟨h1, h2⟩ := f2 k hk
    have b1 := (a2 (max 0 (max (ndk B k) (ndk C k) - 17)) (by omega)).1
    have b2 := (a2 (max 0 (max (ndq B k) (ndq C k) - 17)) (by omega)).2
    have e1 : ndk (nd 15 z A B C) k = ndk A (max 0 (max (ndk B k) (ndk C k) - 17)) := rfl
    have e2 : ndq (nd 15 z A B C) k = ndq A (max 0 (max (ndq B k) (ndq C k) - 17)) := rfl
    rw [e1, e2]
    unfold gP gQ at *
    exact ⟨by omega, fun h => by have := b2 (by omega); have := d2 (by omega); have := h2 (by omega); omega⟩
  | case15 z A B C iA iB =>
    intro ⟨_, eA, wA, eB, wB, h3⟩; subst h3
    obtain ⟨a1, a2⟩ := (iA wA).1 eA
    obtain ⟨c1, c2⟩ := (iB wB).2 eB
    show pRT (nd 16 z A B nl) (2 + rwl A + rwl B)
    refine ⟨fun _ => ⟨by omega, fun k hk => ?_⟩, fun q => by cases (show 16 = 17 from q)⟩
    obtain ⟨d1, d2⟩ := c2 k hk
    have g1 := ndk_ge (T := B) (k := k) hk
    have g2 := ndq_ge (T := B) (k := k) hk
    have b1 := (a2 _ g1).1
    have b2 := (a2 _ g2).2
    have e1 : ndk (nd 16 z A B nl) k = ndk A (ndk B k) := rfl
    have e2 : ndq (nd 16 z A B nl) k = ndq A (ndq B k) := rfl
    rw [e1, e2]
    unfold gP gQ at *
    exact ⟨by omega, fun h => by have := b2 (by omega); have := d2 (by omega); omega⟩
  | case16 z A B C iB iC =>
    intro ⟨⟨zl, _⟩, wP, eB, wB, hC⟩
    obtain ⟨c1, c2⟩ := (iB wB).1 eB
    obtain ⟨p1, p2⟩ := rpl_bn wP
    have hc : 0 ≤ rwl C ∧ ∀ k, 0 ≤ k → ndk C k ≤ k + gP (rwl C + 2) ∧ (rwl C ≤ 55 → ndq C k ≤ k + gQ (rwl C + 2)) := by
      rcases hC with e | e
      · subst e
        refine ⟨Int.le_refl _, fun k hk => ⟨?_, fun _ => ?_⟩⟩
        · show (0 : Int) ≤ k + gP (0 + 2); unfold gP; omega
        · show (0 : Int) ≤ k + gQ (0 + 2); unfold gQ; omega
      · obtain ⟨f1, f2⟩ := (iC e.2).2 e.1
        exact ⟨by omega, f2⟩
    obtain ⟨f1, f2⟩ := hc
    show pRT (nd 17 z A B C) (rpl A + 2 + rwl B + rwl C)
    refine ⟨fun q => absurd (show (17 : Nat) ≤ 16 ∧ _ from q).1 (by decide), fun _ => ⟨by omega, fun k hk => ?_⟩⟩
    obtain ⟨d1, d2⟩ := c2 k hk
    obtain ⟨h1, h2⟩ := f2 k hk
    have e1 : ndk (nd 17 z A B C) k = max (max 0 (2 * (z.toNat : Int) - 17 + ndk B k)) (ndk C k) := rfl
    have e2 : ndq (nd 17 z A B C) k = max (max 0 (if 17 ≤ z.toNat then 0 else 2 * (z.toNat : Int) - 17 + ndq B k)) (ndq C k) := rfl
    have zt : (z.toNat : Int) = (bnd A).length := by omega
    rw [e1, e2]
    unfold gP gQ at *
    refine ⟨by omega, fun h => ?_⟩
    have := d2 (by omega)
    have := h2 (by omega)
    split <;> omega
  | case17 => intro hw; exfalso; revert hw; unfold wf; split <;> simp_all
  | case18 t hx =>
    intro hw; exfalso; revert hw; unfold wf; split
    · exact (hx _ _ _ _ _ rfl).elim
    · exact id
end PRC
