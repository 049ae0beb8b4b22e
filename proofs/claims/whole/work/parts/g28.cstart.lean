/-! The class: what its machine holds after a load; what leaves it alone. -/
section CSTA
variable {h h' : mHp} {σ0 σ σ' σ1 : Mem} {d n c : Nat} {s a : Int} {T : Tr} {e : WkE} {S : WkS}
theorem sz_P : ∀ {P : Tr}, wfP P → (szT P : Int) + 1 ≤ 2 * rpl P := by
  intro P
  induction P using wfP.induct with
  | case1 z A B C => intro ⟨_, h1, h2, h3⟩; subst h1 h2 h3; show ((1 : Nat) : Int) + 1 ≤ 2 * 1; decide
  | case2 z A B C => intro ⟨_, h1, h2, h3⟩; subst h1 h2 h3; show ((1 : Nat) : Int) + 1 ≤ 2 * 1; decide
  | case3 z A B C => intro ⟨_, h1, h2, h3⟩; subst h1 h2 h3; show ((1 : Nat) : Int) + 1 ≤ 2 * 2; decide
  | case4 z A B C => intro ⟨_, h1, h2, h3⟩; subst h1 h2 h3; show ((1 : Nat) : Int) + 1 ≤ 2 * 1; decide
  | case5 z A B C => intro ⟨_, h1, h2, h3⟩; subst h1 h2 h3; show ((1 : Nat) : Int) + 1 ≤ 2 * 1; decide
  | case6 z A B C i1 i2 =>
    intro ⟨_, w1, w2, h3⟩
    subst h3
    have a := i1 w1
    have b := i2 w2
    show ((szT A + szT B + 0 + 1 : Nat) : Int) + 1 ≤ 2 * ((if isCo A then rpl A + 2 else rpl A) + 1 + rpl B)
    split <;> omega
  | case7 => intro hw; exfalso; revert hw; unfold wfP; split <;> simp_all
  | case8 t hx =>
    intro hw; exfalso; revert hw; unfold wfP; split
    · exact (hx _ _ _ _ _ rfl).elim
    · exact id
theorem sz_T : ∀ {T : Tr}, wf T → (szT T : Int) ≤ 2 * rwl T ∧ (isE T → (szT T : Int) + 1 ≤ 2 * rwl T) := by
  intro T
  have up1 : ∀ {l : Int} {T : Tr}, rwl T ≤ up l T (rwl T) := fun {l T} => (up_ge (l := l) (T := T) (r := rwl T)).1
  induction T using wf.induct with
  | case1 z A B C | case3 z A B C | case5 z A B C | case6 z A B C => intro ⟨_, h1, h2, h3⟩; subst h1 h2 h3; exact ⟨(show ((1 : Nat) : Int) ≤ 2 * 1 by decide), fun _ => (show ((1 : Nat) : Int) + 1 ≤ 2 * 1 by decide)⟩
  | case2 z A B C => intro ⟨_, h1, h2, h3⟩; subst h1 h2 h3; exact ⟨(show ((1 : Nat) : Int) ≤ 2 * 3 by decide), fun _ => (show ((1 : Nat) : Int) + 1 ≤ 2 * 3 by decide)⟩
  | case4 z A B C => intro ⟨_, h1, h2, h3⟩; subst h1 h2 h3; exact ⟨(show ((1 : Nat) : Int) ≤ 2 * 2 by decide), fun _ => (show ((1 : Nat) : Int) + 1 ≤ 2 * 2 by decide)⟩
  | case7 z A B C iA =>
    intro ⟨_, _, wA, h2, h3⟩; subst h2 h3
    have := iA wA
    have := up1 (l := 6) (T := A)
    have e : (szT (nd 8 z A nl nl) : Int) + 1 ≤ 2 * rwl (nd 8 z A nl nl) := by show ((szT A + 0 + 0 + 1 : Nat) : Int) + 1 ≤ 2 * (1 + up 6 A (rwl A)); omega
    exact ⟨by show (szT (nd 8 z A nl nl) : Int) ≤ 2 * rwl (nd 8 z A nl nl); omega, fun _ => e⟩
  | case8 z A B C iA iB =>
    intro ⟨_, _, wA, _, wB, h3⟩; subst h3
    have := iA wA
    have := iB wB
    have := up1 (l := lf9 z) (T := A)
    have := up1 (l := rt9 z) (T := B)
    have e : (szT (nd 9 z A B nl) : Int) + 1 ≤ 2 * rwl (nd 9 z A B nl) := by show ((szT A + szT B + 0 + 1 : Nat) : Int) + 1 ≤ 2 * (1 + up (lf9 z) A (rwl A) + up (rt9 z) B (rwl B)); omega
    exact ⟨by show (szT (nd 9 z A B nl) : Int) ≤ 2 * rwl (nd 9 z A B nl); omega, fun _ => e⟩
  | case9 z A B C iA iB =>
    intro ⟨_, _, wA, _, wB, h3⟩; subst h3
    have := iA wA
    have := iB wB
    have := up1 (l := 2) (T := A)
    have := up1 (l := 1) (T := B)
    have e : (szT (nd 10 z A B nl) : Int) + 1 ≤ 2 * rwl (nd 10 z A B nl) := by show ((szT A + szT B + 0 + 1 : Nat) : Int) + 1 ≤ 2 * (1 + up 2 A (rwl A) + up 1 B (rwl B)); omega
    exact ⟨by show (szT (nd 10 z A B nl) : Int) ≤ 2 * rwl (nd 10 z A B nl); omega, fun _ => e⟩
  | case10 z A B C iA iB =>
    intro ⟨_, eA, wA, eB, wB, h3⟩; subst h3
    have := (iA wA).2 eA
    have := (iB wB).2 eB
    have := up1 (l := 5) (T := A)
    have := up1 (l := 6) (T := B)
    have e : (szT (nd 11 z A B nl) : Int) + 1 ≤ 2 * rwl (nd 11 z A B nl) := by show ((szT A + szT B + 0 + 1 : Nat) : Int) + 1 ≤ 2 * (up 5 A (rwl A) + up 6 B (rwl B)); omega
    exact ⟨by show (szT (nd 11 z A B nl) : Int) ≤ 2 * rwl (nd 11 z A B nl); omega, fun _ => e⟩
  | case11 z A B C iA =>
    intro ⟨_, _, wA, h2, h3⟩; subst h2 h3
    have := iA wA
    have e : (szT (nd 12 z A nl nl) : Int) + 1 ≤ 2 * rwl (nd 12 z A nl nl) := by show ((szT A + 0 + 0 + 1 : Nat) : Int) + 1 ≤ 2 * (3 + rwl A); omega
    exact ⟨by show (szT (nd 12 z A nl nl) : Int) ≤ 2 * rwl (nd 12 z A nl nl); omega, fun _ => e⟩
  | case12 z A B C iA iB =>
    intro ⟨_, _, wA, _, wB, h3⟩; subst h3
    have := iA wA
    have := iB wB
    have e : (szT (nd 13 z A B nl) : Int) + 1 ≤ 2 * rwl (nd 13 z A B nl) := by show ((szT A + szT B + 0 + 1 : Nat) : Int) + 1 ≤ 2 * (4 + rwl A + rwl B); omega
    exact ⟨by show (szT (nd 13 z A B nl) : Int) ≤ 2 * rwl (nd 13 z A B nl); omega, fun _ => e⟩
  | case13 z A B C iA iB =>
    intro ⟨_, _, wA, _, wB, h3⟩; subst h3
    have := iA wA
    have := iB wB
    have e : (szT (nd 14 z A B nl) : Int) + 1 ≤ 2 * rwl (nd 14 z A B nl) := by show ((szT A + szT B + 0 + 1 : Nat) : Int) + 1 ≤ 2 * (4 + rwl A + rwl B); omega
    exact ⟨by show (szT (nd 14 z A B nl) : Int) ≤ 2 * rwl (nd 14 z A B nl); omega, fun _ => e⟩
  | case14 z A B C iA iB iC =>
    intro ⟨_, _, wA, _, wB, _, wC⟩
    have := iA wA
    have := iB wB
    have := iC wC
    have e : (szT (nd 15 z A B C) : Int) + 1 ≤ 2 * rwl (nd 15 z A B C) := by show ((szT A + szT B + szT C + 1 : Nat) : Int) + 1 ≤ 2 * (3 + rwl A + rwl B + rwl C); omega
    exact ⟨by show (szT (nd 15 z A B C) : Int) ≤ 2 * rwl (nd 15 z A B C); omega, fun _ => e⟩
  | case15 z A B C iA iB =>
    intro ⟨_, _, wA, _, wB, h3⟩; subst h3
    have := iA wA
    have := iB wB
    have e : (szT (nd 16 z A B nl) : Int) + 1 ≤ 2 * rwl (nd 16 z A B nl) := by show ((szT A + szT B + 0 + 1 : Nat) : Int) + 1 ≤ 2 * (2 + rwl A + rwl B); omega
    exact ⟨by show (szT (nd 16 z A B nl) : Int) ≤ 2 * rwl (nd 16 z A B nl); omega, fun _ => e⟩
  | case16 z A B C iB iC =>
    intro ⟨_, wP, _, wB, hC⟩
    have := sz_P wP
    have := iB wB
    have hc : (szT C : Int) ≤ 2 * rwl C := by
      rcases hC with e | e
      · subst e; show ((0 : Nat) : Int) ≤ 2 * 0; decide
      · exact (iC e.2).1
    have e : (szT (nd 17 z A B C) : Int) + 1 ≤ 2 * rwl (nd 17 z A B C) := by show ((szT A + szT B + szT C + 1 : Nat) : Int) + 1 ≤ 2 * (rpl A + 2 + rwl B + rwl C); omega
    exact ⟨by show (szT (nd 17 z A B C) : Int) ≤ 2 * rwl (nd 17 z A B C); omega, fun _ => e⟩
  | case17 => intro hw; exfalso; revert hw; unfold wf; split <;> simp_all
  | case18 t hx =>
    intro hw; exfalso; revert hw; unfold wf; split
    · exact (hx _ _ _ _ _ rfl).elim
    · exact id
/-- a program that was loaded: the beginning of working it out -/
theorem wkI.st (b : bLd σ σ' T) : wkI T (0, T, [], eN, [], []) ∧ szT T ≤ 119 := by
  obtain ⟨⟨he, hw, ⟨h5, hp⟩, hl⟩, ⟨hc, -⟩, -⟩ := b
  have z := (sz_T hw).2 he
  have z : szT T ≤ 119 := by omega
  exact ⟨⟨⟨⟨Or.inl ⟨rfl, he, hw⟩, ⟨by show szT T ≤ 128; omega, trivial⟩, fun f hf => by cases hf⟩, trivial, (fun v hv => by cases hv), fun f hf => by cases hf⟩, ⟨⟨h5, hp⟩, (fun q hq => by cases hq), trivial, (fun v hv => by cases hv), fun f hf => by cases hf⟩, wkC.st hc, (fun e => absurd (show (0 : Nat) = 1 from e) (by decide)), 0, 0, 0, rfl, rfl, rfl⟩, z⟩
theorem bLd.sf (b : bLd σ σ' T) : sfR T := fun r => by
  rcases load_ok b r with ⟨v, e, -⟩ | e
  · exact Or.inl ⟨v, e⟩
  · exact Or.inr e.2
theorem c_start {cs : List Int} (b : bLd σ σ' T) (F : cLd σ σ1 T cs) (H : 100 ≤ h.1) (e10 : σ1 54 10 = a) (ha : 0 ≤ a ∧ a ≤ 1000) : cSt T σ1 (hSet (bgH h) 1 9 .null) σ1 0 a (.inl (0, T, [], eN, [], [])) := by
  obtain ⟨-, -, -, -, -, -, ⟨tt, pp, r8, g, p⟩, f2, f3, f4, f7, f8, f9, -⟩ := F
  obtain ⟨I, z⟩ := wkI.st b
  have h5 : hAt (hSet (bgH h) 1 9 .null) 54 5 = .null := (at_ne (by decide) _).trans ((at_nk (by decide)).trans ((at_nk (by decide)).trans at_eq))
  have h6 : hAt (hSet (bgH h) 1 9 .null) 54 6 = .null := (at_ne (by decide) _).trans ((at_nk (by decide)).trans at_eq)
  have h11 : hAt (hSet (bgH h) 1 9 .null) 54 11 = .null := (at_ne (by decide) _).trans at_eq
  refine ⟨⟨⟨g, pp⟩, b.sf⟩, ⟨f9, e10⟩, ⟨⟨by decide, by decide⟩, ha⟩, ⟨⟨100, Nat.zero_le _, σ1 20 8, ?_⟩, f7, f8, h11⟩, I, ?_⟩
  · rw [if_pos rfl]
    exact ⟨⟨⟨Nat.le_refl _, H⟩, fun _ _ _ => rfl, h5, trivial, f2, h6, f3, r8, p⟩, f4, tt⟩
  · have e : wkZ (0, T, [], eN, [], []) = 5 * szT T + 1 + 0 := rfl
    rw [e]; omega
/-- what doesn't touch the machine -/
def keC (h h' : mHp) (σ σ' : Mem) : Prop := (h.1 ≤ h'.1 ∧ smC h.1 h h') ∧ (∀ x, hAt h' 54 x = hAt h 54 x) ∧ (∀ x, hAt h' 55 x = hAt h 55 x) ∧ (∀ i, 20 ≤ i → i ≤ 34 → σ' i = σ i) ∧ σ' 54 = σ 54
theorem cRel.ke (k : keC h h' σ σ') (R : cRel σ0 n h σ S) : cRel σ0 n h' σ' S := by
  obtain ⟨⟨k1, k2⟩, k3, k4, k5, k6⟩ := k
  have cb : ∀ {c : Int} {cx : Cx} {ρ : En} {vs : List Va} {fs : List (Cx × En)} {a : Int}, cB σ0 n h σ c cx ρ vs fs a → cB σ0 n h' σ' c cx ρ vs fs a := fun b => by
    obtain ⟨⟨b0, b1⟩, sp, e, v, cc, f, at', ra, p⟩ := b
    have s : smC n h h' := k2.le b1
    refine ⟨⟨b0, Nat.le_trans b1 k1⟩, fun i h0 h1 => (k5 i h0 h1).trans (sp i h0 h1), ?_, v.mv s (Nat.le_refl _) (fun i _ => k4 i), by rw [k6]; exact cc, ?_, by rw [k6]; exact at', ra, p⟩
    · rw [k3]; exact e.mv s (Nat.le_refl _)
    · rw [k3]; exact f.mv s (Nat.le_refl _)
  obtain ⟨m, N, cx, ρ, vs, fs⟩ := S
  obtain ⟨hl, a, R⟩ := R
  refine ⟨hl, a, ?_⟩
  by_cases q : m = 0
  · rw [if_pos q] at R ⊢
    exact ⟨cb R.1, by rw [k6]; exact R.2.1, R.2.2⟩
  · rw [if_neg q] at R ⊢
    obtain ⟨v, vs', e, b, r, x, y⟩ := R
    rw [k6]
    exact ⟨v, vs', e, cb b, by rw [k4]; exact r.mv k2 k1, x, by rw [k4]; exact y⟩
theorem cSt.ke (k : keC h h' σ σ') (X : cSt T σ0 h σ s a e) : cSt T σ0 h' σ' s a e := by
  obtain ⟨g, ⟨e9, e10⟩, hs, E⟩ := X
  have k0 := k
  obtain ⟨⟨k1, k2⟩, k3, k4, k5, k6⟩ := k
  refine ⟨g, by rw [k6]; exact ⟨e9, e10⟩, hs, ?_⟩
  cases e with
  | inl S =>
    obtain ⟨⟨⟨n, R⟩, e7, e8, e11⟩, I⟩ := E
    exact ⟨⟨⟨n, R.ke k0⟩, by rw [k6]; exact e7, by rw [k6]; exact e8, (k3 11).trans e11⟩, I⟩
  | inr y =>
    cases y with
    | inl v =>
      obtain ⟨⟨r, e7, e8, sp⟩, I⟩ := E
      exact ⟨⟨by rw [k3]; exact r.mv k2 k1, by rw [k6]; exact e7, by rw [k6]; exact e8, fun i h0 h1 => (k5 i h0 h1).trans (sp i h0 h1)⟩, I⟩
    | inr c =>
      obtain ⟨e7, e8, e11⟩ := E
      exact ⟨by rw [k6]; exact e7, by rw [k6]; exact e8, (k3 11).trans e11⟩
end CSTA
