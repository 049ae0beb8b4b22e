/-! D2 from one thing: in functions no branch of 17 names or more is ever taken. -/
/-- no pattern has many names -/
def bnT : Tr → Prop
  | .tag k (.nest _ (.append a (.append b c))) => (k = 17 → (bnd a).length ≤ 29) ∧ bnT a ∧ bnT b ∧ bnT c
  | _ => True
def QC (A : Tr) : Prop := QB A ∧ bnT A
/-- in functions no branch of 17 names or more is ever taken (Z) -/
def roomZ : Prop := ∀ {σ σ' : Mem} {T : Tr}, bLd σ σ' T → nbF T
section RMB
theorem allL_im {Q Q' : Tr → Prop} (h : ∀ A, Q A → Q' A) : ∀ {f : Std.Format}, allL Q f → allL Q' f := by
  intro f
  fun_induction allL Q f with
  | case1 k f ih =>
    intro a
    exact ⟨fun e z A R q => h A (a.1 e z A R q), ih a.2⟩
  | case2 z f ih => intro a; exact ih a
  | case3 a b i1 i2 => intro x; exact ⟨i1 x.1, i2 x.2⟩
  | case4 f b ih => intro a; exact ih a
  | case5 f h1 h2 h3 h4 =>
    intro _
    unfold allL
    split
    · exact (h1 _ _ rfl).elim
    · exact (h2 _ _ rfl).elim
    · exact (h3 _ _ rfl).elim
    · exact (h4 _ _ rfl).elim
    · trivial
theorem bn_P : ∀ {P : Tr}, wfP P → bnT P := by
  intro P
  have lf : ∀ {k : Nat} {z : Int}, k ≠ 17 → bnT (nd k z nl nl nl) := fun h => ⟨fun e => absurd e h, trivial, trivial, trivial⟩
  induction P using wfP.induct with
  | case1 z A B C => intro ⟨_, h1, h2, h3⟩; subst h1 h2 h3; exact lf (by decide)
  | case2 z A B C => intro ⟨_, h1, h2, h3⟩; subst h1 h2 h3; exact lf (by decide)
  | case3 z A B C => intro ⟨_, h1, h2, h3⟩; subst h1 h2 h3; exact lf (by decide)
  | case4 z A B C => intro ⟨_, h1, h2, h3⟩; subst h1 h2 h3; exact lf (by decide)
  | case5 z A B C => intro ⟨_, h1, h2, h3⟩; subst h1 h2 h3; exact lf (by decide)
  | case6 z A B C i1 i2 =>
    intro ⟨_, w1, w2, h3⟩
    subst h3
    exact ⟨fun e => absurd e (by decide), i1 w1, i2 w2, trivial⟩
  | case7 => intro hw; exfalso; revert hw; unfold wfP; split <;> simp_all
  | case8 t hx =>
    intro hw; exfalso; revert hw; unfold wfP; split
    · exact (hx _ _ _ _ _ rfl).elim
    · exact id
def stT (T : Tr) (r : Int) : Prop := r ≤ 60 → allL QC T ∧ bnT T
theorem st_T : ∀ {T : Tr}, wf T → stT T (rwl T) := by
  intro T
  have up1 : ∀ {l : Int} {T : Tr}, rwl T ≤ up l T (rwl T) := fun {l T} => (up_ge (l := l) (T := T) (r := rwl T)).1
  have gE : ∀ {T : Tr}, wf T → isE T → 1 ≤ rwl T := fun w e => ((pr_T w).1 e).1
  have gB : ∀ {T : Tr}, wf T → isBr T → 4 ≤ rwl T := fun w e => ((pr_T w).2 e).1
  have lf : ∀ {k : Nat} {z r : Int}, k ≠ 12 → k ≠ 17 → stT (nd k z nl nl nl) r := fun h1 h2 _ => ⟨⟨fun e => absurd e h1, trivial, trivial, trivial⟩, fun e => absurd e h2, trivial, trivial, trivial⟩
  induction T using wf.induct with
  | case1 z A B C => intro ⟨_, h1, h2, h3⟩; subst h1 h2 h3; exact lf (k := 0) (by decide) (by decide)
  | case2 z A B C => intro ⟨_, h1, h2, h3⟩; subst h1 h2 h3; exact lf (k := 1) (by decide) (by decide)
  | case3 z A B C => intro ⟨_, h1, h2, h3⟩; subst h1 h2 h3; exact lf (k := 2) (by decide) (by decide)
  | case4 z A B C => intro ⟨_, h1, h2, h3⟩; subst h1 h2 h3; exact lf (k := 3) (by decide) (by decide)
  | case5 z A B C => intro ⟨_, h1, h2, h3⟩; subst h1 h2 h3; exact lf (k := 4) (by decide) (by decide)
  | case6 z A B C => intro ⟨_, h1, h2, h3⟩; subst h1 h2 h3; exact lf (k := 5) (by decide) (by decide)
  | case7 z A B C iA =>
    intro ⟨_, eA, wA, h2, h3⟩; subst h2 h3
    show stT (nd 8 z A nl nl) (1 + up 6 A (rwl A))
    intro hr
    have u := up1 (l := 6) (T := A)
    obtain ⟨a1, a2⟩ := iA wA (by omega)
    exact ⟨⟨fun e => absurd e (by decide), a1, trivial, trivial⟩, fun e => absurd e (by decide), a2, trivial, trivial⟩
  | case8 z A B C iA iB =>
    intro ⟨_, eA, wA, eB, wB, h3⟩; subst h3
    show stT (nd 9 z A B nl) (1 + up (lf9 z) A (rwl A) + up (rt9 z) B (rwl B))
    intro hr
    have u := up1 (l := lf9 z) (T := A)
    have v := up1 (l := rt9 z) (T := B)
    have := gE wA eA
    have := gE wB eB
    obtain ⟨a1, a2⟩ := iA wA (by omega)
    obtain ⟨b1, b2⟩ := iB wB (by omega)
    exact ⟨⟨fun e => absurd e (by decide), a1, b1, trivial⟩, fun e => absurd e (by decide), a2, b2, trivial⟩
  | case9 z A B C iA iB =>
    intro ⟨_, eA, wA, eB, wB, h3⟩; subst h3
    show stT (nd 10 z A B nl) (1 + up 2 A (rwl A) + up 1 B (rwl B))
    intro hr
    have u := up1 (l := 2) (T := A)
    have v := up1 (l := 1) (T := B)
    have := gE wA eA
    have := gE wB eB
    obtain ⟨a1, a2⟩ := iA wA (by omega)
    obtain ⟨b1, b2⟩ := iB wB (by omega)
    exact ⟨⟨fun e => absurd e (by decide), a1, b1, trivial⟩, fun e => absurd e (by decide), a2, b2, trivial⟩
  | case10 z A B C iA iB =>
    intro ⟨_, eA, wA, eB, wB, h3⟩; subst h3
    show stT (nd 11 z A B nl) (up 5 A (rwl A) + up 6 B (rwl B))
    intro hr
    have u := up1 (l := 5) (T := A)
    have v := up1 (l := 6) (T := B)
    have := gE wA eA
    have := gE wB eB
    obtain ⟨a1, a2⟩ := iA wA (by omega)
    obtain ⟨b1, b2⟩ := iB wB (by omega)
    exact ⟨⟨fun e => absurd e (by decide), a1, b1, trivial⟩, fun e => absurd e (by decide), a2, b2, trivial⟩
  | case11 z A B C iA =>
    intro ⟨_, eA, wA, h2, h3⟩; subst h2 h3
    show stT (nd 12 z A nl nl) (3 + rwl A)
    intro hr
    have q := ((pr_T wA).1 eA)
    obtain ⟨a1, a2⟩ := iA wA (by omega)
    refine ⟨⟨fun _ z' A' R' e => ?_, a1, trivial, trivial⟩, fun e => absurd e (by decide), a2, trivial, trivial⟩
    cases e
    refine ⟨?_, a2⟩
    have := (q.2 0 (Int.le_refl _)).2 (by omega)
    unfold QB
    unfold gQ at this
    omega
  | case12 z A B C iA iB =>
    intro ⟨_, eA, wA, eB, wB, h3⟩; subst h3
    show stT (nd 13 z A B nl) (4 + rwl A + rwl B)
    intro hr
    have := gE wA eA
    have := gE wB eB
    obtain ⟨a1, a2⟩ := iA wA (by omega)
    obtain ⟨b1, b2⟩ := iB wB (by omega)
    exact ⟨⟨fun e => absurd e (by decide), a1, b1, trivial⟩, fun e => absurd e (by decide), a2, b2, trivial⟩
  | case13 z A B C iA iB =>
    intro ⟨_, eA, wA, eB, wB, h3⟩; subst h3
    show stT (nd 14 z A B nl) (4 + rwl A + rwl B)
    intro hr
    have := gE wA (isFn_E eA)
    have := gE wB eB
    obtain ⟨a1, a2⟩ := iA wA (by omega)
    obtain ⟨b1, b2⟩ := iB wB (by omega)
    exact ⟨⟨fun e => absurd e (by decide), a1, b1, trivial⟩, fun e => absurd e (by decide), a2, b2, trivial⟩
  | case14 z A B C iA iB iC =>
    intro ⟨_, eA, wA, eB, wB, eC, wC⟩
    show stT (nd 15 z A B C) (3 + rwl A + rwl B + rwl C)
    intro hr
    have := gE wA eA
    have := gE wB eB
    have := gE wC eC
    obtain ⟨a1, a2⟩ := iA wA (by omega)
    obtain ⟨b1, b2⟩ := iB wB (by omega)
    obtain ⟨c1, c2⟩ := iC wC (by omega)
    exact ⟨⟨fun e => absurd e (by decide), a1, b1, c1⟩, fun e => absurd e (by decide), a2, b2, c2⟩
  | case15 z A B C iA iB =>
    intro ⟨_, eA, wA, eB, wB, h3⟩; subst h3
    show stT (nd 16 z A B nl) (2 + rwl A + rwl B)
    intro hr
    have := gE wA eA
    have := gB wB eB
    obtain ⟨a1, a2⟩ := iA wA (by omega)
    obtain ⟨b1, b2⟩ := iB wB (by omega)
    exact ⟨⟨fun e => absurd e (by decide), a1, b1, trivial⟩, fun e => absurd e (by decide), a2, b2, trivial⟩
  | case16 z A B C iB iC =>
    intro ⟨_, wP, eB, wB, hC⟩
    show stT (nd 17 z A B C) (rpl A + 2 + rwl B + rwl C)
    intro hr
    obtain ⟨p1, p2⟩ := rpl_bn wP
    have := gE wB eB
    have hc : 0 ≤ rwl C ∧ (rwl C ≤ 60 → allL QC C ∧ bnT C) := by
      rcases hC with e | e
      · subst e; exact ⟨Int.le_refl _, fun _ => ⟨trivial, trivial⟩⟩
      · have := gB e.2 e.1
        exact ⟨by omega, iC e.2⟩
    obtain ⟨c0, c3⟩ := hc
    obtain ⟨b1, b2⟩ := iB wB (by omega)
    obtain ⟨c1, c2⟩ := c3 (by omega)
    exact ⟨⟨fun e => absurd e (by decide), allL_P wP, b1, c1⟩, fun _ => by omega, bn_P wP, b2, c2⟩
  | case17 => intro hw; exfalso; revert hw; unfold wf; split <;> simp_all
  | case18 t hx =>
    intro hw; exfalso; revert hw; unfold wf; split
    · exact (hx _ _ _ _ _ rfl).elim
    · exact id
/-- all work is among patterns with few names -/
def bnS (st : AS) : Prop := (∀ i ∈ st.1, bnT i.2) ∧ ∀ f ∈ st.2.2.2, ∀ i ∈ f.1, bnT i.2
theorem bn_nd {k : Nat} {z : Int} {A B C : Tr} (h : bnT (nd k z A B C)) : bnT A ∧ bnT B ∧ bnT C := h.2
theorem br_bn : ∀ {B : Tr} {v : Va} {ρ : En} {E br : Tr} {ρ' : En}, brF B v ρ = some (E, br, ρ') → bnT B → bnT E ∧ bnT br := by
  intro B v ρ
  fun_induction brF B v ρ with
  | case1 z P E C v ρ ρ1 h =>
    intro E' br ρ' e b
    cases e
    exact ⟨b.2.2.1, b⟩
  | case2 z P E C v ρ h ih =>
    intro E' br ρ' e b
    exact ih e b.2.2.2
  | case3 => intro E' br ρ' e; cases e
theorem bn_mv {st st' : AS} (h : mvA st = some st') (J : bnS st) : bnS st' := by
  obtain ⟨a1, a4⟩ := J
  unfold mvA at h
  split at h
  · next k z A B C w ρ vs fs =>
    have hT : bnT (nd k z A B C) := a1 _ (List.mem_cons_self ..)
    obtain ⟨hA, hB, hC⟩ := bn_nd hT
    have hw : ∀ i ∈ w, bnT i.2 := fun i hi => a1 i (List.mem_cons_of_mem _ hi)
    split at h
    · cases h; exact ⟨hw, a4⟩
    · split at h
      · cases h
        refine ⟨fun i hi => ?_, a4⟩
        rcases List.mem_cons.mp hi with e | hi
        · rw [e]; exact hA
        rcases List.mem_cons.mp hi with e | hi
        · rw [e]; exact hB
        rcases List.mem_cons.mp hi with e | hi
        · rw [e]; exact hT
        · exact hw i hi
      · split at h
        · cases h
          refine ⟨fun i hi => ?_, a4⟩
          rcases List.mem_cons.mp hi with e | hi
          · rw [e]; exact hA
          rcases List.mem_cons.mp hi with e | hi
          · rw [e]; exact hT
          · exact hw i hi
        · cases h
  · next t w ρ vs fs => cases h; exact ⟨fun i hi => a1 i (List.mem_cons_of_mem _ hi), a4⟩
  · next ρ vs w ρ' fs => cases h; exact ⟨a4 _ (List.mem_cons_self ..), fun f hf => a4 f (List.mem_cons_of_mem _ hf)⟩
  · cases h
theorem bn_sp {st st' : AS} {b : Nat} (h : spA st = some (.inl (st', b))) (Q : allS QC st) (J : bnS st) : bnS st' := by
  obtain ⟨a1, a4⟩ := J
  obtain ⟨-, -, q3, -⟩ := Q
  unfold spA at h
  split at h
  · next k z A B C w ρ vs fs =>
    have hT : bnT (nd k z A B C) := a1 _ (List.mem_cons_self ..)
    obtain ⟨hA, hB, hC⟩ := bn_nd hT
    have hw : ∀ i ∈ w, bnT i.2 := fun i hi => a1 i (List.mem_cons_of_mem _ hi)
    have two : ∀ {X Y : Tr} {m j : Nat}, bnT X → bnT Y → ∀ i ∈ ((m, X) :: (j, Y) :: w), bnT i.2 := fun x y i hi => by
      rcases List.mem_cons.mp hi with e | hi
      · rw [e]; exact x
      rcases List.mem_cons.mp hi with e | hi
      · rw [e]; exact y
      · exact hw i hi
    have one : ∀ {X : Tr} {m : Nat}, bnT X → ∀ i ∈ ((m, X) :: w), bnT i.2 := fun x i hi => by
      rcases List.mem_cons.mp hi with e | hi
      · rw [e]; exact x
      · exact hw i hi
    split at h
    · cases h; exact ⟨hw, a4⟩
    · split at h
      · cases h; exact ⟨hw, a4⟩
      · cases h
    · cases h; exact ⟨hw, a4⟩
    · next x f vs' =>
      have hf : allL QC f := q3 f (List.mem_cons_of_mem _ (List.mem_cons_self ..))
      have fr : ∀ q ∈ (w, ρ) :: fs, ∀ i ∈ q.1, bnT i.2 := fun q hq => by
        rcases List.mem_cons.mp hq with e | e
        · rw [e]; exact hw
        · exact a4 q e
      have cl : ∀ {bb : Tr}, bnT bb → ∀ i ∈ [((0 : Nat), bb)], bnT i.2 := fun x i hi => by
        rcases List.mem_cons.mp hi with e | e
        · rw [e]; exact x
        · cases e
      split at h
      · cases h; exact ⟨hw, a4⟩
      · next u y bb r ρ' =>
        cases h
        obtain ⟨-, ⟨hq, -⟩, -⟩ := hf
        exact ⟨cl (hq rfl _ _ _ rfl).2, fr⟩
      · next u gn y bb r ρ' =>
        cases h
        obtain ⟨-, ⟨hq, -⟩, -⟩ := hf
        exact ⟨cl (hq rfl _ _ _ rfl).2, fr⟩
      · cases h
    · cases h; exact ⟨two hB hT, a4⟩
    · split at h
      · cases h; exact ⟨two hB hT, a4⟩
      · cases h
    · next v vs' =>
      cases h
      refine ⟨one ?_, a4⟩
      split
      · exact hB
      · exact hC
    · split at h
      · next E br ρ' he =>
        cases h
        obtain ⟨x, y⟩ := br_bn he hB
        exact ⟨two x y, a4⟩
      · cases h
    · cases h
  · cases h
theorem bn_run {T : Tr} (hT : allL QC T) (bT : bnT T) : ∀ (k : Nat) (st : AS) (n g : Int), Run T k st n g → allS QC st ∧ bnS st
  | 0, st, n, g, h => by
    obtain ⟨rfl, rfl, rfl⟩ := h
    refine ⟨⟨fun i hi => ?_, trivial, (fun v hv => by cases hv), (fun f hf => by cases hf)⟩, fun i hi => ?_, fun f hf => by cases hf⟩
    · rcases List.mem_cons.mp hi with e | e
      · rw [e]; exact hT
      · cases e
    · rcases List.mem_cons.mp hi with e | e
      · rw [e]; exact bT
      · cases e
  | k + 1, st, n, g, h => by
    obtain ⟨s0, n0, g0, h0, h⟩ := h
    obtain ⟨J, p⟩ := bn_run hT bT k s0 n0 g0 h0
    rcases h with ⟨h, rfl, rfl⟩ | ⟨b, h, rfl, rfl⟩
    · exact ⟨mv_S h J, bn_mv h p⟩
    · exact ⟨sp_S h J, bn_sp h J p⟩
theorem brMx_le : ∀ {B : Tr}, wf B → bnT B → brMx B ≤ 29 ∨ ¬ isBr B := by
  intro B
  fun_induction brMx B with
  | case1 k z P E C ih =>
    intro w b
    by_cases q : k = 17
    · subst q
      left
      have w : (z = (bnd P).length ∧ (bnd P).Nodup) ∧ wfP P ∧ isE E ∧ wf E ∧ (C = nl ∨ (isBr C ∧ wf C)) := w
      have b1 := b.1 rfl
      rcases w.2.2.2.2 with e | e
      · subst e; show max (bnd P).length 0 ≤ 29; omega
      · rcases ih e.2 b.2.2.2 with h | h
        · omega
        · exact absurd e.1 h
    · exact Or.inr (fun e => q e)
  | case2 B h => intro w b; exact Or.inl (by decide)
theorem roomB_of (Z : roomZ) : roomB := by
  intro σ σ' T b m S n g I r hn
  obtain ⟨⟨he, hw, -, hl⟩, -⟩ := id b
  obtain ⟨a1, a2⟩ := st_T hw hl
  obtain ⟨-, p⟩ := capB (allL_im (fun A q => q.1) a1) (Z b) m (abS S) n g r
  have k0 := ((pr_T hw).1 he).2 0 (Int.le_refl _)
  have k1 := k0.1
  unfold gP at k1
  have pg := pot_ge (w := (abS S).1) (fs := (abS S).2.2.2)
  refine ⟨by omega, fun h5 => ?_⟩
  have sm : stMx S ≤ 29 := by
    obtain ⟨-, B2⟩ := bn_run a1 a2 m (abS S) n g r
    obtain ⟨mo, N, cx, ρ, vs, fs⟩ := S
    obtain ⟨W, -⟩ := I
    by_cases q : mo = 2
    · subst q
      obtain ⟨we, ww, -⟩ : isE N ∧ wf N ∧ 8 ≤ (match N with | .tag k _ => k | _ => 0) ∧ (match N with | .tag k _ => k | _ => 0) ≠ 12 := by
        rcases W.1.1 with e | e | e
        · cases e.1
        · cases e
        · exact e.2
      obtain ⟨k, z, A, B, C, rfl, hk⟩ := isE_nd we ww
      show (if k = 16 then brMx B else 0) ≤ 29
      by_cases e : k = 16
      · rw [if_pos e]
        subst e
        have ww : z = 0 ∧ isE A ∧ wf A ∧ isBr B ∧ wf B ∧ C = nl := ww
        have bN : bnT (nd 16 z A B C) := B2.1 (1, nd 16 z A B C) (List.mem_cons_self ..)
        rcases brMx_le ww.2.2.2.2.1 bN.2.2.1 with h | h
        · exact h
        · exact absurd ww.2.2.2.1 h
      · rw [if_neg e]; decide
    · have : stMx (mo, N, cx, ρ, vs, fs) = 0 := by
        unfold stMx
        split
        · rename_i e; cases e; exact absurd rfl q
        · rfl
      rw [this]; decide
  omega
end RMB
