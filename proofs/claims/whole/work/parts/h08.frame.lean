/-! What a run meets: parts of the program, or of the bodies of its functions. -/
/-- S stands in T, not within a function -/
def str (S : Tr) : Tr → Prop
  | .tag k (.nest z (.append A (.append B C))) => S = nd k z A B C ∨ (k ≠ 12 ∧ ((k ≠ 17 ∧ str S A) ∨ str S B ∨ str S C))
  | t => S = t
/-- S is the body of a function that stands in T -/
def bo (S : Tr) : Tr → Prop
  | .tag k (.nest _ (.append A (.append B C))) => (k = 12 ∧ S = A) ∨ (k ≠ 17 ∧ bo S A) ∨ bo S B ∨ bo S C
  | _ => False
def strW (A : Tr) (w : Wl) : Prop := ∀ i ∈ w, str i.2 A
/-- the last caller is the program itself -/
def frI (T : Tr) : Wl → List (Wl × En) → Prop
  | w, [] => strW T w
  | w, f :: fs => (∃ A, bo A T ∧ strW A w) ∧ frI T f.1 fs
/-- somewhere in the program itself something is applied -/
def apMn (T : Tr) : Prop := ∃ z A B C, str (nd 11 z A B C) T
section FRI
variable {S T A B C : Tr} {k : Nat} {z : Int}
theorem str_me : ∀ {S : Tr}, str S S := by
  intro S
  unfold str
  split
  · exact Or.inl rfl
  · rfl
theorem str_tr : ∀ {T : Tr}, str S A → str A T → str S T := by
  intro T
  fun_induction str A T with
  | case1 k z X Y Z i1 i2 i3 =>
    intro h1 h2
    rcases h2 with e | ⟨hk, h2⟩
    · rw [e] at h1; exact h1
    · refine Or.inr ⟨hk, ?_⟩
      rcases h2 with ⟨q, h⟩ | h | h
      · exact Or.inl ⟨q, i1 h1 h⟩
      · exact Or.inr (Or.inl (i2 h1 h))
      · exact Or.inr (Or.inr (i3 h1 h))
  | case2 t hx => intro h1 h2; rw [h2] at h1; exact h1
theorem str_nd (hk : k ≠ 12) (h : str (nd k z A B C) T) : (k ≠ 17 → ∀ S, str S A → str S T) ∧ (∀ S, str S B → str S T) ∧ (∀ S, str S C → str S T) := by
  refine ⟨fun q S h1 => ?_, fun S h1 => ?_, fun S h1 => ?_⟩
  · have h2 : str S (nd k z A B C) := Or.inr ⟨hk, Or.inl ⟨q, h1⟩⟩
    exact str_tr h2 h
  · have h2 : str S (nd k z A B C) := Or.inr ⟨hk, Or.inr (Or.inl h1)⟩
    exact str_tr h2 h
  · have h2 : str S (nd k z A B C) := Or.inr ⟨hk, Or.inr (Or.inr h1)⟩
    exact str_tr h2 h
/-- what is a body in a part is one in the whole -/
theorem bo_str : ∀ {T : Tr}, bo S A → str A T → bo S T := by
  intro T
  fun_induction str A T with
  | case1 k z X Y Z i1 i2 i3 =>
    intro h1 h2
    rcases h2 with e | ⟨hk, h2⟩
    · rw [e] at h1; exact h1
    · rcases h2 with ⟨q, h⟩ | h | h
      · exact Or.inr (Or.inl ⟨q, i1 h1 h⟩)
      · exact Or.inr (Or.inr (Or.inl (i2 h1 h)))
      · exact Or.inr (Or.inr (Or.inr (i3 h1 h)))
  | case2 t hx => intro h1 h2; rw [h2] at h1; exact h1
theorem bo_all : ∀ {f : Tr}, wf f → (∀ S, bo S f → bo S T) → allL (fun A => bo A T) f := by
  intro f
  have lf : ∀ {k : Nat} {z : Int}, k ≠ 12 → allL (fun A => bo A T) (nd k z nl nl nl) := fun h => ⟨fun e => absurd e h, trivial, trivial, trivial⟩
  have mk : ∀ {k : Nat} {z : Int} {A B C : Tr}, (∀ S, bo S (nd k z A B C) → bo S T) → ((k ≠ 17 → ∀ S, bo S A → bo S T) → allL (fun A => bo A T) A) → ((∀ S, bo S B → bo S T) → allL (fun A => bo A T) B) → ((∀ S, bo S C → bo S T) → allL (fun A => bo A T) C) → allL (fun A => bo A T) (nd k z A B C) := fun {k z A B C} h a b c => by
    refine ⟨fun e z' A' R' q => ?_, a (fun q S x => h S (Or.inr (Or.inl ⟨q, x⟩))), b (fun S x => h S (Or.inr (Or.inr (Or.inl x)))), c (fun S x => h S (Or.inr (Or.inr (Or.inr x))))⟩
    cases q
    exact h A (Or.inl ⟨e, rfl⟩)
  induction f using wf.induct with
  | case1 z A B C => intro ⟨_, h1, h2, h3⟩ _; subst h1 h2 h3; exact lf (k := 0) (by decide)
  | case2 z A B C => intro ⟨_, h1, h2, h3⟩ _; subst h1 h2 h3; exact lf (k := 1) (by decide)
  | case3 z A B C => intro ⟨_, h1, h2, h3⟩ _; subst h1 h2 h3; exact lf (k := 2) (by decide)
  | case4 z A B C => intro ⟨_, h1, h2, h3⟩ _; subst h1 h2 h3; exact lf (k := 3) (by decide)
  | case5 z A B C => intro ⟨_, h1, h2, h3⟩ _; subst h1 h2 h3; exact lf (k := 4) (by decide)
  | case6 z A B C => intro ⟨_, h1, h2, h3⟩ _; subst h1 h2 h3; exact lf (k := 5) (by decide)
  | case7 z A B C iA => intro ⟨_, eA, wA, h2, h3⟩ h; subst h2 h3; exact mk (k := 8) h (fun q => iA wA (q (by decide))) (fun _ => trivial) (fun _ => trivial)
  | case8 z A B C iA iB => intro ⟨_, eA, wA, eB, wB, h3⟩ h; subst h3; exact mk (k := 9) h (fun q => iA wA (q (by decide))) (iB wB) (fun _ => trivial)
  | case9 z A B C iA iB => intro ⟨_, eA, wA, eB, wB, h3⟩ h; subst h3; exact mk (k := 10) h (fun q => iA wA (q (by decide))) (iB wB) (fun _ => trivial)
  | case10 z A B C iA iB => intro ⟨_, eA, wA, eB, wB, h3⟩ h; subst h3; exact mk (k := 11) h (fun q => iA wA (q (by decide))) (iB wB) (fun _ => trivial)
  | case11 z A B C iA => intro ⟨_, eA, wA, h2, h3⟩ h; subst h2 h3; exact mk (k := 12) h (fun q => iA wA (q (by decide))) (fun _ => trivial) (fun _ => trivial)
  | case12 z A B C iA iB => intro ⟨_, eA, wA, eB, wB, h3⟩ h; subst h3; exact mk (k := 13) h (fun q => iA wA (q (by decide))) (iB wB) (fun _ => trivial)
  | case13 z A B C iA iB => intro ⟨_, eA, wA, eB, wB, h3⟩ h; subst h3; exact mk (k := 14) h (fun q => iA wA (q (by decide))) (iB wB) (fun _ => trivial)
  | case14 z A B C iA iB iC => intro ⟨_, eA, wA, eB, wB, eC, wC⟩ h; exact mk (k := 15) h (fun q => iA wA (q (by decide))) (iB wB) (iC wC)
  | case15 z A B C iA iB => intro ⟨_, eA, wA, eB, wB, h3⟩ h; subst h3; exact mk (k := 16) h (fun q => iA wA (q (by decide))) (iB wB) (fun _ => trivial)
  | case16 z A B C iB iC =>
    intro ⟨_, wP, eB, wB, hC⟩ h
    refine mk (k := 17) h (fun _ => allL_P wP) (iB wB) (fun x => ?_)
    rcases hC with e | e
    · subst e; exact trivial
    · exact iC e.2 x
  | case17 => intro hw; exfalso; revert hw; unfold wf; split <;> simp_all
  | case18 t hx =>
    intro hw; exfalso; revert hw; unfold wf; split
    · exact (hx _ _ _ _ _ rfl).elim
    · exact id
theorem br_str : ∀ {B : Tr} {v : Va} {ρ : En} {E br : Tr} {ρ' : En}, brF B v ρ = some (E, br, ρ') → str B A → str E A ∧ str br A := by
  intro B v ρ
  fun_induction brF B v ρ with
  | case1 z P E C v ρ ρ1 h =>
    intro E' br ρ' e b
    cases e
    have b : str (nd 17 z P E C) A := b
    exact ⟨(str_nd (by decide) b).2.1 _ str_me, b⟩
  | case2 z P E C v ρ h ih =>
    intro E' br ρ' e b
    have b : str (nd 17 z P E C) A := b
    exact ih e ((str_nd (by decide) b).2.2 _ str_me)
  | case3 => intro E' br ρ' e; cases e
theorem fr_to {w w' : Wl} {fs : List (Wl × En)} (h : ∀ A, strW A w → strW A w') (J : frI T w fs) : frI T w' fs := by
  cases fs with
  | nil => exact h T J
  | cons f gs =>
    obtain ⟨⟨A, hA, hw⟩, J⟩ := J
    exact ⟨⟨A, hA, h A hw⟩, J⟩
theorem strW_cons {i : Nat × Tr} {w : Wl} : strW A (i :: w) ↔ str i.2 A ∧ strW A w := by
  constructor
  · intro h; exact ⟨h i (List.mem_cons_self ..), fun j hj => h j (List.mem_cons_of_mem _ hj)⟩
  · intro h j hj
    rcases List.mem_cons.mp hj with e | e
    · rw [e]; exact h.1
    · exact h.2 j e
theorem fr_mv {w w' : Wl} {ρ ρ' : En} {vs vs' : List Va} {fs fs' : List (Wl × En)} (h : mvA (w, ρ, vs, fs) = some (w', ρ', vs', fs')) (J : frI T w fs) : frI T w' fs' ∧ (fs = [] → fs' = []) := by
  unfold mvA at h
  split at h
  · next k z A B C w1 ρ1 vs1 fs1 e0 =>
    cases e0
    split at h
    · cases h
      exact ⟨fr_to (fun A h => (strW_cons.mp h).2) J, id⟩
    · split at h
      · next hk =>
        cases h
        refine ⟨fr_to (fun A' h => ?_) J, id⟩
        obtain ⟨h1, h2⟩ := strW_cons.mp h
        have h1 : str (nd k z A B C) A' := h1
        obtain ⟨x, y, -⟩ := str_nd (by omega) h1
        exact strW_cons.mpr ⟨x (by omega) _ str_me, strW_cons.mpr ⟨y _ str_me, strW_cons.mpr ⟨h1, h2⟩⟩⟩
      · split at h
        · next hk =>
          cases h
          refine ⟨fr_to (fun A' h => ?_) J, id⟩
          obtain ⟨h1, h2⟩ := strW_cons.mp h
          have h1 : str (nd k z A B C) A' := h1
          obtain ⟨x, -, -⟩ := str_nd (by omega) h1
          exact strW_cons.mpr ⟨x (by omega) _ str_me, strW_cons.mpr ⟨h1, h2⟩⟩
        · cases h
  · next t w1 ρ1 vs1 fs1 e0 =>
    cases e0
    cases h
    exact ⟨fr_to (fun A h => (strW_cons.mp h).2) J, id⟩
  · next ρ1 vs1 w1 ρ2 fs1 e0 =>
    cases e0
    cases h
    exact ⟨J.2, fun e => by cases e⟩
  · cases h
theorem fr_sp {w w' : Wl} {ρ ρ' : En} {vs vs' : List Va} {fs fs' : List (Wl × En)} {b : Nat} (h : spA (w, ρ, vs, fs) = some (.inl ((w', ρ', vs', fs'), b))) (Q : allS (fun A => bo A T) (w, ρ, vs, fs)) (J : frI T w fs) : frI T w' fs' ∧ (fs' ≠ [] → fs ≠ [] ∨ apMn T) := by
  obtain ⟨-, -, a3, -⟩ := Q
  unfold spA at h
  split at h
  · next k z A B C w1 ρ1 vs1 fs1 e0 =>
    cases e0
    have tl : frI T w1 fs := fr_to (fun A h => (strW_cons.mp h).2) J
    split at h
    · cases h; exact ⟨tl, Or.inl⟩
    · split at h
      · cases h; exact ⟨tl, Or.inl⟩
      · cases h
    · cases h; exact ⟨tl, Or.inl⟩
    · next x f vs2 =>
      have hf : allL (fun A => bo A T) f := a3 f (List.mem_cons_of_mem _ (List.mem_cons_self ..))
      have ap : fs ≠ [] ∨ apMn T := by
        cases fs with
        | nil =>
          have J : strW T ((1, nd 11 z A B C) :: w1) := J
          exact Or.inr ⟨z, A, B, C, (strW_cons.mp J).1⟩
        | cons f gs => exact Or.inl (by intro e; cases e)
      have cl : ∀ {bb : Tr}, bo bb T → frI T [(0, bb)] ((w1, ρ) :: fs) := fun {bb} h => by
        refine ⟨⟨bb, h, fun i hi => ?_⟩, tl⟩
        rcases List.mem_cons.mp hi with e | e
        · rw [e]; exact str_me
        · cases e
      split at h
      · cases h; exact ⟨tl, Or.inl⟩
      · next u y bb r ρ2 =>
        cases h
        obtain ⟨-, ⟨hq, -⟩, -⟩ := hf
        exact ⟨cl (hq rfl _ _ _ rfl), fun _ => ap⟩
      · next u gn y bb r ρ2 =>
        cases h
        obtain ⟨-, ⟨hq, -⟩, -⟩ := hf
        exact ⟨cl (hq rfl _ _ _ rfl), fun _ => ap⟩
      · cases h
    · cases h
      refine ⟨fr_to (fun A' h => ?_) J, Or.inl⟩
      obtain ⟨h1, h2⟩ := strW_cons.mp h
      have h1 : str (nd 13 z A B C) A' := h1
      exact strW_cons.mpr ⟨(str_nd (by decide) h1).2.1 _ str_me, strW_cons.mpr ⟨h1, h2⟩⟩
    · split at h
      · cases h
        refine ⟨fr_to (fun A' h => ?_) J, Or.inl⟩
        obtain ⟨h1, h2⟩ := strW_cons.mp h
        have h1 : str (nd 14 z A B C) A' := h1
        exact strW_cons.mpr ⟨(str_nd (by decide) h1).2.1 _ str_me, strW_cons.mpr ⟨h1, h2⟩⟩
      · cases h
    · next v vs2 =>
      cases h
      refine ⟨fr_to (fun A' h => ?_) J, Or.inl⟩
      obtain ⟨h1, h2⟩ := strW_cons.mp h
      have h1 : str (nd 15 z A B C) A' := h1
      obtain ⟨-, x, y⟩ := str_nd (by decide) h1
      refine strW_cons.mpr ⟨?_, h2⟩
      show str (if toI v = 1 then B else C) A'
      split
      · exact x _ str_me
      · exact y _ str_me
    · next v vs2 =>
      split at h
      · next E br ρ2 he =>
        cases h
        refine ⟨fr_to (fun A' h => ?_) J, Or.inl⟩
        obtain ⟨h1, h2⟩ := strW_cons.mp h
        have h1 : str (nd 16 z A B C) A' := h1
        obtain ⟨x, y⟩ := br_str he ((str_nd (by decide) h1).2.1 _ str_me)
        exact strW_cons.mpr ⟨x, strW_cons.mpr ⟨y, h2⟩⟩
      · cases h
    · cases h
  · cases h
/-- all frames' work stands in the bodies of the program's functions; who called was called, at last, by the program -/
theorem fr_run (hw : wf T) : ∀ (m : Nat) (st : AS) (n g : Int), Run T m st n g → allS (fun A => bo A T) st ∧ frI T st.1 st.2.2.2 ∧ (st.2.2.2 ≠ [] → apMn T)
  | 0, st, n, g, h => by
    obtain ⟨rfl, rfl, rfl⟩ := h
    refine ⟨⟨fun i hi => ?_, trivial, (fun v hv => by cases hv), (fun f hf => by cases hf)⟩, fun i hi => ?_, fun e => absurd rfl e⟩
    · rcases List.mem_cons.mp hi with e | e
      · rw [e]; exact bo_all hw (fun _ h => h)
      · cases e
    · rcases List.mem_cons.mp hi with e | e
      · rw [e]; exact str_me
      · cases e
  | m + 1, st, n, g, h => by
    obtain ⟨s0, n0, g0, h0, h⟩ := h
    obtain ⟨Q, J, M⟩ := fr_run hw m s0 n0 g0 h0
    obtain ⟨w, ρ, vs, fs⟩ := s0
    obtain ⟨w', ρ', vs', fs'⟩ := st
    rcases h with ⟨h, rfl, rfl⟩ | ⟨b, h, rfl, rfl⟩
    · obtain ⟨x, y⟩ := fr_mv h J
      exact ⟨mv_S h Q, x, fun e => M (fun q => e (y q))⟩
    · obtain ⟨x, y⟩ := fr_sp h Q J
      refine ⟨sp_S h Q, x, fun e => ?_⟩
      rcases y e with q | q
      · exact M q
      · exact q
end FRI
