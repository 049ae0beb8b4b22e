/-! A part's run, alone and inside. -/
section PLUG
variable {PR : UInt64 → Prop} {Q R : Nat → En → Va → Prop} {n : Nat} {w0 : Wl} {vs0 : List Va} {fs0 : List (Wl × En)}
def plW (w0 : Wl) (w : Wl) : List (Wl × En) → Wl
  | [] => w ++ w0
  | _ => w
def plF (w0 : Wl) (fs0 : List (Wl × En)) : List (Wl × En) → List (Wl × En)
  | [] => fs0
  | f :: r => (plW w0 f.1 r, f.2) :: plF w0 fs0 r
def plA (w0 : Wl) (vs0 : List Va) (fs0 : List (Wl × En)) (S : AS) : AS := (plW w0 S.1 S.2.2.2, S.2.1, S.2.2.1 ++ vs0, plF w0 fs0 S.2.2.2)
theorem plW_c (l w : Wl) (fs : List (Wl × En)) : plW w0 (l ++ w) fs = l ++ plW w0 w fs := by
  cases fs with
  | nil => exact List.append_assoc ..
  | cons f r => rfl
theorem mv0 (T : Tr) (ρ : En) : (∃ (l : Wl) (u : List Va), ∀ w vs fs, mvA ((0, T) :: w, ρ, vs, fs) = some (l ++ w, ρ, u ++ vs, fs)) ∨ ∀ w vs fs, mvA ((0, T) :: w, ρ, vs, fs) = none := by
  by_cases q : ∃ k z A B C, T = nd k z A B C
  · obtain ⟨k, z, A, B, C, rfl⟩ := q
    have e : ∀ w vs fs, mvA ((0, nd k z A B C) :: w, ρ, vs, fs) = if k ≤ 5 ∨ k = 12 then some (w, ρ, lfV k z (nd k z A B C) ρ :: vs, fs)
      else if k = 9 ∨ k = 10 ∨ k = 11 then some ((0, A) :: (0, B) :: (1, nd k z A B C) :: w, ρ, vs, fs)
      else if k = 8 ∨ k = 13 ∨ k = 14 ∨ k = 15 ∨ k = 16 then some ((0, A) :: (1, nd k z A B C) :: w, ρ, vs, fs)
      else none := fun w vs fs => rfl
    by_cases a : k ≤ 5 ∨ k = 12
    · exact Or.inl ⟨[], [lfV k z (nd k z A B C) ρ], fun w vs fs => by rw [e, if_pos a]; rfl⟩
    by_cases b : k = 9 ∨ k = 10 ∨ k = 11
    · exact Or.inl ⟨[(0, A), (0, B), (1, nd k z A B C)], [], fun w vs fs => by rw [e, if_neg a, if_pos b]; rfl⟩
    by_cases c : k = 8 ∨ k = 13 ∨ k = 14 ∨ k = 15 ∨ k = 16
    · exact Or.inl ⟨[(0, A), (1, nd k z A B C)], [], fun w vs fs => by rw [e, if_neg a, if_neg b, if_pos c]; rfl⟩
    · exact Or.inr (fun w vs fs => by rw [e, if_neg a, if_neg b, if_neg c])
  · refine Or.inr (fun w vs fs => ?_)
    unfold mvA
    split
    · next h => exact (q ⟨_, _, _, _, _, (Prod.mk.inj (List.cons.inj (Prod.mk.inj h).1).1).2⟩).elim
    · next h => cases h
    · next h => cases h
    · rfl
theorem pl_mv {S S1 : AS} (h : mvA S = some S1) : mvA (plA w0 vs0 fs0 S) = some (plA w0 vs0 fs0 S1) := by
  obtain ⟨w, ρ, vs, fs⟩ := S
  cases w with
  | nil =>
    cases fs with
    | nil => cases h
    | cons f fs =>
      have h : some (f.1, f.2, vs, fs) = some S1 := h
      cases h
      rfl
  | cons x w =>
    obtain ⟨i, T⟩ := x
    have e : plA w0 vs0 fs0 ((i, T) :: w, ρ, vs, fs) = ((i, T) :: plW w0 w fs, ρ, vs ++ vs0, plF w0 fs0 fs) := by
      unfold plA
      rw [show plW w0 ((i, T) :: w) fs = (i, T) :: plW w0 w fs from plW_c [(i, T)] w fs]
    rw [e]
    match i with
    | 0 =>
      rcases mv0 T ρ with ⟨l, u, a⟩ | a
      · rw [a] at h ⊢
        cases h
        unfold plA
        rw [plW_c, List.append_assoc]
      · rw [a] at h; cases h
    | 1 => cases h
    | 2 =>
      have h : some (w, drp (numB T) ρ, vs, fs) = some S1 := h
      cases h
      rfl
    | i + 3 => cases h
theorem ok_mv {S S1 : AS} (h : mvA S = some S1) : OkA PR S ∧ nfA S ∧ spA S = none := by
  obtain ⟨w, ρ, vs, fs⟩ := S
  cases w with
  | nil =>
    cases fs with
    | nil => cases h
    | cons f fs => exact ⟨(by show mvA _ ≠ none; rw [h]; exact fun q => (by cases q)), fun _ _ q => (by cases q), rfl⟩
  | cons x w =>
    obtain ⟨i, T⟩ := x
    match i with
    | 0 => exact ⟨(by show mvA _ ≠ none; rw [h]; exact fun q => (by cases q)), fun _ _ q => (by cases q), rfl⟩
    | 1 => cases h
    | 2 => exact ⟨(by show mvA _ ≠ none; rw [h]; exact fun q => (by cases q)), fun _ _ q => (by cases q), rfl⟩
    | i + 3 => cases h
theorem pl_fin {S : AS} {ρ : En} {vs : List Va} (h : plA w0 vs0 fs0 S = ([], ρ, vs, [])) : ∃ us, S = ([], ρ, us, []) := by
  obtain ⟨w, ρ', us, fs⟩ := S
  cases fs with
  | nil =>
    have h : (w ++ w0, ρ', us ++ vs0, fs0) = ([], ρ, vs, []) := h
    obtain ⟨h1, h2⟩ := Prod.mk.inj h
    obtain ⟨h2, h3⟩ := Prod.mk.inj h2
    cases (List.append_eq_nil_iff.mp h1).1
    cases h2
    exact ⟨us, rfl⟩
  | cons f r =>
    have h := (Prod.mk.inj (Prod.mk.inj (Prod.mk.inj h).2).2).2
    cases h
theorem pl_c {x : Nat × Tr} {w : Wl} {ρ : En} {vs : List Va} {fs : List (Wl × En)} : plA w0 vs0 fs0 (x :: w, ρ, vs, fs) = (x :: plW w0 w fs, ρ, vs ++ vs0, plF w0 fs0 fs) := by
  unfold plA
  rw [show plW w0 (x :: w) fs = x :: plW w0 w fs from plW_c [x] w fs]
theorem pl_sp {S : AS} (o : OkA PR S) (f : nfA S) (h : mvA S = none) : mvA (plA w0 vs0 fs0 S) = none ∧ OkA PR (plA w0 vs0 fs0 S) ∧ ∀ S' b, spA (plA w0 vs0 fs0 S) = some (.inl (S', b)) → ∃ S1, spA S = some (.inl (S1, b)) ∧ S' = plA w0 vs0 fs0 S1 := by
  obtain ⟨w, ρ, vs, fs⟩ := S
  cases w with
  | nil =>
    cases fs with
    | nil => obtain ⟨v, rfl⟩ := (show ∃ v, vs = [v] from o); exact (f ρ v rfl).elim
    | cons g r => cases h
  | cons x w =>
    obtain ⟨i, T⟩ := x
    rw [pl_c]
    by_cases q : i = 1 ∧ ∃ k z A B C, T = nd k z A B C
    · obtain ⟨rfl, k, z, A, B, C, rfl⟩ := q
      refine ⟨rfl, ?_⟩
      have o : stOK PR k z B vs := o
      show stOK PR k z B (vs ++ vs0) ∧ _
      have pc : ∀ {l w : Wl}, plW w0 (l ++ w) fs = l ++ plW w0 w fs := plW_c _ _ _
      by_cases q8 : k = 8
      · subst q8
        obtain ⟨v, r, rfl, hv⟩ := (show ∃ v r, vs = v :: r ∧ isRv PR v from o)
        refine ⟨⟨v, r ++ vs0, rfl, hv⟩, fun S' b e => ?_⟩
        have e : some (Sum.inl ((plW w0 w fs, ρ, vR (FP.dneg (toR v)) :: (r ++ vs0), plF w0 fs0 fs), 0)) = (some (Sum.inl (S', b)) : Option ((AS × Nat) ⊕ Int)) := e
        cases e
        exact ⟨(w, ρ, vR (FP.dneg (toR v)) :: r, fs), rfl, rfl⟩
      by_cases q9 : k = 9
      · subst q9
        obtain ⟨x, y, r, rfl, h1, h2⟩ := (show ∃ x y r, vs = y :: x :: r ∧ (128 ≤ z → isRv PR x ∧ isRv PR y) ∧ (z < 128 → isNv x ∧ isNv y) from o)
        refine ⟨⟨x, y, r ++ vs0, rfl, h1, h2⟩, fun S' b e => ?_⟩
        have e : (match opV z x y with
          | .inl v => some (Sum.inl ((plW w0 w fs, ρ, v :: (r ++ vs0), plF w0 fs0 fs), 0))
          | .inr e => some (Sum.inr e)) = (some (Sum.inl (S', b)) : Option ((AS × Nat) ⊕ Int)) := e
        have g : spA ((1, nd 9 z A B C) :: w, ρ, y :: x :: r, fs) = (match opV z x y with
          | .inl v => some (Sum.inl ((w, ρ, v :: r, fs), 0))
          | .inr e => some (Sum.inr e)) := rfl
        rw [g]
        cases ov : opV z x y with
        | inl u => rw [ov] at e; cases e; exact ⟨(w, ρ, u :: r, fs), rfl, rfl⟩
        | inr u => rw [ov] at e; cases e
      by_cases q10 : k = 10
      · subst q10
        obtain ⟨x, y, r, rfl, h1⟩ := (show ∃ x y r, vs = y :: x :: r ∧ isLv y from o)
        refine ⟨⟨x, y, r ++ vs0, rfl, h1⟩, fun S' b e => ?_⟩
        have e : some (Sum.inl ((plW w0 w fs, ρ, vC x y :: (r ++ vs0), plF w0 fs0 fs), 0)) = (some (Sum.inl (S', b)) : Option ((AS × Nat) ⊕ Int)) := e
        cases e
        exact ⟨(w, ρ, vC x y :: r, fs), rfl, rfl⟩
      by_cases q11 : k = 11
      · subst q11
        obtain ⟨g, x, r, rfl, h1, h2⟩ := (show ∃ f x r, vs = x :: f :: r ∧ isFv f ∧ arK PR f x from o)
        refine ⟨⟨g, x, r ++ vs0, rfl, h1, h2⟩, fun S' b e => ?_⟩
        unfold isFv at h1
        split at h1
        · next y f _ =>
          have e : some (Sum.inl ((plW w0 w fs, ρ, (if y = 82 then vR (FP.i2d (Int32.ofInt (toI x))) else vN (FP.d2i (toR x)).toInt) :: (r ++ vs0), plF w0 fs0 fs), 0)) = (some (Sum.inl (S', b)) : Option ((AS × Nat) ⊕ Int)) := e
          cases e
          exact ⟨(w, ρ, (if y = 82 then vR (FP.i2d (Int32.ofInt (toI x))) else vN (FP.d2i (toR x)).toInt) :: r, fs), rfl, rfl⟩
        · next y bb RR ρ' _ =>
          have e : some (Sum.inl (([(0, bb)], eC y x ρ', r ++ vs0, (plW w0 w fs, ρ) :: plF w0 fs0 fs), 1)) = (some (Sum.inl (S', b)) : Option ((AS × Nat) ⊕ Int)) := e
          cases e
          exact ⟨([(0, bb)], eC y x ρ', r, (w, ρ) :: fs), rfl, rfl⟩
        · next g' y bb RR ρ' _ =>
          have e : some (Sum.inl (([(0, bb)], eC y x (eC g' (.tag 6 (.nest g' (.append (.tag 12 (.nest y (.append bb RR))) ρ'))) ρ'), r ++ vs0, (plW w0 w fs, ρ) :: plF w0 fs0 fs), 1)) = (some (Sum.inl (S', b)) : Option ((AS × Nat) ⊕ Int)) := e
          cases e
          exact ⟨([(0, bb)], eC y x (eC g' (.tag 6 (.nest g' (.append (.tag 12 (.nest y (.append bb RR))) ρ'))) ρ'), r, (w, ρ) :: fs), rfl, rfl⟩
        · exact h1.elim
      by_cases q13 : k = 13
      · subst q13
        obtain ⟨v, r, rfl⟩ := (show ∃ v r, vs = v :: r from o)
        refine ⟨⟨v, r ++ vs0, rfl⟩, fun S' b e => ?_⟩
        have e : some (Sum.inl (((0, B) :: (2, nd 13 z A B C) :: plW w0 w fs, eC z v ρ, r ++ vs0, plF w0 fs0 fs), 1)) = (some (Sum.inl (S', b)) : Option ((AS × Nat) ⊕ Int)) := e
        cases e
        exact ⟨((0, B) :: (2, nd 13 z A B C) :: w, eC z v ρ, r, fs), rfl, by rw [pl_c, show plW w0 ((2, nd 13 z A B C) :: w) fs = (2, nd 13 z A B C) :: plW w0 w fs from plW_c [_] w fs]⟩
      by_cases q14 : k = 14
      · subst q14
        obtain ⟨lam, ρ', r, rfl⟩ := (show ∃ lam ρ r, vs = vF lam ρ :: r from o)
        refine ⟨⟨lam, ρ', r ++ vs0, rfl⟩, fun S' b e => ?_⟩
        have e : some (Sum.inl (((0, B) :: (2, nd 14 z A B C) :: plW w0 w fs, eC z (vG z lam ρ') ρ, r ++ vs0, plF w0 fs0 fs), 1)) = (some (Sum.inl (S', b)) : Option ((AS × Nat) ⊕ Int)) := e
        cases e
        exact ⟨((0, B) :: (2, nd 14 z A B C) :: w, eC z (vG z lam ρ') ρ, r, fs), rfl, by rw [pl_c, show plW w0 ((2, nd 14 z A B C) :: w) fs = (2, nd 14 z A B C) :: plW w0 w fs from plW_c [_] w fs]⟩
      by_cases q15 : k = 15
      · subst q15
        obtain ⟨v, r, rfl, hv⟩ := (show ∃ v r, vs = v :: r ∧ isBv v from o)
        refine ⟨⟨v, r ++ vs0, rfl, hv⟩, fun S' b e => ?_⟩
        have e : some (Sum.inl (((0, if toI v = 1 then B else C) :: plW w0 w fs, ρ, r ++ vs0, plF w0 fs0 fs), 0)) = (some (Sum.inl (S', b)) : Option ((AS × Nat) ⊕ Int)) := e
        cases e
        exact ⟨((0, if toI v = 1 then B else C) :: w, ρ, r, fs), rfl, by rw [pl_c]⟩
      by_cases q16 : k = 16
      · subst q16
        obtain ⟨v, r, rfl, hv⟩ := (show ∃ v r, vs = v :: r ∧ KiB B v from o)
        refine ⟨⟨v, r ++ vs0, rfl, hv⟩, fun S' b e => ?_⟩
        have e : (match brF B v ρ with
          | some (E, br, ρ') => some (Sum.inl (((0, E) :: (2, br) :: plW w0 w fs, ρ', r ++ vs0, plF w0 fs0 fs), numB br))
          | none => some (.inr 2)) = (some (Sum.inl (S', b)) : Option ((AS × Nat) ⊕ Int)) := e
        have g : spA ((1, nd 16 z A B C) :: w, ρ, v :: r, fs) = (match brF B v ρ with
          | some (E, br, ρ') => some (Sum.inl (((0, E) :: (2, br) :: w, ρ', r, fs), numB br))
          | none => some (.inr 2)) := rfl
        rw [g]
        cases ov : brF B v ρ with
        | some u =>
          obtain ⟨E, br, ρ'⟩ := u
          rw [ov] at e; cases e
          exact ⟨((0, E) :: (2, br) :: w, ρ', r, fs), rfl, by rw [pl_c, show plW w0 ((2, br) :: w) fs = (2, br) :: plW w0 w fs from plW_c [_] w fs]⟩
        | none => rw [ov] at e; cases e
      · unfold stOK at o
        split at o
        all_goals first
          | contradiction
          | exact o.elim
    · exfalso
      unfold OkA at o
      split at o
      · next e => cases e
      · next e =>
        obtain ⟨e1, -⟩ := Prod.mk.inj e
        obtain ⟨e1, -⟩ := List.cons.inj e1
        obtain ⟨e1, e2⟩ := Prod.mk.inj e1
        exact q ⟨e1, _, _, _, _, _, e2⟩
      · exact o h
/-- what follows a part that is safe is safe -/
theorem SfA.bind : ∀ {n : Nat} {S : AS}, SfA PR Q n S → (∀ j, j ≤ n → ∀ ρ v, Q j ρ v → SfA PR R j (w0, ρ, v :: vs0, fs0)) → SfA PR R n (plA w0 vs0 fs0 S) := by
  intro n
  induction n with
  | zero =>
    intro S h K
    by_cases q : ∃ ρ v, S = ([], ρ, [v], [])
    · obtain ⟨ρ, v, rfl⟩ := q
      exact K 0 (Nat.le_refl 0) ρ v (h.1 ρ v rfl)
    · have no : ∀ ρ vs, plA w0 vs0 fs0 S ≠ ([], ρ, vs, []) := fun ρ vs e => by
        obtain ⟨us, rfl⟩ := pl_fin e
        obtain ⟨v, rfl⟩ := h.2 ρ us rfl
        exact q ⟨ρ, v, rfl⟩
      exact ⟨fun ρ v e => (no ρ _ e).elim, fun ρ vs e => (no ρ vs e).elim⟩
  | succ n ih =>
    intro S h K
    by_cases q : ∃ ρ v, S = ([], ρ, [v], [])
    · obtain ⟨ρ, v, rfl⟩ := q
      exact K (n + 1) (Nat.le_refl _) ρ v (h.1 ρ v rfl)
    · have f : nfA S := fun ρ v e => q ⟨ρ, v, e⟩
      obtain ⟨o, nx⟩ := h.2 f
      have K' : ∀ j, j ≤ n → ∀ ρ v, Q j ρ v → SfA PR R j (w0, ρ, v :: vs0, fs0) := fun j hj => K j (by omega)
      cases m : mvA S with
      | some S1 =>
        have e := pl_mv (w0 := w0) (vs0 := vs0) (fs0 := fs0) m
        obtain ⟨o2, f2, s2⟩ := ok_mv (PR := PR) e
        refine ⟨fun ρ v e' => (f2 ρ v e').elim, fun _ => ⟨o2, fun S' x => ?_⟩⟩
        rcases x with x | ⟨b, x⟩
        · rw [e] at x; cases x; exact ih (nx S1 (Or.inl m)) K'
        · rw [s2] at x; cases x
      | none =>
        obtain ⟨a, o2, b⟩ := pl_sp (w0 := w0) (vs0 := vs0) (fs0 := fs0) o f m
        refine ⟨fun ρ v e' => ?_, fun _ => ⟨o2, fun S' x => ?_⟩⟩
        · obtain ⟨us, rfl⟩ := pl_fin e'
          obtain ⟨u, rfl⟩ := (show ∃ v, us = [v] from o)
          exact (f ρ u rfl).elim
        rcases x with x | ⟨c, x⟩
        · rw [a] at x; cases x
        · obtain ⟨S1, y, rfl⟩ := b S' c x
          exact ih (nx S1 (Or.inr ⟨c, y⟩)) K'
end PLUG
