/-! Working out with places: as AM, but the work left is the way up from a part. -/
/-- the way up: (j, N): the part is the j-th of N -/
abbrev Cx : Type := List (Nat × Tr)
/-- 0 a part is entered, 1 it is left, 2 a step is due; which part; the way up; what is bound; the values that wait; the callers -/
abbrev WkS : Type := Nat × Tr × Cx × En × List Va × List (Cx × En)
def bin3 (k : Nat) : Prop := k = 9 ∨ k = 10 ∨ k = 11
def bnd3 (k : Nat) : Prop := k = 13 ∨ k = 14 ∨ k = 17
def upW : Cx → Wl
  | [] => []
  | (j, .tag k (.nest z (.append A (.append B C)))) :: cx =>
    if j = 1 then (if k = 9 ∨ k = 10 ∨ k = 11 then (0, B) :: (1, nd k z A B C) :: upW cx else (1, nd k z A B C) :: upW cx)
    else if k = 9 ∨ k = 10 ∨ k = 11 then (1, nd k z A B C) :: upW cx
    else if k = 13 ∨ k = 14 ∨ k = 17 then (2, nd k z A B C) :: upW cx
    else upW cx
  | _ :: cx => upW cx
def abS : WkS → AS
  | (m, T, cx, ρ, vs, fs) => ((if m = 0 then (0, T) :: upW cx else if m = 1 then upW cx else (1, T) :: upW cx), ρ, vs, fs.map (fun f => (upW f.1, f.2)))
def wkM : WkS → Option WkS
  | (0, .tag k (.nest z (.append A (.append B C))), cx, ρ, vs, fs) =>
    if k ≤ 5 ∨ k = 12 then some (1, nl, cx, ρ, lfV k z (nd k z A B C) ρ :: vs, fs)
    else some (0, A, (1, nd k z A B C) :: cx, ρ, vs, fs)
  | (1, _, (j, .tag k (.nest z (.append A (.append B C)))) :: cx, ρ, vs, fs) =>
    if j = 1 then (if k = 9 ∨ k = 10 ∨ k = 11 then some (0, B, (2, nd k z A B C) :: cx, ρ, vs, fs) else some (2, nd k z A B C, cx, ρ, vs, fs))
    else if k = 9 ∨ k = 10 ∨ k = 11 then some (2, nd k z A B C, cx, ρ, vs, fs)
    else if k = 13 ∨ k = 14 ∨ k = 17 then some (1, nl, cx, drp (numB (nd k z A B C)) ρ, vs, fs)
    else some (1, nl, cx, ρ, vs, fs)
  | (1, _, [], _, vs, (cx, ρ) :: fs) => some (1, nl, cx, ρ, vs, fs)
  | _ => none
def wkS : WkS → Option (WkS ⊕ Int)
  | (2, .tag k (.nest z (.append A (.append B C))), cx, ρ, vs, fs) => match k, vs with
    | 8, v :: vs => some (.inl (1, nl, cx, ρ, vR (FP.dneg (toR v)) :: vs, fs))
    | 9, b :: a :: vs => match opV z a b with
      | .inl v => some (.inl (1, nl, cx, ρ, v :: vs, fs))
      | .inr e => some (.inr e)
    | 10, b :: a :: vs => some (.inl (1, nl, cx, ρ, vC a b :: vs, fs))
    | 11, x :: f :: vs => match f with
      | .tag 4 (.nest y _) => some (.inl (1, nl, cx, ρ, (if y = 82 then vR (FP.i2d (Int32.ofInt (toI x))) else vN (FP.d2i (toR x)).toInt) :: vs, fs))
      | .tag 5 (.append (.tag 12 (.nest y (.append b _))) ρ') => some (.inl (0, b, [], eC y x ρ', vs, (cx, ρ) :: fs))
      | .tag 6 (.nest g (.append (.tag 12 (.nest y (.append b _))) ρ')) => some (.inl (0, b, [], eC y x (eC g f ρ'), vs, (cx, ρ) :: fs))
      | _ => none
    | 13, v :: vs => some (.inl (0, B, (2, nd k z A B C) :: cx, eC z v ρ, vs, fs))
    | 14, v :: vs => match v with
      | .tag 5 (.append lam ρ') => some (.inl (0, B, (2, nd k z A B C) :: cx, eC z (vG z lam ρ') ρ, vs, fs))
      | _ => none
    | 15, v :: vs => if toI v = 1 then some (.inl (0, B, (2, nd k z A B C) :: cx, ρ, vs, fs)) else some (.inl (0, C, (3, nd k z A B C) :: cx, ρ, vs, fs))
    | 16, v :: vs => match brF B v ρ with
      | some (E, br, ρ') => some (.inl (0, E, (2, br) :: cx, ρ', vs, fs))
      | none => some (.inr 2)
    | _, _ => none
  | _ => none
/-- what came out of a run: a step is due, or worked out, or failed -/
abbrev WkE : Type := WkS ⊕ (Va ⊕ Int)
/-- at most n steps; k made so far, s of the program, a of all -/
def goS : Nat → Int → Int → Int → Int → WkS → Int × Int × Int → WkE → Prop
  | 0, _, _, _, _, _, _, _ => False
  | f + 1, n, k, s, a, S, o, e =>
    if S.1 = 2 then
      (if n ≤ k then o = (k, s, a) ∧ e = .inl S
       else if 500 ≤ s ∨ 1000 ≤ a then o = (k, s, a) ∧ e = .inr (.inr 4)
       else match wkS S with
        | some (.inl S') => if 200 < S'.2.2.2.2.1.length then o = (k + 1, s + 1, a + 1) ∧ e = .inr (.inr 5) else goS f n (k + 1) (s + 1) (a + 1) S' o e
        | some (.inr c) => o = (k + 1, s + 1, a + 1) ∧ e = .inr (.inr c)
        | none => False)
    else match S with
      | (1, _, [], _, v :: _, []) => o = (k, s, a) ∧ e = .inr (.inl v)
      | _ => match wkM S with
        | some S' => if 200 < S'.2.2.2.2.1.length then o = (k, s, a) ∧ e = .inr (.inr 5) else goS f n k s a S' o e
        | none => False
/-- a way up that can be -/
def cxW : Cx → Prop
  | [] => True
  | (j, .tag k (.nest z (.append A (.append B C)))) :: cx => ((j = 1 ∧ 8 ≤ k ∧ k ≤ 16 ∧ k ≠ 12) ∨ (j = 2 ∧ (k = 9 ∨ k = 10 ∨ k = 11 ∨ k = 13 ∨ k = 14 ∨ k = 15 ∨ k = 17)) ∨ (j = 3 ∧ k = 15)) ∧ (wf (nd k z A B C) ∧ szT (nd k z A B C) ≤ 128) ∧ cxW cx
  | _ => False
def wkW (S : WkS) : Prop := ((S.1 = 0 ∧ isE S.2.1 ∧ wf S.2.1) ∨ S.1 = 1 ∨ (S.1 = 2 ∧ isE S.2.1 ∧ wf S.2.1 ∧ 8 ≤ (match S.2.1 with | .tag k _ => k | _ => 0) ∧ (match S.2.1 with | .tag k _ => k | _ => 0) ≠ 12)) ∧ (szT S.2.1 ≤ 128 ∧ cxW S.2.2.1) ∧ ∀ f ∈ S.2.2.2.2.2, cxW f.1
section WSP
theorem isE_nd {T : Tr} (h : isE T) (w : wf T) : ∃ k z A B C, T = nd k z A B C ∧ k ≤ 16 ∧ k ≠ 6 ∧ k ≠ 7 := by
  unfold isE at h
  split at h
  · next k f =>
    unfold wf at w
    split at w
    · next k' z A B C e => cases e; exact ⟨_, z, A, B, C, rfl, h⟩
    · exact w.elim
  · exact h.elim
/-- one move of the one is one or none of the other -/
theorem ss_mv {S S' : WkS} (w : wkW S) (h : wkM S = some S') : abS S' = abS S ∨ mvA (abS S) = some (abS S') := by
  unfold wkM at h
  split at h
  · next k z A B C cx ρ vs fs =>
    split at h
    · next q =>
      cases h
      right
      show mvA ((0, nd k z A B C) :: upW cx, ρ, vs, fs.map (fun f => (upW f.1, f.2))) = _
      unfold mvA
      simp only [nd]
      rw [if_pos q]
      rfl
    · next q =>
      cases h
      right
      have e := w.1
      rcases e with ⟨-, e, -⟩ | e | e
      · show mvA ((0, nd k z A B C) :: upW cx, ρ, vs, fs.map (fun f => (upW f.1, f.2))) = some ((0, A) :: upW ((1, nd k z A B C) :: cx), ρ, vs, fs.map (fun f => (upW f.1, f.2)))
        have e : k ≤ 16 ∧ k ≠ 6 ∧ k ≠ 7 := e
        unfold mvA
        simp only [nd, upW]
        rw [if_neg q, if_pos trivial]
        by_cases b : k = 9 ∨ k = 10 ∨ k = 11
        · rw [if_pos b, if_pos b]
        · rw [if_neg b, if_neg b, if_pos (by omega)]
      · cases e
      · cases e.1
  · next T j k z A B C cx ρ vs fs =>
    split at h
    · next q =>
      subst q
      left
      split at h
      · next b => cases h; simp only [abS, upW, nd, if_pos b]; rfl
      · next b => cases h; simp only [abS, upW, nd, if_neg b]; rfl
    · next q =>
      split at h
      · next b => cases h; left; simp only [abS, upW, nd, if_neg q, if_pos b]; rfl
      · next b =>
        split at h
        · next c => cases h; right; simp only [abS, upW, nd, if_neg q, if_neg b, if_pos c]; rfl
        · next c => cases h; left; simp only [abS, upW, nd, if_neg q, if_neg b, if_neg c]; rfl
  · next T ρ vs cx ρ' fs => cases h; right; rfl
  · cases h
end WSP
