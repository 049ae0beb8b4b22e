/-! Every expression gives values of its types. -/
section FUND
variable {PR : UInt64 → Prop} {Q : Nat → En → Va → Prop} {n : Nat} {ρ : En} {vs : List Va} {fs : List (Wl × En)} {w : Wl} {k : Nat} {z : Int} {A B C : Tr}
theorem SfA.g0 {S' : AS} (e : mvA ((0, nd k z A B C) :: w, ρ, vs, fs) = some S') (h : ∀ j, j ≤ n → SfA PR Q j S') : SfA PR Q n ((0, nd k z A B C) :: w, ρ, vs, fs) := SfA.mv e (fun _ _ q => by cases q) (by show mvA _ ≠ none; rw [e]; exact fun q => by cases q) (fun _ _ q => by cases q) h
theorem SfA.g2 {T : Tr} (h : ∀ j, j ≤ n → SfA PR Q j (w, drp (numB T) ρ, vs, fs)) : SfA PR Q n ((2, T) :: w, ρ, vs, fs) := SfA.mv (S' := (w, drp (numB T) ρ, vs, fs)) rfl (fun _ _ q => by cases q) (by show mvA _ ≠ none; exact fun q => by cases q) (fun _ _ q => by cases q) h
theorem SfA.gr {ρ0 : En} (h : ∀ j, j ≤ n → SfA PR Q j (w, ρ, vs, fs)) : SfA PR Q n ([], ρ0, vs, (w, ρ) :: fs) := SfA.mv (S' := (w, ρ, vs, fs)) rfl (fun _ _ q => by cases q) (by show mvA _ ≠ none; exact fun q => by cases q) (fun _ _ q => by cases q) h
theorem SfA.g1 (o : stOK PR k z B vs) (h : ∀ j, j < n → ∀ S' b, spA ((1, nd k z A B C) :: w, ρ, vs, fs) = some (.inl (S', b)) → SfA PR Q j S') : SfA PR Q n ((1, nd k z A B C) :: w, ρ, vs, fs) := SfA.st rfl (fun _ _ q => by cases q) o h
theorem SfA.fin {v : Va} (h : Q n ρ v) : SfA PR Q n ([], ρ, [v], []) := by
  cases n with
  | zero => exact ⟨fun ρ' v' e => by cases e; exact h, fun ρ' vs' e => by cases e; exact ⟨v, rfl⟩⟩
  | succ n => exact ⟨fun ρ' v' e => by cases e; exact h, fun f => (f ρ v rfl).elim⟩
def FdE (PR : UInt64 → Prop) (T : Tr) : Prop := ∀ n G ρ s, tyE T false G s → EnV PR n ρ G → ExT PR n T ρ s
def FdB (PR : UInt64 → Prop) (B : Tr) : Prop := ∀ n G ρ a r v, tyE B false G (gA a r) → EnV PR n ρ G → VTy PR a n v → KiB B v ∧ ∀ E br ρ', brF B v ρ = some (E, br, ρ') → ExT PR n E ρ' r ∧ drp (numB br) ρ' = ρ
/-- a function's value -/
theorem fun_v {y : Int} {b : Tr} {R : Std.Format} {G : Gm} {a c : GT} (fb : FdE PR b) (t : tyE b false ((y, is1 a) :: G) c) (E : EnV PR n ρ G) : VTy PR (gA a c) n (vF (.tag 12 (.nest y (.append b R))) ρ) := by
  refine ⟨trivial, fun m hm x hx => ⟨trivial, fun ρ0 S cc h => ?_⟩⟩
  have h : some (Sum.inl (([(0, b)], eC y x ρ, [], [([], ρ0)]), 1)) = (some (Sum.inl (S, cc)) : Option ((AS × Nat) ⊕ Int)) := h
  cases h
  exact fb m _ _ c t ((E.le (by omega)).cons (fun s e => by cases e; exact hx)) m (Nat.le_refl m) _ _ _ _ (fun j hj v hv => SfA.gr (fun i hi => SfA.fin ⟨rfl, hv.le hi⟩))
theorem rec_v {y : Int} {b : Tr} {R : Std.Format} {G : Gm} {s : GT} (fb : FdE PR b) (t : ∃ a c, s = gA a c ∧ tyE b false ((y, is1 a) :: (z, is1 s) :: G) c) : ∀ {n : Nat}, EnV PR n ρ G → VTy PR s n (vG z (.tag 12 (.nest y (.append b R))) ρ) := by
  intro n
  obtain ⟨a, c, rfl, t⟩ := t
  induction n using Nat.strongRecOn with
  | ind n ih =>
    intro E
    refine ⟨trivial, fun m hm x hx => ⟨trivial, fun ρ0 S cc h => ?_⟩⟩
    have h : some (Sum.inl (([(0, b)], eC y x (eC z (vG z (.tag 12 (.nest y (.append b R))) ρ) ρ), [], [([], ρ0)]), 1)) = (some (Sum.inl (S, cc)) : Option ((AS × Nat) ⊕ Int)) := h
    cases h
    have E' := E.le (Nat.le_of_lt hm)
    exact fb m _ _ c t ((E'.cons (fun s e => by cases e; exact ih m hm E')).cons (fun s e => by cases e; exact hx)) m (Nat.le_refl m) _ _ _ _ (fun j hj v hv => SfA.gr (fun i hi => SfA.fin ⟨rfl, hv.le hi⟩))
theorem lkG_pat {α : Int → GT} {G : Gm} {y : Int} {s : GT} : ∀ (L : List Int), lkG y (L.map (fun x => (x, is1 (α x))) ++ G) s → (y ∈ L ∧ s = α y) ∨ (y ∉ L ∧ lkG y G s)
  | [], h => Or.inr ⟨List.not_mem_nil, h⟩
  | x :: L, h => by
    have h : (if x = y then is1 (α x) else lkG y (L.map (fun x => (x, is1 (α x))) ++ G)) s := h
    by_cases q : x = y
    · subst q
      rw [if_pos rfl] at h
      exact Or.inl ⟨List.mem_cons_self .., h⟩
    · rw [if_neg q] at h
      rcases lkG_pat L h with ⟨a, b⟩ | ⟨a, b⟩
      · exact Or.inl ⟨List.mem_cons_of_mem _ a, b⟩
      · exact Or.inr ⟨fun m => (List.mem_cons.mp m).elim (fun e => q e.symm) a, b⟩
/-- a branch and those behind it -/
theorem fd_br {P E : Tr} (hP : wfP P) (hz : z = (bnd P).length) (fe : FdE PR E) (fc : C = nl ∨ FdB PR C) : FdB PR (nd 17 z P E C) := by
  intro n G ρ a r v t En hv
  obtain ⟨a', r', α, e, tP, tE, tC⟩ := (show ∃ a' r' α, gA a r = gA a' r' ∧ tpP false α P a' ∧ tyE E false ((bnd P).map (fun x => (x, is1 (α x))) ++ G) r' ∧ (C = nl ∨ tyE C false G (gA a r)) from t.2)
  obtain ⟨rfl, rfl⟩ := gA_inj.mp e
  obtain ⟨kP, fP⟩ := pat_ok P hP tP hv
  have rest : KiB C v ∧ ∀ E' br ρ', brF C v ρ = some (E', br, ρ') → ExT PR n E' ρ' r ∧ drp (numB br) ρ' = ρ := by
    rcases fc with rfl | fc
    · exact ⟨trivial, fun _ _ _ h => by cases h⟩
    · rcases tC with rfl | tC
      · exact ⟨trivial, fun _ _ _ h => by cases h⟩
      · exact fc n G ρ a r v tC En hv
  refine ⟨⟨kP, rest.1⟩, fun E' br ρ' h => ?_⟩
  have h : (match fitE P v ρ with
    | some ρ' => some (E, nd 17 z P E C, ρ')
    | none => brF C v ρ) = some (E', br, ρ') := h
  split at h
  · next ρ1 e1 =>
    cases h
    obtain ⟨l, d⟩ := fP e1
    refine ⟨fe n _ _ r tE (fun y s q => ?_), ?_⟩
    · rcases lkG_pat _ q with ⟨q1, rfl⟩ | ⟨q1, q2⟩
      · exact (l y).1 q1
      · rw [(l y).2 q1]; exact En y s q2
    · have e : numB (nd 17 z P E C) = z.toNat := rfl
      rw [e, hz, Int.toNat_natCast]; exact d
  · exact rest.2 E' br ρ' h
end FUND
