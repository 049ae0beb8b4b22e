/-! Values have the types that were found: no step ever meets a value of another kind. -/
section SAFE
/-- what the reals are -/
def RCl (PR : UInt64 → Prop) : Prop := (∀ z : Int, 0 ≤ z → z ≤ 9999999 → PR (FP.ddiv (FP.i2d (Int32.ofInt z)) (FP.i2d 1000))) ∧ (∀ z : Int, rg z → PR (FP.i2d (Int32.ofInt z))) ∧ (∀ b, PR b → PR (FP.dneg b)) ∧ ∀ z a b, PR a → PR b → opZ z → 128 ≤ z → z ≠ 188 → ¬ (z = 175 ∧ FP.dcmp b 0 = some .eq) → ¬ (dLt big9 (opD z a b) ∨ dLt (opD z a b) (FP.dneg big9)) → PR (opD z a b)
variable (PR : UInt64 → Prop)
def isNv (v : Va) : Prop := ∃ z, v = vN z ∧ rg z
def isBv (v : Va) : Prop := v = vB 0 ∨ v = vB 1
def isRv (v : Va) : Prop := ∃ b, v = vR b ∧ PR b
/-- a list whose items are P -/
def VLs (P : Va → Prop) : Va → Prop
  | .append x w => P x ∧ VLs P w
  | v => v = vE
def isLv (v : Va) : Prop := VLs (fun _ => True) v
def isFv : Va → Prop
  | .tag 4 (.nest y f) => (y = 82 ∨ y = 73) ∧ f = .nil
  | .tag 5 (.append (.tag 12 (.nest _ (.append _ _))) _) => True
  | .tag 6 (.nest _ (.append (.tag 12 (.nest _ (.append _ _))) _)) => True
  | _ => False
/-- what a built-in takes -/
def arK : Va → Va → Prop
  | .tag 4 (.nest y _), x => (y = 82 ∧ isNv x) ∨ (y = 73 ∧ isRv PR x)
  | _, _ => True
/-- a value is of the kind that a pattern wants -/
def KiP : Tr → Va → Prop
  | .tag k (.nest _ (.append A (.append B _))), v => match k with
    | 0 => isNv v
    | 2 => isBv v
    | 3 => isLv v
    | 10 => isLv v ∧ ∀ x w, v = vC x w → KiP A x ∧ KiP B w
    | _ => True
  | _, _ => True
def KiB : Tr → Va → Prop
  | .tag _ (.nest _ (.append P (.append _ C))), v => KiP P v ∧ KiB C v
  | _, _ => True
/-- the next step can be made -/
def stOK (k : Nat) (z : Int) (B : Tr) (vs : List Va) : Prop := match k with
  | 8 => ∃ v r, vs = v :: r ∧ isRv PR v
  | 9 => ∃ x y r, vs = y :: x :: r ∧ (128 ≤ z → isRv PR x ∧ isRv PR y) ∧ (z < 128 → isNv x ∧ isNv y)
  | 10 => ∃ x y r, vs = y :: x :: r ∧ isLv y
  | 11 => ∃ f x r, vs = x :: f :: r ∧ isFv f ∧ arK PR f x
  | 13 => ∃ v r, vs = v :: r
  | 14 => ∃ lam ρ r, vs = vF lam ρ :: r
  | 15 => ∃ v r, vs = v :: r ∧ isBv v
  | 16 => ∃ v r, vs = v :: r ∧ KiB B v
  | _ => False
def OkA : AS → Prop
  | ([], _, vs, []) => ∃ v, vs = [v]
  | ((1, .tag k (.nest z (.append _ (.append B _)))) :: _, _, vs, _) => stOK PR k z B vs
  | S => mvA S ≠ none
def nxA (S S' : AS) : Prop := mvA S = some S' ∨ ∃ b, spA S = some (.inl (S', b))
/-- safe for n moves, and Q of what comes out -/
def SfA (Q : Nat → En → Va → Prop) : Nat → AS → Prop
  | 0, S => (∀ ρ v, S = ([], ρ, [v], []) → Q 0 ρ v) ∧ ∀ ρ vs, S = ([], ρ, vs, []) → ∃ v, vs = [v]
  | n + 1, S => (∀ ρ v, S = ([], ρ, [v], []) → Q (n + 1) ρ v) ∧ ((∀ ρ v, S ≠ ([], ρ, [v], [])) → OkA PR S ∧ ∀ S', nxA S S' → SfA Q n S')
/-- v has the type s, for n moves -/
def VTy : GT → Nat → Va → Prop
  | .tag k _, _, v => match k with
    | 1 => isNv v
    | 2 => isBv v
    | 3 => isRv PR v
    | _ => False
  | .nest _ a, n, v => VLs (VTy a n) v
  | .append a b, n, f => isFv f ∧ ∀ m, m < n → ∀ x, VTy a m x → arK PR f x ∧ ∀ (ρ : En) S c, spA ([(1, nd 11 0 nl nl nl)], ρ, [x, f], []) = some (.inl (S, c)) → SfA PR (fun j ρ' v => ρ' = ρ ∧ VTy b j v) m S
  | _, _, _ => False
def EnV (n : Nat) (ρ : En) (G : Gm) : Prop := ∀ z s, lkG z G s → VTy PR s n (lkp z ρ)
def ExT (n : Nat) (T : Tr) (ρ : En) (s : GT) : Prop := ∀ m, m ≤ n → ∀ (Q : Nat → En → Va → Prop) (w : Wl) (vs : List Va) (fs : List (Wl × En)), (∀ j, j ≤ m → ∀ v, VTy PR s j v → SfA PR Q j (w, ρ, v :: vs, fs)) → SfA PR Q m ((0, T) :: w, ρ, vs, fs)
variable {PR} {n m : Nat} {ρ : En} {G : Gm} {s : GT} {v : Va} {Q : Nat → En → Va → Prop}
theorem VLs.im {P Q : Va → Prop} (h : ∀ x, P x → Q x) : ∀ {v : Va}, VLs P v → VLs Q v := by
  intro v
  fun_induction VLs P v with
  | case1 x w ih => intro a; unfold VLs; exact ⟨h _ a.1, ih a.2⟩
  | case2 v hn =>
    intro a
    subst a
    rfl
theorem VTy.le : ∀ {s : GT} {n m : Nat} {v : Va}, VTy PR s n v → m ≤ n → VTy PR s m v := by
  intro s
  induction s with
  | tag k f _ => intro n m v h _; exact h
  | nest z a ih => intro n m v h hm; exact VLs.im (fun x hx => ih hx hm) h
  | append a b _ _ => intro n m v h hm; exact ⟨h.1, fun j hj => h.2 j (by omega)⟩
  | nil => intro n m v h _; exact h.elim
  | line => intro n m v h _; exact h.elim
  | align _ => intro n m v h _; exact h.elim
  | text _ => intro n m v h _; exact h.elim
  | group _ _ _ => intro n m v h _; exact h.elim
theorem EnV.le (h : EnV PR n ρ G) (hm : m ≤ n) : EnV PR m ρ G := fun z s q => (h z s q).le hm
theorem ExT.le {T : Tr} (h : ExT PR n T ρ s) (hm : m ≤ n) : ExT PR m T ρ s := fun j hj => h j (by omega)
theorem EnV.cons {z : Int} {D : GT → Prop} (h : EnV PR n ρ G) (hv : ∀ s, D s → VTy PR s n v) : EnV PR n (eC z v ρ) ((z, D) :: G) := fun y s q => by
  have e : lkp y (eC z v ρ) = if z = y then v else lkp y ρ := rfl
  have e2 : lkG y ((z, D) :: G) s = (if z = y then D else lkG y G) s := rfl
  rw [e2] at q
  rw [e]
  by_cases w : z = y
  · rw [if_pos w] at q ⊢; exact hv s q
  · rw [if_neg w] at q ⊢; exact h y s q
def nfA (S : AS) : Prop := ∀ ρ v, S ≠ ([], ρ, [v], [])
/-- weaker, and for fewer moves -/
theorem SfA.le {Q2 : Nat → En → Va → Prop} : ∀ {n m : Nat} {S : AS}, SfA PR Q n S → m ≤ n → (∀ j, j ≤ m → ∀ k, j ≤ k → ∀ ρ v, Q k ρ v → Q2 j ρ v) → SfA PR Q2 m S
  | 0, 0, S, h, _, q => ⟨fun ρ v e => q 0 (Nat.le_refl 0) 0 (Nat.le_refl 0) ρ v (h.1 ρ v e), h.2⟩
  | n + 1, 0, S, h, _, q => ⟨fun ρ v e => q 0 (Nat.le_refl 0) (n + 1) (Nat.zero_le _) ρ v (h.1 ρ v e), fun ρ vs e => by
    by_cases w : ∃ v, vs = [v]
    · exact w
    · have := (h.2 (fun ρ' v' e' => by rw [e] at e'; cases e'; exact w ⟨_, rfl⟩)).1
      rw [e] at this
      exact this⟩
  | 0, m + 1, S, h, hm, q => absurd hm (by omega)
  | n + 1, m + 1, S, h, hm, q => ⟨fun ρ v e => q (m + 1) (Nat.le_refl _) (n + 1) hm ρ v (h.1 ρ v e), fun f => ⟨(h.2 f).1, fun S' x => ((h.2 f).2 S' x).le (by omega) (fun j hj => q j (by omega))⟩⟩
/-- a move: what is safe after it is safe before it -/
theorem SfA.mv {S S' : AS} (ok : mvA S = some S') (f : nfA S) (o : OkA PR S) (ns : ∀ S2 b, spA S ≠ some (.inl (S2, b))) (h : ∀ j, j ≤ n → SfA PR Q j S') : SfA PR Q n S := by
  cases n with
  | zero => exact ⟨fun ρ v e => (f ρ v e).elim, fun ρ vs e => by subst e; exact o⟩
  | succ n =>
    refine ⟨fun ρ v e => (f ρ v e).elim, fun _ => ⟨o, fun S2 q => ?_⟩⟩
    rcases q with q | ⟨b, q⟩
    · rw [ok] at q; cases q; exact h n (Nat.le_succ n)
    · exact (ns _ _ q).elim
/-- a list stays a list -/
theorem VTy.lis {a : GT} (h : VTy PR (gL a) n v) : isLv v := VLs.im (fun _ _ => trivial) (show VLs (VTy PR a n) v from h)
theorem SfA.st {S : AS} (hm : mvA S = none) (f : nfA S) (o : OkA PR S) (h : ∀ j, j < n → ∀ S' b, spA S = some (.inl (S', b)) → SfA PR Q j S') : SfA PR Q n S := by
  cases n with
  | zero => exact ⟨fun ρ v e => (f ρ v e).elim, fun ρ vs e => by subst e; exact o⟩
  | succ n =>
    refine ⟨fun ρ v e => (f ρ v e).elim, fun _ => ⟨o, fun S2 q => ?_⟩⟩
    rcases q with q | ⟨b, q⟩
    · rw [hm] at q; cases q
    · exact h n (Nat.lt_succ_self n) S2 b q
theorem drp_add : ∀ (b a : Nat) (ρ : En), drp (a + b) ρ = drp a (drp b ρ)
  | 0, a, ρ => by cases ρ <;> rfl
  | b + 1, a, ρ => by
    have st : ∀ (k : Nat) (x : En), (∀ z v r, x ≠ .nest z (.append v r)) → drp k x = x := fun k x hx => by
      cases k with
      | zero => cases x <;> rfl
      | succ k =>
        cases x with
        | nest z y =>
          cases y with
          | append v r => exact (hx _ _ _ rfl).elim
          | _ => rfl
        | _ => rfl
    by_cases q : ∃ z v r, ρ = .nest z (.append v r)
    · obtain ⟨z, v, r, rfl⟩ := q
      exact drp_add b a r
    · have hx : ∀ z v r, ρ ≠ .nest z (.append v r) := fun z v r e => q ⟨z, v, r, e⟩
      rw [st _ ρ hx, st _ ρ hx, st _ ρ hx]
/-- patterns -/
theorem pat_ok {α : Int → GT} : ∀ (P : Tr) {s : GT} {v : Va}, wfP P → tpP false α P s → VTy PR s n v → KiP P v ∧ ∀ {ρ ρ' : En}, fitE P v ρ = some ρ' → (∀ z, (z ∈ bnd P → VTy PR (α z) n (lkp z ρ')) ∧ (z ∉ bnd P → lkp z ρ' = lkp z ρ)) ∧ drp (bnd P).length ρ' = ρ
  | .tag k (.nest z (.append A (.append B C))), s, v, hw, ht, hv => by
    unfold wfP at hw
    unfold tpP at ht
    obtain ⟨-, ht⟩ := ht
    have same : ∀ {ρ ρ' : En}, ρ = ρ' → bnd (nd k z A B C) = [] → (∀ y, (y ∈ bnd (nd k z A B C) → VTy PR (α y) n (lkp y ρ')) ∧ (y ∉ bnd (nd k z A B C) → lkp y ρ' = lkp y ρ)) ∧ drp (bnd (nd k z A B C)).length ρ' = ρ := fun {ρ ρ'} e q => by
      subst e
      rw [q]
      refine ⟨fun y => ⟨fun h => (by cases h), fun _ => rfl⟩, ?_⟩
      cases ρ <;> rfl
    split at hw
    · obtain ⟨-, rfl, rfl, rfl⟩ := hw
      have ht : s = gK 1 := ht
      subst ht
      refine ⟨hv, fun {ρ ρ'} h => same ?_ rfl⟩
      have h : (if isV 0 z v then some ρ else none) = some ρ' := h
      split at h
      · cases h; rfl
      · cases h
    · obtain ⟨-, rfl, rfl, rfl⟩ := hw
      have ht : s = gK 2 := ht
      subst ht
      refine ⟨hv, fun {ρ ρ'} h => same ?_ rfl⟩
      have h : (if isV 1 z v then some ρ else none) = some ρ' := h
      split at h
      · cases h; rfl
      · cases h
    · obtain ⟨-, rfl, rfl, rfl⟩ := hw
      obtain ⟨a, rfl⟩ := (show ∃ a, s = gL a from ht)
      refine ⟨hv.lis, fun {ρ ρ'} h => same ?_ rfl⟩
      have h : (if isVE v then some ρ else none) = some ρ' := h
      split at h
      · cases h; rfl
      · cases h
    · obtain ⟨-, rfl, rfl, rfl⟩ := hw
      have ht : s = α z := ht
      subst ht
      refine ⟨trivial, fun {ρ ρ'} h => ?_⟩
      have h : some (eC z v ρ) = some ρ' := h
      cases h
      have eb : bnd (nd 6 z nl nl nl) = [z] := rfl
      show (∀ y, (y ∈ bnd (nd 6 z nl nl nl) → _) ∧ (y ∉ bnd (nd 6 z nl nl nl) → _)) ∧ drp (bnd (nd 6 z nl nl nl)).length _ = _
      rw [eb]
      have el : ∀ y, lkp y (eC z v ρ) = if z = y then v else lkp y ρ := fun y => rfl
      refine ⟨fun y => ⟨fun h => ?_, fun h => ?_⟩, ?_⟩
      · rw [List.mem_singleton] at h
        subst h
        rw [el, if_pos rfl]; exact hv
      · rw [el, if_neg (fun e => h (by rw [e]; exact List.mem_singleton.mpr rfl))]
      · show drp 1 (eC z v ρ) = ρ
        cases ρ <;> rfl
    · obtain ⟨-, rfl, rfl, rfl⟩ := hw
      refine ⟨trivial, fun {ρ ρ'} h => same ?_ rfl⟩
      have h : some ρ = some ρ' := h
      cases h; rfl
    · obtain ⟨-, wA, wB, rfl⟩ := hw
      obtain ⟨a, tA, rfl, tB⟩ := (show ∃ a, tpP false α A a ∧ s = gL a ∧ tpP false α B s from ht)
      refine ⟨⟨hv.lis, fun x w e => ?_⟩, fun {ρ ρ'} h => ?_⟩
      · subst e
        exact ⟨(pat_ok A wA tA hv.1).1, (pat_ok B wB tB (show VTy PR (gL a) n w from hv.2)).1⟩
      · cases v with
        | append x w =>
          have h : (match fitE A x ρ with
            | some ρ1 => fitE B w ρ1
            | none => none) = some ρ' := h
          split at h
          · next ρ1 e1 =>
            obtain ⟨p1, p2⟩ := (pat_ok A wA tA hv.1).2 e1
            obtain ⟨q1, q2⟩ := (pat_ok B wB tB (show VTy PR (gL a) n w from hv.2)).2 h
            have eb : bnd (nd 10 z A B nl) = bnd A ++ bnd B := rfl
            show (∀ y, (y ∈ bnd (nd 10 z A B nl) → _) ∧ (y ∉ bnd (nd 10 z A B nl) → _)) ∧ drp (bnd (nd 10 z A B nl)).length _ = _
            rw [eb]
            refine ⟨fun y => ⟨fun h => ?_, fun h => ?_⟩, ?_⟩
            · by_cases m : y ∈ bnd B
              · exact (q1 y).1 m
              · rw [(q1 y).2 m]
                rcases List.mem_append.mp h with m' | m'
                · exact (p1 y).1 m'
                · exact (m m').elim
            · rw [(q1 y).2 (fun m => h (List.mem_append.mpr (Or.inr m))), (p1 y).2 (fun m => h (List.mem_append.mpr (Or.inl m)))]
            · rw [List.length_append, drp_add, q2, p2]
          · cases h
        | _ =>
          have h : (none : Option En) = some ρ' := h
          cases h
    · exact hw.elim
  | .nil, _, _, hw, _, _ => hw.elim
  | .line, _, _, hw, _, _ => hw.elim
  | .align _, _, _, hw, _, _ => hw.elim
  | .text _, _, _, hw, _, _ => hw.elim
  | .append _ _, _, _, hw, _, _ => hw.elim
  | .group _ _, _, _, hw, _, _ => hw.elim
  | .nest _ _, _, _, hw, _, _ => hw.elim
  | .tag _ .nil, _, _, hw, _, _ => hw.elim
  | .tag _ .line, _, _, hw, _, _ => hw.elim
  | .tag _ (.align _), _, _, hw, _, _ => hw.elim
  | .tag _ (.text _), _, _, hw, _, _ => hw.elim
  | .tag _ (.append _ _), _, _, hw, _, _ => hw.elim
  | .tag _ (.group _ _), _, _, hw, _, _ => hw.elim
  | .tag _ (.tag _ _), _, _, hw, _, _ => hw.elim
  | .tag _ (.nest _ .nil), _, _, hw, _, _ => hw.elim
  | .tag _ (.nest _ .line), _, _, hw, _, _ => hw.elim
  | .tag _ (.nest _ (.align _)), _, _, hw, _, _ => hw.elim
  | .tag _ (.nest _ (.text _)), _, _, hw, _, _ => hw.elim
  | .tag _ (.nest _ (.nest _ _)), _, _, hw, _, _ => hw.elim
  | .tag _ (.nest _ (.group _ _)), _, _, hw, _, _ => hw.elim
  | .tag _ (.nest _ (.tag _ _)), _, _, hw, _, _ => hw.elim
  | .tag _ (.nest _ (.append _ .nil)), _, _, hw, _, _ => hw.elim
  | .tag _ (.nest _ (.append _ .line)), _, _, hw, _, _ => hw.elim
  | .tag _ (.nest _ (.append _ (.align _))), _, _, hw, _, _ => hw.elim
  | .tag _ (.nest _ (.append _ (.text _))), _, _, hw, _, _ => hw.elim
  | .tag _ (.nest _ (.append _ (.nest _ _))), _, _, hw, _, _ => hw.elim
  | .tag _ (.nest _ (.append _ (.group _ _))), _, _, hw, _, _ => hw.elim
  | .tag _ (.nest _ (.append _ (.tag _ _))), _, _, hw, _, _ => hw.elim
end SAFE
