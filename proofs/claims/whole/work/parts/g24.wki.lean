/-! Working out with places: what holds all the time; how many cells a run can want. -/
def wkI (T : Tr) (S : WkS) : Prop := wkV S ∧ wkA (fun T => c5 T ∧ pdT T) S ∧ wkC S ∧ (S.1 = 1 → S.2.1 = nl) ∧ ∃ m n g, Run T m (abS S) n g
/-- the program never meets a value of the wrong kind -/
def sfR (T : Tr) : Prop := ∀ {m : Nat} {st : AS} {n g : Int}, Run T m st n g → (∃ v, st = ([], eN, [v], [])) ∨ OkA FP.Core.DFin st
def czC : Nat × Tr → Nat
  | (j, .tag _ (.nest _ (.append _ (.append B C)))) => if j = 1 then szT B + szT C else 0
  | _ => 0
def czL : Cx → Nat
  | [] => 0
  | q :: cx => czC q + czL cx
def czQ : Tr → Nat
  | .tag k (.nest _ (.append _ (.append B C))) => if k ≤ 11 then 0 else szT B + szT C
  | _ => 0
def czF : List (Cx × En) → Nat
  | [] => 0
  | f :: fs => czL f.1 + czF fs
/-- how many parts can be entered before the next call -/
def wkQ (S : WkS) : Nat := (if S.1 = 0 then szT S.2.1 else if S.1 = 1 then 0 else czQ S.2.1) + czL S.2.2.1 + czF S.2.2.2.2.2
section WKI
variable {T : Tr} {S S' : WkS}
theorem wkI.mv (I : wkI T S) (h : wkM S = some S') : wkI T S' := by
  obtain ⟨v, a, c, t, m, n, g, r⟩ := I
  refine ⟨wk_w1 v h, wk_A1 gcl_c5pd a h, wk_c1 v c h, ?_, ?_⟩
  · intro q
    unfold wkM at h
    split at h
    · split at h
      · cases h; rfl
      · cases h; exact absurd (show (0 : Nat) = 1 from q) (by decide)
    · split at h
      · split at h
        · cases h; exact absurd (show (0 : Nat) = 1 from q) (by decide)
        · cases h; exact absurd (show (2 : Nat) = 1 from q) (by decide)
      · split at h
        · cases h; exact absurd (show (2 : Nat) = 1 from q) (by decide)
        · split at h
          · cases h; rfl
          · cases h; rfl
    · cases h; rfl
    · cases h
  · rcases ss_mv v.1 h with e | e
    · rw [e]; exact ⟨m, n, g, r⟩
    · exact ⟨m + 1, n, g, _, _, _, r, Or.inl ⟨e, rfl, rfl⟩⟩
theorem wkI.sp (I : wkI T S) (h : wkS S = some (.inl S')) : wkI T S' := by
  obtain ⟨v, a, c, t, m, n, g, r⟩ := I
  refine ⟨wk_w2 v h, wk_A2 gcl_c5pd v a h, wk_c2 v c h, ?_, ?_⟩
  · intro q
    unfold wkS at h
    split at h
    · split at h
      · cases h; rfl
      · split at h
        · cases h; rfl
        · cases h
      · cases h; rfl
      · split at h
        · cases h; rfl
        · cases h; exact absurd (show (0 : Nat) = 1 from q) (by decide)
        · cases h; exact absurd (show (0 : Nat) = 1 from q) (by decide)
        · cases h
      · cases h; exact absurd (show (0 : Nat) = 1 from q) (by decide)
      · split at h
        · cases h; exact absurd (show (0 : Nat) = 1 from q) (by decide)
        · cases h
      · split at h
        · cases h; exact absurd (show (0 : Nat) = 1 from q) (by decide)
        · cases h; exact absurd (show (0 : Nat) = 1 from q) (by decide)
      · split at h
        · cases h; exact absurd (show (0 : Nat) = 1 from q) (by decide)
        · cases h
      · cases h
    · cases h
  · obtain ⟨b, e⟩ := wk_sp h
    exact ⟨m + 1, n + 1, g + b, _, _, _, r, Or.inr ⟨b, e, rfl, rfl⟩⟩
theorem cq_mv (h : wkM S = some S') : wkQ S' + (if S.1 = 0 then 1 else 0) ≤ wkQ S := by
  unfold wkM at h
  split at h
  · next k z A B C cx ρ vs fs =>
    have e : wkQ (0, nd k z A B C, cx, ρ, vs, fs) = (szT A + szT B + szT C + 1) + czL cx + czF fs := rfl
    show wkQ S' + 1 ≤ wkQ (0, nd k z A B C, cx, ρ, vs, fs)
    rw [e]
    split at h
    · cases h; show 0 + czL cx + czF fs + 1 ≤ _; omega
    · cases h; show szT A + ((if 1 = 1 then szT B + szT C else 0) + czL cx) + czF fs + 1 ≤ _; rw [if_pos rfl]; omega
  · next T j k z A B C cx ρ vs fs =>
    have e : wkQ (1, T, (j, nd k z A B C) :: cx, ρ, vs, fs) = 0 + ((if j = 1 then szT B + szT C else 0) + czL cx) + czF fs := rfl
    show wkQ S' + 0 ≤ wkQ (1, T, (j, nd k z A B C) :: cx, ρ, vs, fs)
    rw [e]
    have st : wkQ (2, nd k z A B C, cx, ρ, vs, fs) = (if k ≤ 11 then 0 else szT B + szT C) + czL cx + czF fs := rfl
    split at h
    · next q =>
      rw [if_pos q]
      split at h
      · cases h; show szT B + ((if 2 = 1 then szT B + szT C else 0) + czL cx) + czF fs + 0 ≤ _; rw [if_neg (by decide)]; omega
      · cases h; rw [st]; split <;> omega
    · next q =>
      rw [if_neg q]
      split at h
      · cases h; rw [st, if_pos (by omega)]; omega
      · split at h
        · cases h; show 0 + czL cx + czF fs + 0 ≤ _; omega
        · cases h; show 0 + czL cx + czF fs + 0 ≤ _; omega
  · next T ρ vs cx ρ' fs => cases h; show 0 + czL cx + czF fs + 0 ≤ 0 + 0 + (czL cx + czF fs); omega
  · cases h
theorem cq_sp (w : wkV S) (h : wkS S = some (.inl S')) : wkQ S' ≤ wkQ S + 128 := by
  obtain ⟨⟨w1, ⟨wz, w2⟩, w3⟩, r1, r2, r3⟩ := w
  unfold wkS at h
  split at h
  · next k z A B C cx ρ vs fs =>
    have e : wkQ (2, nd k z A B C, cx, ρ, vs, fs) = (if k ≤ 11 then 0 else szT B + szT C) + czL cx + czF fs := rfl
    show wkQ S' ≤ wkQ (2, nd k z A B C, cx, ρ, vs, fs) + 128
    rw [e]
    have pl : ∀ v vs, wkQ (1, nl, cx, ρ, v :: vs, fs) = 0 + czL cx + czF fs := fun _ _ => rfl
    split at h
    · cases h; rw [pl]; omega
    · split at h
      · cases h; rw [pl]; omega
      · cases h
    · cases h; rw [pl]; omega
    · next x f vs' =>
      have hf := r2 f (List.mem_cons_of_mem _ List.mem_cons_self)
      split at h
      · cases h; rw [pl]; omega
      · next y b R ρ' =>
        cases h
        have hz : szT b ≤ 128 := Nat.le_trans (fn_sz hf.2.1.1) hf.2.1.2
        show szT b + 0 + (czL cx + czF fs) ≤ _
        rw [if_pos (by decide)]
        omega
      · next g y b R ρ' =>
        cases h
        have hz : szT b ≤ 128 := Nat.le_trans (fn_sz hf.2.1.1) hf.2.1.2
        show szT b + 0 + (czL cx + czF fs) ≤ _
        rw [if_pos (by decide)]
        omega
      · cases h
    · cases h; show szT B + ((if 2 = 1 then szT B + szT C else 0) + czL cx) + czF fs ≤ _; rw [if_neg (by decide), if_neg (by decide)]; omega
    · split at h
      · cases h; show szT B + ((if 2 = 1 then szT B + szT C else 0) + czL cx) + czF fs ≤ _; rw [if_neg (by decide), if_neg (by decide)]; omega
      · cases h
    · split at h
      · cases h; show szT B + ((if 2 = 1 then szT B + szT C else 0) + czL cx) + czF fs ≤ _; rw [if_neg (by decide), if_neg (by decide)]; omega
      · cases h; show szT C + ((if 3 = 1 then szT B + szT C else 0) + czL cx) + czF fs ≤ _; rw [if_neg (by decide), if_neg (by decide)]; omega
    · split at h
      · next E br ρ' hb =>
        cases h
        have := br_sz hb
        obtain ⟨z', P, CC, rfl⟩ := br_17 hb
        show szT E + ((if 2 = 1 then szT E + szT CC else 0) + czL cx) + czF fs ≤ _
        rw [if_neg (by decide), if_neg (by decide)]; omega
      · cases h
    · cases h
  · cases h
theorem mL_pos {cx : Cx} : 1 ≤ mL cx := by
  induction cx with
  | nil => exact Nat.le_refl _
  | cons q cx ih => show 1 ≤ lqC q + mL cx; omega
theorem wkZ_pos : 1 ≤ wkZ S := by have := mL_pos (cx := S.2.2.1); unfold wkZ; omega
/-- where no step is due: worked out, or a move -/
theorem wkI.nx (I : wkI T S) (h2 : S.1 ≠ 2) : (∃ ρ vs, S = (1, nl, [], ρ, vs, [])) ∨ ∃ S', wkM S = some S' := by
  obtain ⟨m, N, cx, ρ, vs, fs⟩ := S
  obtain ⟨⟨⟨w1, ⟨-, w2⟩, -⟩, -⟩, -, -, t, -⟩ := I
  rcases w1 with ⟨e, we, ww⟩ | e | ⟨e, -⟩
  · have e : m = 0 := e
    subst e
    obtain ⟨k, z, A, B, C, rfl, -⟩ := isE_nd we ww
    right
    unfold wkM
    simp only [nd]
    split
    · exact ⟨_, rfl⟩
    · exact ⟨_, rfl⟩
  · have e : m = 1 := e
    subst e
    have t : N = nl := t rfl
    subst t
    cases cx with
    | nil =>
      cases fs with
      | nil => exact Or.inl ⟨ρ, vs, rfl⟩
      | cons f fs => exact Or.inr ⟨_, rfl⟩
    | cons q cx =>
      right
      have w2 : cxW (q :: cx) := w2
      unfold cxW at w2
      split at w2
      · rename_i hq; cases hq
      · next j k z A B C cx' hq =>
        cases hq
        unfold wkM
        split
        · rename_i e; cases e
        · next e =>
          cases e
          split
          · split
            · exact ⟨_, rfl⟩
            · exact ⟨_, rfl⟩
          · split
            · exact ⟨_, rfl⟩
            · split
              · exact ⟨_, rfl⟩
              · exact ⟨_, rfl⟩
        · rename_i e; cases e
        · rename_i n1 n2 n3; exact absurd rfl (n2 _ _ _ _ _ _ _ _ _ _ _)
      · exact w2.elim
  · exact absurd e h2
end WKI
