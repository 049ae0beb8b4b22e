/-! D2 where a call pays for what its function's branch binds. -/
/-- with d half names at each application all is in its bounds -/
def okD (T : Tr) : Prop := ∃ d : Int, 0 ≤ d ∧ allL (QD d) T ∧ ndd d T 0 ≤ 98
/-- what is left of Z: where no such d is known, no branch of 17 names or more is ever taken in a function -/
def roomY : Prop := ∀ {σ σ' : Mem} {T : Tr}, bLd σ σ' T → okD T ∨ nbF T
section RMD
theorem brMx_d {d k : Int} (hd : 0 ≤ d) (hk : 0 ≤ k) : ∀ {B : Tr}, isBr B → wf B → 2 * (brMx B : Int) - 17 ≤ ndd d B k := by
  intro B
  fun_induction brMx B with
  | case1 j z P E C ih =>
    intro q w
    have q : j = 17 := q
    subst q
    have w : (z = (bnd P).length ∧ (bnd P).Nodup) ∧ wfP P ∧ isE E ∧ wf E ∧ (C = nl ∨ (isBr C ∧ wf C)) := w
    have e1 : ndd d (nd 17 z P E C) k = max (max 0 (2 * (z.toNat : Int) - 17 + ndd d E k)) (ndd d C k) := rfl
    show 2 * ((max (bnd P).length (brMx C) : Nat) : Int) - 17 ≤ ndd d (nd 17 z P E C) k
    rw [e1]
    have zt : (z.toNat : Int) = (bnd P).length := by omega
    have g := ndd_ge hd (T := E) hk
    have c0 : 2 * (brMx C : Int) - 17 ≤ ndd d C k ∨ brMx C = 0 := by
      rcases w.2.2.2.2 with e | e
      · subst e; exact Or.inr rfl
      · exact Or.inl (ih e.1 e.2)
    have mx : ((max (bnd P).length (brMx C) : Nat) : Int) = max ((bnd P).length : Int) (brMx C : Int) := by omega
    rw [mx]
    omega
  | case2 B h =>
    intro q w
    exfalso
    revert w; unfold wf; split
    · exact (h _ _ _ _ _ rfl).elim
    · exact id
theorem wf_run {T : Tr} {d : Int} (hd : 0 ≤ d) (hT : allL (QD d) T) (h98 : ndd d T 0 ≤ 98) : rmB T := by
  intro m S n g I r hn
  obtain ⟨-, p⟩ := capD hd hT m (abS S) n g r
  have g1 := wD_ge hd (w := (abS S).1)
  have g2 := fD_ge hd (fs := (abS S).2.2.2)
  refine ⟨by omega, fun h5 => ?_⟩
  have sm : 2 * (stMx S : Int) - 17 ≤ wD d (abS S).1 := by
    obtain ⟨mo, N, cx, ρ, vs, fs⟩ := S
    obtain ⟨W, -⟩ := I
    by_cases q : mo = 2
    · subst q
      obtain ⟨we, ww, -⟩ : isE N ∧ wf N ∧ 8 ≤ (match N with | .tag k _ => k | _ => 0) ∧ (match N with | .tag k _ => k | _ => 0) ≠ 12 := by
        rcases W.1.1 with e | e | e
        · cases e.1
        · cases e
        · exact e.2
      obtain ⟨k, z, A, B, C, rfl, hk⟩ := isE_nd we ww
      show 2 * ((if k = 16 then brMx B else 0 : Nat) : Int) - 17 ≤ _
      by_cases e : k = 16
      · rw [if_pos e]
        subst e
        have ww : z = 0 ∧ isE A ∧ wf A ∧ isBr B ∧ wf B ∧ C = nl := ww
        exact brMx_d hd (wD_ge hd) ww.2.2.2.1 ww.2.2.2.2.1
      · rw [if_neg e]; omega
    · have : stMx (mo, N, cx, ρ, vs, fs) = 0 := by
        unfold stMx
        split
        · rename_i e; cases e; exact absurd rfl q
        · rfl
      rw [this]; omega
  omega
theorem nb_room {σ σ' : Mem} {T : Tr} (b : bLd σ σ' T) (nb : nbF T) : rmB T := by
  intro m S n g I r hn
  obtain ⟨⟨he, hw, -, hl⟩, -⟩ := id b
  obtain ⟨a1, a2⟩ := st_T hw hl
  obtain ⟨-, p⟩ := capB (allL_im (fun A q => q.1) a1) nb m (abS S) n g r
  have k0 := ((pr_T hw).1 he).2 0 (Int.le_refl _)
  have k1 := k0.1
  unfold gP at k1
  have pg := pot_ge (w := (abS S).1) (fs := (abS S).2.2.2)
  refine ⟨by omega, fun h5 => ?_⟩
  have sm : stMx S ≤ 29 := by
    obtain ⟨-, B2⟩ := bn_run a1 a2 m (abS S) n g r
    obtain ⟨mo, N, cx, ρ, vs, fs⟩ := S
    obtain ⟨W, -⟩ := I
    by_cases q : mo = 2
    · subst q
      obtain ⟨we, ww, -⟩ : isE N ∧ wf N ∧ 8 ≤ (match N with | .tag k _ => k | _ => 0) ∧ (match N with | .tag k _ => k | _ => 0) ≠ 12 := by
        rcases W.1.1 with e | e | e
        · cases e.1
        · cases e
        · exact e.2
      obtain ⟨k, z, A, B, C, rfl, hk⟩ := isE_nd we ww
      show (if k = 16 then brMx B else 0) ≤ 29
      by_cases e : k = 16
      · rw [if_pos e]
        subst e
        have ww : z = 0 ∧ isE A ∧ wf A ∧ isBr B ∧ wf B ∧ C = nl := ww
        have bN : bnT (nd 16 z A B C) := B2.1 (1, nd 16 z A B C) (List.mem_cons_self ..)
        rcases brMx_le ww.2.2.2.2.1 bN.2.2.1 with h | h
        · exact h
        · exact absurd ww.2.2.2.1 h
      · rw [if_neg e]; decide
    · have : stMx (mo, N, cx, ρ, vs, fs) = 0 := by
        unfold stMx
        split
        · rename_i e; cases e; exact absurd rfl q
        · rfl
      rw [this]; decide
  omega
theorem roomB_y (Y : roomY) : roomB := by
  intro σ σ' T b
  rcases Y b with ⟨d, hd, hT, h98⟩ | nb
  · exact wf_run hd hT h98
  · exact nb_room b nb
end RMD
