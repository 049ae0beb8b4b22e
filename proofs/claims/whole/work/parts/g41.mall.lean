/-! The model's run: any move. -/
section MALL
variable {h h' h1 : mHp} {σ0 σ σ' σ1 : Mem} {d : Nat} {s : Int} {T : Tr} {S S' : WkS}
theorem mm_no {k : Nat} (hl : S.2.2.2.2.1.length ≤ 200) (R : mRel σ0 h σ s S) : ∃ n h' σ', exN d n h σ h' σ' ∧ mOut σ0 h σ s 0 h' σ' S := ⟨0, h, σ, ⟨rfl, rfl⟩, mRel.o frWm.rf hl R rfl rfl rfl⟩
theorem mm_leaf2 {k : Nat} {z : Int} {A B C : Tr} {cx : Cx} {ρ : En} {vs : List Va} {fs : List (Cx × En)} (R : mRel σ0 h σ s (0, nd k z A B C, cx, ρ, vs, fs)) (W : wkV (0, nd k z A B C, cx, ρ, vs, fs)) (I : wkC (0, nd k z A B C, cx, ρ, vs, fs)) (hk : k ≤ 5) (M0 : RM σ0) : ∃ h' σ', exN d 1 h σ h' σ' ∧ mOut σ0 h σ s 0 h' σ' (1, nl, cx, ρ, lfV k z (nd k z A B C) ρ :: vs, fs) := by
  obtain ⟨h', σ', X, o⟩ := mm_leaf (d := d) R W I hk M0
  refine ⟨h', σ', exM.one ⟨?_, X⟩, o⟩
  obtain ⟨hl, q, e51, ps, vt⟩ := R
  unfold psM at ps
  rw [if_pos rfl] at ps
  obtain ⟨⟨⟨t, ic, -⟩, -, p0, p1⟩, -⟩ := ps
  obtain ⟨⟨pg, p124⟩, -⟩ := q
  obtain ⟨x, ex, x0, x5, l1⟩ : ∃ x, σ0 63 (σ 58 64) = x ∧ 0 ≤ x ∧ x ≤ 5 ∧ ln (nd k z A B C) = 1 := by
    have hk : k = 0 ∨ k = 1 ∨ k = 2 ∨ k = 3 ∨ k = 4 ∨ k = 5 := by omega
    rcases hk with rfl | rfl | rfl | rfl | rfl | rfl
    · exact ⟨0, ic.1, by decide, by decide, rfl⟩
    · exact ⟨2, ic.1, by decide, by decide, rfl⟩
    · exact ⟨1, ic.1, by decide, by decide, rfl⟩
    · exact ⟨3, ic.1, by decide, by decide, rfl⟩
    · exact ⟨4, ic.1, by decide, by decide, rfl⟩
    · exact ⟨5, ic.1, by decide, by decide, rfl⟩
  have x1 : σ 63 (σ 58 64) = x := by rw [pg.1 63 (by omega)]; exact ex
  exact ns_of pg p124 rfl ⟨p0, by omega⟩ x1 (by unfold isSt; omega) (by unfold rg; omega)
theorem mm_all (M0 : RM σ0) (R : mRel σ0 h σ s S) (I : wkI T S) (hs : s ≤ 500) (hm : wkM S = some S') : ∃ n h' σ', exN d n h σ h' σ' ∧ mOut σ0 h σ s 0 h' σ' S' := by
  have mo : ∀ {n : Nat} {S' : WkS}, (∃ h' σ', exN d n h σ h' σ' ∧ mOut σ0 h σ s 0 h' σ' S') → ∃ n h' σ', exN d n h σ h' σ' ∧ mOut σ0 h σ s 0 h' σ' S' := fun ⟨h', σ', e, o⟩ => ⟨_, h', σ', e, o⟩
  obtain ⟨W, -, C, t1, -⟩ := I
  unfold wkM at hm
  split at hm
  · next k z A B C' cx ρ vs fs =>
    have ww : isE (nd k z A B C') ∧ wf (nd k z A B C') := by
      rcases W.1.1 with e | e | e
      · exact e.2
      · cases e
      · cases e.1
    obtain ⟨ke, k6, k7⟩ : k ≤ 16 ∧ k ≠ 6 ∧ k ≠ 7 := ww.1
    have hl : vs.length ≤ 200 := R.1
    split at hm
    · next q =>
      cases hm
      rcases q with q | q
      · exact mo (mm_leaf2 R W C q M0)
      · subst q
        have w12 : ltZ z ∧ isE A ∧ wf A ∧ B = nl ∧ C' = nl := ww.2
        exact mo (mm_fun R (ltZ_rg w12.1))
    · next q =>
      cases hm
      have h14 : hd14 cx = none := by
        obtain ⟨-, -, -, w2⟩ := C
        revert w2
        cases hd14 cx with
        | none => intro _; rfl
        | some y => intro w2; have : k = 12 := w2.1; omega
      by_cases e14 : k = 14
      · subst e14
        have w14 : ltZ z ∧ isFn A ∧ wf A ∧ isE B ∧ wf B ∧ C' = nl := ww.2
        exact mo (mm_rec R h14 (ltZ_rg w14.1))
      · exact mm_no (k := 0) hl (mz_in R h14 (by omega))
  · next N j k z A B C' cx ρ vs fs =>
    have t1 : N = nl := t1 rfl
    subst t1
    have hl : vs.length ≤ 200 := R.1
    have h14 : hd14 cx = none := C.1.2.1
    obtain ⟨jk, -, -⟩ : ((j = 1 ∧ 8 ≤ k ∧ k ≤ 16 ∧ k ≠ 12) ∨ (j = 2 ∧ (k = 9 ∨ k = 10 ∨ k = 11 ∨ k = 13 ∨ k = 14 ∨ k = 15 ∨ k = 17)) ∨ (j = 3 ∧ k = 15)) ∧ (wf (nd k z A B C') ∧ szT (nd k z A B C') ≤ 128) ∧ cxW cx := W.1.2.1.2
    have cw : cxW ((j, nd k z A B C') :: cx) := W.1.2.1.2
    split at hm
    · next q =>
      subst q
      split at hm
      · next b => cases hm; exact mm_no (k := 0) hl (mz_bin R b)
      · next b => cases hm; exact mm_no (k := 0) hl (mz_due R h14 (Or.inl ⟨rfl, by omega⟩))
    · next q =>
      split at hm
      · next b => cases hm; exact mm_no (k := 0) hl (mz_due R h14 (Or.inr ⟨by omega, b⟩))
      · next b =>
        split at hm
        · next b2 =>
          cases hm
          have j2 : j = 2 := by omega
          subst j2
          by_cases e17 : k = 17
          · subst e17; exact mo (mm_brn R cw h14)
          · exact mo (mm_unb R h14 (by omega))
        · next b2 =>
          cases hm
          have k15 : k = 15 := by omega
          subst k15
          by_cases e2 : j = 2
          · subst e2; exact mo (mm_if2 R h14)
          · have j3 : j = 3 := by omega
            subst j3; exact mo (mm_if3 R h14)
  · next N ρ vs cx ρ' fs =>
    cases hm
    have t1 : N = nl := t1 rfl
    subst t1
    obtain ⟨-, f, -⟩ := C
    exact mo (mm_ret R (f _ List.mem_cons_self).2.2 hs)
  · cases hm
end MALL
