/-! D2: what is true of all functions' bodies stays; the potential holds. -/
section PTM
variable {Q : Tr → Prop}
theorem allL_lf2 {k : Nat} {z : Int} {T : Tr} {ρ : En} (hT : allL Q T) (hρ : allL Q ρ) : allL Q (lfV k z T ρ) := by
  unfold lfV
  split
  · exact ⟨(fun h => by cases h), trivial⟩
  split
  · exact ⟨(fun h => by cases h), trivial⟩
  split
  · exact ⟨(fun h => by cases h), trivial⟩
  split
  · exact ⟨(fun h => by cases h), trivial⟩
  split
  · exact ⟨(fun h => by cases h), trivial⟩
  split
  · exact allL_lkp hρ
  · exact ⟨(fun h => by cases h), hT, hρ⟩
theorem br_S : ∀ {B : Tr} {v : Va} {ρ : En} {E br : Tr} {ρ' : En}, brF B v ρ = some (E, br, ρ') → allL Q B → allL Q v → allL Q ρ → allL Q E ∧ allL Q br ∧ allL Q ρ' := by
  intro B v ρ E br ρ' h a b c
  obtain ⟨x, y, z, -⟩ := br_sp (k := 0) h a b c
  exact ⟨x, y, z⟩
theorem mv_S {st st' : AS} (h : mvA st = some st') (J : allS Q st) : allS Q st' := by
  obtain ⟨a1, a2, a3, a4⟩ := J
  unfold mvA at h
  split at h
  · next k z A B C w ρ vs fs =>
    have hT : allL Q (nd k z A B C) := a1 _ (List.mem_cons_self ..)
    obtain ⟨-, hA, hB, hC⟩ := allL_nd hT
    have hw : ∀ i ∈ w, allL Q i.2 := fun i hi => a1 i (List.mem_cons_of_mem _ hi)
    split at h
    · cases h
      refine ⟨hw, a2, fun v hv => ?_, a4⟩
      rcases List.mem_cons.mp hv with e | e
      · rw [e]; exact allL_lf2 hT a2
      · exact a3 v e
    · split at h
      · cases h
        refine ⟨fun i hi => ?_, a2, a3, a4⟩
        rcases List.mem_cons.mp hi with e | hi
        · rw [e]; exact hA
        rcases List.mem_cons.mp hi with e | hi
        · rw [e]; exact hB
        rcases List.mem_cons.mp hi with e | hi
        · rw [e]; exact hT
        · exact hw i hi
      · split at h
        · cases h
          refine ⟨fun i hi => ?_, a2, a3, a4⟩
          rcases List.mem_cons.mp hi with e | hi
          · rw [e]; exact hA
          rcases List.mem_cons.mp hi with e | hi
          · rw [e]; exact hT
          · exact hw i hi
        · cases h
  · next t w ρ vs fs =>
    cases h
    exact ⟨fun i hi => a1 i (List.mem_cons_of_mem _ hi), allL_drp a2, a3, a4⟩
  · next ρ vs w ρ' fs =>
    cases h
    obtain ⟨b1, b2⟩ := a4 _ (List.mem_cons_self ..)
    exact ⟨b1, b2, a3, fun f hf => a4 f (List.mem_cons_of_mem _ hf)⟩
  · cases h
theorem mv_P {w w' : Wl} {ρ ρ' : En} {vs vs' : List Va} {fs fs' : List (Wl × En)} (h : mvA (w, ρ, vs, fs) = some (w', ρ', vs', fs')) : pot w' fs' ≤ pot w fs := by
  have up : ∀ {u u' : Wl} {gs : List (Wl × En)}, wN u' ≤ wN u → wQ u' ≤ wQ u → pot u' gs ≤ pot u gs := fun {u u' gs} a b => by
    cases gs with
    | nil => exact a
    | cons f gs => show wQ u' + pot f.1 gs ≤ wQ u + pot f.1 gs; omega
  unfold mvA at h
  split at h
  · next k z A B C w1 ρ1 vs1 fs1 e0 =>
    cases e0
    have g1 := wN_ge (w := w1)
    have g2 := wQ_ge (w := w1)
    split at h
    · next hk =>
      cases h
      refine up ?_ ?_
      · show wN w' ≤ ndk (nd k z A B C) (wN w')
        rcases hk with hk | hk
        · match k, hk with
          | 0, _ => exact Int.le_refl _
          | 1, _ => exact Int.le_refl _
          | 2, _ => exact Int.le_refl _
          | 3, _ => exact Int.le_refl _
          | 4, _ => exact Int.le_refl _
          | 5, _ => exact Int.le_refl _
        · subst hk; exact Int.le_refl _
      · show wQ w' ≤ ndq (nd k z A B C) (wQ w')
        rcases hk with hk | hk
        · match k, hk with
          | 0, _ => exact Int.le_refl _
          | 1, _ => exact Int.le_refl _
          | 2, _ => exact Int.le_refl _
          | 3, _ => exact Int.le_refl _
          | 4, _ => exact Int.le_refl _
          | 5, _ => exact Int.le_refl _
        · subst hk; exact Int.le_refl _
    · split at h
      · next hk =>
        cases h
        rcases hk with rfl | rfl | rfl
        · exact up (Int.le_refl _) (Int.le_refl _)
        · exact up (Int.le_refl _) (Int.le_refl _)
        · exact up (Int.le_refl _) (Int.le_refl _)
      · split at h
        · next hk =>
          cases h
          rcases hk with rfl | rfl | rfl | rfl | rfl
          · exact up (Int.le_refl _) (Int.le_refl _)
          · exact up (Int.le_refl _) (Int.le_refl _)
          · exact up (Int.le_refl _) (Int.le_refl _)
          · exact up (Int.le_refl _) (Int.le_refl _)
          · exact up (Int.le_refl _) (Int.le_refl _)
        · cases h
  · next t w1 ρ1 vs1 fs1 e0 =>
    cases e0
    cases h
    exact up (Int.le_refl _) (Int.le_refl _)
  · next ρ1 vs1 w1 ρ2 fs1 e0 =>
    cases e0
    cases h
    show pot w' fs' ≤ wQ [] + pot w' fs'
    have : wQ [] = 0 := rfl
    omega
  · cases h
end PTM
