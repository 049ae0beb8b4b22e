/-! D2 again: a call pays for what its function's branch binds: d half names more at each application. -/
/-- as ndk, but d more is wanted at each application -/
def ndd (d : Int) : Tr → Int → Int
  | .tag j (.nest z (.append A (.append B C))), k => match j with
    | 8 => ndd d A (max 0 (k - 17))
    | 9 => ndd d A (ndd d B (max 0 (k - 17)))
    | 10 => ndd d A (ndd d B (max 0 (k - 17)))
    | 11 => ndd d A (ndd d B (k + d))
    | 13 => ndd d A (max 0 (ndd d B k - 15))
    | 14 => ndd d A (max 0 (ndd d B k - 15))
    | 15 => ndd d A (max 0 (max (ndd d B k) (ndd d C k) - 17))
    | 16 => ndd d A (ndd d B k)
    | 17 => max (max 0 (2 * (z.toNat : Int) - 17 + ndd d B k)) (ndd d C k)
    | _ => k
  | _, _ => 0
def ptD (d : Int) : Nat × Tr → Int → Int
  | (0, T), k => ndd d T k
  | (1, .tag j (.nest _ (.append _ (.append B C)))), k => match j with
    | 8 => max 0 (k - 17)
    | 9 => max 0 (k - 17)
    | 10 => max 0 (k - 17)
    | 11 => k + d
    | 13 => max 0 (ndd d B k - 15)
    | 14 => max 0 (ndd d B k - 15)
    | 15 => max 0 (max (ndd d B k) (ndd d C k) - 17)
    | 16 => ndd d B k
    | _ => k
  | _, k => k
def wD (d : Int) : Wl → Int
  | [] => 0
  | i :: w => ptD d i (wD d w)
def fD (d : Int) : List (Wl × En) → Int
  | [] => 0
  | f :: fs => wD d f.1 + fD d fs
/-- a function's body -/
def QD (d : Int) (A : Tr) : Prop := ndd d A 0 ≤ 15 + d
section NDD
variable {d : Int} {Q : Tr → Prop}
theorem ndd_ge (hd : 0 ≤ d) : ∀ {T : Tr} {k : Int}, 0 ≤ k → 0 ≤ ndd d T k := by
  intro T k
  fun_induction ndd d T k with
  | case1 z A B C k i1 => intro h; exact i1 (by omega)
  | case2 z A B C k i1 i2 => intro h; exact i2 (i1 (by omega))
  | case3 z A B C k i1 i2 => intro h; exact i2 (i1 (by omega))
  | case4 z A B C k i1 i2 => intro h; exact i2 (i1 (by omega))
  | case5 z A B C k i1 i2 => intro h; exact i2 (by omega)
  | case6 z A B C k i1 i2 => intro h; exact i2 (by omega)
  | case7 z A B C k i1 i2 i3 => intro h; exact i3 (by omega)
  | case8 z A B C k i1 i2 => intro h; exact i2 (i1 h)
  | case9 z A B C k i1 i2 => intro h; omega
  | case10 => intro h; exact h
  | case11 => intro h; exact Int.le_refl _
theorem ptD_ge (hd : 0 ≤ d) : ∀ {i : Nat × Tr} {k : Int}, 0 ≤ k → 0 ≤ ptD d i k := by
  intro i k h
  unfold ptD
  split
  · exact ndd_ge hd h
  · split
    · omega
    · omega
    · omega
    · omega
    · omega
    · omega
    · omega
    · exact ndd_ge hd h
    · exact h
  · exact h
theorem wD_ge (hd : 0 ≤ d) : ∀ {w : Wl}, 0 ≤ wD d w
  | [] => Int.le_refl _
  | _ :: _ => ptD_ge hd (wD_ge hd)
theorem fD_ge (hd : 0 ≤ d) : ∀ {fs : List (Wl × En)}, 0 ≤ fD d fs
  | [] => Int.le_refl _
  | f :: fs => by
    have := wD_ge hd (w := f.1)
    have := fD_ge hd (fs := fs)
    show 0 ≤ wD d f.1 + fD d fs
    omega
theorem br_d {k : Int} : ∀ {B : Tr} {v : Va} {ρ : En} {E br : Tr} {ρ' : En}, brF B v ρ = some (E, br, ρ') → 2 * (numB br : Int) - 17 + ndd d E k ≤ ndd d B k := by
  intro B v ρ
  fun_induction brF B v ρ with
  | case1 z P E C v ρ ρ1 h =>
    intro E' br ρ' e
    cases e
    have e1 : ndd d (nd 17 z P E C) k = max (max 0 (2 * (z.toNat : Int) - 17 + ndd d E k)) (ndd d C k) := rfl
    have e2 : numB (nd 17 z P E C) = z.toNat := rfl
    show 2 * (numB (nd 17 z P E C) : Int) - 17 + ndd d E k ≤ ndd d (nd 17 z P E C) k
    rw [e1, e2]; omega
  | case2 z P E C v ρ h ih =>
    intro E' br ρ' e
    have r := ih e
    have e1 : ndd d (nd 17 z P E C) k = max (max 0 (2 * (z.toNat : Int) - 17 + ndd d E k)) (ndd d C k) := rfl
    show 2 * (numB br : Int) - 17 + ndd d E' k ≤ ndd d (nd 17 z P E C) k
    rw [e1]; omega
  | case3 => intro E' br ρ' e; cases e
theorem mv_D {w w' : Wl} {ρ ρ' : En} {vs vs' : List Va} {fs fs' : List (Wl × En)} (h : mvA (w, ρ, vs, fs) = some (w', ρ', vs', fs')) : wD d w' + fD d fs' ≤ wD d w + fD d fs := by
  unfold mvA at h
  split at h
  · next k z A B C w1 ρ1 vs1 fs1 e0 =>
    cases e0
    split at h
    · next hk =>
      cases h
      have e : wD d w' ≤ wD d ((0, nd k z A B C) :: w') := by
        show wD d w' ≤ ndd d (nd k z A B C) (wD d w')
        rcases hk with hk | hk
        · match k, hk with
          | 0, _ => exact Int.le_refl _
          | 1, _ => exact Int.le_refl _
          | 2, _ => exact Int.le_refl _
          | 3, _ => exact Int.le_refl _
          | 4, _ => exact Int.le_refl _
          | 5, _ => exact Int.le_refl _
        · subst hk; exact Int.le_refl _
      have e : wD d w' ≤ wD d ((0, .tag k (.nest z (.append A (.append B C)))) :: w') := e
      omega
    · split at h
      · next hk =>
        cases h
        rcases hk with rfl | rfl | rfl
        · exact Int.le_refl _
        · exact Int.le_refl _
        · exact Int.le_refl _
      · split at h
        · next hk =>
          cases h
          rcases hk with rfl | rfl | rfl | rfl | rfl
          · exact Int.le_refl _
          · exact Int.le_refl _
          · exact Int.le_refl _
          · exact Int.le_refl _
          · exact Int.le_refl _
        · cases h
  · next t w1 ρ1 vs1 fs1 e0 =>
    cases e0
    cases h
    exact Int.le_refl _
  · next ρ1 vs1 w1 ρ2 fs1 e0 =>
    cases e0
    cases h
    show wD d w' + fD d fs' ≤ 0 + (wD d w' + fD d fs')
    omega
  · cases h
theorem sp_D (hd : 0 ≤ d) {w w' : Wl} {ρ ρ' : En} {vs vs' : List Va} {fs fs' : List (Wl × En)} {b : Nat} (h : spA (w, ρ, vs, fs) = some (.inl ((w', ρ', vs', fs'), b))) (J : allS (QD d) (w, ρ, vs, fs)) : wD d w' + fD d fs' + 2 * (b : Int) ≤ wD d w + fD d fs + 17 := by
  obtain ⟨a1, a2, a3, a4⟩ := J
  unfold spA at h
  split at h
  · next k z A B C w1 ρ1 vs1 fs1 e0 =>
    cases e0
    have g1 := wD_ge hd (w := w1)
    split at h
    · cases h
      show wD d w' + fD d fs + 2 * ((0 : Nat) : Int) ≤ max 0 (wD d w' - 17) + fD d fs + 17; omega
    · split at h
      · cases h
        show wD d w' + fD d fs + 2 * ((0 : Nat) : Int) ≤ max 0 (wD d w' - 17) + fD d fs + 17; omega
      · cases h
    · cases h
      show wD d w' + fD d fs + 2 * ((0 : Nat) : Int) ≤ max 0 (wD d w' - 17) + fD d fs + 17; omega
    · next x f vs2 =>
      have hf : allL (QD d) f := a3 f (List.mem_cons_of_mem _ (List.mem_cons_self ..))
      have call : ∀ {bb : Tr}, ndd d bb 0 ≤ 15 + d → wD d [(0, bb)] + fD d ((w1, ρ) :: fs) + 2 * ((1 : Nat) : Int) ≤ wD d ((1, nd 11 z A B C) :: w1) + fD d fs + 17 := fun {bb} hq => by
        show ndd d bb 0 + (wD d w1 + fD d fs) + 2 * ((1 : Nat) : Int) ≤ (wD d w1 + d) + fD d fs + 17
        omega
      split at h
      · cases h
        show wD d w' + fD d fs + 2 * ((0 : Nat) : Int) ≤ (wD d w' + d) + fD d fs + 17; omega
      · next u y bb r ρ2 =>
        cases h
        obtain ⟨-, ⟨hq, -⟩, -⟩ := hf
        exact call (hq rfl _ _ _ rfl)
      · next u gn y bb r ρ2 =>
        cases h
        obtain ⟨-, ⟨hq, -⟩, -⟩ := hf
        exact call (hq rfl _ _ _ rfl)
      · cases h
    · cases h
      show ndd d B (wD d w1) + fD d fs + 2 * ((1 : Nat) : Int) ≤ max 0 (ndd d B (wD d w1) - 15) + fD d fs + 17; omega
    · split at h
      · cases h
        show ndd d B (wD d w1) + fD d fs + 2 * ((1 : Nat) : Int) ≤ max 0 (ndd d B (wD d w1) - 15) + fD d fs + 17; omega
      · cases h
    · next v vs2 =>
      cases h
      show ndd d (if toI v = 1 then B else C) (wD d w1) + fD d fs + 2 * ((0 : Nat) : Int) ≤ max 0 (max (ndd d B (wD d w1)) (ndd d C (wD d w1)) - 17) + fD d fs + 17
      split <;> omega
    · next v vs2 =>
      split at h
      · next E br ρ2 he =>
        cases h
        have r5 := br_d (d := d) (k := wD d w1) he
        show ndd d E (wD d w1) + fD d fs + 2 * (numB br : Int) ≤ ndd d B (wD d w1) + fD d fs + 17; omega
      · cases h
    · cases h
  · cases h
theorem capD (hd : 0 ≤ d) {T : Tr} (hT : allL (QD d) T) : ∀ (k : Nat) (st : AS) (n g : Int), Run T k st n g → allS (QD d) st ∧ wD d st.1 + fD d st.2.2.2 + 2 * g ≤ 17 * n + ndd d T 0
  | 0, st, n, g, h => by
    obtain ⟨rfl, rfl, rfl⟩ := h
    refine ⟨⟨fun i hi => ?_, trivial, (fun v hv => by cases hv), (fun f hf => by cases hf)⟩, ?_⟩
    · rcases List.mem_cons.mp hi with e | e
      · rw [e]; exact hT
      · cases e
    · show ndd d T 0 + 0 + 2 * 0 ≤ 17 * 0 + ndd d T 0
      omega
  | k + 1, st, n, g, h => by
    obtain ⟨s0, n0, g0, h0, h⟩ := h
    obtain ⟨J, p⟩ := capD hd hT k s0 n0 g0 h0
    obtain ⟨w, ρ, vs, fs⟩ := s0
    obtain ⟨w', ρ', vs', fs'⟩ := st
    have p : wD d w + fD d fs + 2 * g0 ≤ 17 * n0 + ndd d T 0 := p
    show allS (QD d) (w', ρ', vs', fs') ∧ wD d w' + fD d fs' + 2 * g ≤ 17 * n + ndd d T 0
    rcases h with ⟨h, rfl, rfl⟩ | ⟨b, h, rfl, rfl⟩
    · have := mv_D (d := d) h
      exact ⟨mv_S h J, by omega⟩
    · have := sp_D hd h J
      exact ⟨sp_S h J, by omega⟩
end NDD
