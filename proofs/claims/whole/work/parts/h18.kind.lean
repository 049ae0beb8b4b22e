/-! How a function that makes lists is bound. -/
section KND
variable {w : Tr → Int} {S T : Tr}
theorem bz_kind (hw : ∀ N, 0 ≤ w N) {st : AS} {r : (AS × Nat) ⊕ Int} (h : spA st = some r) (hn : ¬ bzN w st) : ∃ k z A B C l ρ v vs fs, st = ((1, nd k z A B C) :: l, ρ, v :: vs, fs) ∧ (k = 11 ∨ k = 13 ∨ k = 14 ∨ k = 16) ∧ 1 ≤ vWt w v := by
  obtain ⟨l, ρ, vs, fs⟩ := st
  unfold spA at h
  split at h
  · next k z A B C w1 ρ1 vs1 fs1 e0 =>
    cases e0
    cases vs with
    | nil => exact absurd trivial hn
    | cons v vs =>
      refine ⟨k, z, A, B, C, w1, ρ, v, vs, fs, rfl, ?_, ?_⟩
      · by_cases q : k = 11 ∨ k = 13 ∨ k = 14 ∨ k = 16
        · exact q
        · exact absurd (fun x => absurd x q) hn
      · have := vWt_ge hw (v := v)
        by_cases q : vWt w v = 0
        · exact absurd (fun _ => q) hn
        · omega
  · cases h
/-- where it is bound: by a LET, by a REC, by a choice, or as an argument; not all CONS are in it -/
theorem y_kind {σ σ' : Mem} (b : bLd σ σ' T) {m : Nat} {st st' : AS} {n g : Int} {c : Nat} (r : Run T m st n g) (h : spA st = some (.inl (st', c))) (hf : st.2.2.2 ≠ []) (hc : 17 ≤ c) : ∃ m0 n0 g0 e0 k z A B C l ρ v vs fs, Run T m0 ((1, nd k z A B C) :: l, ρ, v :: vs, fs) n0 g0 ∧ RunZ (kI 10) T m0 ((1, nd k z A B C) :: l, ρ, v :: vs, fs) e0 ∧ (k = 11 ∨ k = 13 ∨ k = 14 ∨ k = 16) ∧ 1 ≤ vWt (kI 10) v ∧ e0 + vWt (kI 10) v ≤ sumW (kI 10) T ∧ (k = 11 → 1 ≤ sumW (kI 11) T) ∧ (k ≠ 11 → 1 ≤ sumW (kI k) T) := by
  obtain ⟨⟨he, hw, -, hl⟩, -⟩ := id b
  obtain ⟨m0, s0, n0, g0, e0, s1, c0, r0, rz, h0, hc0, hn⟩ := y_bind b r h hf hc
  obtain ⟨k, z, A, B, C, l, ρ, v, vs, fs, rfl, hk, hv⟩ := bz_kind kI_ge h0 hn
  obtain ⟨-, le⟩ := ln_run kI_ge m0 _ e0 rz
  have z1 := pfW_ge (w := kI 10) kI_ge (l := (1, nd k z A B C) :: l)
  have z2 := pfF_ge (w := kI 10) kI_ge (fs := fs)
  have z3 := vsW_ge (w := kI 10) kI_ge (vs := vs)
  have le : e0 + (pfW (kI 10) ((1, nd k z A B C) :: l) + pfF (kI 10) fs + (vWt (kI 10) v + vsW (kI 10) vs)) ≤ fsW (kI 10) T := le
  have a2 := fs_sw (kI_ge (j := 10)) (T := T)
  obtain ⟨-, J, -⟩ := fr_run hw m0 _ n0 g0 r0
  have nk : 1 ≤ sumW (kI k) T := by
    have me : ∀ {X : Tr}, str (nd k z A B C) X → 1 ≤ sumW (kI k) X := fun {X} q => by
      have e : sumW (kI k) (nd k z A B C) = kI k (nd k z A B C) + ((if k = 17 then 0 else sumW (kI k) A) + (sumW (kI k) B + sumW (kI k) C)) := rfl
      have e2 : kI k (nd k z A B C) = 1 := if_pos rfl
      have := sw_ge (kI_ge (j := k)) (T := A)
      have := sw_ge (kI_ge (j := k)) (T := B)
      have := sw_ge (kI_ge (j := k)) (T := C)
      have g := sw_str (kI_ge (j := k)) q
      rw [e, e2] at g
      split at g <;> omega
    cases fs with
    | nil => exact me ((strW_cons.mp J).1)
    | cons f gs =>
      obtain ⟨⟨A0, hA, hW⟩, -⟩ := J
      have := me ((strW_cons.mp hW).1)
      obtain ⟨x, y, u, q⟩ := sw_bo (kI_ge (j := k)) hA
      have := kI_ge (j := k) (nd 12 x A0 y u)
      omega
  exact ⟨m0, n0, g0, e0, k, z, A, B, C, l, ρ, v, vs, fs, r0, rz, hk, hv, by omega, (fun e => e ▸ nk), fun _ => nk⟩
end KND
