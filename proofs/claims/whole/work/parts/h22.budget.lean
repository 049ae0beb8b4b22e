/-! The budget of a program that takes a big branch in a function. -/
section BUD
variable {T : Tr}
theorem tk_bud {σ σ' : Mem} (b : bLd σ σ' T) {m : Nat} {st st' : AS} {n g : Int} {c : Nat} (r : Run T m st n g) (h : spA st = some (.inl (st', c))) (hf : st.2.2.2 ≠ []) (hc : 17 ≤ c) : ∃ P, wfP P ∧ pdp P ≤ 14 ∧ 17 ≤ (bnd P).length ∧ rpl P + 3 ≤ sumW p17 T ∧ 1 ≤ sumW (kI 11) T ∧ 1 ≤ sumW (kI 12) T ∧ 1 ≤ sumW (kI 16) T ∧ 2 * sumW (kI 10) T + sumW (kI 11) T + 3 * sumW (kI 12) T + 5 * sumW (kI 13) T + 5 * sumW (kI 14) T + 5 * sumW (kI 15) T + 2 * sumW (kI 16) T + sumW p17 T ≤ 59 := by
  obtain ⟨⟨he, hw, ⟨-, hp⟩, hl⟩, -⟩ := id b
  obtain ⟨-, J, M⟩ := fr_run hw m st n g r
  obtain ⟨w, ρ, vs, fs⟩ := st
  obtain ⟨w', ρ', vs', fs'⟩ := st'
  obtain ⟨z, A, B, C, w1, v, vs1, E, br, rfl, rfl, hb, rfl⟩ := sp_big h hc
  have ap := M hf
  cases fs with
  | nil => exact absurd rfl hf
  | cons f gs =>
    obtain ⟨⟨A0, hA, hW⟩, -⟩ := J
    have h1 : str (nd 16 z A B C) A0 := (strW_cons.mp hW).1
    obtain ⟨-, h2⟩ := br_str hb ((str_nd (by decide) h1).2.1 _ str_me)
    obtain ⟨z2, P, C2, rfl, hfit⟩ := br_fit hb
    have wA := wf_bo hA (Or.inl hw)
    have w2 : wf (nd 17 z2 P E C2) := by
      rcases wf_str h2 (Or.inl wA) with q | q
      · exact q
      · cases q
    have w2' : (z2 = (bnd P).length ∧ (bnd P).Nodup) ∧ wfP P ∧ isE E ∧ wf E ∧ (C2 = nl ∨ (isBr C2 ∧ wf C2)) := w2
    have pd : (17 = 17 → pdp P ≤ 14) ∧ _ := pd_str h2 (pd_bo hA hp)
    have hc : 17 ≤ z2.toNat := hc
    have ce := (cen_eq hw).1 he
    have om := own_m (T := T)
    have bb : ∀ {w : Tr → Int}, (∀ N, 0 ≤ w N) → sumW w A0 ≤ sumW w T := fun {w} hw => by
      obtain ⟨x, y, u, q⟩ := sw_bo hw hA
      have := hw (nd 12 x A0 y u)
      omega
    have s1 := sw_str p17_ge h2
    have s2 := sw_17p (z := z2) (A := P) (B := E) (C := C2)
    have s3 := bb p17_ge
    have s4 : p17 (nd 17 z2 P E C2) = rpl P + 3 := rfl
    have t1 := sw_str (kI_ge (j := 16)) h1
    have t2 : sumW (kI 16) (nd 16 z A B C) = kI 16 (nd 16 z A B C) + (sumW (kI 16) A + (sumW (kI 16) B + sumW (kI 16) C)) := sw_nd (by decide)
    have t3 : kI 16 (nd 16 z A B C) = 1 := rfl
    have t4 := sw_ge (kI_ge (j := 16)) (T := A)
    have t5 := sw_ge (kI_ge (j := 16)) (T := B)
    have t6 := sw_ge (kI_ge (j := 16)) (T := C)
    have t7 := bb (kI_ge (j := 16))
    exact ⟨P, w2'.2.1, pd.1 rfl, by omega, by omega, ap_1 ap, la_1 hA, by omega, by omega⟩
end BUD
