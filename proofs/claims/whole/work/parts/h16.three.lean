/-! What a big branch that is taken in a function costs, the function's place too. -/
section THR
variable {S T A B C : Tr} {k : Nat} {z : Int}
theorem ap_nl (hw : wf T) (ap : apMn T) : laB T ≠ 2 := by
  intro h
  obtain ⟨x, X, Y, Z, q⟩ := ap
  unfold laB at h
  split at h
  · next j y f =>
    split at h
    · next hk =>
      subst hk
      unfold wf at hw
      split at hw
      · next j z A B C e0 =>
        cases e0
        have q : str (nd 11 x X Y Z) (nd 12 y A B C) := q
        rcases q with e | ⟨e, -⟩
        · cases e
        · exact e rfl
      · exact hw
    · cases h
  · cases h
theorem tk_price2 (hw : wf T) {z2 : Int} {P E C2 A0 : Tr} (ap : apMn T) (hb : bo A0 T) (h1 : str (nd 16 z A B C) A0) (h2 : str (nd 17 z2 P E C2) A0) : 2 * sumW (kI 10) T + sumW (kI 11) T + 3 * sumW (kI 12) T + rpl P + 7 ≤ sumW ownP T := by
  have h := own_px (T := T)
  rw [show (fun N => ((kI 10 N + kI 10 N) + kI 11 N) + (((kI 12 N + kI 12 N) + kI 12 N) + xxW N)) = (fun N => (fun N => (fun N => kI 10 N + kI 10 N) N + kI 11 N) N + (fun N => (fun N => (fun N => kI 12 N + kI 12 N) N + kI 12 N) N + xxW N) N) from rfl, sw_add, sw_add, sw_add, sw_add, sw_add, sw_add] at h
  have me : ∀ {w : Tr → Int}, (∀ N, 0 ≤ w N) → ∀ {k : Nat} {z : Int} {A B C X : Tr}, str (nd k z A B C) X → w (nd k z A B C) ≤ sumW w X := fun {w} hw {k z A B C X} q => by
    have e : sumW w (nd k z A B C) = w (nd k z A B C) + ((if k = 17 then 0 else sumW w A) + (sumW w B + sumW w C)) := rfl
    have := sw_ge hw (T := A)
    have := sw_ge hw (T := B)
    have := sw_ge hw (T := C)
    have g := sw_str hw q
    rw [e] at g
    split at g <;> omega
  have a4 : kI 16 (nd 16 z A B C) ≤ sumW (kI 16) A0 := me kI_ge h1
  have e4 : kI 16 (nd 16 z A B C) = 1 := rfl
  have a5 : p17 (nd 17 z2 P E C2) ≤ sumW p17 A0 := me p17_ge h2
  have e5 : p17 (nd 17 z2 P E C2) = rpl P + 3 := rfl
  have a6 := sw_ge pxW_ge (T := A0)
  have e6 : sumW xxW A0 = ((sumW (kI 16) A0 + sumW (kI 16) A0) + sumW p17 A0) + sumW pxW A0 := by
    rw [show xxW = (fun N => (fun N => (fun N => kI 16 N + kI 16 N) N + p17 N) N + pxW N) from rfl, sw_add, sw_add, sw_add]
  rcases plc hb (Or.inl hw) with q | q
  · exact absurd q (ap_nl hw ap)
  · omega
theorem ap_1 (ap : apMn T) : 1 ≤ sumW (kI 11) T := by
  obtain ⟨x, X, Y, Z, q⟩ := ap
  have g := sw_str (kI_ge (j := 11)) q
  have e : sumW (kI 11) (nd 11 x X Y Z) = kI 11 (nd 11 x X Y Z) + (sumW (kI 11) X + (sumW (kI 11) Y + sumW (kI 11) Z)) := sw_nd (by decide)
  have e2 : kI 11 (nd 11 x X Y Z) = 1 := rfl
  have := sw_ge (kI_ge (j := 11)) (T := X)
  have := sw_ge (kI_ge (j := 11)) (T := Y)
  have := sw_ge (kI_ge (j := 11)) (T := Z)
  omega
theorem la_1 {A0 : Tr} (hb : bo A0 T) : 1 ≤ sumW (kI 12) T := by
  obtain ⟨x, y, u, q⟩ := sw_bo (kI_ge (j := 12)) hb
  have e : kI 12 (nd 12 x A0 y u) = 1 := rfl
  have := sw_ge (kI_ge (j := 12)) (T := A0)
  omega
/-- what a big branch in a function comes to: its pattern, and what is left for all else -/
theorem tk_any {σ σ' : Mem} (b : bLd σ σ' T) {m : Nat} {st st' : AS} {n g : Int} {c : Nat} (r : Run T m st n g) (h : spA st = some (.inl (st', c))) (hf : st.2.2.2 ≠ []) (hc : 17 ≤ c) : ∃ P v, wfP P ∧ pdp P ≤ 14 ∧ 17 ≤ (bnd P).length ∧ mxP P ≤ mxl v ∧ v ∈ st.2.2.1 ∧ apMn T ∧ 1 ≤ sumW (kI 11) T ∧ 1 ≤ sumW (kI 12) T ∧ 2 * sumW (kI 10) T + sumW (kI 11) T + 3 * sumW (kI 12) T + rpl P + 8 ≤ 60 := by
  obtain ⟨⟨he, hw, ⟨-, hp⟩, hl⟩, -⟩ := id b
  obtain ⟨-, J, M⟩ := fr_run hw m st n g r
  obtain ⟨w, ρ, vs, fs⟩ := st
  obtain ⟨w', ρ', vs', fs'⟩ := st'
  obtain ⟨z, A, B, C, w1, v, vs1, E, br, rfl, rfl, hb, rfl⟩ := sp_big h hc
  have ap := M hf
  cases fs with
  | nil => exact absurd rfl hf
  | cons f gs =>
    obtain ⟨⟨A0, hA, hW⟩, -⟩ := J
    have h1 : str (nd 16 z A B C) A0 := (strW_cons.mp hW).1
    obtain ⟨-, h2⟩ := br_str hb ((str_nd (by decide) h1).2.1 _ str_me)
    obtain ⟨z2, P, C2, rfl, hfit⟩ := br_fit hb
    have wA := wf_bo hA (Or.inl hw)
    have w2 : wf (nd 17 z2 P E C2) := by
      rcases wf_str h2 (Or.inl wA) with q | q
      · exact q
      · cases q
    have w2' : (z2 = (bnd P).length ∧ (bnd P).Nodup) ∧ wfP P ∧ isE E ∧ wf E ∧ (C2 = nl ∨ (isBr C2 ∧ wf C2)) := w2
    have pd : (17 = 17 → pdp P ≤ 14) ∧ _ := pd_str h2 (pd_bo hA hp)
    have hc : 17 ≤ z2.toNat := hc
    obtain ⟨-, fm⟩ := fit_sp hfit
    have pr := tk_price2 hw ap hA h1 h2
    have ce := (cen_eq hw).1 he
    exact ⟨P, v, w2'.2.1, pd.1 rfl, by omega, fm, List.mem_cons_self .., ap, ap_1 ap, la_1 hA, by omega⟩
/-- where no function that makes lists was bound, no big branch is taken in a function -/
theorem tk_none {σ σ' : Mem} (b : bLd σ σ' T) {m : Nat} {st st' : AS} {n g e : Int} {c : Nat} (r : Run T m st n g) (rz : RunZ (kI 10) T m st e) (h : spA st = some (.inl (st', c))) (hf : st.2.2.2 ≠ []) (hc : 17 ≤ c) : False := by
  obtain ⟨P, v, wP, pP, len, fm, hv, ap, a1, l1, pr⟩ := tk_any b r h hf hc
  obtain ⟨-, le⟩ := ln_run kI_ge m st e rz
  obtain ⟨a, rw1⟩ := runZ_W m st e rz
  obtain ⟨-, -, ms, -⟩ := sl_run m st e a rw1
  obtain ⟨g1, g2, g3⟩ := big_P wP pP len
  have mv := ms v hv
  have z1 := pfW_ge (w := kI 10) kI_ge (l := st.1)
  have z2' := pfF_ge (w := kI 10) kI_ge (fs := st.2.2.2)
  have z3 := vsW_ge (w := kI 10) kI_ge (vs := st.2.2.1)
  have a2 := fs_sw (kI_ge (j := 10)) (T := T)
  have c8 : (bnd P).length + mxP P + bkP P ≤ 24 := by omega
  revert g3 c8 g1 len
  generalize bkP P = q
  generalize mxP P = x
  generalize (bnd P).length = l
  intro len g1 c8 mn
  have hq : q = 1 ∨ q = 2 ∨ q = 3 ∨ q = 4 ∨ q = 5 ∨ q = 6 ∨ q = 7 := by omega
  rcases hq with rfl | rfl | rfl | rfl | rfl | rfl | rfl <;> omega
end THR
