/-! What a big branch that is taken in a function costs, where nothing that makes lists was bound. -/
section TKE
variable {S T A B C : Tr} {k : Nat} {z : Int}
theorem wf_ch (h : wf (nd k z A B C)) : (k ≠ 17 → wf A ∨ A = nl) ∧ (wf B ∨ B = nl) ∧ (wf C ∨ C = nl) := by
  unfold nd wf at h
  split at h <;> first
    | exact h.elim
    | exact ⟨fun _ => Or.inr h.2.1, Or.inr h.2.2.1, Or.inr h.2.2.2⟩
    | exact ⟨fun _ => Or.inl h.2.2.1, Or.inr h.2.2.2.1, Or.inr h.2.2.2.2⟩
    | exact ⟨fun _ => Or.inl h.2.2.1, Or.inl h.2.2.2.2.1, Or.inr h.2.2.2.2.2⟩
    | exact ⟨fun _ => Or.inl h.2.2.1, Or.inl h.2.2.2.2.1, Or.inl h.2.2.2.2.2.2⟩
    | exact ⟨fun q => absurd rfl q, Or.inl h.2.2.2.1, h.2.2.2.2.elim Or.inr (fun x => Or.inl x.2)⟩
theorem wf_str : ∀ {T : Tr}, str S T → wf T ∨ T = nl → wf S ∨ S = nl := by
  intro T
  fun_induction str S T with
  | case1 k z A B C i1 i2 i3 =>
    intro h w
    rcases h with e | ⟨hk, h⟩
    · rw [e]; exact w
    · rcases w with w | w
      · obtain ⟨a, b, c⟩ := wf_ch (k := k) (z := z) (A := A) (B := B) (C := C) w
        rcases h with ⟨q, h⟩ | h | h
        · exact i1 h (a q)
        · exact i2 h b
        · exact i3 h c
      · cases w
  | case2 t hx => intro h w; rw [h]; exact w
theorem wf_bo : ∀ {T : Tr}, bo S T → wf T ∨ T = nl → wf S := by
  intro T
  fun_induction bo S T with
  | case1 k z A B C i1 i2 i3 =>
    intro h w
    rcases w with w | w
    · obtain ⟨a, b, c⟩ := wf_ch (k := k) (z := z) (A := A) (B := B) (C := C) w
      rcases h with ⟨hk, e⟩ | ⟨q, h⟩ | h | h
      · subst hk
        have w : ltZ z ∧ isE A ∧ wf A ∧ B = nl ∧ C = nl := w
        rw [e]; exact w.2.2.1
      · exact i1 h (a q)
      · exact i2 h b
      · exact i3 h c
    · cases w
  | case2 => intro h; exact h.elim
theorem pd_str : ∀ {T : Tr}, str S T → pdT T → pdT S := by
  intro T
  fun_induction str S T with
  | case1 k z A B C i1 i2 i3 =>
    intro h w
    rcases h with e | ⟨hk, h⟩
    · rw [e]; exact w
    · have w : (k = 17 → pdp A ≤ 14) ∧ pdT A ∧ pdT B ∧ pdT C := w
      rcases h with ⟨q, h⟩ | h | h
      · exact i1 h w.2.1
      · exact i2 h w.2.2.1
      · exact i3 h w.2.2.2
  | case2 t hx => intro h w; rw [h]; exact w
theorem pd_bo : ∀ {T : Tr}, bo S T → pdT T → pdT S := by
  intro T
  fun_induction bo S T with
  | case1 k z A B C i1 i2 i3 =>
    intro h w
    have w : (k = 17 → pdp A ≤ 14) ∧ pdT A ∧ pdT B ∧ pdT C := w
    rcases h with ⟨hk, e⟩ | ⟨q, h⟩ | h | h
    · rw [e]; exact w.2.1
    · exact i1 h w.2.1
    · exact i2 h w.2.2.1
    · exact i3 h w.2.2.2
  | case2 => intro h; exact h.elim
theorem br_fit : ∀ {B : Tr} {v : Va} {ρ : En} {E br : Tr} {ρ' : En}, brF B v ρ = some (E, br, ρ') → ∃ z P C, br = nd 17 z P E C ∧ fitE P v ρ = some ρ' := by
  intro B v ρ
  fun_induction brF B v ρ with
  | case1 z P E C v ρ ρ1 h =>
    intro E' br ρ' e
    cases e
    exact ⟨z, P, C, rfl, h⟩
  | case2 z P E C v ρ h ih => intro E' br ρ' e; exact ih e
  | case3 => intro E' br ρ' e; cases e
/-- what is taken: a branch of a choice that is due -/
theorem sp_big {w w' : Wl} {ρ ρ' : En} {vs vs' : List Va} {fs fs' : List (Wl × En)} {b : Nat} (h : spA (w, ρ, vs, fs) = some (.inl ((w', ρ', vs', fs'), b))) (hb : 17 ≤ b) : ∃ z A B C w1 v vs1 E br, w = (1, nd 16 z A B C) :: w1 ∧ vs = v :: vs1 ∧ brF B v ρ = some (E, br, ρ') ∧ b = numB br := by
  unfold spA at h
  split at h
  · next k z A B C w1 ρ1 vs1 fs1 e0 =>
    cases e0
    split at h
    · cases h; omega
    · split at h
      · cases h; omega
      · cases h
    · cases h; omega
    · split at h
      · cases h; omega
      · cases h; omega
      · cases h; omega
      · cases h
    · cases h; omega
    · split at h
      · cases h; omega
      · cases h
    · cases h; omega
    · next v vs2 =>
      split at h
      · next E br ρ2 he =>
        cases h
        exact ⟨z, A, B, C, w1, v, _, E, br, rfl, rfl, he, rfl⟩
      · cases h
    · cases h
  · cases h
theorem own_5 : 2 * sumW (kI 10) T + sumW (kI 11) T + 3 * sumW (kI 12) T + 2 * sumW (kI 16) T + sumW p17 T ≤ sumW ownP T := by
  have h := own_ge (T := T)
  have e : (fun N => 2 * kI 10 N + kI 11 N + 3 * kI 12 N + 2 * kI 16 N + p17 N) = (fun N => (fun N => (fun N => (fun N => kI 10 N + kI 10 N) N + kI 11 N) N + (fun N => (fun N => kI 12 N + kI 12 N) N + kI 12 N) N) N + (fun N => (fun N => kI 16 N + kI 16 N) N + p17 N) N) := by
    funext N
    show 2 * kI 10 N + kI 11 N + 3 * kI 12 N + 2 * kI 16 N + p17 N = (((kI 10 N + kI 10 N) + kI 11 N) + ((kI 12 N + kI 12 N) + kI 12 N)) + ((kI 16 N + kI 16 N) + p17 N)
    omega
  rw [e, sw_add, sw_add, sw_add, sw_add, sw_add, sw_add, sw_add, sw_add] at h
  omega
/-- the function, its choice, its branch, and an application cost so much; what is left goes into CONS -/
theorem tk_price {z2 : Int} {P E C2 A0 : Tr} (ap : apMn T) (hb : bo A0 T) (h1 : str (nd 16 z A B C) A0) (h2 : str (nd 17 z2 P E C2) A0) : 2 * fsW (kI 10) T + rpl P + 9 ≤ sumW ownP T := by
  have h := own_5 (T := T)
  have a1 := fs_sw (kI_ge (j := 10)) (T := T)
  have me : ∀ {w : Tr → Int}, (∀ N, 0 ≤ w N) → ∀ {k : Nat} {z : Int} {A B C X : Tr}, str (nd k z A B C) X → w (nd k z A B C) ≤ sumW w X := fun {w} hw {k z A B C X} q => by
    have e : sumW w (nd k z A B C) = w (nd k z A B C) + ((if k = 17 then 0 else sumW w A) + (sumW w B + sumW w C)) := rfl
    have := sw_str hw q
    have := sw_ge hw (T := A)
    have := sw_ge hw (T := B)
    have := sw_ge hw (T := C)
    have g := sw_str hw q
    rw [e] at g
    split at g <;> omega
  have bb : ∀ {w : Tr → Int}, (∀ N, 0 ≤ w N) → sumW w A0 ≤ sumW w T := fun {w} hw => by
    obtain ⟨x, y, u, q⟩ := sw_bo hw hb
    have := hw (nd 12 x A0 y u)
    omega
  obtain ⟨x, X, Y, Z, q⟩ := ap
  have a2 : kI 11 (nd 11 x X Y Z) ≤ sumW (kI 11) T := me kI_ge q
  have e2 : kI 11 (nd 11 x X Y Z) = 1 := rfl
  have a3 : 1 ≤ sumW (kI 12) T := by
    obtain ⟨x, y, u, q⟩ := sw_bo (kI_ge (j := 12)) hb
    have e : kI 12 (nd 12 x A0 y u) = 1 := rfl
    have := sw_ge (kI_ge (j := 12)) (T := A0)
    omega
  have a4 : kI 16 (nd 16 z A B C) ≤ sumW (kI 16) A0 := me kI_ge h1
  have e4 : kI 16 (nd 16 z A B C) = 1 := rfl
  have b4 := bb (kI_ge (j := 16))
  have a5 : p17 (nd 17 z2 P E C2) ≤ sumW p17 A0 := me p17_ge h2
  have e5 : p17 (nd 17 z2 P E C2) = rpl P + 3 := rfl
  have b5 := bb p17_ge
  omega
/-- where no function that makes lists was bound: a big branch that is taken in a function has two to five brackets -/
theorem tk_zero {σ σ' : Mem} (b : bLd σ σ' T) {m : Nat} {st st' : AS} {n g e : Int} {c : Nat} (r : Run T m st n g) (rz : RunZ (kI 10) T m st e) (h : spA st = some (.inl (st', c))) (hf : st.2.2.2 ≠ []) (hc : 17 ≤ c) : ∃ P, wfP P ∧ 17 ≤ (bnd P).length ∧ (2 ≤ bkP P ∧ bkP P ≤ 5) ∧ (mxP P : Int) ≤ e ∧ e ≤ fsW (kI 10) T ∧ 2 * fsW (kI 10) T + rpl P + 10 ≤ rwl T := by
  obtain ⟨⟨he, hw, ⟨-, hp⟩, hl⟩, -⟩ := id b
  obtain ⟨-, J, M⟩ := fr_run hw m st n g r
  obtain ⟨-, le⟩ := ln_run kI_ge m st e rz
  obtain ⟨a, rw1⟩ := runZ_W m st e rz
  obtain ⟨-, -, ms, -⟩ := sl_run m st e a rw1
  obtain ⟨w, ρ, vs, fs⟩ := st
  obtain ⟨w', ρ', vs', fs'⟩ := st'
  obtain ⟨z, A, B, C, w1, v, vs1, E, br, rfl, rfl, hb, rfl⟩ := sp_big h hc
  have ap := M hf
  cases fs with
  | nil => exact absurd rfl hf
  | cons f gs =>
    obtain ⟨⟨A0, hA, hW⟩, -⟩ := J
    have h1 : str (nd 16 z A B C) A0 := (strW_cons.mp hW).1
    obtain ⟨-, h2⟩ := br_str hb ((str_nd (by decide) h1).2.1 _ str_me)
    obtain ⟨z2, P, C2, rfl, hfit⟩ := br_fit hb
    have wA := wf_bo hA (Or.inl hw)
    have w2 : wf (nd 17 z2 P E C2) := by
      rcases wf_str h2 (Or.inl wA) with q | q
      · exact q
      · cases q
    have w2' : (z2 = (bnd P).length ∧ (bnd P).Nodup) ∧ wfP P ∧ isE E ∧ wf E ∧ (C2 = nl ∨ (isBr C2 ∧ wf C2)) := w2
    have pd : (17 = 17 → pdp P ≤ 14) ∧ _ := pd_str h2 (pd_bo hA hp)
    have hc : 17 ≤ z2.toNat := hc
    have len : 17 ≤ (bnd P).length := by omega
    obtain ⟨g1, g2, g3⟩ := big_P w2'.2.1 (pd.1 rfl) len
    obtain ⟨-, fm⟩ := fit_sp hfit
    have mv : (mxl v : Int) ≤ e := ms v (List.mem_cons_self ..)
    have pr := tk_price ap hA h1 h2
    have ce := (cen_eq hw).1 he
    have z1 := pfW_ge (w := kI 10) kI_ge (l := (1, nd 16 z A B C) :: w1)
    have z2' := pfF_ge (w := kI 10) kI_ge (fs := f :: gs)
    have z3 := vsW_ge (w := kI 10) kI_ge (vs := v :: vs1)
    have le : e + (pfW (kI 10) ((1, nd 16 z A B C) :: w1) + pfF (kI 10) (f :: gs) + vsW (kI 10) (v :: vs1)) ≤ fsW (kI 10) T := le
    refine ⟨P, w2'.2.1, len, ?_, by omega, by omega, by omega⟩
    -- so few brackets: the lists must be short
    have c8 : mxP P + bkP P ≤ 8 := by omega
    have mn : 17 + bkP P ≤ bkP P * mxP P + (mxP P + 1) := by omega
    revert mn c8 g1
    generalize bkP P = q
    generalize mxP P = x
    intro g1 c8 mn
    have hq : q = 1 ∨ (2 ≤ q ∧ q ≤ 5) ∨ q = 6 ∨ q = 7 ∨ q = 8 := by omega
    rcases hq with rfl | hq | rfl | rfl | rfl
    · omega
    · exact hq
    · omega
    · omega
    · omega
end TKE
