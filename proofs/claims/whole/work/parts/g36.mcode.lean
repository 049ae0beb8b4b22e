/-! The model's code: its parts; moves that are no instruction. -/
section MCODE
variable {h h' h1 : mHp} {σ0 σ σ' σ1 : Mem} {d : Nat} {G : List Int} {p z s : Int} {A B C T : Tr} {k : Nat} {ρ : En} {cx : Cx} {fs : List (Cx × En)} {vs : List Va} {v : Va}
theorem nC.a (c : nC σ0 (nd k z A B C) G p) (hk : k = 8 ∨ k = 9 ∨ k = 10 ∨ k = 11 ∨ k = 13 ∨ k = 15 ∨ k = 16) : nC σ0 A G p := by
  obtain ⟨⟨t, ic, t0, t1⟩, iN, p0, p1⟩ := c
  have a1 := ln_ge (T := A)
  have a2 := ln_ge (T := B)
  have a3 := ln_ge (T := C)
  have b1 := sn_ge (T := A)
  have b2 := sn_ge (T := B)
  have b3 := sn_ge (T := C)
  rcases hk with rfl | rfl | rfl | rfl | rfl | rfl | rfl
  · have t1 : t + (sn A + sn B + sn C) ≤ 80 := t1
    have p1 : p + (ln A + 1) ≤ σ0 58 11 := p1
    exact ⟨⟨t, ic.1, t0, by omega⟩, iN, p0, by omega⟩
  · have t1 : t + (sn A + sn B + sn C) ≤ 80 := t1
    have p1 : p + (ln A + ln B + 1) ≤ σ0 58 11 := p1
    exact ⟨⟨t, ic.1, t0, by omega⟩, iN.1, p0, by omega⟩
  · have t1 : t + (sn A + sn B + sn C) ≤ 80 := t1
    have p1 : p + (ln A + ln B + 1) ≤ σ0 58 11 := p1
    exact ⟨⟨t, ic.1, t0, by omega⟩, iN.1, p0, by omega⟩
  · have t1 : t + (sn A + sn B + sn C) ≤ 80 := t1
    have p1 : p + (ln A + ln B + 1) ≤ σ0 58 11 := p1
    exact ⟨⟨t, ic.1, t0, by omega⟩, iN.1, p0, by omega⟩
  · have t1 : t + (sn A + sn B + sn C) ≤ 80 := t1
    have p1 : p + (ln A + ln B + 2) ≤ σ0 58 11 := p1
    exact ⟨⟨t, ic.1, t0, by omega⟩, iN.1, p0, by omega⟩
  · have t1 : t + (sn A + sn B + sn C) ≤ 80 := t1
    have p1 : p + (ln A + ln B + ln C + 3) ≤ σ0 58 11 := p1
    exact ⟨⟨t, ic.1, t0, by omega⟩, iN.1, p0, by omega⟩
  · have t1 : t + (sn A + sn B + sn C) ≤ 80 := t1
    have p1 : p + (ln A + ln B + 2) ≤ σ0 58 11 := p1
    exact ⟨⟨t, ic.1, t0, by omega⟩, iN.1, p0, by omega⟩
theorem nC.b3 (c : nC σ0 (nd k z A B C) G p) (hk : k = 9 ∨ k = 10 ∨ k = 11) : nC σ0 B G (p + ln A) := by
  obtain ⟨⟨t, ic, t0, t1⟩, iN, p0, p1⟩ := c
  have a1 := ln_ge (T := A)
  have b1 := sn_ge (T := A)
  have b3 := sn_ge (T := C)
  rcases hk with rfl | rfl | rfl
  · have t1 : t + (sn A + sn B + sn C) ≤ 80 := t1
    have p1 : p + (ln A + ln B + 1) ≤ σ0 58 11 := p1
    exact ⟨⟨t + sn A, ic.2.1, by omega, by omega⟩, iN.2, by omega, by omega⟩
  · have t1 : t + (sn A + sn B + sn C) ≤ 80 := t1
    have p1 : p + (ln A + ln B + 1) ≤ σ0 58 11 := p1
    exact ⟨⟨t + sn A, ic.2.1, by omega, by omega⟩, iN.2, by omega, by omega⟩
  · have t1 : t + (sn A + sn B + sn C) ≤ 80 := t1
    have p1 : p + (ln A + ln B + 1) ≤ σ0 58 11 := p1
    exact ⟨⟨t + sn A, ic.2.1, by omega, by omega⟩, iN.2, by omega, by omega⟩
theorem nC.f (c : nC σ0 (nd 12 z A B C) G p) : nC σ0 A (z :: G) (p + 1) := by
  obtain ⟨⟨t, ic, t0, t1⟩, iN, p0, p1⟩ := c
  have b2 := sn_ge (T := B)
  have b3 := sn_ge (T := C)
  have t1 : t + (sn A + sn B + sn C) ≤ 80 := t1
  have p1 : p + (ln A + 2) ≤ σ0 58 11 := p1
  exact ⟨⟨t, ic.2.1, t0, by omega⟩, iN, by omega, by omega⟩
theorem nC.l (c : nC σ0 (nd 13 z A B C) G p) : nC σ0 B (z :: G) (p + ln A + 1) := by
  obtain ⟨⟨t, ic, t0, t1⟩, iN, p0, p1⟩ := c
  have a1 := ln_ge (T := A)
  have b1 := sn_ge (T := A)
  have b3 := sn_ge (T := C)
  have t1 : t + (sn A + sn B + sn C) ≤ 80 := t1
  have p1 : p + (ln A + ln B + 2) ≤ σ0 58 11 := p1
  exact ⟨⟨t + sn A, ic.2.2.1, by omega, by omega⟩, iN.2, by omega, by omega⟩
theorem nC.r (c : nC σ0 (nd 14 z A B C) G p) : nC σ0 A (z :: G) (p + 1) ∧ nC σ0 B (z :: G) (p + ln A + 2) := by
  obtain ⟨⟨t, ic, t0, t1⟩, iN, p0, p1⟩ := c
  have a1 := ln_ge (T := A)
  have a2 := ln_ge (T := B)
  have b1 := sn_ge (T := A)
  have b2 := sn_ge (T := B)
  have b3 := sn_ge (T := C)
  have t1 : t + (sn A + sn B + sn C) ≤ 80 := t1
  have p1 : p + (ln A + ln B + 3) ≤ σ0 58 11 := p1
  exact ⟨⟨⟨t, ic.2.1, t0, by omega⟩, iN.1, by omega, by omega⟩, ⟨t + sn A, ic.2.2.2.1, by omega, by omega⟩, iN.2, by omega, by omega⟩
theorem nC.i (c : nC σ0 (nd 15 z A B C) G p) : nC σ0 B G (p + ln A + 1) ∧ nC σ0 C G (p + ln A + ln B + 2) := by
  obtain ⟨⟨t, ic, t0, t1⟩, iN, p0, p1⟩ := c
  have a1 := ln_ge (T := A)
  have a2 := ln_ge (T := B)
  have a3 := ln_ge (T := C)
  have b1 := sn_ge (T := A)
  have b2 := sn_ge (T := B)
  have b3 := sn_ge (T := C)
  have t1 : t + (sn A + sn B + sn C) ≤ 80 := t1
  have p1 : p + (ln A + ln B + ln C + 3) ≤ σ0 58 11 := p1
  exact ⟨⟨⟨t + sn A, ic.2.2.1, by omega, by omega⟩, iN.2.1, by omega, by omega⟩, ⟨t + sn A + sn B, ic.2.2.2.2.1, by omega, by omega⟩, iN.2.2, by omega, by omega⟩
theorem nC.c (c : nC σ0 (nd 16 z A B C) G p) : nC σ0 B G (p + ln A + 1) := by
  obtain ⟨⟨t, ic, t0, t1⟩, iN, p0, p1⟩ := c
  have a1 := ln_ge (T := A)
  have b1 := sn_ge (T := A)
  have b3 := sn_ge (T := C)
  have t1 : t + (sn A + sn B + sn C) ≤ 80 := t1
  have p1 : p + (ln A + ln B + 2) ≤ σ0 58 11 := p1
  exact ⟨⟨t + sn A, ic.2.2.1, by omega, by omega⟩, iN.2, by omega, by omega⟩
theorem nC.w (c : nC σ0 (nd 17 z A B C) G p) : nC σ0 B ((bnd A).reverse ++ G) (p + 1) ∧ nC σ0 C G (p + ln B + 3) := by
  obtain ⟨⟨t, ic, t0, t1⟩, iN, p0, p1⟩ := c
  have a2 := ln_ge (T := B)
  have a3 := ln_ge (T := C)
  have b1 := pn_ge (T := A)
  have b2 := sn_ge (T := B)
  have b3 := sn_ge (T := C)
  have t1 : t + (pn A + sn B + sn C) ≤ 80 := t1
  have p1 : p + (ln B + ln C + 3) ≤ σ0 58 11 := p1
  exact ⟨⟨⟨t + pn A, ic.2.2.2.1, by omega, by omega⟩, iN.1, by omega, by omega⟩, ⟨t + pn A + sn B, ic.2.2.2.2.2.2, by omega, by omega⟩, iN.2, by omega, by omega⟩
/-- a first part is entered: no instruction -/
theorem mz_in (R : mRel σ0 h σ s (0, nd k z A B C, cx, ρ, vs, fs)) (h14 : hd14 cx = none) (hk : k = 8 ∨ k = 9 ∨ k = 10 ∨ k = 11 ∨ k = 13 ∨ k = 15 ∨ k = 16) : mRel σ0 h σ s (0, A, (1, nd k z A B C) :: cx, ρ, vs, fs) := by
  obtain ⟨hl, q, e51, ps, vt⟩ := R
  unfold psM at ps
  rw [if_pos rfl, h14] at ps
  obtain ⟨c, cp⟩ := ps
  refine ⟨hl, q, e51, ?_, vtM_0.mpr (vtM_0.mp vt)⟩
  unfold psM
  rw [if_pos rfl]
  have e : hd14 ((1, nd k z A B C) :: cx) = none := by
    show (if 1 = 1 then (if k = 14 then some z else none) else none) = none
    rw [if_pos rfl, if_neg (by omega)]
  rw [e]
  refine ⟨c.a hk, σ 58 64, ?_, ?_, fun e => absurd rfl e.1, ?_⟩
  · rw [if_neg (fun e => e.1 rfl)]; exact c
  · unfold ofM; rw [if_pos rfl, if_neg (by omega)]
  · rw [if_neg (fun e => e.1 rfl), if_neg (show ¬ k = 17 by omega), Int.add_zero]; exact cp
/-- after a first part the second -/
theorem mz_bin (R : mRel σ0 h σ s (1, nl, (1, nd k z A B C) :: cx, ρ, vs, fs)) (hk : k = 9 ∨ k = 10 ∨ k = 11) : mRel σ0 h σ s (0, B, (2, nd k z A B C) :: cx, ρ, vs, fs) := by
  obtain ⟨hl, q, e51, ps, vt⟩ := R
  unfold psM at ps
  rw [if_neg (by decide), if_pos rfl] at ps
  obtain ⟨a, c, pe, -, cp⟩ := ps
  rw [if_neg (fun e => e.1 rfl)] at c cp
  have e : hd14 ((1, nd k z A B C) :: cx) = none := by
    show (if 1 = 1 then (if k = 14 then some z else none) else none) = none
    rw [if_pos rfl, if_neg (by omega)]
  rw [if_neg (by decide), if_pos rfl, e] at vt
  refine ⟨hl, q, e51, ?_, vtM_0.mpr (vtM_0.mp vt)⟩
  unfold ofM at pe
  rw [if_pos rfl, if_neg (by omega)] at pe
  unfold psM
  rw [if_pos rfl]
  have nb : ¬ (2 ≠ 1 ∧ bk3 (nd k z A B C) = true) := fun e => by have := of_decide_eq_true e.2; omega
  refine ⟨by rw [pe]; exact c.b3 hk, a, by rw [if_neg nb]; exact c, ?_, fun e => absurd e nb, by rw [if_neg nb]; exact cp⟩
  rw [pe]
  unfold ofM
  rw [if_neg (by decide), if_neg (by decide), if_neg (by omega), if_neg (by omega), if_neg (by omega)]
  omega
/-- after the last part a step is due -/
theorem mz_due {j : Nat} (R : mRel σ0 h σ s (1, nl, (j, nd k z A B C) :: cx, ρ, vs, fs)) (h14 : hd14 cx = none) (hk : (j = 1 ∧ (k = 8 ∨ k = 13 ∨ k = 14 ∨ k = 15 ∨ k = 16)) ∨ (j = 2 ∧ (k = 9 ∨ k = 10 ∨ k = 11))) : mRel σ0 h σ s (2, nd k z A B C, cx, ρ, vs, fs) := by
  obtain ⟨hl, q, e51, ps, vt⟩ := R
  unfold psM at ps
  rw [if_neg (by decide), if_pos rfl] at ps
  obtain ⟨a, c, pe, -, cp⟩ := ps
  have nb : ¬ (j ≠ 1 ∧ bk3 (nd k z A B C) = true) := fun e => by have := of_decide_eq_true e.2; omega
  rw [if_neg nb] at c cp
  rw [if_neg (show ¬ k = 17 by omega), Int.add_zero] at cp
  rw [if_neg (by decide), if_pos rfl] at vt
  have e : hd14 ((j, nd k z A B C) :: cx) = k14 (nd k z A B C) := by
    show (if j = 1 then (if k = 14 then some z else none) else none) = (if k = 14 then some z else none)
    rcases hk with ⟨rfl, -⟩ | ⟨rfl, hk⟩
    · rw [if_pos rfl]
    · rw [if_neg (by decide), if_neg (by omega)]
  rw [e] at vt
  refine ⟨hl, q, e51, ?_, vt⟩
  unfold psM
  rw [if_neg (by decide), if_neg (by decide)]
  refine ⟨a, c, ?_, cp⟩
  rw [pe]
  unfold ofM stM
  rcases hk with ⟨rfl, hk⟩ | ⟨rfl, hk⟩
  · rw [if_pos rfl, if_neg (show ¬ (k = 9 ∨ k = 10 ∨ k = 11) by omega)]
  · rw [if_neg (by decide), if_neg (by decide), if_neg (by omega), if_neg (by omega), if_neg (by omega), if_pos hk]
end MCODE
