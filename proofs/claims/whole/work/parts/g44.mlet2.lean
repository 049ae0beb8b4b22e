/-! The model's run: LET. -/
section MLT
variable {h h' h1 : mHp} {σ0 σ σ' σ1 : Mem} {d : Nat} {p z s y : Int} {A B C : Tr} {ρ : En} {cx : Cx} {fs : List (Cx × En)} {vs : List Va} {v : Va}
theorem ms_let (R : mRel σ0 h σ s (2, nd 13 z A B C, cx, ρ, v :: vs, fs)) (hb : σ 58 57 + 1 ≤ 4299) : ∃ h' σ', Rh (d + 7) yMo_execute [.ref 58] h σ (.inl none) h' σ' ∧ mOut σ0 h σ (s + 1) 1 h' σ' (0, B, (2, nd 13 z A B C) :: cx, eC z v ρ, vs, fs) := by
  obtain ⟨hl, q, e51, ps, vt⟩ := R
  have hl : vs.length + 1 ≤ 200 := hl
  have e51 : σ 58 51 = ((vs.length + 1 : Nat) : Int) := e51
  have e51 : σ 58 51 = (vs.length : Int) + 1 := by omega
  unfold psM at ps
  rw [if_neg (by decide), if_neg (by decide)] at ps
  obtain ⟨a, c, pe, cp⟩ := ps
  have pe : σ 58 64 = a + ln A := pe
  rw [if_neg (by decide), if_neg (by decide)] at vt
  obtain ⟨⟨y, ey, ry⟩, va⟩ := vt
  have ry : RMv h σ (pfM σ0) (mOf σ) v false y := ry
  have va : vaM h σ0 σ (mOf σ) vs := va
  obtain ⟨⟨pg, p124⟩, ⟨bo, -⟩, re, -⟩ := id q
  have w3 : 0 ≤ σ 58 57 ∧ σ 58 57 ≤ 4299 := bo.2.2
  have pl : 0 ≤ σ 58 58 ∧ σ 58 58 ≤ σ 58 57 := re.pl bo
  have c0 := c
  obtain ⟨⟨t, ic, -⟩, -, p0, p1⟩ := c
  have a1 := ln_ge (T := A)
  have a2 := ln_ge (T := B)
  have p1 : a + (ln A + ln B + 2) ≤ σ0 58 11 := p1
  obtain ⟨x1, x2, -⟩ := pg.row (show cell (prM σ0) (a + ln A) 10 0 z from ic.2.1)
  have f1 : (mup σ 58 64 (a + ln A + 1)) 58 51 = (vs.length : Int) + 1 := (mup_nk (by decide)).trans e51
  have f2 : (mup (mup σ 58 64 (a + ln A + 1)) 58 51 vs.length) 58 57 = σ 58 57 := by rw [mup_nk (by decide), mup_nk (by decide)]
  have f3 : (mup (mup σ 58 64 (a + ln A + 1)) 58 51 vs.length) 58 58 = σ 58 58 := by rw [mup_nk (by decide), mup_nk (by decide)]
  have W := r_worth (d := d + 3) (h := h) (σ := mup (mup σ 58 64 (a + ln A + 1)) 58 51 vs.length) (y := y) (e := σ 58 58) (n := σ 58 57) f2 ⟨w3.1, by omega⟩ (by unfold rg; omega)
  have bk : 2 ≠ 1 ∧ bk3 (nd 13 z A B C) = true := ⟨by decide, rfl⟩
  have nu : numB (nd 13 z A B C) = 1 := rfl
  refine ⟨_, _, M_Mo_execute ?_, m_bind (p := a + ln A + 1) q.s1 va (by omega) rfl hb ry c0.l ⟨a, by rw [if_pos bk, nu]; exact c0, ?_, fun _ => by rw [nu]; show 1 ≤ (nmEn ρ).length + 1; omega, ?_⟩⟩
  · unfold B_Mo_execute
    rw [pe, x1, x2, if_pos (by decide), if_pos (by decide), if_pos (by decide), if_pos (by decide), if_pos (by decide), if_pos (by decide), if_pos (by decide), if_pos (by decide), if_pos rfl]
    refine ⟨by unfold rg; omega, ⟨by omega, by omega⟩, ⟨by omega, by omega⟩, by unfold rg; omega, rgk rfl, rgk rfl, ?_⟩
    unfold B_Mo_execute_174
    rw [if_pos (by decide)]
    refine ⟨_, _, M_Mo_bindTop (rgk rfl) ?_, e_231 (by decide) (by decide)⟩
    unfold B_Mo_bindTop
    rw [f1, show (vs.length : Int) + 1 - 1 = vs.length by omega, mup_eq, Int.toNat_natCast, f3]
    refine ⟨by unfold rg; omega, by unfold rg; omega, by unfold rg; omega, ⟨by omega, by omega⟩, y, ey, by unfold rg; omega, _, _, W, ?_⟩
    rw [if_pos rfl]
    exact ⟨rfl, rfl, rfl⟩
  · show a + ln A + 1 + ln B = a + (ln A + 1 + ln B); omega
  · rw [if_pos bk, nu, if_neg (show ¬ (13 : Nat) = 17 by decide), Int.add_zero]; exact cp
end MLT
