/-! The model's run: moves that are instructions. -/
section MMOV
variable {h h' h1 : mHp} {σ0 σ σ' σ1 : Mem} {d : Nat} {G : List Int} {p z s i y : Int} {A B C T : Tr} {k : Nat} {ρ : En} {cx : Cx} {fs : List (Cx × En)} {vs : List Va} {v : Va}
theorem mup_sw {a c x : Int} : mup (mup (mup σ 58 64 a) 58 51 c) 58 64 x = mup (mup σ 58 64 x) 58 51 c := by
  funext j q
  by_cases e : j = 58
  · subst e
    by_cases e2 : q = 64
    · subst e2; rw [mup_eq, mup_nk (by decide), mup_eq]
    · rw [mup_nk e2]
      by_cases e3 : q = 51
      · subst e3; rw [mup_eq, mup_eq]
      · rw [mup_nk e3, mup_nk e2, mup_nk e3, mup_nk e2]
  · rw [mup_ne e, mup_ne e, mup_ne e, mup_ne e, mup_ne e]
/-- a function is entered -/
theorem mm_fun (R : mRel σ0 h σ s (0, nd 12 z A B C, cx, ρ, vs, fs)) (gz : rg z) : ∃ h' σ', exN d 1 h σ h' σ' ∧ mOut σ0 h σ s 0 h' σ' (1, nl, cx, ρ, vF (nd 12 z A B C) ρ :: vs, fs) := by
  obtain ⟨hl, q, e51, ps, vt⟩ := R
  unfold psM at ps
  rw [if_pos rfl] at ps
  obtain ⟨c, cp⟩ := ps
  have va : vaM h σ0 σ (mOf σ) vs := vtM_0.mp vt
  obtain ⟨⟨pg, p124⟩, ⟨bo, -⟩, re, -⟩ := id q
  have c0 := c
  obtain ⟨⟨t, ic, -⟩, -, p0, p1⟩ := c
  have a1 := ln_ge (T := A)
  have p1 : σ 58 64 + (ln A + 2) ≤ σ0 58 11 := p1
  obtain ⟨x1, x2, x3⟩ := pg.row (show cell (prM σ0) (σ 58 64) 6 (σ 58 64 + ln A + 2) z from ic.1)
  have pl : 0 ≤ σ 58 58 ∧ σ 58 58 ≤ σ 58 57 := re.pl bo
  have w3 : 0 ≤ σ 58 57 ∧ σ 58 57 ≤ 4299 := bo.2.2
  have cp : cxM σ0 (!fs.isEmpty) cx (nmEn ρ) (σ 58 64 + ln A + 2) := by rw [show σ 58 64 + ln A + 2 = σ 58 64 + (ln A + 2) by omega]; exact cp
  have e64 : (mup σ 58 64 (σ 58 64 + 1)) 58 64 = σ 58 64 + 1 := mup_eq
  have e58 : (mup σ 58 64 (σ 58 64 + 1)) 58 58 = σ 58 58 := mup_nk (by decide)
  have e5 : (mup σ 58 64 (σ 58 64 + 1)) 58 51 = vs.length := (mup_nk (by decide)).trans e51
  have gu : rg (8192 * (σ 58 64 + 1) + σ 58 58) := by unfold rg; omega
  have ns : nsM σ := ns_of pg p124 rfl ⟨p0, by omega⟩ x1 (by unfold isSt; omega) (rgk rfl)
  have ex : ∀ {h1 : mHp} {σ1 : Mem}, (Rh (d + 6) yMo_known [.ref 58, vi 6, vi (8192 * (σ 58 64 + 1) + σ 58 58)] h (mup σ 58 64 (σ 58 64 + 1)) (.inl none) h1 σ1) → exM d h σ h1 (mup σ1 58 64 (σ 58 64 + ln A + 2)) := fun {h1 σ1} K => ⟨ns, by
    refine M_Mo_execute ?_
    unfold B_Mo_execute
    rw [x1, x2, e64, e58, if_pos (by decide), if_pos (by decide), if_pos (by decide), if_pos (by decide), if_pos (by decide), if_neg (by decide)]
    refine ⟨by unfold rg; omega, ⟨p0, by omega⟩, ⟨p0, by omega⟩, by unfold rg; omega, rgk rfl, by unfold rg; omega, by unfold rg; omega, h1, σ1, K, by unfold rg; omega, ?_⟩
    unfold B_Mo_execute_231
    rw [if_pos rfl]
    exact ⟨rfl, rfl, rfl⟩⟩
  by_cases cc : vs.length = 200
  · refine ⟨_, _, (ex (r_known5 (d := d + 3) (rgk rfl) gu (by rw [e5, cc]; rfl))).one, ⟨(((frWm.m8 (by omega)).tr (frWm.m8 (by omega))).tr (frWm.m8 (by omega))).tr (frWm.m8 (by omega)), Or.inl ⟨by show 200 < vs.length + 1; omega, ?_, ?_⟩⟩⟩
    · rw [mup_nk (by decide), mup_nk (by decide), mup_eq]
    · rw [mup_nk (by decide), mup_eq]
  · have K := r_known (d := d + 3) (h := h) (k := 6) (rgk rfl) gu e5 (by omega)
    rw [Int.toNat_natCast] at K
    refine ⟨_, _, (ex K).one, ?_⟩
    rw [mup_sw]
    refine m_push q va (by omega) cp ?_
    have pf : ∀ G, nC σ0 (nd 12 z A B C) G (σ 58 64) → pfM σ0 (nd 12 z A B C) G (σ 58 64 + 1) := fun G c => ⟨by rw [show σ 58 64 + 1 - 1 = σ 58 64 by omega]; exact c, rfl⟩
    revert c0
    cases hd14 cx with
    | none => intro c0; exact ⟨σ 58 64 + 1, σ 58 58, rfl, ⟨by omega, by omega⟩, pl, pf _ c0, re⟩
    | some x => intro c0; exact ⟨_, ρ, σ 58 64 + 1, σ 58 58, rfl, rfl, ⟨by omega, by omega⟩, pl, pf _ c0, re⟩
/-- the work goes on at p -/
theorem m_at (q : mB σ0 h σ ρ fs s) (e51 : σ 58 51 = vs.length) (hl : vs.length ≤ 200) (va : vaM h σ0 σ (mOf σ) vs) (h14 : hd14 cx = none) (cp : cxM σ0 (!fs.isEmpty) cx (nmEn ρ) p) : mOut σ0 h σ s 0 h (mup σ 58 64 p) (1, nl, cx, ρ, vs, fs) := by
  refine mRel.o (frWm.m8 (by omega)) hl ⟨hl, q.pc, (mup_nk (by decide)).trans e51, ?_, ?_⟩ (mup_nk (by decide)) (mup_nk (by decide)) (mup_nk (by decide))
  · unfold psM
    rw [if_neg (by decide), if_pos rfl, mup_eq]; exact cp
  · rw [if_neg (by decide), if_pos rfl, h14]; exact vtM_0.mpr va.pc
/-- IF's last part is left -/
theorem mm_if3 (R : mRel σ0 h σ s (1, nl, (3, nd 15 z A B C) :: cx, ρ, vs, fs)) (h14 : hd14 cx = none) : ∃ h' σ', exN d 1 h σ h' σ' ∧ mOut σ0 h σ s 0 h' σ' (1, nl, cx, ρ, vs, fs) := by
  obtain ⟨hl, q, e51, ps, vt⟩ := R
  unfold psM at ps
  rw [if_neg (by decide), if_pos rfl] at ps
  obtain ⟨a, c, pe, -, cp⟩ := ps
  have nb : ¬ (3 ≠ 1 ∧ bk3 (nd 15 z A B C) = true) := fun e => by cases e.2
  rw [if_neg nb] at c cp
  rw [if_neg (show ¬ (15 : Nat) = 17 by decide), Int.add_zero] at cp
  have va : vaM h σ0 σ (mOf σ) vs := vtM_0.mp vt
  obtain ⟨⟨pg, p124⟩, -⟩ := id q
  obtain ⟨⟨t, ic, -⟩, -, p0, p1⟩ := c
  have a1 := ln_ge (T := A)
  have a2 := ln_ge (T := B)
  have a3 := ln_ge (T := C)
  have p1 : a + (ln A + ln B + ln C + 3) ≤ σ0 58 11 := p1
  have cp : cxM σ0 (!fs.isEmpty) cx (nmEn ρ) (a + (ln A + ln B + ln C + 3)) := cp
  have pe : σ 58 64 = a + (ln A + ln B + ln C + 2) := pe
  obtain ⟨x1, x2, -⟩ := pg.row (show cell (prM σ0) (a + ln A + ln B + ln C + 2) 18 0 (a + ln A + ln B + 1) from ic.2.2.2.2.2)
  rw [show a + ln A + ln B + ln C + 2 = a + (ln A + ln B + ln C + 2) by omega] at x1 x2
  refine ⟨h, mup σ 58 64 (a + (ln A + ln B + ln C + 2) + 1), exM.one ⟨ns_of pg p124 pe ⟨by omega, by omega⟩ x1 (by unfold isSt; omega) (rgk rfl), x_nop pe ⟨by omega, by omega⟩ x1 x2 (rgk rfl) (by omega)⟩, ?_⟩
  exact m_at q e51 hl va h14 (by rw [show a + (ln A + ln B + ln C + 2) + 1 = a + (ln A + ln B + ln C + 3) by omega]; exact cp)
/-- IF's second part is left -/
theorem mm_if2 (R : mRel σ0 h σ s (1, nl, (2, nd 15 z A B C) :: cx, ρ, vs, fs)) (h14 : hd14 cx = none) : ∃ h' σ', exN d 2 h σ h' σ' ∧ mOut σ0 h σ s 0 h' σ' (1, nl, cx, ρ, vs, fs) := by
  obtain ⟨hl, q, e51, ps, vt⟩ := R
  unfold psM at ps
  rw [if_neg (by decide), if_pos rfl] at ps
  obtain ⟨a, c, pe, -, cp⟩ := ps
  have nb : ¬ (2 ≠ 1 ∧ bk3 (nd 15 z A B C) = true) := fun e => by cases e.2
  rw [if_neg nb] at c cp
  rw [if_neg (show ¬ (15 : Nat) = 17 by decide), Int.add_zero] at cp
  have va : vaM h σ0 σ (mOf σ) vs := vtM_0.mp vt
  obtain ⟨⟨pg, p124⟩, -⟩ := id q
  obtain ⟨⟨t, ic, -⟩, -, p0, p1⟩ := c
  have a1 := ln_ge (T := A)
  have a2 := ln_ge (T := B)
  have a3 := ln_ge (T := C)
  have p1 : a + (ln A + ln B + ln C + 3) ≤ σ0 58 11 := p1
  have cp : cxM σ0 (!fs.isEmpty) cx (nmEn ρ) (a + (ln A + ln B + ln C + 3)) := cp
  have pe : σ 58 64 = a + (ln A + 1 + ln B) := pe
  obtain ⟨x1, x2, -⟩ := pg.row (show cell (prM σ0) (a + ln A + ln B + ln C + 2) 18 0 (a + ln A + ln B + 1) from ic.2.2.2.2.2)
  obtain ⟨y1, y2, -⟩ := pg.row (show cell (prM σ0) (a + ln A + ln B + 1) 14 (a + ln A + ln B + ln C + 2) (a + ln A) from ic.2.2.2.1)
  have pe : σ 58 64 = a + ln A + ln B + 1 := by omega
  generalize hb : a + ln A + ln B + ln C + 2 = b at x1 x2 y2
  have gb : rg b := by unfold rg; omega
  have X1 : exM d h σ h (mup σ 58 64 b) := ⟨ns_of pg p124 pe ⟨by omega, by omega⟩ y1 (by unfold isSt; omega) (rgk rfl), by
    have := x_jmp (d := d) (h := h) pe ⟨by omega, by omega⟩ y1 y2 gb
    rw [mup_2] at this; exact this⟩
  have z1 : (mup σ 58 64 b) 63 b = 18 := by rw [mup_ne (by decide)]; exact x1
  have z2 : (mup σ 58 64 b) 64 b = 0 := by rw [mup_ne (by decide)]; exact x2
  have pg2 : pgM σ0 (mup σ 58 64 b) := pg.tr (frWm.pg (frWm.m8 (h := h) (by omega)))
  have X2 : exM d h (mup σ 58 64 b) h (mup σ 58 64 (b + 1)) := ⟨ns_of pg2 p124 mup_eq ⟨by omega, by omega⟩ z1 (by unfold isSt; omega) (rgk rfl), by
    have := x_nop (d := d) (h := h) (σ := mup σ 58 64 b) mup_eq ⟨by omega, by omega⟩ z1 z2 (rgk rfl) (Or.inl rfl)
    rw [mup_2] at this; exact this⟩
  exact ⟨h, mup σ 58 64 (b + 1), X1.two (mup_nk (by decide)) X2, m_at q e51 hl va h14 (by rw [show b + 1 = a + (ln A + ln B + ln C + 3) by omega]; exact cp)⟩
end MMOV
