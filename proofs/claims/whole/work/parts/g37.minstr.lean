/-! The model's run: instructions that are no step. -/
def isSt (i : Int) : Prop := i = 8 ∨ i = 9 ∨ i = 10 ∨ i = 11 ∨ i = 13 ∨ i = 15
/-- an instruction is next, and no step -/
def nsM (σ : Mem) : Prop := (0 ≤ σ 58 64 ∧ σ 58 64 < σ 58 11) ∧ σ 58 11 ≤ 124 ∧ ¬ isSt (σ 63 (σ 58 64)) ∧ rg (σ 63 (σ 58 64))
def exM (d : Nat) (h : mHp) (σ : Mem) (h' : mHp) (σ' : Mem) : Prop := nsM σ ∧ Rh (d + 7) yMo_execute [.ref 58] h σ (.inl none) h' σ'
/-- n instructions, none a step -/
def exN (d : Nat) : Nat → mHp → Mem → mHp → Mem → Prop
  | 0, h, σ, h', σ' => h' = h ∧ σ' = σ
  | n + 1, h, σ, h', σ' => ∃ h1 σ1, exM d h σ h1 σ1 ∧ (n = 0 ∨ σ1 58 65 = σ 58 65) ∧ exN d n h1 σ1 h' σ'
section MINS
variable {h h' h1 : mHp} {σ0 σ σ' σ1 : Mem} {d : Nat} {G : List Int} {p z s i y : Int} {A B C T : Tr} {k : Nat} {ρ : En} {cx : Cx} {fs : List (Cx × En)} {vs : List Va} {v : Va}
theorem exM.one (e : exM d h σ h' σ') : exN d 1 h σ h' σ' := ⟨h', σ', e, Or.inl rfl, rfl, rfl⟩
theorem exM.two (e : exM d h σ h1 σ1) (q : σ1 58 65 = σ 58 65) (f : exM d h1 σ1 h' σ') : exN d 2 h σ h' σ' := ⟨h1, σ1, e, Or.inr q, f.one⟩
theorem e_flow {x1 x2 x3 : Int} (g1 : rg x1) (g2 : rg x2) (h3 : x3 = 14 ∨ x3 = 18 ∨ x3 = 19) : Rh (d + 6) yMo_flow [.ref 58, vi x1, vi x2, vi x3] h σ (.inl none) h σ := M_Mo_flow g1 g2 (by unfold rg; omega) (by
  unfold B_Mo_flow
  rw [if_pos (by omega), if_pos (by omega), if_pos (by omega)]
  exact ⟨rfl, rfl, rfl⟩)
/-- nothing -/
theorem x_nop (e : σ 58 64 = p) (rp : 0 ≤ p ∧ p < 124) (c1 : σ 63 p = i) (c2 : σ 64 p = y) (gy : rg y) (hi : i = 18 ∨ i = 19) : Rh (d + 7) yMo_execute [.ref 58] h σ (.inl none) h (mup σ 58 64 (p + 1)) := by
  refine M_Mo_execute ?_
  unfold B_Mo_execute
  rw [e, c1, c2, if_pos (by omega), if_pos (by omega), if_pos (by omega), if_pos (by omega), if_pos (by omega), if_pos (by omega), if_pos (by omega), if_pos (by omega), if_neg (by omega), if_pos (by omega), if_pos (by omega), if_pos (by omega)]
  exact ⟨by unfold rg; omega, rp, rp, by unfold rg; omega, by unfold rg; omega, _, _, e_flow (by unfold rg; omega) gy (by omega), gy, e_231 (by omega) (by omega)⟩
/-- a jump -/
theorem x_jmp (e : σ 58 64 = p) (rp : 0 ≤ p ∧ p < 124) (c1 : σ 63 p = 14) (c2 : σ 64 p = y) (gy : rg y) : Rh (d + 7) yMo_execute [.ref 58] h σ (.inl none) h (mup (mup σ 58 64 (p + 1)) 58 64 y) := by
  refine M_Mo_execute ?_
  unfold B_Mo_execute
  rw [e, c1, c2, if_pos (by decide), if_pos (by decide), if_pos (by decide), if_pos (by decide), if_pos (by decide), if_pos (by decide), if_pos (by decide), if_pos (by decide), if_neg (by decide), if_pos (by decide), if_pos (by decide), if_pos (by decide)]
  refine ⟨by unfold rg; omega, rp, rp, by unfold rg; omega, by unfold rg; omega, _, _, e_flow (by unfold rg; omega) gy (by omega), gy, ?_⟩
  unfold B_Mo_execute_231
  rw [if_neg (by decide), if_neg (by decide)]
  exact ⟨rfl, rfl, rfl⟩
theorem mup_2 {j : Nat} {k a b : Int} : mup (mup σ j k a) j k b = mup σ j k b := by
  funext x q
  by_cases e : x = j
  · subst e
    by_cases e2 : q = k
    · subst e2; rw [mup_eq, mup_eq]
    · rw [mup_nk e2, mup_nk e2, mup_nk e2]
  · rw [mup_ne e, mup_ne e, mup_ne e]
/-- only the place in the code changes -/
theorem sm_pc {m : MBd} : smM m h h σ (mup σ 58 64 p) := ⟨fun _ _ _ => ⟨rfl, rfl⟩, fun _ _ _ => rfl, fun _ _ _ => ⟨rfl, mup_ne (by decide)⟩⟩
theorem mOf_pc : mOf (mup σ 58 64 p) = mOf σ := by unfold mOf; rw [mup_nk (by decide), mup_nk (by decide), mup_nk (by decide)]
theorem mB.pc (q : mB σ0 h σ ρ fs s) : mB σ0 h (mup σ 58 64 p) ρ fs s := q.cg sm_pc (frWm.pg (frWm.m8 (h := h) (by omega))) (fun k hk => mup_nk (by omega)) (fun i _ => ⟨mup_ne (by decide), mup_ne (by decide)⟩)
theorem vaM.pc (q : vaM h σ0 σ (mOf σ) vs) : vaM h σ0 (mup σ 58 64 p) (mOf (mup σ 58 64 p)) vs := by
  have rf : ∀ x : Int, x ≤ x := fun x => Int.le_refl x
  rw [mOf_pc]; exact q.mv sm_pc (rf _) (rf _) (rf _) (fun _ _ => rfl)
theorem nm_drp : ∀ {n : Nat} {ρ : En}, nmEn (drp n ρ) = (nmEn ρ).drop n := by
  intro n ρ
  fun_induction drp n ρ with
  | case1 => rfl
  | case2 => rename_i ih; exact ih
  | case3 n ρ hx =>
    have : nmEn ρ = [] := by
      unfold nmEn
      split
      · exact (hx _ _ _ rfl).elim
      · rfl
    rw [this]; rfl
/-- what both the place and the state are, in one -/
theorem mRel.o {S' : WkS} (f : frWm h h' σ σ') (hl : S'.2.2.2.2.1.length ≤ 200) (R : mRel σ0 h' σ' s S') (e57 : σ' 58 57 = σ 58 57) (e65 : σ' 58 65 = σ 58 65) (e66 : σ' 58 66 = σ 58 66) : mOut σ0 h σ s 0 h' σ' S' := ⟨f, Or.inr ⟨hl, R, by omega, e65, e66⟩⟩
theorem ns_of (g : pgM σ0 σ) (h124 : σ0 58 11 ≤ 124) (e : σ 58 64 = p) (rp : 0 ≤ p ∧ p < σ0 58 11) (c : σ 63 p = i) (hi : ¬ isSt i) (gi : rg i) : nsM σ := by
  unfold nsM
  rw [e, g.2, c]
  exact ⟨rp, h124, hi, gi⟩
/-- REC is entered -/
theorem mm_rec (R : mRel σ0 h σ s (0, nd 14 z A B C, cx, ρ, vs, fs)) (h14 : hd14 cx = none) (gz : rg z) : ∃ h' σ', exN d 1 h σ h' σ' ∧ mOut σ0 h σ s 0 h' σ' (0, A, (1, nd 14 z A B C) :: cx, ρ, vs, fs) := by
  obtain ⟨hl, q, e51, ps, vt⟩ := R
  unfold psM at ps
  rw [if_pos rfl, h14] at ps
  obtain ⟨c, cp⟩ := ps
  have va : vaM h σ0 σ (mOf σ) vs := vtM_0.mp vt
  obtain ⟨⟨pg, p124⟩, -⟩ := id q
  have c0 : nC σ0 (nd 14 z A B C) (nmEn ρ) (σ 58 64) := c
  obtain ⟨⟨t, ic, -⟩, -, p0, p1⟩ := c
  have a1 := ln_ge (T := A)
  have a2 := ln_ge (T := B)
  have p1 : σ 58 64 + (ln A + ln B + 3) ≤ σ0 58 11 := p1
  obtain ⟨x1, x2, x3⟩ := pg.row (show cell (prM σ0) (σ 58 64) 19 0 z from ic.1)
  refine ⟨h, mup σ 58 64 (σ 58 64 + 1), exM.one ⟨ns_of pg p124 rfl ⟨p0, by omega⟩ x1 (by unfold isSt; omega) (rgk rfl), x_nop rfl ⟨p0, by omega⟩ x1 x2 (rgk rfl) (by omega)⟩, mRel.o (frWm.m8 (by omega)) hl ⟨hl, q.pc, (mup_nk (by decide)).trans e51, ?_, vtM_0.mpr va.pc⟩ (mup_nk (by decide)) (mup_nk (by decide)) (mup_nk (by decide))⟩
  unfold psM
  rw [if_pos rfl, mup_eq]
  refine ⟨c0.r.1, σ 58 64, ?_, ?_, fun e => absurd rfl e.1, ?_⟩
  · rw [if_neg (fun e => e.1 rfl)]; exact c0
  · unfold ofM; rw [if_pos rfl, if_pos rfl]; omega
  · rw [if_neg (fun e => e.1 rfl), if_neg (show ¬ (14 : Nat) = 17 by decide), Int.add_zero]; exact cp
end MINS
