/-! The model's run: steps; IF. -/
section MIF
variable {h h' h1 : mHp} {σ0 σ σ' σ1 : Mem} {d : Nat} {G : List Int} {p z s i y n b : Int} {A B C T : Tr} {k : Nat} {ρ ρ' : En} {cx : Cx} {fs : List (Cx × En)} {vs : List Va} {v : Va}
theorem mB.s1 (q : mB σ0 h σ ρ fs s) : mB σ0 h σ ρ fs (s + 1) := by
  obtain ⟨q1, ⟨q2, q3, q4, q5⟩, q6⟩ := q
  exact ⟨q1, ⟨q2, by omega, by omega, by omega⟩, q6⟩
/-- values were taken, a part is entered at p -/
theorem m_go (q : mB σ0 h σ ρ fs s) (va : vaM h σ0 σ (mOf σ) vs) (hl : vs.length ≤ 200) (h14 : hd14 cx = none) (c : nC σ0 T (nmEn ρ) p) (cp : cxM σ0 (!fs.isEmpty) cx (nmEn ρ) (p + ln T)) : mOut σ0 h σ s 0 h (mup (mup σ 58 64 p) 58 51 vs.length) (0, T, cx, ρ, vs, fs) := by
  have rf : ∀ x : Int, x ≤ x := fun x => Int.le_refl x
  have kk : ∀ k : Int, k ≠ 64 → k ≠ 51 → (mup (mup σ 58 64 p) 58 51 vs.length) 58 k = σ 58 k := fun k a b => by rw [mup_nk b, mup_nk a]
  have w : smM (mOf σ) h h σ (mup (mup σ 58 64 p) 58 51 vs.length) := ⟨fun _ _ _ => ⟨rfl, rfl⟩, fun _ _ _ => rfl, fun _ _ _ => ⟨rfl, by rw [mup_ne (by decide), mup_ne (by decide)]⟩⟩
  have me : mOf (mup (mup σ 58 64 p) 58 51 vs.length) = mOf σ := by unfold mOf; rw [kk 61 (by decide) (by decide), kk 63 (by decide) (by decide), kk 57 (by decide) (by decide)]
  have f : frWm h h σ (mup (mup σ 58 64 p) 58 51 vs.length) := (frWm.m8 (by omega)).tr (frWm.m8 (by omega))
  refine mRel.o f hl ⟨hl, q.cg w f.pg (fun k hk => kk k (by omega) (by omega)) (fun i _ => ⟨by rw [mup_ne (by decide), mup_ne (by decide)], by rw [mup_ne (by decide), mup_ne (by decide)]⟩), mup_eq, ?_, ?_⟩ (kk 57 (by decide) (by decide)) (kk 65 (by decide) (by decide)) (kk 66 (by decide) (by decide))
  · unfold psM
    rw [if_pos rfl, mup_nk (by decide), mup_eq, h14]; exact ⟨c, cp⟩
  · rw [if_pos rfl, me]; exact vtM_0.mpr (va.mv w (rf _) (rf _) (rf _) (fun _ _ => rfl))
/-- IF's step -/
theorem ms_if (R : mRel σ0 h σ s (2, nd 15 z A B C, cx, ρ, v :: vs, fs)) (ok : isBv v) : ∃ h' σ', Rh (d + 7) yMo_execute [.ref 58] h σ (.inl none) h' σ' ∧ mOut σ0 h σ (s + 1) 0 h' σ' (if toI v = 1 then (0, B, (2, nd 15 z A B C) :: cx, ρ, vs, fs) else (0, C, (3, nd 15 z A B C) :: cx, ρ, vs, fs)) := by
  obtain ⟨hl, q, e51, ps, vt⟩ := R
  have hl : vs.length + 1 ≤ 200 := hl
  have e51 : σ 58 51 = ((vs.length + 1 : Nat) : Int) := e51
  have e51 : σ 58 51 = (vs.length : Int) + 1 := by omega
  unfold psM at ps
  rw [if_neg (by decide), if_neg (by decide)] at ps
  obtain ⟨a, c, pe, cp⟩ := ps
  have pe : σ 58 64 = a + ln A := pe
  rw [if_neg (by decide), if_neg (by decide)] at vt
  obtain ⟨⟨y, ey, ry⟩, va⟩ := vt
  have ry : RMv h σ (pfM σ0) (mOf σ) v false y := ry
  obtain ⟨⟨pg, p124⟩, ⟨bo, -⟩, re, -⟩ := id q
  have c0 := c
  obtain ⟨⟨t, ic, -⟩, -, p0, p1⟩ := c
  have a1 := ln_ge (T := A)
  have a2 := ln_ge (T := B)
  have a3 := ln_ge (T := C)
  have p1 : a + (ln A + ln B + ln C + 3) ≤ σ0 58 11 := p1
  obtain ⟨x1, x2, -⟩ := pg.row (show cell (prM σ0) (a + ln A) 13 (a + ln A + ln B + 2) 0 from ic.2.1)
  have f1 : (mup σ 58 64 (a + ln A + 1)) 58 51 = (vs.length : Int) + 1 := (mup_nk (by decide)).trans e51
  have gt : rg (a + ln A + ln B + 2) := by unfold rg; omega
  have f2 : (mup (mup σ 58 64 (a + ln A + 1)) 58 51 vs.length) 58 64 = a + ln A + 1 := (mup_nk (by decide)).trans mup_eq
  have pre : ∀ {u p' : Int}, y = 8 * u → rg u → ((u ≠ 0 ∧ p' = a + ln A + 1) ∨ (u = 0 ∧ p' = a + ln A + ln B + 2)) → Rh (d + 7) yMo_execute [.ref 58] h σ (.inl none) h (mup (mup σ 58 64 p') 58 51 vs.length) := fun {u p'} ye gu hp => by
    have Rt := r_told (d := d + 3) (h := h) (σ := mup (mup σ 58 64 (a + ln A + 1)) 58 51 vs.length) (v := u) (k := 0) gu (by omega)
    rw [show 8 * u + 0 = y by omega] at Rt
    refine M_Mo_execute ?_
    unfold B_Mo_execute
    rw [pe, x1, x2, if_pos (by decide), if_pos (by decide), if_pos (by decide), if_pos (by decide), if_pos (by decide), if_pos (by decide), if_pos (by decide), if_pos (by decide), if_neg (by decide), if_pos (by decide), if_pos (by decide), if_pos (by decide)]
    refine ⟨by unfold rg; omega, ⟨by omega, by omega⟩, ⟨by omega, by omega⟩, by unfold rg; omega, rgk rfl, h, _, M_Mo_flow (by unfold rg; omega) gt (rgk rfl) ?_, gt, e_231 (by decide) (by decide)⟩
    unfold B_Mo_flow
    rw [if_pos (by decide), if_neg (by decide), f1, show (vs.length : Int) + 1 - 1 = vs.length by omega, mup_eq, Int.toNat_natCast]
    refine ⟨by unfold rg; omega, by unfold rg; omega, by unfold rg; omega, ⟨by omega, by omega⟩, y, ey, u, h, _, Rt, gu, ?_⟩
    rcases hp with ⟨hu, rfl⟩ | ⟨hu, rfl⟩
    · rw [if_pos hu, f2]
      refine ⟨by unfold rg; omega, rfl, rfl, ?_⟩
      rw [mup_sw]
    · rw [if_neg (fun e => e hu)]
      refine ⟨rfl, rfl, ?_⟩
      rw [mup_sw]
  have nb : ∀ j : Nat, ¬ (j ≠ 1 ∧ bk3 (nd 15 z A B C) = true) := fun j e => by cases e.2
  have va : vaM h σ0 σ (mOf σ) vs := va
  rcases ok with rfl | rfl
  · obtain ⟨ye, gu⟩ : y = 8 * 0 ∧ rg 0 := ry
    refine ⟨h, _, pre ye gu (Or.inr ⟨rfl, rfl⟩), ?_⟩
    rw [if_neg (show ¬ toI (vB 0) = 1 by decide)]
    refine m_go q.s1 va (by omega) rfl c0.i.2 ⟨a, by rw [if_neg (nb 3)]; exact c0, ?_, fun e => absurd e (nb 3), ?_⟩
    · show a + ln A + ln B + 2 + ln C = a + (ln A + ln B + ln C + 2); omega
    · rw [if_neg (nb 3), if_neg (show ¬ (15 : Nat) = 17 by decide), Int.add_zero]; exact cp
  · obtain ⟨ye, gu⟩ : y = 8 * 1 ∧ rg 1 := ry
    refine ⟨h, _, pre ye gu (Or.inl ⟨by decide, rfl⟩), ?_⟩
    rw [if_pos (show toI (vB 1) = 1 by decide)]
    refine m_go q.s1 va (by omega) rfl c0.i.1 ⟨a, by rw [if_neg (nb 2)]; exact c0, ?_, fun e => absurd e (nb 2), ?_⟩
    · show a + ln A + 1 + ln B = a + (ln A + 1 + ln B); omega
    · rw [if_neg (nb 2), if_neg (show ¬ (15 : Nat) = 17 by decide), Int.add_zero]; exact cp
end MIF
