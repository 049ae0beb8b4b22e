/-! The model's run: REC's step. -/
section MREC
variable {h h' h1 : mHp} {σ0 σ σ' σ1 : Mem} {d : Nat} {p p' z s b y k u e r : Int} {A B C T lam : Tr} {ρ ρ' : En} {cx : Cx} {fs : List (Cx × En)} {vs : List Va} {v x : Va} {u0 : Value} {S S' : WkS}
theorem m_bindR (q : mB σ0 h σ ρ fs s) (va : vaM h σ0 σ (mOf σ) vs) (hl : vs.length ≤ 200) (h14 : hd14 cx = none) (hb : σ 58 57 + 1 ≤ 4299) (ye : y = 8 * (8192 * p' + (σ 58 57 + 1)) + 6) (hp : 0 ≤ p' ∧ p' ≤ 124) (pf : pfM σ0 lam (z :: nmEn ρ') p') (r' : RMv h σ (pfM σ0) (mOf σ) ρ' true (σ 58 58)) (c : nC σ0 T (z :: nmEn ρ) p) (cp : cxM σ0 (!fs.isEmpty) cx (z :: nmEn ρ) (p + ln T)) : mOut σ0 h σ s 1 (hSet (hSet h 92 (σ 58 57 + 1).toNat u0) 92 (σ 58 57 + 1).toNat (vlg y)) (mup (mup (mup (mup (mup σ 58 64 p) 58 51 vs.length) 58 57 (σ 58 57 + 1)) 93 (σ 58 57 + 1) (σ 58 58)) 58 58 (σ 58 57 + 1)) (0, T, cx, eC z (vG z lam ρ') ρ, vs, fs) := by
  obtain ⟨⟨q1, q0⟩, ⟨q2, q3, q4, q5⟩, q6, q7, q8⟩ := q
  have w3 : 0 ≤ σ 58 57 ∧ σ 58 57 ≤ 4299 := q2.2.2
  generalize hσ : mup (mup (mup (mup (mup σ 58 64 p) 58 51 vs.length) 58 57 (σ 58 57 + 1)) 93 (σ 58 57 + 1) (σ 58 58)) 58 58 (σ 58 57 + 1) = σ1
  generalize hh : hSet (hSet h 92 (σ 58 57 + 1).toNat u0) 92 (σ 58 57 + 1).toNat (vlg y) = h1
  have f : frWm h h1 σ σ1 := by
    rw [← hσ, ← hh]
    have g93 : ∀ {τ : Mem} {k z : Int} {hx : mHp}, frWm hx hx τ (mup τ 93 k z) := fun {τ k z hx} => ⟨⟨rfl, rfl⟩, fun _ _ _ _ => rfl, fun _ => ⟨rfl, rfl⟩, fun _ _ _ _ e => mup_obj e, fun _ _ _ _ _ _ _ _ _ _ => mup_ne (by decide)⟩
    exact (((((((frWm.hs (by omega)).tr (frWm.hs (by omega))).tr (frWm.m8 (by omega))).tr (frWm.m8 (by omega))).tr (frWm.m8 (by omega))).tr g93).tr (frWm.m8 (by omega)))
  have kk : ∀ k : Int, k ≠ 64 → k ≠ 51 → k ≠ 57 → k ≠ 58 → σ1 58 k = σ 58 k := fun k a b c d => by rw [← hσ, mup_nk d, mup_ne (by decide), mup_nk c, mup_nk b, mup_nk a]
  have k57 : σ1 58 57 = σ 58 57 + 1 := by rw [← hσ, mup_nk (by decide), mup_ne (by decide), mup_eq]
  have k58 : σ1 58 58 = σ 58 57 + 1 := by rw [← hσ, mup_eq]
  have k64 : σ1 58 64 = p := by rw [← hσ, mup_nk (by decide), mup_ne (by decide), mup_nk (by decide), mup_nk (by decide), mup_eq]
  have k51 : σ1 58 51 = vs.length := by rw [← hσ, mup_nk (by decide), mup_ne (by decide), mup_nk (by decide), mup_eq]
  have k93 : σ1 93 (σ 58 57 + 1) = σ 58 58 := by rw [← hσ, mup_ne (by decide), mup_eq]
  have k9 : ∀ i : Nat, σ1 90 i = σ 90 i ∧ σ1 91 i = σ 91 i := fun i => by
    rw [← hσ]
    exact ⟨by rw [mup_ne (by decide), mup_ne (by decide), mup_ne (by decide), mup_ne (by decide), mup_ne (by decide)], by rw [mup_ne (by decide), mup_ne (by decide), mup_ne (by decide), mup_ne (by decide), mup_ne (by decide)]⟩
  have w : smM (mOf σ) h h1 σ σ1 := by
    rw [← hσ, ← hh]
    refine ⟨fun _ _ _ => ⟨(at_ne (by decide) _).trans (at_ne (by decide) _), (at_ne (by decide) _).trans (at_ne (by decide) _)⟩, fun _ _ _ => (at_ne (by decide) _).trans (at_ne (by decide) _), fun k a b => ?_⟩
    have b : k ≤ σ 58 57 := b
    exact ⟨(at_nk (by omega)).trans (at_nk (by omega)), by rw [mup_ne (by decide), mup_nk (by omega), mup_ne (by decide), mup_ne (by decide), mup_ne (by decide)]⟩
  have m1 : (mOf σ).1 ≤ (mOf σ1).1 := by show σ 58 61 ≤ σ1 58 61; rw [kk 61 (by decide) (by decide) (by decide) (by decide)]; exact Int.le_refl _
  have m2 : (mOf σ).2.1 ≤ (mOf σ1).2.1 := by show σ 58 63 ≤ σ1 58 63; rw [kk 63 (by decide) (by decide) (by decide) (by decide)]; exact Int.le_refl _
  have m3 : (mOf σ).2.2 ≤ (mOf σ1).2.2 := by show σ 58 57 ≤ σ1 58 57; omega
  have a92 : hAt h1 92 (σ 58 57 + 1).toNat = vlg y := by rw [← hh]; exact at_eq
  have rv : RMv h1 σ1 (pfM σ0) (mOf σ1) (vG z lam ρ') false y := ⟨p', σ 58 57 + 1, ye, hp, ⟨by omega, by show σ 58 57 + 1 ≤ σ1 58 57; omega⟩, pf, a92, by rw [k93]; exact r'.mv w m1 m2 m3⟩
  have r1 : RMv h1 σ1 (pfM σ0) (mOf σ1) (eC z (vG z lam ρ') ρ) true (σ1 58 58) := by
    rw [k58]
    refine ⟨⟨by omega, by show σ 58 57 + 1 ≤ σ1 58 57; omega⟩, y, a92, rv, ?_⟩
    rw [k93]; exact q6.mv w m1 m2 m3
  have bo : mBo (mOf σ1) := ⟨by show 0 ≤ σ1 58 61 ∧ σ1 58 61 ≤ 502; rw [kk 61 (by decide) (by decide) (by decide) (by decide)]; exact q2.1, by show 0 ≤ σ1 58 63 ∧ σ1 58 63 ≤ 502; rw [kk 63 (by decide) (by decide) (by decide) (by decide)]; exact q2.2.1, by show 0 ≤ σ1 58 57 ∧ σ1 58 57 ≤ 4299; omega⟩
  refine ⟨f, Or.inr ⟨hl, ⟨hl, ⟨⟨q1.tr f.pg, q0⟩, ⟨bo, by rw [kk 61 (by decide) (by decide) (by decide) (by decide)]; exact q3, by rw [kk 63 (by decide) (by decide) (by decide) (by decide)]; exact q4, q5⟩, r1, by rw [kk 54 (by decide) (by decide) (by decide) (by decide)]; exact q7, q8.mv w m1 m2 m3 (fun i _ => k9 i)⟩, k51, ?_, vtM_0.mpr (va.mv w m1 m2 m3 (fun i _ => by rw [← hh]; exact (at_ne (by decide) _).trans (at_ne (by decide) _)))⟩, k57, kk 65 (by decide) (by decide) (by decide) (by decide), kk 66 (by decide) (by decide) (by decide) (by decide)⟩⟩
  unfold psM
  rw [if_pos rfl, k64, h14]
  exact ⟨c, cp⟩
theorem ms_rec (R : mRel σ0 h σ s (2, nd 14 z A B C, cx, ρ, vF lam ρ' :: vs, fs)) (hb : σ 58 57 + 1 ≤ 4299) : ∃ h' σ', Rh (d + 7) yMo_execute [.ref 58] h σ (.inl none) h' σ' ∧ mOut σ0 h σ (s + 1) 1 h' σ' (0, B, (2, nd 14 z A B C) :: cx, eC z (vG z lam ρ') ρ, vs, fs) := by
  obtain ⟨hl, q, e51, ps, vt⟩ := R
  have hl : vs.length + 1 ≤ 200 := hl
  have e51 : σ 58 51 = ((vs.length + 1 : Nat) : Int) := e51
  have e51 : σ 58 51 = (vs.length : Int) + 1 := by omega
  unfold psM at ps
  rw [if_neg (by decide), if_neg (by decide)] at ps
  obtain ⟨a, c, pe, cp⟩ := ps
  have pe : σ 58 64 = a + (1 + ln A) := pe
  rw [if_neg (by decide), if_neg (by decide)] at vt
  obtain ⟨⟨y, ey, ry⟩, va⟩ := vt
  have ry : tpM σ0 h σ (mOf σ) (some z) (vF lam ρ') y := ry
  have va : vaM h σ0 σ (mOf σ) vs := va
  obtain ⟨lam2, ρ2, p', e, ev, ye, hp, he, pf, r'⟩ := ry
  cases ev
  obtain ⟨⟨pg, p124⟩, ⟨bo, -⟩, re, -⟩ := id q
  have w3 : 0 ≤ σ 58 57 ∧ σ 58 57 ≤ 4299 := bo.2.2
  have he : 0 ≤ e ∧ e ≤ σ 58 57 := he
  have pl : 0 ≤ σ 58 58 ∧ σ 58 58 ≤ σ 58 57 := re.pl bo
  have c0 := c
  obtain ⟨⟨t, ic, -⟩, -, p0, p1⟩ := c
  have a1 := ln_ge (T := A)
  have a2 := ln_ge (T := B)
  have p1 : a + (ln A + ln B + 3) ≤ σ0 58 11 := p1
  obtain ⟨x1, x2, -⟩ := pg.row (show cell (prM σ0) (a + ln A + 1) 11 0 z from ic.2.2.1)
  have pe : σ 58 64 = a + ln A + 1 := by omega
  have f1 : (mup σ 58 64 (a + ln A + 1 + 1)) 58 51 = (vs.length : Int) + 1 := (mup_nk (by decide)).trans e51
  have f2 : (mup (mup σ 58 64 (a + ln A + 1 + 1)) 58 51 vs.length) 58 57 = σ 58 57 := by rw [mup_nk (by decide), mup_nk (by decide)]
  have f3 : (mup (mup σ 58 64 (a + ln A + 1 + 1)) 58 51 vs.length) 58 58 = σ 58 58 := by rw [mup_nk (by decide), mup_nk (by decide)]
  have W := r_worth (d := d + 3) (h := h) (σ := mup (mup σ 58 64 (a + ln A + 1 + 1)) 58 51 vs.length) (y := y) (e := σ 58 58) (n := σ 58 57) f2 ⟨w3.1, by omega⟩ (by unfold rg; omega)
  have g57 : (mup (mup (mup (mup (mup σ 58 64 (a + ln A + 1 + 1)) 58 51 vs.length) 58 57 (σ 58 57 + 1)) 93 (σ 58 57 + 1) (σ 58 58)) 58 58 (σ 58 57 + 1)) 58 57 = σ 58 57 + 1 := by rw [mup_nk (by decide), mup_ne (by decide), mup_eq]
  have gv : rg (8192 * p' + e) := by unfold rg; omega
  have zd := zd_8 hp (e := e) ⟨he.1, by omega⟩
  have T1 := fun (h : mHp) (σ : Mem) => r_told (d := d + 3) (h := h) (σ := σ) (v := 8192 * p' + e) (k := 6) gv (by omega)
  rw [← ye] at T1
  have bk : 2 ≠ 1 ∧ bk3 (nd 14 z A B C) = true := ⟨by decide, rfl⟩
  have nu : numB (nd 14 z A B C) = 1 := rfl
  refine ⟨_, _, M_Mo_execute ?_, m_bindR (u0 := vlg y) (p := a + ln A + 1 + 1) (y := 8 * (p' * 8192 + (σ 58 57 + 1)) + 6) q.s1 va (by omega) rfl hb (by omega) hp pf r' (by rw [show a + ln A + 1 + 1 = a + ln A + 2 by omega]; exact c0.r.2) ⟨a, by rw [if_pos bk, nu]; exact c0, ?_, fun _ => by rw [nu]; show 1 ≤ (nmEn ρ).length + 1; omega, ?_⟩⟩
  · unfold B_Mo_execute
    rw [pe, x1, x2, if_pos (by decide), if_pos (by decide), if_pos (by decide), if_pos (by decide), if_pos (by decide), if_pos (by decide), if_pos (by decide), if_pos (by decide), if_neg (by decide), if_neg (by decide)]
    refine ⟨by unfold rg; omega, ⟨by omega, by omega⟩, ⟨by omega, by omega⟩, by unfold rg; omega, rgk rfl, rgk rfl, ?_⟩
    unfold B_Mo_execute_174
    rw [if_neg (by decide)]
    refine ⟨_, _, M_Mo_bindTop (rgk rfl) ?_, e_231 (by decide) (by decide)⟩
    unfold B_Mo_bindTop
    rw [f1, show (vs.length : Int) + 1 - 1 = vs.length by omega, mup_eq, Int.toNat_natCast, f3]
    refine ⟨by unfold rg; omega, by unfold rg; omega, by unfold rg; omega, ⟨by omega, by omega⟩, y, ey, by unfold rg; omega, _, _, W, ?_⟩
    rw [if_neg (by decide), g57]
    refine ⟨by unfold rg; omega, _, _, _, T1 _ _, gv, ?_⟩
    rw [zd, g57]
    exact ⟨by unfold rg; omega, by unfold rg; omega, ⟨by omega, by omega⟩, rfl, rfl, rfl⟩
  · show a + ln A + 1 + 1 + ln B = a + (ln A + 2 + ln B); omega
  · rw [if_pos bk, nu, if_neg (show ¬ (14 : Nat) = 17 by decide), Int.add_zero]; exact cp
end MREC
