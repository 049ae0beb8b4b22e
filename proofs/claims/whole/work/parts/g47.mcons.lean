/-! The model's run: CONS. -/
section MCONS
variable {h h' h1 : mHp} {σ0 σ σ' σ1 : Mem} {d : Nat} {p z s y : Int} {A B C : Tr} {ρ : En} {cx : Cx} {fs : List (Cx × En)} {vs : List Va} {v u : Va}
theorem ms_cons (R : mRel σ0 h σ s (2, nd 10 z A B C, cx, ρ, u :: v :: vs, fs)) (h14 : hd14 cx = none) (hs : s + 1 ≤ 500) : ∃ h' σ', Rh (d + 7) yMo_execute [.ref 58] h σ (.inl none) h' σ' ∧ mOut σ0 h σ (s + 1) 0 h' σ' (1, nl, cx, ρ, vC v u :: vs, fs) := by
  obtain ⟨hl, q, e51, ps, vt⟩ := R
  have hl : vs.length + 1 + 1 ≤ 200 := hl
  have e51 : σ 58 51 = ((vs.length + 1 + 1 : Nat) : Int) := e51
  have e51 : σ 58 51 = (vs.length : Int) + 2 := by omega
  unfold psM at ps
  rw [if_neg (by decide), if_neg (by decide)] at ps
  obtain ⟨a, c, pe, cp⟩ := ps
  have pe : σ 58 64 = a + (ln A + ln B) := pe
  rw [if_neg (by decide), if_neg (by decide)] at vt
  obtain ⟨⟨y1, ey1, ry1⟩, ⟨y2, ey2, ry2⟩, va⟩ := vt
  have ry1 : RMv h σ (pfM σ0) (mOf σ) u false y1 := ry1
  have ey1 : hAt h 89 (vs.length + 1) = vlg y1 := ey1
  obtain ⟨⟨pg, p124⟩, ⟨bo, s1, s2, -⟩, -⟩ := id q
  obtain ⟨⟨t, ic, -⟩, -, p0, p1⟩ := c
  have a1 := ln_ge (T := A)
  have a2 := ln_ge (T := B)
  have p1 : a + (ln A + ln B + 1) ≤ σ0 58 11 := p1
  have cp : cxM σ0 (!fs.isEmpty) cx (nmEn ρ) (a + (ln A + ln B + 1)) := cp
  have b2 : 0 ≤ σ 58 61 := bo.1.1
  obtain ⟨x1, x2, -⟩ := pg.row (show cell (prM σ0) (a + ln A + ln B) 9 44 0 from ic.2.2)
  have pe : σ 58 64 = a + ln A + ln B := by omega
  have f1 : (mup σ 58 64 (a + ln A + ln B + 1)) 58 51 = (vs.length : Int) + 2 := (mup_nk (by decide)).trans e51
  have f61 : (mup (mup (mup σ 58 64 (a + ln A + ln B + 1)) 58 51 (vs.length + 1)) 58 51 vs.length) 58 61 = σ 58 61 := by rw [mup_nk (by decide), mup_nk (by decide), mup_nk (by decide)]
  have g51 : (mup (mup (mup (mup σ 58 64 (a + ln A + ln B + 1)) 58 51 (vs.length + 1)) 58 51 vs.length) 58 61 (σ 58 61 + 1)) 58 51 = vs.length := (mup_nk (by decide)).trans mup_eq
  have K := r_known (d := d + 2) (h := hSet (hSet h 94 (σ 58 61).toNat (vlg y2)) 95 (σ 58 61).toNat (vlg y1)) (k := 4) (v := σ 58 61) (rgk rfl) (by unfold rg; omega) g51 (by omega)
  rw [Int.toNat_natCast] at K
  generalize hσ : mup (mup (mup (mup (mup σ 58 64 (a + ln A + ln B + 1)) 58 51 (vs.length + 1)) 58 51 vs.length) 58 61 (σ 58 61 + 1)) 58 51 (vs.length + 1) = σ1 at K
  generalize hh : hSet (hSet (hSet h 94 (σ 58 61).toNat (vlg y2)) 95 (σ 58 61).toNat (vlg y1)) 89 vs.length (vlg (8 * σ 58 61 + 4)) = h1 at K
  have kk : ∀ k : Int, k ≠ 64 → k ≠ 51 → k ≠ 61 → σ1 58 k = σ 58 k := fun k a b c => by rw [← hσ, mup_nk b, mup_nk c, mup_nk b, mup_nk b, mup_nk a]
  have oo : ∀ j, j ≠ 58 → σ1 j = σ j := fun j hj => by rw [← hσ, mup_obj hj, mup_obj hj, mup_obj hj, mup_obj hj, mup_obj hj]
  have k61 : σ1 58 61 = σ 58 61 + 1 := by rw [← hσ, mup_nk (by decide), mup_eq]
  have k64 : σ1 58 64 = a + (ln A + ln B + 1) := by rw [← hσ, mup_nk (by decide), mup_nk (by decide), mup_nk (by decide), mup_nk (by decide), mup_eq]; omega
  have k63 := kk 63 (by decide) (by decide) (by decide)
  have f : frWm h h1 σ σ1 := by
    rw [← hσ, ← hh]
    exact (((((((frWm.hs (by omega)).tr (frWm.hs (by omega))).tr (frWm.hs (by omega))).tr (frWm.m8 (by omega))).tr (frWm.m8 (by omega))).tr (frWm.m8 (by omega))).tr (frWm.m8 (by omega))).tr (frWm.m8 (by omega))
  have w : smM (mOf σ) h h1 σ σ1 := by
    rw [← hh]
    refine ⟨fun k a b => ?_, fun k a b => (at_ne (by decide) _).trans ((at_ne (by decide) _).trans (at_ne (by decide) _)), fun k _ _ => ⟨(at_ne (by decide) _).trans ((at_ne (by decide) _).trans (at_ne (by decide) _)), congrFun (oo 93 (by decide)) k⟩⟩
    have b : k < σ 58 61 := b
    exact ⟨(at_ne (by decide) _).trans ((at_ne (by decide) _).trans (at_nk (by omega))), (at_ne (by decide) _).trans ((at_nk (by omega)).trans (at_ne (by decide) _))⟩
  have m1 : (mOf σ).1 ≤ (mOf σ1).1 := by show σ 58 61 ≤ σ1 58 61; omega
  have m2 : (mOf σ).2.1 ≤ (mOf σ1).2.1 := by show σ 58 63 ≤ σ1 58 63; omega
  have m3 : (mOf σ).2.2 = (mOf σ1).2.2 := by show σ 58 57 = σ1 58 57; rw [kk 57 (by decide) (by decide) (by decide)]
  have m3' : (mOf σ).2.2 ≤ (mOf σ1).2.2 := by rw [m3]; exact Int.le_refl _
  refine ⟨h1, σ1, M_Mo_execute ?_, m_val q va (by omega) h14 f w m1 m2 m3 ⟨by omega, by omega, by omega, by omega⟩ (kk 54 (by decide) (by decide) (by decide)) (kk 58 (by decide) (by decide) (by decide)) (fun i => ⟨congrFun (oo 90 (by decide)) i, congrFun (oo 91 (by decide)) i⟩) (by rw [← hσ, mup_eq]) (fun i hi => by rw [← hh]; exact (at_nk (by omega)).trans ((at_ne (by decide) _).trans (at_ne (by decide) _))) (y := 8 * σ 58 61 + 4) (by rw [← hh]; exact at_eq) ⟨σ 58 61, y2, y1, rfl, ⟨b2, by show σ 58 61 < σ1 58 61; omega⟩, by rw [← hh, at_ne (by decide), at_ne (by decide), at_eq], by rw [← hh, at_ne (by decide), at_eq], ry2.mv w m1 m2 m3', ry1.mv w m1 m2 m3'⟩ (by rw [k64]; exact cp) (kk 65 (by decide) (by decide) (by decide)) (kk 66 (by decide) (by decide) (by decide))⟩
  unfold B_Mo_execute
  rw [pe, x1, x2, if_pos (by decide), if_pos (by decide), if_pos (by decide), if_pos (by decide), if_pos (by decide), if_pos (by decide), if_pos (by decide), if_neg (by decide)]
  refine ⟨by unfold rg; omega, ⟨by omega, by omega⟩, ⟨by omega, by omega⟩, by unfold rg; omega, rgk rfl, h1, σ1, M_Mo_work (rgk rfl) ?_, rgk rfl, e_231 (by decide) (by decide)⟩
  unfold B_Mo_work
  rw [f1, show (vs.length : Int) + 2 - 1 = vs.length + 1 by omega, show ((vs.length : Int) + 1).toNat = vs.length + 1 by omega]
  refine ⟨by unfold rg; omega, ⟨by omega, by omega⟩, y1, ey1, by unfold rg; omega, ?_⟩
  rw [if_pos (by decide), mup_eq, show (vs.length : Int) + 1 - 1 = vs.length by omega, Int.toNat_natCast]
  refine ⟨by unfold rg; omega, ⟨by omega, by omega⟩, y2, ey2, by unfold rg; omega, ?_⟩
  rw [if_neg (fun e => e rfl), f61, mup_eq, show σ 58 61 + 1 - 1 = σ 58 61 by omega]
  exact ⟨by unfold rg; omega, ⟨by omega, by omega⟩, ⟨by omega, by omega⟩, by unfold rg; omega, by unfold rg; omega, h1, σ1, K, rfl, rfl, rfl⟩
end MCONS
