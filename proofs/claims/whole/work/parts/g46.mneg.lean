/-! The model's run: the sign. -/
section MNEG
variable {h h' h1 : mHp} {σ0 σ σ' σ1 : Mem} {d : Nat} {p z s y : Int} {A B C : Tr} {ρ : En} {cx : Cx} {fs : List (Cx × En)} {vs : List Va} {v : Va}
theorem ms_neg (R : mRel σ0 h σ s (2, nd 8 z A B C, cx, ρ, v :: vs, fs)) (h14 : hd14 cx = none) (ok : isRv FP.Core.DFin v) (hs : s + 1 ≤ 500) : ∃ h' σ', Rh (d + 7) yMo_execute [.ref 58] h σ (.inl none) h' σ' ∧ mOut σ0 h σ (s + 1) 0 h' σ' (1, nl, cx, ρ, vR (FP.dneg (toR v)) :: vs, fs) := by
  obtain ⟨x, rfl, -⟩ := ok
  rw [toR_vR]
  obtain ⟨hl, q, e51, ps, vt⟩ := R
  have hl : vs.length + 1 ≤ 200 := hl
  have e51 : σ 58 51 = ((vs.length + 1 : Nat) : Int) := e51
  have e51 : σ 58 51 = (vs.length : Int) + 1 := by omega
  unfold psM at ps
  rw [if_neg (by decide), if_neg (by decide)] at ps
  obtain ⟨a, c, pe, cp⟩ := ps
  have pe : σ 58 64 = a + ln A := pe
  rw [if_neg (by decide), if_neg (by decide)] at vt
  obtain ⟨⟨y, ey, ry⟩, va⟩ := vt
  have ry : RMv h σ (pfM σ0) (mOf σ) (vR x) false y := ry
  have va : vaM h σ0 σ (mOf σ) vs := va
  obtain ⟨⟨pg, p124⟩, ⟨bo, s1, s2, -⟩, -⟩ := id q
  obtain ⟨⟨t, ic, -⟩, -, p0, p1⟩ := c
  have a1 := ln_ge (T := A)
  have p1 : a + (ln A + 1) ≤ σ0 58 11 := p1
  have cp : cxM σ0 (!fs.isEmpty) cx (nmEn ρ) (a + (ln A + 1)) := cp
  have b2 : 0 ≤ σ 58 63 := bo.2.1.1
  obtain ⟨x1, x2, -⟩ := pg.row (show cell (prM σ0) (a + ln A) 9 126 0 from ic.2)
  have rf : ∀ x : Int, x ≤ x := fun x => Int.le_refl x
  have f1 : (mup σ 58 64 (a + ln A + 1)) 58 51 = (vs.length : Int) + 1 := (mup_nk (by decide)).trans e51
  have wt : smM (mOf σ) h h σ (mup (mup σ 58 64 (a + ln A + 1)) 58 51 vs.length) := ⟨fun _ _ _ => ⟨rfl, rfl⟩, fun _ _ _ => rfl, fun _ _ _ => ⟨rfl, by rw [mup_ne (by decide), mup_ne (by decide)]⟩⟩
  have K1 := r_realOf (d := d + 2) bo (ry.mv wt (rf _) (rf _) (rf _))
  have g51 : (mup (mup σ 58 64 (a + ln A + 1)) 58 51 vs.length) 58 51 = vs.length := mup_eq
  have g63 : (mup (mup σ 58 64 (a + ln A + 1)) 58 51 vs.length) 58 63 = σ 58 63 := by rw [mup_nk (by decide), mup_nk (by decide)]
  have K2 := r_mreal (d := d + 1) (h := h) (b := FP.dneg x) g51 (by omega) g63 (by omega)
  rw [Int.toNat_natCast] at K2
  generalize hσ : mup (mup (mup (mup σ 58 64 (a + ln A + 1)) 58 51 vs.length) 58 63 (σ 58 63 + 1)) 58 51 (vs.length + 1) = σ1 at K2
  generalize hh : hSet (hSet h 96 (σ 58 63).toNat (.double (FP.dneg x))) 89 vs.length (vlg (8 * σ 58 63 + 2)) = h1 at K2
  have kk : ∀ k : Int, k ≠ 64 → k ≠ 51 → k ≠ 63 → σ1 58 k = σ 58 k := fun k a b c => by rw [← hσ, mup_nk b, mup_nk c, mup_nk b, mup_nk a]
  have oo : ∀ j, j ≠ 58 → σ1 j = σ j := fun j hj => by rw [← hσ, mup_obj hj, mup_obj hj, mup_obj hj, mup_obj hj]
  have k63 : σ1 58 63 = σ 58 63 + 1 := by rw [← hσ, mup_nk (by decide), mup_eq]
  have k64 : σ1 58 64 = a + (ln A + 1) := by rw [← hσ, mup_nk (by decide), mup_nk (by decide), mup_nk (by decide), mup_eq]; omega
  have k61 := kk 61 (by decide) (by decide) (by decide)
  have f : frWm h h1 σ σ1 := by
    rw [← hσ, ← hh]
    exact (((((frWm.hs (by omega)).tr (frWm.hs (by omega))).tr (frWm.m8 (by omega))).tr (frWm.m8 (by omega))).tr (frWm.m8 (by omega))).tr (frWm.m8 (by omega))
  have w : smM (mOf σ) h h1 σ σ1 := by
    rw [← hh]
    refine ⟨fun _ _ _ => ⟨(at_ne (by decide) _).trans (at_ne (by decide) _), (at_ne (by decide) _).trans (at_ne (by decide) _)⟩, fun k a b => ?_, fun k _ _ => ⟨(at_ne (by decide) _).trans (at_ne (by decide) _), congrFun (oo 93 (by decide)) k⟩⟩
    have b : k < σ 58 63 := b
    exact (at_ne (by decide) _).trans (at_nk (by omega))
  refine ⟨h1, σ1, M_Mo_execute ?_, m_val q va (by omega) h14 f w (by show σ 58 61 ≤ σ1 58 61; omega) (by show σ 58 63 ≤ σ1 58 63; omega) (by show σ 58 57 = σ1 58 57; rw [kk 57 (by decide) (by decide) (by decide)]) ⟨by omega, by omega, by omega, by omega⟩ (kk 54 (by decide) (by decide) (by decide)) (kk 58 (by decide) (by decide) (by decide)) (fun i => ⟨congrFun (oo 90 (by decide)) i, congrFun (oo 91 (by decide)) i⟩) (by rw [← hσ, mup_eq]) (fun i hi => by rw [← hh]; exact (at_nk (by omega)).trans (at_ne (by decide) _)) (y := 8 * σ 58 63 + 2) (by rw [← hh]; exact at_eq) (Or.inr ⟨σ 58 63, rfl, ⟨b2, by show σ 58 63 < σ1 58 63; omega⟩, by rw [← hh, at_ne (by decide), at_eq, vR_at]⟩) (by rw [k64]; exact cp) (kk 65 (by decide) (by decide) (by decide)) (kk 66 (by decide) (by decide) (by decide))⟩
  unfold B_Mo_execute
  rw [pe, x1, x2, if_pos (by decide), if_pos (by decide), if_pos (by decide), if_pos (by decide), if_pos (by decide), if_pos (by decide), if_pos (by decide), if_neg (by decide)]
  refine ⟨by unfold rg; omega, ⟨by omega, by omega⟩, ⟨by omega, by omega⟩, by unfold rg; omega, rgk rfl, h1, σ1, M_Mo_work (rgk rfl) ?_, rgk rfl, e_231 (by decide) (by decide)⟩
  unfold B_Mo_work
  rw [f1, show (vs.length : Int) + 1 - 1 = vs.length by omega, Int.toNat_natCast]
  refine ⟨by unfold rg; omega, ⟨by omega, by omega⟩, y, ey, by unfold rg; omega, ?_⟩
  rw [if_neg (fun e => e rfl)]
  exact ⟨x, h, _, K1, h1, σ1, K2, rfl, rfl, rfl⟩
end MNEG
