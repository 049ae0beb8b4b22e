/-! The model's run: what was bound is taken away; a function's end. -/
section MLEV
variable {h h' h1 : mHp} {σ0 σ σ' σ1 : Mem} {d : Nat} {G : List Int} {p z s i y n : Int} {A B C T : Tr} {k : Nat} {ρ ρ' : En} {cx : Cx} {fs : List (Cx × En)} {vs : List Va} {v : Va} {P : Tr → List Int → Int → Prop}
theorem sm_58 {m : MBd} : smM m h h σ (mup σ 58 k z) := ⟨fun _ _ _ => ⟨rfl, rfl⟩, fun _ _ _ => rfl, fun _ _ _ => ⟨rfl, mup_ne (by decide)⟩⟩
theorem x_unb (e : σ 58 64 = p) (rp : 0 ≤ p ∧ p < 124) (c1 : σ 63 p = 12) (c2 : σ 64 p = n) (bo : mBo (mOf σ)) (h0 : 0 ≤ n ∧ n ≤ 1000) (re : RMv h σ P (mOf σ) ρ true (σ 58 58)) (hl : n ≤ (nmEn ρ).length) : ∃ x, Rh (d + 7) yMo_execute [.ref 58] h σ (.inl none) h (mup (mup σ 58 64 (p + 1)) 58 58 x) ∧ RMv h σ P (mOf σ) (drp n.toNat ρ) true x := by
  have rf : ∀ x : Int, x ≤ x := fun x => Int.le_refl x
  have re2 : RMv h (mup σ 58 64 (p + 1)) P (mOf σ) ρ true ((mup σ 58 64 (p + 1)) 58 58) := by
    rw [mup_nk (by decide)]; exact re.mv sm_pc (rf _) (rf _) (rf _)
  obtain ⟨x, F, rx⟩ := r_further (d := d + 4) bo h0.1 (by omega) re2 hl
  have w2 : smM (mOf σ) h h (mup σ 58 64 (p + 1)) σ := ⟨fun _ _ _ => ⟨rfl, rfl⟩, fun _ _ _ => rfl, fun _ _ _ => ⟨rfl, (mup_ne (by decide)).symm⟩⟩
  have rx2 := rx.mv w2 (rf _) (rf _) (rf _)
  have px := rx2.pl bo
  have w3 := bo.2.2
  refine ⟨x, M_Mo_execute ?_, rx2⟩
  unfold B_Mo_execute
  rw [e, c1, c2, if_pos (by decide), if_pos (by decide), if_pos (by decide), if_pos (by decide), if_pos (by decide), if_pos (by decide), if_pos (by decide), if_pos (by decide), if_neg (by decide), if_pos (by decide), if_neg (by decide)]
  exact ⟨by unfold rg; omega, rp, rp, by unfold rg; omega, rgk rfl, x, h, mup σ 58 64 (p + 1), F, by unfold rg; omega, by unfold rg; omega, e_231 (by decide) (by decide)⟩
/-- what is bound changes, and the place in the code -/
theorem mB.en {x : Int} (q : mB σ0 h σ ρ fs s) (rx : RMv h σ (pfM σ0) (mOf σ) ρ' true x) : mB σ0 h (mup (mup σ 58 64 p) 58 58 x) ρ' fs s := by
  have rf : ∀ x : Int, x ≤ x := fun x => Int.le_refl x
  have w : smM (mOf σ) h h σ (mup (mup σ 58 64 p) 58 58 x) := ⟨fun _ _ _ => ⟨rfl, rfl⟩, fun _ _ _ => rfl, fun _ _ _ => ⟨rfl, by rw [mup_ne (by decide), mup_ne (by decide)]⟩⟩
  have kk : ∀ k : Int, k ≠ 64 → k ≠ 58 → (mup (mup σ 58 64 p) 58 58 x) 58 k = σ 58 k := fun k a b => by rw [mup_nk b, mup_nk a]
  have me : mOf (mup (mup σ 58 64 p) 58 58 x) = mOf σ := by unfold mOf; rw [kk 61 (by decide) (by decide), kk 63 (by decide) (by decide), kk 57 (by decide) (by decide)]
  have f : frWm h h σ (mup (mup σ 58 64 p) 58 58 x) := (frWm.m8 (by omega)).tr (frWm.m8 (by omega))
  obtain ⟨⟨q1, q0⟩, ⟨q2, q3, q4, q5⟩, q6, q7, q8⟩ := q
  refine ⟨⟨q1.tr f.pg, q0⟩, ⟨by rw [me]; exact q2, by rw [kk 61 (by decide) (by decide)]; exact q3, by rw [kk 63 (by decide) (by decide)]; exact q4, q5⟩, ?_, by rw [kk 54 (by decide) (by decide)]; exact q7, ?_⟩
  · rw [me, mup_eq]; exact rx.mv w (rf _) (rf _) (rf _)
  · rw [me]; exact q8.mv w (rf _) (rf _) (rf _) (fun i _ => ⟨by rw [mup_ne (by decide), mup_ne (by decide)], by rw [mup_ne (by decide), mup_ne (by decide)]⟩)
theorem m_at2 {x : Int} (q : mB σ0 h σ ρ fs s) (rx : RMv h σ (pfM σ0) (mOf σ) ρ' true x) (e51 : σ 58 51 = vs.length) (hl : vs.length ≤ 200) (va : vaM h σ0 σ (mOf σ) vs) (h14 : hd14 cx = none) (cp : cxM σ0 (!fs.isEmpty) cx (nmEn ρ') p) : mOut σ0 h σ s 0 h (mup (mup σ 58 64 p) 58 58 x) (1, nl, cx, ρ', vs, fs) := by
  have rf : ∀ x : Int, x ≤ x := fun x => Int.le_refl x
  have w : smM (mOf σ) h h σ (mup (mup σ 58 64 p) 58 58 x) := ⟨fun _ _ _ => ⟨rfl, rfl⟩, fun _ _ _ => rfl, fun _ _ _ => ⟨rfl, by rw [mup_ne (by decide), mup_ne (by decide)]⟩⟩
  have kk : ∀ k : Int, k ≠ 64 → k ≠ 58 → (mup (mup σ 58 64 p) 58 58 x) 58 k = σ 58 k := fun k a b => by rw [mup_nk b, mup_nk a]
  have me : mOf (mup (mup σ 58 64 p) 58 58 x) = mOf σ := by unfold mOf; rw [kk 61 (by decide) (by decide), kk 63 (by decide) (by decide), kk 57 (by decide) (by decide)]
  refine mRel.o ((frWm.m8 (by omega)).tr (frWm.m8 (by omega))) hl ⟨hl, q.en rx, (kk 51 (by decide) (by decide)).trans e51, ?_, ?_⟩ (kk 57 (by decide) (by decide)) (kk 65 (by decide) (by decide)) (kk 66 (by decide) (by decide))
  · unfold psM
    rw [if_neg (by decide), if_pos rfl, mup_nk (by decide), mup_eq]; exact cp
  · rw [if_neg (by decide), if_pos rfl, h14, me]; exact vtM_0.mpr (va.mv w (rf _) (rf _) (rf _) (fun _ _ => rfl))
/-- LET, REC: the end -/
theorem mm_unb (R : mRel σ0 h σ s (1, nl, (2, nd k z A B C) :: cx, ρ, vs, fs)) (h14 : hd14 cx = none) (hk : k = 13 ∨ k = 14) : ∃ h' σ', exN d 1 h σ h' σ' ∧ mOut σ0 h σ s 0 h' σ' (1, nl, cx, drp (numB (nd k z A B C)) ρ, vs, fs) := by
  obtain ⟨hl, q, e51, ps, vt⟩ := R
  unfold psM at ps
  rw [if_neg (by decide), if_pos rfl] at ps
  obtain ⟨a, c, pe, ln1, cp⟩ := ps
  have bk : 2 ≠ 1 ∧ bk3 (nd k z A B C) = true := ⟨by decide, decide_eq_true (by omega)⟩
  have ln1 := ln1 bk
  rw [if_pos bk] at c cp
  rw [if_neg (show ¬ k = 17 by omega), Int.add_zero] at cp
  have nu : numB (nd k z A B C) = 1 := if_neg (by omega)
  rw [nu] at c cp ln1 ⊢
  have va : vaM h σ0 σ (mOf σ) vs := vtM_0.mp vt
  obtain ⟨⟨pg, p124⟩, ⟨bo, -⟩, re, -⟩ := id q
  have a1 := ln_ge (T := A)
  have a2 := ln_ge (T := B)
  obtain ⟨b, eb, rb, x1, x2⟩ : ∃ b, b = σ 58 64 ∧ (0 ≤ b ∧ b < σ0 58 11 ∧ b + 1 = a + ln (nd k z A B C)) ∧ σ 63 b = 12 ∧ σ 64 b = 1 := by
    obtain ⟨⟨t, ic, -⟩, -, p0, p1⟩ := c
    rcases hk with rfl | rfl
    · have p1 : a + (ln A + ln B + 2) ≤ σ0 58 11 := p1
      have pe : σ 58 64 = a + (ln A + 1 + ln B) := pe
      obtain ⟨x1, x2, -⟩ := pg.row (show cell (prM σ0) (a + ln A + ln B + 1) 12 1 z from ic.2.2.2)
      exact ⟨a + ln A + ln B + 1, by omega, ⟨by omega, by omega, by show _ = a + (ln A + ln B + 2); omega⟩, x1, x2⟩
    · have p1 : a + (ln A + ln B + 3) ≤ σ0 58 11 := p1
      have pe : σ 58 64 = a + (ln A + 2 + ln B) := pe
      obtain ⟨x1, x2, -⟩ := pg.row (show cell (prM σ0) (a + ln A + ln B + 2) 12 1 z from ic.2.2.2.2)
      exact ⟨a + ln A + ln B + 2, by omega, ⟨by omega, by omega, by show _ = a + (ln A + ln B + 3); omega⟩, x1, x2⟩
  obtain ⟨x, X, rx⟩ := x_unb (d := d) eb.symm ⟨rb.1, by omega⟩ x1 x2 bo (by omega) re (by omega)
  refine ⟨h, _, exM.one ⟨ns_of pg p124 eb.symm ⟨rb.1, rb.2.1⟩ x1 (by unfold isSt; omega) (rgk rfl), X⟩, m_at2 q rx e51 hl va h14 ?_⟩
  rw [rb.2.2, nm_drp]; exact cp
end MLEV
