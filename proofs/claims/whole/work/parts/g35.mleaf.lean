/-! The model's run: leaves and functions are entered. -/
section MLEAF
variable {h h' h1 : mHp} {σ0 σ σ' σ1 : Mem} {d : Nat} {P : Tr → List Int → Int → Prop} {m : MBd} {b s : Int} {ρ : En} {cx : Cx} {fs : List (Cx × En)} {vs : List Va} {v : Va}
/-- an instruction's rows -/
theorem pgM.row (g : pgM σ0 σ) {p x y z : Int} (c : cell (prM σ0) p x y z) : σ 63 p = x ∧ σ 64 p = y ∧ σ 65 p = z := by
  obtain ⟨c1, c2, c3⟩ : σ0 63 p = x ∧ σ0 64 p = y ∧ σ0 65 p = z := c
  rw [g.1 63 (by omega), g.1 64 (by omega), g.1 65 (by omega)]
  exact ⟨c1, c2, c3⟩
/-- the end of an instruction that isn't a jump -/
theorem e_231 {x2 x3 : Int} (h6 : x3 ≠ 6) (h14 : x3 ≠ 14) : B_Mo_execute_231 d x2 x3 h σ (.inl none) h σ := by
  unfold B_Mo_execute_231
  rw [if_neg h6, if_pos h14]
  exact ⟨rfl, rfl, rfl⟩
/-- a leaf is entered -/
theorem mm_leaf {k : Nat} {z : Int} {A B C : Tr} (R : mRel σ0 h σ s (0, nd k z A B C, cx, ρ, vs, fs)) (W : wkV (0, nd k z A B C, cx, ρ, vs, fs)) (I : wkC (0, nd k z A B C, cx, ρ, vs, fs)) (hk : k ≤ 5) (M0 : RM σ0) : ∃ h' σ', Rh (d + 7) yMo_execute [.ref 58] h σ (.inl none) h' σ' ∧ mOut σ0 h σ s 0 h' σ' (1, nl, cx, ρ, lfV k z (nd k z A B C) ρ :: vs, fs) := by
  have ww : wf (nd k z A B C) := by
    rcases W.1.1 with e | e | e
    · exact e.2.2
    · cases e
    · cases e.1
  obtain ⟨hl, q, e51, ps, vt⟩ := R
  have h14 : hd14 cx = none := by
    obtain ⟨-, -, -, w2⟩ := I
    revert w2
    cases hd14 cx with
    | none => intro _; rfl
    | some y => intro w2; have : k = 12 := w2.1; omega
  unfold psM at ps
  rw [if_pos rfl, h14] at ps
  obtain ⟨⟨⟨t, ic, -⟩, iN, pr⟩, cp⟩ := ps
  have iN : isN (prM σ0) (nd k z A B C) (σ 58 64) (nmEn ρ) := iN
  have va : vaM h σ0 σ (mOf σ) vs := vtM_0.mp vt
  obtain ⟨⟨pg, p124⟩, ⟨bo, -⟩, re, -⟩ := id q
  generalize hp : σ 58 64 = p at ic iN pr cp
  have l1 : ln (nd k z A B C) = 1 := by
    have : k = 0 ∨ k = 1 ∨ k = 2 ∨ k = 3 ∨ k = 4 ∨ k = 5 := by omega
    rcases this with rfl | rfl | rfl | rfl | rfl | rfl <;> rfl
  rw [l1] at cp pr
  have gp : rg p := by unfold rg; omega
  have gp1 : rg (p + 1) := by unfold rg; omega
  have rp : 0 ≤ p ∧ p < 124 := by omega
  have tn : ∀ {v : Va} {y : Int}, RMv h σ (pfM σ0) (mOf σ) v false y → tpM σ0 h σ (mOf σ) (hd14 cx) v y := fun r => by rw [h14]; exact r
  have hk : k = 0 ∨ k = 1 ∨ k = 2 ∨ k = 3 ∨ k = 4 ∨ k = 5 := by omega
  rcases hk with rfl | rfl | rfl | rfl | rfl | rfl
  · have hz : 0 ≤ z ∧ z ≤ 9999 := ww.1
    have gz : rg z := by unfold rg; omega
    obtain ⟨x1, x2, -⟩ := pg.row (show cell (prM σ0) p 0 z 0 from ic)
    obtain ⟨h', σ', K, o⟩ := m_known (d := d + 3) (v := vN z) (k := 0) (u := z) (rgk rfl) gz q va hl e51 cp (tn ⟨by omega, gz⟩)
    refine ⟨h', σ', M_Mo_execute ?_, o⟩
    unfold B_Mo_execute
    rw [hp, x1, x2, if_neg (by decide)]
    exact ⟨gp, rp, rp, gp1, rgk rfl, h', σ', K, gz, e_231 (by decide) (by decide)⟩
  · have hz : 0 ≤ z ∧ z ≤ 9999999 := ww.1
    have gz : rg z := by unfold rg; omega
    obtain ⟨x1, x2, -⟩ := pg.row (show cell (prM σ0) p 2 z 0 from ic)
    obtain ⟨h', σ', K, o⟩ := m_known (d := d + 3) (v := vR (FP.ddiv (FP.i2d (Int32.ofInt z)) (FP.i2d 1000))) (k := 1) (u := z) (rgk rfl) gz q va hl e51 cp (tn (Or.inl ⟨z, rfl, hz, vR_at⟩))
    refine ⟨h', σ', M_Mo_execute ?_, o⟩
    unfold B_Mo_execute
    rw [hp, x1, x2, if_pos (by decide), if_neg (by decide)]
    exact ⟨gp, rp, rp, gp1, rgk rfl, h', σ', K, gz, e_231 (by decide) (by decide)⟩
  · have hz : z = 0 ∨ z = 1 := ww.1
    have gz : rg z := by unfold rg; omega
    obtain ⟨x1, x2, -⟩ := pg.row (show cell (prM σ0) p 1 z 0 from ic)
    obtain ⟨h', σ', K, o⟩ := m_known (d := d + 3) (v := vB z) (k := 0) (u := z) (rgk rfl) gz q va hl e51 cp (tn ⟨by omega, gz⟩)
    refine ⟨h', σ', M_Mo_execute ?_, o⟩
    unfold B_Mo_execute
    rw [hp, x1, x2, if_neg (by decide)]
    exact ⟨gp, rp, rp, gp1, rgk rfl, h', σ', K, gz, e_231 (by decide) (by decide)⟩
  · obtain ⟨x1, x2, -⟩ := pg.row (show cell (prM σ0) p 3 0 0 from ic)
    obtain ⟨h', σ', K, o⟩ := m_known (d := d + 3) (v := vE) (k := 3) (u := 0) (rgk rfl) (rgk rfl) q va hl e51 cp (tn (show (8 * 0 + 3 : Int) = 3 by decide))
    refine ⟨h', σ', M_Mo_execute ?_, o⟩
    unfold B_Mo_execute
    rw [hp, x1, x2, if_pos (by decide), if_pos (by decide), if_neg (by decide)]
    exact ⟨gp, rp, rp, gp1, rgk rfl, h', σ', K, rgk rfl, e_231 (by decide) (by decide)⟩
  · have hz : z = 82 ∨ z = 73 := ww.1
    have gz : rg z := by unfold rg; omega
    obtain ⟨x1, x2, -⟩ := pg.row (show cell (prM σ0) p 4 z 0 from ic)
    obtain ⟨h', σ', K, o⟩ := m_known (d := d + 3) (v := vI z) (k := 5) (u := z) (rgk rfl) gz q va hl e51 cp (tn ⟨rfl, gz⟩)
    refine ⟨h', σ', M_Mo_execute ?_, o⟩
    unfold B_Mo_execute
    rw [hp, x1, x2, if_pos (by decide), if_pos (by decide), if_pos (by decide), if_neg (by decide)]
    exact ⟨gp, rp, rp, gp1, rgk rfl, h', σ', K, gz, e_231 (by decide) (by decide)⟩
  · have hm : z ∈ nmEn ρ := wkC.nm I rfl
    obtain ⟨ρ', -, i0, i1⟩ := ix_drp hm
    obtain ⟨c1, -⟩ : σ0 63 p = 5 ∧ σ0 65 p = z := ic
    have c2 : σ0 64 p = ix z (nmEn ρ) := iN
    have gi : rg (ix z (nmEn ρ)) := by rw [← c2]; exact M0 64 p
    have x1 : σ 63 p = 5 := by rw [pg.1 63 (by omega)]; exact c1
    have x2 : σ 64 p = ix z (nmEn ρ) := by rw [pg.1 64 (by omega)]; exact c2
    have w : smM (mOf σ) h h σ (mup σ 58 64 (p + 1)) := ⟨fun _ _ _ => ⟨rfl, rfl⟩, fun _ _ _ => rfl, fun _ _ _ => ⟨rfl, mup_ne (by decide)⟩⟩
    have rf : ∀ x : Int, x ≤ x := fun x => Int.le_refl x
    have re2 : RMv h (mup σ 58 64 (p + 1)) (pfM σ0) (mOf σ) ρ true ((mup σ 58 64 (p + 1)) 58 58) := by
      rw [mup_nk (by decide)]; exact re.mv w (rf _) (rf _) (rf _)
    obtain ⟨e, y, F, he, ey, ry⟩ := r_mlk (d := d + 4) bo hm gi re2
    have w2 : smM (mOf σ) h h (mup σ 58 64 (p + 1)) σ := ⟨fun _ _ _ => ⟨rfl, rfl⟩, fun _ _ _ => rfl, fun _ _ _ => ⟨rfl, (mup_ne (by decide)).symm⟩⟩
    have ry2 : RMv h σ (pfM σ0) (mOf σ) (lkp z ρ) false y := ry.mv w2 (rf _) (rf _) (rf _)
    obtain ⟨h', σ', K, o⟩ := m_knownV (d := d + 2) (v := lkp z ρ) (ry2.nu bo) q va hl e51 cp (tn ry2)
    refine ⟨h', σ', M_Mo_execute ?_, o⟩
    unfold B_Mo_execute
    rw [hp, x1, x2, if_pos (by decide), if_pos (by decide), if_pos (by decide), if_pos (by decide), if_neg (by decide)]
    exact ⟨gp, rp, rp, gp1, rgk rfl, e, h, mup σ 58 64 (p + 1), F, by unfold rg; omega, ⟨by omega, by omega⟩, y, ey, h', σ', K, gi, e_231 (by decide) (by decide)⟩
end MLEAF
