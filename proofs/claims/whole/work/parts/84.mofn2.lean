/-! The model's reader: a function is the grammar's. -/
section MFF
variable {σ τ : Mem} {D : Int}
theorem cell.own {j : Nat} {k z u x y w : Int} (hj : j = 71 ∨ j = 72 ∨ j = 73) (C : cell τ u x y w) : cell (mup τ j k z) u x y w :=
  ⟨(mup_ne (by omega)).trans C.1, (mup_ne (by omega)).trans C.2.1, (mup_ne (by omega)).trans C.2.2⟩
theorem mo_fn {k : Nat} (H : GI σ 0) (hD : σ 58 22 = D) (h16 : σ 58 22 < 16) (hE : GSp (D + 1) 0 (fun ch => pE ch k)) (hc : nx (mch σ) (σ 58 3) = 92) : DnM (pFn (mch σ) (pE (mch σ) k) (σ 58 3)) σ := by
  have HM := H.1
  have h60 := HM.2.1
  have HH := H
  obtain ⟨-, h24, h3, h7, h14, h22, h21, h70, h71, -⟩ := H
  have ug := gu_0
  have ge := sk_ge (ch := mch σ) (p := σ 58 3)
  have sl := mch_lt (σ := σ) (x := sk (mch σ) (σ 58 3)) (fun w => by have w' : nx (mch σ) (σ 58 3) = -1 := w; omega)
  obtain ⟨p1, e1⟩ : ∃ p1, p1 = sk (mch σ) (σ 58 3) + 1 := ⟨_, rfl⟩
  obtain ⟨p2, e2⟩ : ∃ p2, p2 = sk (mch σ) p1 + 1 := ⟨_, rfl⟩
  obtain ⟨p3, e3⟩ : ∃ p3, p3 = wtP (mch σ) 46 p2 := ⟨_, rfl⟩
  obtain ⟨b1, f1⟩ : ∃ b1, b1 = nmB (mch σ) (dpb σ) p1 := ⟨_, rfl⟩
  obtain ⟨b2, f2⟩ : ∃ b2, b2 = wtB (mch σ) 46 b1 p2 := ⟨_, rfl⟩
  obtain ⟨n, en⟩ : ∃ n, n = hr (nx (mch σ) p1) := ⟨_, rfl⟩
  have K := eb_name (c := 92) (t := 46) HH hc (Or.inl ⟨rfl, rfl⟩) e1 e2 e3 f1 f2 en
  have hn : 10 ≤ n ∧ n ≤ 126 := by rw [en]; exact HM.hr_rg _
  have z7 : (mup (Zm (dp1 σ) p3 b2) 72 (σ 58 21 - 1) n) 58 7 = σ 58 7 := (mup_ne (by decide)).trans ((Zm_f (by decide) (by decide)).trans (mup_nk (by decide)))
  have z21 : (mup (Zm (dp1 σ) p3 b2) 72 (σ 58 21 - 1) n) 58 21 = σ 58 21 := (mup_ne (by decide)).trans ((Zm_f (by decide) (by decide)).trans (mup_nk (by decide)))
  have d7 : (dft (mup (Zm (dp1 σ) p3 b2) 72 (σ 58 21 - 1) n) 6 0 n) 58 7 - 1 = σ 58 7 := by rw [dft_at.2.1, z7]; omega
  have d21 : (mup (dft (mup (Zm (dp1 σ) p3 b2) 72 (σ 58 21 - 1) n) 6 0 n) 72 (σ 58 21 - 1) (σ 58 7)) 58 21 = σ 58 21 := (mup_ne (by decide)).trans ((dft_at.1 21 (by decide)).trans z21)
  have Sm := K (aft (mup (dft (mup (Zm (dp1 σ) p3 b2) 72 (σ 58 21 - 1) n) 6 0 n) 72 (σ 58 21 - 1) (σ 58 7)) 1 0) (by
    rw [if_pos (by decide)]
    unfold B_Mo_exprBegins_168
    rw [if_neg (by decide)]
    refine ⟨_, s_put (d := 10) (rgk rfl) (rgk rfl) ⟨by omega, by omega⟩ (by rw [z7]; omega), ⟨by omega, by omega⟩, by rw [d7]; exact ⟨by omega, by omega⟩, ?_⟩
    rw [d7]
    unfold B_Mo_exprBegins_195
    rw [if_neg (by decide)]
    exact ⟨_, s_after (d := 9) (rgk rfl) (rgk rfl) (by rw [d21]; omega), rfl, rfl⟩)
  have fr : frM σ (aft (mup (dft (mup (Zm (dp1 σ) p3 b2) 72 (σ 58 21 - 1) n) 6 0 n) 72 (σ 58 21 - 1) (σ 58 7)) 1 0) := ((((dp1_f.tr frM.Z).tr (frM.mu rfl (by decide))).tr frM.dft).tr (frM.mu rfl (by decide))).tr frM.aft
  have bad : b2 ≠ 0 → Fl σ := fun w => Fl.of Sm fr (Fl.bad (by
    rw [aft_at.1 24 (by decide), mup_ne (by decide), dft_at.1 24 (by decide), mup_ne (by decide), Zm_bad]; exact w))
  have db : dpb σ = 0 := if_pos h16
  have eP : pFn (mch σ) (pE (mch σ) k) (σ 58 3) = (pNm (mch σ) p1).bind fun n => (pEx (mch σ) 46 n.2).bind fun b => (pE (mch σ) k b).map fun x => (nd 12 n.1 x.1 nl nl, x.2) := by
    unfold pFn
    have : pEx (mch σ) 92 (σ 58 3) = some p1 := by unfold pEx; rw [if_pos hc, e1]
    rw [this]; rfl
  rw [eP]
  by_cases l : 97 ≤ nx (mch σ) p1 ∧ nx (mch σ) p1 ≤ 122
  · have eN : pNm (mch σ) p1 = some (nx (mch σ) p1, p2) := by unfold pNm; rw [if_pos l, e2]
    have n1 : n = nx (mch σ) p1 := by rw [en]; unfold hr; rw [if_neg (by omega)]
    rw [eN, Option.bind_some, ← n1]
    dsimp only
    have fb1 : b1 = 0 := by rw [f1]; unfold nmB; rw [if_pos ⟨db, l⟩]
    by_cases w : nx (mch σ) p2 = 46
    · have eX : pEx (mch σ) 46 p2 = some p3 := by unfold pEx; rw [if_pos w, e3]; unfold wtP; rw [if_pos w]
      have fb2 : b2 = 0 := by rw [f2]; unfold wtB; rw [if_pos ⟨w, fb1⟩]
      have ge1 := sk_ge (ch := mch σ) (p := p1)
      have ge2 := sk_ge (ch := mch σ) (p := p2)
      have e3' : p3 = sk (mch σ) p2 + 1 := by rw [e3]; unfold wtP; rw [if_pos w]
      have sl2 := mch_lt (σ := σ) (x := sk (mch σ) p2) (fun v => by have v' : nx (mch σ) p2 = -1 := v; omega)
      rw [eX, Option.bind_some]
      clear bad K fr
      subst fb2
      have S := (((dp1_pg HH (q := p3) ⟨by omega, by omega⟩).own (j := 72) (z := n) (Or.inr (Or.inl rfl))).put (x := 6) (y := 0) (z := n) (Int.le_refl 0)).own (j := 72) (z := σ 58 7) (Or.inr (Or.inl rfl))
      have C0 : cell (mup (dft (mup (Zm (dp1 σ) p3 0) 72 (σ 58 21 - 1) n) 6 0 n) 72 (σ 58 21 - 1) (σ 58 7)) (σ 58 7) 6 0 n := by
        have := (dft_at (τ := mup (Zm (dp1 σ) p3 0) 72 (σ 58 21 - 1) n) (x := 6) (y := 0) (z := n)).2.2.1
        rw [z7] at this
        exact this.own (Or.inr (Or.inl rfl))
      have e72 : (mup (dft (mup (Zm (dp1 σ) p3 0) 72 (σ 58 21 - 1) n) 6 0 n) 72 (σ 58 21 - 1) (σ 58 7)) 72 (σ 58 21 - 1) = σ 58 7 := mup_eq
      rw [show (0 : Int) + 1 = 1 from rfl] at S
      generalize mup (dft (mup (Zm (dp1 σ) p3 0) 72 (σ 58 21 - 1) n) 6 0 n) 72 (σ 58 21 - 1) (σ 58 7) = τa at *
      have gi := S.gi (s := 1) (g := 0) HM (by omega) (by omega) (by omega) (by omega) (by omega)
      have B := S.begun (by decide) (Int.le_refl 0) h21.1 gi (by omega) hE
      cases hU : pE (mch σ) k p3 with
      | none =>
        rw [hU] at B
        exact Fl.of Sm (S.1.tr frM.aft) B
      | some t =>
        obtain ⟨U, q2⟩ := t
        rw [hU] at B
        obtain ⟨τ2, sm2, S3, x1, x2, ⟨x3, x4, x5⟩, C3, kD, kS⟩ := B
        have lU := pE_l k _ _ _ hU
        have g1 := ln_ge (T := U)
        have g2 := sn_ge (T := U)
        rw [Int.zero_add] at S3
        rw [Int.add_zero] at C3
        have s7 := S3.2.2.2.2.2.2.2.2.2.1
        have E1 := eg1 HH S3 x3 (x4.trans e72) (by omega) (by omega)
        have v7 : (dft τ2 7 0 (σ 58 7)) 58 7 = σ 58 7 + ln U + 2 := by rw [dft_at.2.1]; omega
        rw [v7] at E1
        have S5 := (S3.put (x := 7) (y := 0) (z := σ 58 7) (by omega)).fix (x := σ 58 7) (z := σ 58 7 + ln U + 2) (Int.le_refl _)
        have l1 : 1 + ln U + 1 = ln (nd 12 n U nl nl) := by show _ = ln U + 2; omega
        have l2 : sn U = sn (nd 12 n U nl nl) := by show _ = sn U + 0 + 0; omega
        rw [l1, l2] at S5
        refine ⟨_, (Sm.tr sm2).tr E1, S5.popD ?_⟩
        refine ⟨?_, ?_, ?_⟩
        · exact ((C0.kp kD h7.1 (by omega)).kp (dft_kD (n := τ2 58 7) (Int.le_refl _)) h7.1 (by omega)).set
        · exact (kpD.isC (by omega) h14.1 (dft_kD (n := τ2 58 7) (Int.le_refl _)) (dft_kS (n := σ 58 14 + sn U)) (by omega) (Int.le_refl _) C3).fix (Or.inl (by omega))
        · have := (dft_at (τ := τ2) (x := 7) (y := 0) (z := σ 58 7)).2.2.1
          rw [s7, show σ 58 7 + (1 + ln U) = σ 58 7 + ln U + 1 by omega] at this
          exact this.fix (by omega)
    · have eX : pEx (mch σ) 46 p2 = none := by unfold pEx; rw [if_neg w]
      rw [eX, Option.bind_none]
      exact bad (by rw [f2]; unfold wtB; rw [if_neg (fun h => w h.1)]; decide)
  · have eN : pNm (mch σ) p1 = none := by unfold pNm; rw [if_neg l]
    rw [eN, Option.bind_none]
    have fb1 : b1 = 1 := by rw [f1]; unfold nmB; rw [if_neg (fun h => l h.2)]
    exact bad (by rw [f2]; unfold wtB; rw [if_neg (fun h => by have := h.2; omega)]; decide)
end MFF
