/-! The model's reader: a let is the grammar's. -/
section MLL
variable {σ τ : Mem} {D : Int}
theorem mo_let {k : Nat} (H : GI σ 0) (hD : σ 58 22 = D) (h16 : σ 58 22 < 16) (hE : GSp (D + 1) 0 (fun ch => pE ch k)) (hc : nx (mch σ) (σ 58 3) = 33) : DnM (pLet (mch σ) (pE (mch σ) k) (σ 58 3)) σ := by
  have HM := H.1
  have h60 := HM.2.1
  have HH := H
  obtain ⟨-, h24, h3, h7, h14, h22, h21, h70, h71, -⟩ := H
  have ug := gu_0
  have ge := sk_ge (ch := mch σ) (p := σ 58 3)
  have sl := mch_lt (σ := σ) (x := sk (mch σ) (σ 58 3)) (fun w => by have w' : nx (mch σ) (σ 58 3) = -1 := w; omega)
  obtain ⟨p1, e1⟩ : ∃ p1, p1 = sk (mch σ) (σ 58 3) + 1 := ⟨_, rfl⟩
  obtain ⟨p2, e2⟩ : ∃ p2, p2 = sk (mch σ) p1 + 1 := ⟨_, rfl⟩
  obtain ⟨p3, e3⟩ : ∃ p3, p3 = wtP (mch σ) 61 p2 := ⟨_, rfl⟩
  obtain ⟨b1, f1⟩ : ∃ b1, b1 = nmB (mch σ) (dpb σ) p1 := ⟨_, rfl⟩
  obtain ⟨b2, f2⟩ : ∃ b2, b2 = wtB (mch σ) 61 b1 p2 := ⟨_, rfl⟩
  obtain ⟨n, en⟩ : ∃ n, n = hr (nx (mch σ) p1) := ⟨_, rfl⟩
  have K := eb_name (c := 33) (t := 61) HH hc (Or.inr (Or.inl ⟨rfl, rfl⟩)) e1 e2 e3 f1 f2 en
  have hn : 10 ≤ n ∧ n ≤ 126 := by rw [en]; exact HM.hr_rg _
  have z21 : (mup (Zm (dp1 σ) p3 b2) 72 (σ 58 21 - 1) n) 58 21 = σ 58 21 := (mup_ne (by decide)).trans ((Zm_f (by decide) (by decide)).trans (mup_nk (by decide)))
  have Sm := K (aft (mup (Zm (dp1 σ) p3 b2) 72 (σ 58 21 - 1) n) 2 0) (by
    rw [if_pos (by decide)]
    unfold B_Mo_exprBegins_168
    rw [if_pos (by decide)]
    unfold B_Mo_exprBegins_195
    rw [if_pos (by decide), if_neg (by decide)]
    exact ⟨_, s_after (d := 9) (rgk rfl) (rgk rfl) (by rw [z21]; omega), rfl, rfl⟩)
  have fr : frM σ (aft (mup (Zm (dp1 σ) p3 b2) 72 (σ 58 21 - 1) n) 2 0) := ((dp1_f.tr frM.Z).tr (frM.mu rfl (by decide))).tr frM.aft
  have bad : b2 ≠ 0 → Fl σ := fun w => Fl.of Sm fr (Fl.bad (by
    rw [aft_at.1 24 (by decide), mup_ne (by decide), Zm_bad]; exact w))
  have db : dpb σ = 0 := if_pos h16
  have eP : pLet (mch σ) (pE (mch σ) k) (σ 58 3) = (pNm (mch σ) p1).bind fun n => (pEx (mch σ) 61 n.2).bind fun b => (pE (mch σ) k b).bind fun x => (pEx (mch σ) 59 x.2).bind fun c => (pE (mch σ) k c).map fun y => (nd 13 n.1 x.1 y.1 nl, y.2) := by
    unfold pLet
    have : pEx (mch σ) 33 (σ 58 3) = some p1 := by unfold pEx; rw [if_pos hc, e1]
    rw [this]; rfl
  rw [eP]
  by_cases l : 97 ≤ nx (mch σ) p1 ∧ nx (mch σ) p1 ≤ 122
  · have eN : pNm (mch σ) p1 = some (nx (mch σ) p1, p2) := by unfold pNm; rw [if_pos l, e2]
    have n1 : n = nx (mch σ) p1 := by rw [en]; unfold hr; rw [if_neg (by omega)]
    rw [eN, Option.bind_some, ← n1]
    dsimp only
    have fb1 : b1 = 0 := by rw [f1]; unfold nmB; rw [if_pos ⟨db, l⟩]
    by_cases w : nx (mch σ) p2 = 61
    · have eX : pEx (mch σ) 61 p2 = some p3 := by unfold pEx; rw [if_pos w, e3]; unfold wtP; rw [if_pos w]
      have fb2 : b2 = 0 := by rw [f2]; unfold wtB; rw [if_pos ⟨w, fb1⟩]
      have ge1 := sk_ge (ch := mch σ) (p := p1)
      have ge2 := sk_ge (ch := mch σ) (p := p2)
      have e3' : p3 = sk (mch σ) p2 + 1 := by rw [e3]; unfold wtP; rw [if_pos w]
      have sl2 := mch_lt (σ := σ) (x := sk (mch σ) p2) (fun v => by have v' : nx (mch σ) p2 = -1 := v; omega)
      rw [eX, Option.bind_some]
      clear bad K fr
      subst fb2
      have S := (dp1_pg HH (q := p3) ⟨by omega, by omega⟩).own (j := 72) (z := n) (Or.inr (Or.inl rfl))
      have e72 : (mup (Zm (dp1 σ) p3 0) 72 (σ 58 21 - 1) n) 72 (σ 58 21 - 1) = n := mup_eq
      generalize mup (Zm (dp1 σ) p3 0) 72 (σ 58 21 - 1) n = τa at *
      have gi := S.gi (s := 2) (g := 0) HM (by omega) (by omega) (by omega) (by omega) (by omega)
      have B := S.begun (Int.le_refl 0) (Int.le_refl 0) h21.1 gi (by omega) hE
      cases hU : pE (mch σ) k p3 with
      | none =>
        rw [hU] at B
        exact Fl.of Sm (S.1.tr frM.aft) B
      | some t =>
        obtain ⟨U, q2⟩ := t
        rw [hU] at B
        obtain ⟨τ2, sm2, S3, x1, x2, ⟨x3, x4, x5⟩, C3, kD, kS⟩ := B
        have lU := pE_l k _ _ _ hU
        have g1 := ln_ge (T := U)
        have g2 := sn_ge (T := U)
        rw [Int.zero_add, Int.zero_add] at S3
        rw [Int.add_zero, Int.add_zero] at C3
        have q0 := S3.2.2.2.1
        have E1 := eg23 (Or.inl rfl) HH S3 x3 (x4.trans e72) ⟨by omega, by omega⟩ g1 (by omega)
        have S0 := (Sm.tr sm2).tr E1
        rw [Option.bind_some]
        dsimp only
        by_cases w2 : nx (mch σ) q2 = 59
        · have eW : wtP (mch σ) 59 q2 = sk (mch σ) q2 + 1 := if_pos w2
          have eB : wtB (mch σ) 59 0 q2 = 0 := if_pos ⟨w2, rfl⟩
          have eY : pEx (mch σ) 59 q2 = some (sk (mch σ) q2 + 1) := by unfold pEx; rw [if_pos w2]
          rw [eY, Option.bind_some]
          rw [eW, eB, show (8 : Int) + 2 = 10 from rfl] at S0
          have ge3 := sk_ge (ch := mch σ) (p := q2)
          have sl3 := mch_lt (σ := σ) (x := sk (mch σ) q2) (fun v => by have v' : nx (mch σ) q2 = -1 := v; omega)
          have S4 := (S3.Z (q' := sk (mch σ) q2 + 1) ⟨by omega, by omega⟩).put (x := 10) (y := 0) (z := n) g1
          have z7 : (Zm τ2 (sk (mch σ) q2 + 1) 0) 58 7 = σ 58 7 + ln U := (Zm_f (by decide) (by decide)).trans S3.2.2.2.2.2.2.2.2.2.1
          have C0 := (dft_at (τ := Zm τ2 (sk (mch σ) q2 + 1) 0) (x := 10) (y := 0) (z := n)).2.2.1
          rw [z7] at C0
          have C4 : isC (dft (Zm τ2 (sk (mch σ) q2 + 1) 0) 10 0 n) U (σ 58 7) (σ 58 14) := kpD.isC h7.1 h14.1 (dft_kD (n := σ 58 7 + ln U) (by omega)) (dft_kS (n := σ 58 14 + sn U)) (Int.le_refl _) (Int.le_refl _) C3.Z
          have y72 : (dft (Zm τ2 (sk (mch σ) q2 + 1) 0) 10 0 n) 72 (σ 58 21 - 1) = n := by rw [dft_at.2.2.2.2 72 (by decide) (by decide) (by decide) (by decide), Zm_o (by decide)]; exact x4.trans e72
          generalize dft (Zm τ2 (sk (mch σ) q2 + 1) 0) 10 0 n = τb at *
          have gi2 := S4.gi (s := 4) (g := 0) HM (by omega) (by omega) (by omega) (by omega) (by omega)
          have B2 := S4.begun (by omega) g2 h21.1 gi2 (by omega) hE
          cases hV : pE (mch σ) k (sk (mch σ) q2 + 1) with
          | none =>
            rw [hV] at B2
            exact Fl.of S0 (S4.1.tr frM.aft) B2
          | some t =>
            obtain ⟨V, q4⟩ := t
            rw [hV] at B2
            obtain ⟨τ4, sm4, S5, y1, y2, ⟨y3, y4, y5⟩, C5, kD2, kS2⟩ := B2
            have lV := pE_l k _ _ _ hV
            have g3 := ln_ge (T := V)
            have g4 := sn_ge (T := V)
            have E4 := eg4 HH S5 y3 (y4.trans y72) ⟨by omega, by omega⟩ (by omega) (by omega)
            have s7 := S5.2.2.2.2.2.2.2.2.2.1
            have S6 := S5.put (x := 12) (y := 1) (z := n) (by omega)
            have l1 : ln U + 1 + ln V + 1 = ln (nd 13 n U V nl) := by show _ = ln U + ln V + 2; omega
            have l2 : sn U + sn V = sn (nd 13 n U V nl) := by show _ = sn U + sn V + 0; omega
            rw [l1, l2] at S6
            refine ⟨_, (S0.tr sm4).tr E4, S6.popD ⟨?_, ?_, ?_, ?_⟩⟩
            · exact kpD.isC h7.1 h14.1 (dft_kD (n := τ4 58 7) (Int.le_refl _)) (dft_kS (n := σ 58 14 + sn U)) (by omega) (Int.le_refl _) (kpD.isC h7.1 h14.1 kD2 kS2 (by omega) (Int.le_refl _) C4)
            · exact (C0.kp kD2 (by omega) (by omega)).kp (dft_kD (n := τ4 58 7) (Int.le_refl _)) (by omega) (by omega)
            · have : isC (dft τ4 12 1 n) V (σ 58 7 + (ln U + 1)) (σ 58 14 + sn U) := kpD.isC (by omega) (by omega) (dft_kD (n := τ4 58 7) (Int.le_refl _)) (dft_kS (n := σ 58 14 + sn U + sn V)) (by omega) (Int.le_refl _) C5
              rwa [show σ 58 7 + (ln U + 1) = σ 58 7 + ln U + 1 by omega] at this
            · have := (dft_at (τ := τ4) (x := 12) (y := 1) (z := n)).2.2.1
              rwa [s7, show σ 58 7 + (ln U + 1 + ln V) = σ 58 7 + ln U + ln V + 1 by omega] at this
        · have eY : pEx (mch σ) 59 q2 = none := by unfold pEx; rw [if_neg w2]
          rw [eY, Option.bind_none]
          have eB : wtB (mch σ) 59 0 q2 = 1 := if_neg (fun h => w2 h.1)
          rw [eB] at S0
          refine Fl.of S0 (((S3.1.tr frM.Z).tr frM.dft).tr frM.aft) (Fl.bad ?_)
          rw [aft_at.1 24 (by decide), dft_at.1 24 (by decide), Zm_bad]; decide
    · have eX : pEx (mch σ) 61 p2 = none := by unfold pEx; rw [if_neg w]
      rw [eX, Option.bind_none]
      exact bad (by rw [f2]; unfold wtB; rw [if_neg (fun h => w h.1)]; decide)
  · have eN : pNm (mch σ) p1 = none := by unfold pNm; rw [if_neg l]
    rw [eN, Option.bind_none]
    have fb1 : b1 = 1 := by rw [f1]; unfold nmB; rw [if_neg (fun h => l h.2)]
    exact bad (by rw [f2]; unfold wtB; rw [if_neg (fun h => by have := h.2; omega)]; decide)
end MLL
