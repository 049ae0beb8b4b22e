/-! The model's reader: a recursion is the grammar's. -/
section MRC
variable {σ τ : Mem} {D : Int}
theorem r156 {ω : Mem} {n t : Int} (H : GI σ 0) (hn : rg n) (ht : t = 0 ∨ t = 1) (h7 : ω 58 7 = σ 58 7) (h21 : ω 58 21 = σ 58 21) : B_Mo_exprBegins_156 11 (σ 58 21 - 1) 64 n t ω none (aft (dft (mup ω 58 24 t) 19 0 n) 3 0) := by
  have h60 := H.1.2.1
  obtain ⟨-, h24, h3, h7', h14, h22, h21', -⟩ := H
  have ug := gu_0
  have z7 : (mup ω 58 24 t) 58 7 = σ 58 7 := (mup_nk (by decide)).trans h7
  have z21 : (dft (mup ω 58 24 t) 19 0 n) 58 21 = σ 58 21 := (dft_at.1 21 (by decide)).trans ((mup_nk (by decide)).trans h21)
  refine ⟨ht, _, s_put (d := 10) (rgk rfl) (rgk rfl) hn (by omega), ?_⟩
  unfold B_Mo_exprBegins_168
  rw [if_pos (by decide)]
  unfold B_Mo_exprBegins_195
  rw [if_pos (by decide), if_pos (by decide)]
  exact ⟨_, s_after (d := 9) (rgk rfl) (rgk rfl) (by rw [z21]; omega), rfl, rfl⟩
theorem mo_rec {k : Nat} (H : GI σ 0) (hD : σ 58 22 = D) (h16 : σ 58 22 < 16) (hE : GSp (D + 1) 0 (fun ch => pE ch k)) (hc : nx (mch σ) (σ 58 3) = 64) : DnM (pRec (mch σ) (pE (mch σ) k) (σ 58 3)) σ := by
  have HM := H.1
  have h60 := HM.2.1
  have HH := H
  obtain ⟨-, h24, h3, h7, h14, h22, h21, h70, h71, -⟩ := H
  have ug := gu_0
  have ge := sk_ge (ch := mch σ) (p := σ 58 3)
  have sl := mch_lt (σ := σ) (x := sk (mch σ) (σ 58 3)) (fun w => by have w' : nx (mch σ) (σ 58 3) = -1 := w; omega)
  obtain ⟨p1, e1⟩ : ∃ p1, p1 = sk (mch σ) (σ 58 3) + 1 := ⟨_, rfl⟩
  obtain ⟨p2, e2⟩ : ∃ p2, p2 = sk (mch σ) p1 + 1 := ⟨_, rfl⟩
  obtain ⟨p3, e3⟩ : ∃ p3, p3 = wtP (mch σ) 61 p2 := ⟨_, rfl⟩
  obtain ⟨b1, f1⟩ : ∃ b1, b1 = nmB (mch σ) (dpb σ) p1 := ⟨_, rfl⟩
  obtain ⟨b2, f2⟩ : ∃ b2, b2 = wtB (mch σ) 61 b1 p2 := ⟨_, rfl⟩
  obtain ⟨n, en⟩ : ∃ n, n = hr (nx (mch σ) p1) := ⟨_, rfl⟩
  have K := eb_name (c := 64) (t := 61) HH hc (Or.inr (Or.inr ⟨rfl, rfl⟩)) e1 e2 e3 f1 f2 en
  have hn : 10 ≤ n ∧ n ≤ 126 := by rw [en]; exact HM.hr_rg _
  have z21 : (mup (Zm (dp1 σ) p3 b2) 72 (σ 58 21 - 1) n) 58 21 = σ 58 21 := (mup_ne (by decide)).trans ((Zm_f (by decide) (by decide)).trans (mup_nk (by decide)))
  have z7 : (mup (Zm (dp1 σ) p3 b2) 72 (σ 58 21 - 1) n) 58 7 = σ 58 7 := (mup_ne (by decide)).trans ((Zm_f (by decide) (by decide)).trans (mup_nk (by decide)))
  have fr0 : frM σ (mup (Zm (dp1 σ) p3 b2) 72 (σ 58 21 - 1) n) := (dp1_f.tr frM.Z).tr (frM.mu rfl (by decide))
  have bad : b2 ≠ 0 → Fl σ := fun w => by
    have Sm := K (aft (dft (mup (mup (Zm (dp1 σ) p3 b2) 72 (σ 58 21 - 1) n) 58 24 1) 19 0 n) 3 0) (by
      rw [if_neg (by decide), if_pos w]
      unfold B_Mo_exprBegins_151
      exact r156 HH ⟨by omega, by omega⟩ (Or.inr rfl) z7 z21)
    refine Fl.of Sm (((fr0.tr (frM.m8 (by unfold mfP; omega))).tr frM.dft).tr frM.aft) (Fl.bad ?_)
    rw [aft_at.1 24 (by decide), dft_at.1 24 (by decide), mup_eq]; decide
  have db : dpb σ = 0 := if_pos h16
  have eP : pRec (mch σ) (pE (mch σ) k) (σ 58 3) = (pNm (mch σ) p1).bind fun n => (pEx (mch σ) 61 n.2).bind fun b => (if nx (mch σ) b = 92 then pE (mch σ) k (sk (mch σ) b) else none).bind fun x => (pEx (mch σ) 59 x.2).bind fun c => (pE (mch σ) k c).map fun y => (nd 14 n.1 x.1 y.1 nl, y.2) := by
    unfold pRec
    have : pEx (mch σ) 64 (σ 58 3) = some p1 := by unfold pEx; rw [if_pos hc, e1]
    rw [this]; rfl
  rw [eP]
  by_cases l : 97 ≤ nx (mch σ) p1 ∧ nx (mch σ) p1 ≤ 122
  · have eN : pNm (mch σ) p1 = some (nx (mch σ) p1, p2) := by unfold pNm; rw [if_pos l, e2]
    have n1 : n = nx (mch σ) p1 := by rw [en]; unfold hr; rw [if_neg (by omega)]
    rw [eN, Option.bind_some, ← n1]
    dsimp only
    have fb1 : b1 = 0 := by rw [f1]; unfold nmB; rw [if_pos ⟨db, l⟩]
    by_cases w : nx (mch σ) p2 = 61
    · have eX : pEx (mch σ) 61 p2 = some p3 := by unfold pEx; rw [if_pos w, e3]; unfold wtP; rw [if_pos w]
      have fb2 : b2 = 0 := by rw [f2]; unfold wtB; rw [if_pos ⟨w, fb1⟩]
      have ge1 := sk_ge (ch := mch σ) (p := p1)
      have ge2 := sk_ge (ch := mch σ) (p := p2)
      have e3' : p3 = sk (mch σ) p2 + 1 := by rw [e3]; unfold wtP; rw [if_pos w]
      have sl2 := mch_lt (σ := σ) (x := sk (mch σ) p2) (fun v => by have v' : nx (mch σ) p2 = -1 := v; omega)
      rw [eX, Option.bind_some]
      subst fb2
      have S0' := (dp1_pg HH (q := p3) ⟨by omega, by omega⟩).own (j := 72) (z := n) (Or.inr (Or.inl rfl))
      have e72' : (mup (Zm (dp1 σ) p3 0) 72 (σ 58 21 - 1) n) 72 (σ 58 21 - 1) = n := mup_eq
      have K := fun m hm => K m (Eq.mpr (if_neg (fun h => h rfl)) (Eq.mpr (if_neg (fun h => h rfl)) hm))
      clear bad
      generalize mup (Zm (dp1 σ) p3 0) 72 (σ 58 21 - 1) n = ρ at *
      have N := s_peek (d := 9) (b := 0) (σ := ρ) (q := p3) (S0'.1.mi HM) ⟨by omega, by omega⟩
      rw [S0'.id, S0'.1.ch] at N
      have ge5 := sk_ge (ch := mch σ) (p := p3)
      have sin5 : sk (mch σ) p3 ≤ σ 58 2 := skf_in (fun x e => (mch_lt (by omega)).2) 60 p3 (by omega)
      have y7 : (Zm ρ (sk (mch σ) p3) 0) 58 7 = σ 58 7 := (Zm_f (by decide) (by decide)).trans z7
      have y21 : (Zm ρ (sk (mch σ) p3) 0) 58 21 = σ 58 21 := (Zm_f (by decide) (by decide)).trans z21
      have er : hr (nx (mch σ) p3) = 92 ↔ nx (mch σ) p3 = 92 := HM.hr_eq (by decide) (by decide)
      by_cases w5 : nx (mch σ) p3 = 92
      case neg =>
        rw [if_neg w5, Option.bind_none]
        have Sm := K (aft (dft (mup (Zm ρ (sk (mch σ) p3) 0) 58 24 1) 19 0 n) 3 0) ⟨_, _, N, by
          rw [if_neg (fun h => w5 (er.mp h))]
          unfold B_Mo_exprBegins_151
          exact r156 HH ⟨by omega, by omega⟩ (Or.inr rfl) y7 y21⟩
        refine Fl.of Sm ((((fr0.tr frM.Z).tr (frM.m8 (by unfold mfP; omega))).tr frM.dft).tr frM.aft) (Fl.bad ?_)
        rw [aft_at.1 24 (by decide), dft_at.1 24 (by decide), mup_eq]; decide
      rw [if_pos w5]
      have Sm := K (aft (dft (mup (Zm ρ (sk (mch σ) p3) 0) 58 24 0) 19 0 n) 3 0) ⟨_, _, N, by
        rw [if_pos (er.mpr w5)]
        exact r156 HH ⟨by omega, by omega⟩ (Or.inl rfl) y7 y21⟩
      rw [Zm_24] at Sm
      have S := (S0'.Z (q' := sk (mch σ) p3) ⟨by omega, sin5⟩).put (x := 19) (y := 0) (z := n) (Int.le_refl 0)
      have C00 : cell (dft (Zm ρ (sk (mch σ) p3) 0) 19 0 n) (σ 58 7) 19 0 n := by
        have := (dft_at (τ := Zm ρ (sk (mch σ) p3) 0) (x := 19) (y := 0) (z := n)).2.2.1
        rwa [y7] at this
      have e72 : (dft (Zm ρ (sk (mch σ) p3) 0) 19 0 n) 72 (σ 58 21 - 1) = n := by rw [dft_at.2.2.2.2 72 (by decide) (by decide) (by decide) (by decide), Zm_o (by decide)]; exact e72'
      rw [show (0 : Int) + 1 = 1 from rfl] at S
      generalize dft (Zm ρ (sk (mch σ) p3) 0) 19 0 n = τa at *
      have gi := S.gi (s := 3) (g := 0) HM (by omega) (by omega) (by omega) (by omega) (by omega)
      have B := S.begun (by decide) (Int.le_refl 0) h21.1 gi (by omega) hE
      cases hU : pE (mch σ) k (sk (mch σ) p3) with
      | none =>
        rw [hU] at B
        exact Fl.of Sm (S.1.tr frM.aft) B
      | some t =>
        obtain ⟨U, q2⟩ := t
        rw [hU] at B
        obtain ⟨τ2, sm2, S3, x1, x2, ⟨x3, x4, x5⟩, C3, kD, kS⟩ := B
        have lU := pE_l k _ _ _ hU
        have g1 := ln_ge (T := U)
        have g2 := sn_ge (T := U)
        rw [Int.zero_add] at S3
        rw [Int.add_zero] at C3
        have q0 := S3.2.2.2.1
        have E1 := eg23 (Or.inr rfl) HH S3 x3 (x4.trans e72) ⟨by omega, by omega⟩ (by omega) (by omega)
        have S0 := (Sm.tr sm2).tr E1
        rw [Option.bind_some]
        dsimp only
        by_cases w2 : nx (mch σ) q2 = 59
        · have eW : wtP (mch σ) 59 q2 = sk (mch σ) q2 + 1 := if_pos w2
          have eB : wtB (mch σ) 59 0 q2 = 0 := if_pos ⟨w2, rfl⟩
          have eY : pEx (mch σ) 59 q2 = some (sk (mch σ) q2 + 1) := by unfold pEx; rw [if_pos w2]
          rw [eY, Option.bind_some]
          rw [eW, eB, show (8 : Int) + 3 = 11 from rfl] at S0
          have ge3 := sk_ge (ch := mch σ) (p := q2)
          have sl3 := mch_lt (σ := σ) (x := sk (mch σ) q2) (fun v => by have v' : nx (mch σ) q2 = -1 := v; omega)
          have S4 := (S3.Z (q' := sk (mch σ) q2 + 1) ⟨by omega, by omega⟩).put (x := 11) (y := 0) (z := n) (by omega)
          have zz7 : (Zm τ2 (sk (mch σ) q2 + 1) 0) 58 7 = σ 58 7 + (1 + ln U) := (Zm_f (by decide) (by decide)).trans S3.2.2.2.2.2.2.2.2.2.1
          have C0 := (dft_at (τ := Zm τ2 (sk (mch σ) q2 + 1) 0) (x := 11) (y := 0) (z := n)).2.2.1
          rw [zz7] at C0
          have D0 := (C00.kp kD h7.1 (by omega)).kp ((kpD.rf (n := σ 58 7 + (1 + ln U)) (σ := τ2)).tr (show kpD (σ 58 7 + (1 + ln U)) τ2 (dft (Zm τ2 (sk (mch σ) q2 + 1) 0) 11 0 n) from fun x h0 h1 => by have := dft_kD (τ := Zm τ2 (sk (mch σ) q2 + 1) 0) (x := 11) (y := 0) (z := n) (n := σ 58 7 + (1 + ln U)) (by omega) x h0 h1; rwa [Zm_o (by decide), Zm_o (by decide), Zm_o (by decide), Zm_o (by decide)] at this) (Int.le_refl _)) h7.1 (by omega)
          have C4 : isC (dft (Zm τ2 (sk (mch σ) q2 + 1) 0) 11 0 n) U (σ 58 7 + 1) (σ 58 14) := kpD.isC (by omega) h14.1 (dft_kD (n := σ 58 7 + 1 + ln U) (by omega)) (dft_kS (n := σ 58 14 + sn U)) (Int.le_refl _) (Int.le_refl _) C3.Z
          have y72 : (dft (Zm τ2 (sk (mch σ) q2 + 1) 0) 11 0 n) 72 (σ 58 21 - 1) = n := by rw [dft_at.2.2.2.2 72 (by decide) (by decide) (by decide) (by decide), Zm_o (by decide)]; exact x4.trans e72
          generalize dft (Zm τ2 (sk (mch σ) q2 + 1) 0) 11 0 n = τb at *
          have gi2 := S4.gi (s := 4) (g := 0) HM (by omega) (by omega) (by omega) (by omega) (by omega)
          have B2 := S4.begun (by omega) g2 h21.1 gi2 (by omega) hE
          cases hV : pE (mch σ) k (sk (mch σ) q2 + 1) with
          | none =>
            rw [hV] at B2
            exact Fl.of S0 (S4.1.tr frM.aft) B2
          | some t =>
            obtain ⟨V, q4⟩ := t
            rw [hV] at B2
            obtain ⟨τ4, sm4, S5, y1, y2, ⟨y3, y4, y5⟩, C5, kD2, kS2⟩ := B2
            have lV := pE_l k _ _ _ hV
            have g3 := ln_ge (T := V)
            have g4 := sn_ge (T := V)
            have E4 := eg4 HH S5 y3 (y4.trans y72) ⟨by omega, by omega⟩ (by omega) (by omega)
            have s7 := S5.2.2.2.2.2.2.2.2.2.1
            have S6 := S5.put (x := 12) (y := 1) (z := n) (by omega)
            have l1 : 1 + ln U + 1 + ln V + 1 = ln (nd 14 n U V nl) := by show _ = ln U + ln V + 3; omega
            have l2 : sn U + sn V = sn (nd 14 n U V nl) := by show _ = sn U + sn V + 0; omega
            rw [l1, l2] at S6
            refine ⟨_, (S0.tr sm4).tr E4, S6.popD ⟨?_, ?_, ?_, ?_, ?_⟩⟩
            · exact (D0.kp kD2 h7.1 (by omega)).kp (dft_kD (n := τ4 58 7) (Int.le_refl _)) h7.1 (by omega)
            · exact kpD.isC (by omega) h14.1 (dft_kD (n := τ4 58 7) (Int.le_refl _)) (dft_kS (n := σ 58 14 + sn U)) (by omega) (Int.le_refl _) (kpD.isC (by omega) h14.1 kD2 kS2 (by omega) (Int.le_refl _) C4)
            · have := (C0.kp kD2 (by omega) (by omega)).kp (dft_kD (n := τ4 58 7) (x := 12) (y := 1) (z := n) (Int.le_refl _)) (by omega) (by omega)
              rwa [show σ 58 7 + (1 + ln U) = σ 58 7 + ln U + 1 by omega] at this
            · have : isC (dft τ4 12 1 n) V (σ 58 7 + (1 + ln U + 1)) (σ 58 14 + sn U) := kpD.isC (by omega) (by omega) (dft_kD (n := τ4 58 7) (Int.le_refl _)) (dft_kS (n := σ 58 14 + sn U + sn V)) (by omega) (Int.le_refl _) C5
              rwa [show σ 58 7 + (1 + ln U + 1) = σ 58 7 + ln U + 2 by omega] at this
            · have := (dft_at (τ := τ4) (x := 12) (y := 1) (z := n)).2.2.1
              rwa [s7, show σ 58 7 + (1 + ln U + 1 + ln V) = σ 58 7 + ln U + ln V + 2 by omega] at this
        · have eY : pEx (mch σ) 59 q2 = none := by unfold pEx; rw [if_neg w2]
          rw [eY, Option.bind_none]
          have eB : wtB (mch σ) 59 0 q2 = 1 := if_neg (fun h => w2 h.1)
          rw [eB] at S0
          refine Fl.of S0 (((S3.1.tr frM.Z).tr frM.dft).tr frM.aft) (Fl.bad ?_)
          rw [aft_at.1 24 (by decide), dft_at.1 24 (by decide), Zm_bad]; decide
    · have eX : pEx (mch σ) 61 p2 = none := by unfold pEx; rw [if_neg w]
      rw [eX, Option.bind_none]
      exact bad (by rw [f2]; unfold wtB; rw [if_neg (fun h => w h.1)]; decide)
  · have eN : pNm (mch σ) p1 = none := by unfold pNm; rw [if_neg l]
    rw [eN, Option.bind_none]
    have fb1 : b1 = 1 := by rw [f1]; unfold nmB; rw [if_neg (fun h => l h.2)]
    exact bad (by rw [f2]; unfold wtB; rw [if_neg (fun h => by have := h.2; omega)]; decide)
end MRC
