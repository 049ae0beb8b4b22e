/-! The model's reader: a choice is the grammar's; any expression. -/
section MCS
variable {σ τ : Mem} {D : Int}
theorem mo_case {k : Nat} (H : GI σ 0) (hD : σ 58 22 = D) (h16 : σ 58 22 < 16) (hk : D + 1 + k = 16) (hE : GSp (D + 1) 0 (fun ch => pE ch k)) (hc : nx (mch σ) (σ 58 3) = 35) : DnM (pCase (mch σ) (pPat (mch σ) k) (pE (mch σ) k) (σ 58 3)) σ := by
  have Sm := eb_ask (s := 8) H hc (Or.inr ⟨rfl, rfl⟩)
  have HM := H.1
  have h60 := HM.2.1
  have HH := H
  obtain ⟨-, h24, h3, h7, h14, h22, h21, h70, h71, h72, h73⟩ := H
  have ug := gu_0
  have ge := sk_ge (ch := mch σ) (p := σ 58 3)
  have sl := mch_lt (σ := σ) (x := sk (mch σ) (σ 58 3)) (fun w => by have w' : nx (mch σ) (σ 58 3) = -1 := w; omega)
  have db : dpb σ = 0 := if_pos h16
  rw [db] at Sm
  have eP : pCase (mch σ) (pPat (mch σ) k) (pE (mch σ) k) (σ 58 3) = (pE (mch σ) k (sk (mch σ) (σ 58 3) + 1)).bind fun x => (pEx (mch σ) 123 x.2).bind fun b => (pBr (mch σ) (pPat (mch σ) k) (pE (mch σ) k) 5 b).map fun y => (nd 16 0 x.1 y.1 nl, y.2) := by
    unfold pCase
    have : pEx (mch σ) 35 (σ 58 3) = some (sk (mch σ) (σ 58 3) + 1) := by unfold pEx; rw [if_pos hc]
    rw [this]; rfl
  rw [eP]
  obtain ⟨p1, e1⟩ : ∃ p1, p1 = sk (mch σ) (σ 58 3) + 1 := ⟨_, rfl⟩
  rw [← e1] at Sm ⊢
  have S := dp1_pg HH (q := p1) ⟨by omega, by omega⟩
  have y72 : (Zm (dp1 σ) p1 0) 72 (σ 58 21 - 1) = 0 := by rw [Zm_o (by decide)]; exact (mup_ne (by decide)).trans h72
  have y73 : (Zm (dp1 σ) p1 0) 73 (σ 58 21 - 1) = 0 := by rw [Zm_o (by decide)]; exact (mup_ne (by decide)).trans h73
  generalize Zm (dp1 σ) p1 0 = τa at *
  have gi := S.gi (s := 8) (g := 0) HM (by omega) (by omega) (by omega) (by omega) (by omega)
  have B := S.begun (Int.le_refl 0) (Int.le_refl 0) h21.1 gi (by omega) hE
  cases hU : pE (mch σ) k p1 with
  | none =>
    rw [hU] at B
    exact Fl.of Sm (S.1.tr frM.aft) B
  | some t =>
    obtain ⟨U, q2⟩ := t
    rw [hU] at B
    obtain ⟨τ2, sm2, S3, x1, x2, ⟨x3, x4, x5⟩, C3, kD, kS⟩ := B
    have lU := pE_l k _ _ _ hU
    have g1 := ln_ge (T := U)
    have g2 := sn_ge (T := U)
    rw [Int.zero_add, Int.zero_add] at S3
    rw [Int.add_zero, Int.add_zero] at C3
    have q0 := S3.2.2.2.1
    have K8 := eg8 HH S3 x3 (x4.trans y72) g1 (by omega)
    have S0 := Sm.tr sm2
    have e7 := S3.2.2.2.2.2.2.2.2.2.1
    have e14 := S3.2.2.2.2.2.2.2.2.2.2.1
    have e21 : τ2 58 21 = σ 58 21 := S3.2.2.2.2.1
    rw [Option.bind_some]
    dsimp only
    by_cases w2 : nx (mch σ) q2 = 123
    case neg =>
      have eY : pEx (mch σ) 123 q2 = none := by unfold pEx; rw [if_neg w2]
      rw [eY, Option.bind_none]
      have eB : wtB (mch σ) 123 0 q2 = 1 := if_neg (fun h => w2 h.1)
      rw [eB] at K8
      have z24 : (dft (Zm τ2 (wtP (mch σ) 123 q2) 1) 15 0 0) 58 24 = 1 := (dft_at.1 24 (by decide)).trans Zm_bad
      have z7 : (dft (Zm τ2 (wtP (mch σ) 123 q2) 1) 15 0 0) 58 7 = σ 58 7 + ln U + 1 := by rw [dft_at.2.1, Zm_f (by decide) (by decide), e7]
      have z14 : (dft (Zm τ2 (wtP (mch σ) 123 q2) 1) 15 0 0) 58 14 = σ 58 14 + sn U := by rw [dft_at.1 14 (by decide), Zm_f (by decide) (by decide), e14]
      have z21 : (dft (Zm τ2 (wtP (mch σ) 123 q2) 1) 15 0 0) 58 21 = σ 58 21 := by rw [dft_at.1 21 (by decide), Zm_f (by decide) (by decide), e21]
      refine Fl.of (S0.tr (K8 _ (fun d => s_clB (t := 1) (by omega) (by omega) (by omega) (by omega) (Or.inl ⟨rfl, Or.inl (by rw [z24]; decide)⟩)))) (((S3.1.tr frM.Z).tr frM.dft).tr clB_f) (Fl.bad ?_)
      rw [clB_bad]; decide
    have eW : wtP (mch σ) 123 q2 = sk (mch σ) q2 + 1 := if_pos w2
    have eB : wtB (mch σ) 123 0 q2 = 0 := if_pos ⟨w2, rfl⟩
    have eY : pEx (mch σ) 123 q2 = some (sk (mch σ) q2 + 1) := by unfold pEx; rw [if_pos w2]
    rw [eY, Option.bind_some]
    rw [eW, eB] at K8
    have ge3 := sk_ge (ch := mch σ) (p := q2)
    have sl3 := mch_lt (σ := σ) (x := sk (mch σ) q2) (fun v => by have v' : nx (mch σ) q2 = -1 := v; omega)
    have S4 := (S3.Z (q' := sk (mch σ) q2 + 1) ⟨by omega, by omega⟩).put (x := 15) (y := 0) (z := 0) g1
    have z7 : (Zm τ2 (sk (mch σ) q2 + 1) 0) 58 7 = σ 58 7 + ln U := (Zm_f (by decide) (by decide)).trans e7
    have C0 := (dft_at (τ := Zm τ2 (sk (mch σ) q2 + 1) 0) (x := 15) (y := 0) (z := 0)).2.2.1
    rw [z7] at C0
    have C4 : isC (dft (Zm τ2 (sk (mch σ) q2 + 1) 0) 15 0 0) U (σ 58 7) (σ 58 14) := kpD.isC h7.1 h14.1 (dft_kD (n := σ 58 7 + ln U) (by omega)) (dft_kS (n := σ 58 14 + sn U)) (Int.le_refl _) (Int.le_refl _) C3.Z
    have v73 : (dft (Zm τ2 (sk (mch σ) q2 + 1) 0) 15 0 0) 73 (σ 58 21 - 1) = 0 := by rw [dft_at.2.2.2.2 73 (by decide) (by decide) (by decide) (by decide), Zm_o (by decide)]; exact x5.trans y73
    generalize dft (Zm τ2 (sk (mch σ) q2 + 1) 0) 15 0 0 = τb at *
    have L := mobr_l (P := fun ch => pPat ch k) (E := fun ch => pE ch k) HH hD h16 (s_mopat k (D + 1) hk) (fun ch => pPat_l k) (fun ch => pPat_b k) hE (fun ch => pE_l k) 5 (sk (mch σ) q2 + 1) (ln U + 1) (sn U) 0 [] τ2 τb K8 S0 S4 (by omega) g2 v73 (by decide) (by decide) rfl (fun j hj => by cases hj) (by omega) (by omega) (by decide)
    have L : BrM (pBr (mch σ) (pPat (mch σ) k) (pE (mch σ) k) 5 (sk (mch σ) q2 + 1)) σ τb (ln U + 1) (sn U) [] := L
    cases hT : pBr (mch σ) (pPat (mch σ) k) (pE (mch σ) k) 5 (sk (mch σ) q2 + 1) with
    | none => rw [hT] at L; exact L
    | some t =>
      obtain ⟨T, q5⟩ := t
      rw [hT] at L
      obtain ⟨τ', sm', i1, i2, i3, i4, i5, i6, i7, i8, i9, i10, i11, i12, i13, -⟩ := L
      have g5 := ln_ge (T := T)
      have eT : ln (nd 16 0 U T nl) = ln U + ln T + 2 := rfl
      have eS : sn (nd 16 0 U T nl) = sn U + sn T := by show sn U + sn T + 0 = _; omega
      have kk : kpD (σ 58 7 + ln U + 1) τb τ' := fun x h0 h1 => by
        obtain ⟨r1, r2, r3, r4⟩ := i13 x h0 (by omega)
        exact ⟨r1, r2 (fun h => by cases h), r3, r4⟩
      show ∃ τ, Sim σ τ ∧ Dn σ τ (nd 16 0 U T nl) q5
      refine ⟨τ', sm', i1, i2, i3, i4, i5, i6, i7, ?_, ?_, by omega, by omega, ?_, ?_, ?_, ?_⟩
      · exact S4.2.2.2.2.2.2.2.1.tr kk (by omega)
      · exact S4.2.2.2.2.2.2.2.2.1.tr i8 (by omega)
      · exact kpD.isC h7.1 h14.1 kk i8 (by omega) (Int.le_refl _) C4
      · exact C0.kp kk (by omega) (by omega)
      · rwa [show σ 58 7 + (ln U + 1) = σ 58 7 + ln U + 1 by omega] at i11
      · rwa [show σ 58 7 + (ln U + 1) + ln T = σ 58 7 + ln U + ln T + 1 by omega] at i12
/-- too deep, whatever comes -/
theorem mo_deep (H : GI σ 0) (h16 : ¬ σ 58 22 < 16) : Fl σ := by
  have HM := H.1
  have h60 := HM.2.1
  have HH := H
  by_cases c35 : nx (mch σ) (σ 58 3) = 35
  · exact eb_deep h16 (eb_ask (s := 8) H c35 (Or.inr ⟨rfl, rfl⟩))
  by_cases c63 : nx (mch σ) (σ 58 3) = 63
  · exact eb_deep h16 (eb_ask (s := 5) H c63 (Or.inl ⟨rfl, rfl⟩))
  by_cases cn : nx (mch σ) (σ 58 3) = 92 ∨ nx (mch σ) (σ 58 3) = 33 ∨ nx (mch σ) (σ 58 3) = 64
  case neg => exact eb_deep h16 (eb_list H (fun t ht => by omega))
  obtain ⟨-, h24, h3, h7, h14, h22, h21, h70, h71, -⟩ := H
  have ug := gu_0
  have db : dpb σ = 1 := if_neg h16
  obtain ⟨p1, e1⟩ : ∃ p1, p1 = sk (mch σ) (σ 58 3) + 1 := ⟨_, rfl⟩
  obtain ⟨p2, e2⟩ : ∃ p2, p2 = sk (mch σ) p1 + 1 := ⟨_, rfl⟩
  obtain ⟨n, en⟩ : ∃ n, n = hr (nx (mch σ) p1) := ⟨_, rfl⟩
  have hn : 10 ≤ n ∧ n ≤ 126 := by rw [en]; exact HM.hr_rg _
  have f1 : (1 : Int) = nmB (mch σ) (dpb σ) p1 := by unfold nmB; rw [db, if_neg (fun h => by have := h.1; omega)]
  have f2 : ∀ t, (1 : Int) = wtB (mch σ) t 1 p2 := fun t => by unfold wtB; rw [if_neg (fun h => by have := h.2; omega)]
  have z21 : ∀ p3, (mup (Zm (dp1 σ) p3 1) 72 (σ 58 21 - 1) n) 58 21 = σ 58 21 := fun p3 => (mup_ne (by decide)).trans ((Zm_f (by decide) (by decide)).trans (mup_nk (by decide)))
  have z7 : ∀ p3, (mup (Zm (dp1 σ) p3 1) 72 (σ 58 21 - 1) n) 58 7 = σ 58 7 := fun p3 => (mup_ne (by decide)).trans ((Zm_f (by decide) (by decide)).trans (mup_nk (by decide)))
  rcases cn with hc | hc | hc
  · have K := eb_name (c := 92) (t := 46) HH hc (Or.inl ⟨rfl, rfl⟩) e1 e2 rfl f1 (f2 46) en
    have d7 : (dft (mup (Zm (dp1 σ) (wtP (mch σ) 46 p2) 1) 72 (σ 58 21 - 1) n) 6 0 n) 58 7 - 1 = σ 58 7 := by rw [dft_at.2.1, z7]; omega
    have d21 : (mup (dft (mup (Zm (dp1 σ) (wtP (mch σ) 46 p2) 1) 72 (σ 58 21 - 1) n) 6 0 n) 72 (σ 58 21 - 1) (σ 58 7)) 58 21 = σ 58 21 := (mup_ne (by decide)).trans ((dft_at.1 21 (by decide)).trans (z21 _))
    have Sm := K (aft (mup (dft (mup (Zm (dp1 σ) (wtP (mch σ) 46 p2) 1) 72 (σ 58 21 - 1) n) 6 0 n) 72 (σ 58 21 - 1) (σ 58 7)) 1 0) (by
      rw [if_pos (by decide)]
      unfold B_Mo_exprBegins_168
      rw [if_neg (by decide)]
      refine ⟨_, s_put (d := 10) (rgk rfl) (rgk rfl) ⟨by omega, by omega⟩ (by rw [z7]; omega), ⟨by omega, by omega⟩, by rw [d7]; exact ⟨by omega, by omega⟩, ?_⟩
      rw [d7]
      unfold B_Mo_exprBegins_195
      rw [if_neg (by decide)]
      exact ⟨_, s_after (d := 9) (rgk rfl) (rgk rfl) (by rw [d21]; omega), rfl, rfl⟩)
    refine Fl.of Sm (((((dp1_f.tr frM.Z).tr (frM.mu rfl (by decide))).tr frM.dft).tr (frM.mu rfl (by decide))).tr frM.aft) (Fl.bad ?_)
    rw [aft_at.1 24 (by decide), mup_ne (by decide), dft_at.1 24 (by decide), mup_ne (by decide), Zm_bad]; decide
  · have K := eb_name (c := 33) (t := 61) HH hc (Or.inr (Or.inl ⟨rfl, rfl⟩)) e1 e2 rfl f1 (f2 61) en
    have Sm := K (aft (mup (Zm (dp1 σ) (wtP (mch σ) 61 p2) 1) 72 (σ 58 21 - 1) n) 2 0) (by
      rw [if_pos (by decide)]
      unfold B_Mo_exprBegins_168
      rw [if_pos (by decide)]
      unfold B_Mo_exprBegins_195
      rw [if_pos (by decide), if_neg (by decide)]
      exact ⟨_, s_after (d := 9) (rgk rfl) (rgk rfl) (by rw [z21]; omega), rfl, rfl⟩)
    refine Fl.of Sm (((dp1_f.tr frM.Z).tr (frM.mu rfl (by decide))).tr frM.aft) (Fl.bad ?_)
    rw [aft_at.1 24 (by decide), mup_ne (by decide), Zm_bad]; decide
  · have K := eb_name (c := 64) (t := 61) HH hc (Or.inr (Or.inr ⟨rfl, rfl⟩)) e1 e2 rfl f1 (f2 61) en
    have Sm := K (aft (dft (mup (mup (Zm (dp1 σ) (wtP (mch σ) 61 p2) 1) 72 (σ 58 21 - 1) n) 58 24 1) 19 0 n) 3 0) (by
      rw [if_neg (by decide), if_pos (by decide)]
      unfold B_Mo_exprBegins_151
      exact r156 HH ⟨by omega, by omega⟩ (Or.inr rfl) (z7 _) (z21 _))
    refine Fl.of Sm (((((dp1_f.tr frM.Z).tr (frM.mu rfl (by decide))).tr (frM.m8 (by unfold mfP; omega))).tr frM.dft).tr frM.aft) (Fl.bad ?_)
    rw [aft_at.1 24 (by decide), dft_at.1 24 (by decide), mup_eq]; decide
theorem s_moE : ∀ (k : Nat) (D : Int), D + k = 16 → GSp D 0 (fun ch => pE ch k)
  | 0, D, h => fun σ H hD => mo_deep H (by omega)
  | k + 1, D, h => by
    have ih := s_moE k (D + 1) (by omega)
    intro σ H hD
    have h16 : σ 58 22 < 16 := by omega
    show DnM (pE (mch σ) (k + 1) (σ 58 3)) σ
    unfold pE
    by_cases c1 : nx (mch σ) (σ 58 3) = 33
    · rw [if_pos c1]; exact mo_let H hD h16 ih c1
    rw [if_neg c1]
    by_cases c2 : nx (mch σ) (σ 58 3) = 35
    · rw [if_pos c2]; exact mo_case H hD h16 (by omega) ih c2
    rw [if_neg c2]
    by_cases c3 : nx (mch σ) (σ 58 3) = 63
    · rw [if_pos c3]; exact mo_if H hD h16 ih c3
    rw [if_neg c3]
    by_cases c4 : nx (mch σ) (σ 58 3) = 64
    · rw [if_pos c4]; exact mo_rec H hD h16 ih c4
    rw [if_neg c4]
    by_cases c5 : nx (mch σ) (σ 58 3) = 92
    · rw [if_pos c5]; exact mo_fn H hD h16 ih c5
    rw [if_neg c5]
    exact mo_list H hD h16 (s_molistE ih) (fun t ht => by omega)
end MCS
