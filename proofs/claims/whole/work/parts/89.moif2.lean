/-! The model's reader: a condition is the grammar's. -/
section MII
variable {σ τ : Mem} {D : Int}
theorem mo_if {k : Nat} (H : GI σ 0) (hD : σ 58 22 = D) (h16 : σ 58 22 < 16) (hE : GSp (D + 1) 0 (fun ch => pE ch k)) (hc : nx (mch σ) (σ 58 3) = 63) : DnM (pIf (mch σ) (pE (mch σ) k) (σ 58 3)) σ := by
  have Sm := eb_ask (s := 5) H hc (Or.inl ⟨rfl, rfl⟩)
  have HM := H.1
  have h60 := HM.2.1
  have HH := H
  obtain ⟨-, h24, h3, h7, h14, h22, h21, h70, h71, h72, h73⟩ := H
  have ug := gu_0
  have ge := sk_ge (ch := mch σ) (p := σ 58 3)
  have sl := mch_lt (σ := σ) (x := sk (mch σ) (σ 58 3)) (fun w => by have w' : nx (mch σ) (σ 58 3) = -1 := w; omega)
  have db : dpb σ = 0 := if_pos h16
  rw [db] at Sm
  have eP : pIf (mch σ) (pE (mch σ) k) (σ 58 3) = (pE (mch σ) k (sk (mch σ) (σ 58 3) + 1)).bind fun x => (pEx (mch σ) 58 x.2).bind fun b => (pE (mch σ) k b).bind fun y => (pEx (mch σ) 124 y.2).bind fun c => (pE (mch σ) k c).map fun z => (nd 15 0 x.1 y.1 z.1, z.2) := by
    unfold pIf
    have : pEx (mch σ) 63 (σ 58 3) = some (sk (mch σ) (σ 58 3) + 1) := by unfold pEx; rw [if_pos hc]
    rw [this]; rfl
  rw [eP]
  obtain ⟨p1, e1⟩ : ∃ p1, p1 = sk (mch σ) (σ 58 3) + 1 := ⟨_, rfl⟩
  rw [← e1] at Sm ⊢
  have S := dp1_pg HH (q := p1) ⟨by omega, by omega⟩
  have y72 : (Zm (dp1 σ) p1 0) 72 (σ 58 21 - 1) = 0 := by rw [Zm_o (by decide)]; exact (mup_ne (by decide)).trans h72
  generalize Zm (dp1 σ) p1 0 = τa at *
  have gi := S.gi (s := 5) (g := 0) HM (by omega) (by omega) (by omega) (by omega) (by omega)
  have B := S.begun (Int.le_refl 0) (Int.le_refl 0) h21.1 gi (by omega) hE
  cases hU : pE (mch σ) k p1 with
  | none =>
    rw [hU] at B
    exact Fl.of Sm (S.1.tr frM.aft) B
  | some t =>
    obtain ⟨U, q2⟩ := t
    rw [hU] at B
    obtain ⟨τ2, sm2, S3, x1, x2, ⟨x3, x4, x5⟩, C3, kD, kS⟩ := B
    have lU := pE_l k _ _ _ hU
    have g1 := ln_ge (T := U)
    have g2 := sn_ge (T := U)
    rw [Int.zero_add, Int.zero_add] at S3
    rw [Int.add_zero, Int.add_zero] at C3
    have q0 := S3.2.2.2.1
    have E1 := eg5 HH S3 x3 (x4.trans y72) g1 (by omega)
    have S0 := (Sm.tr sm2).tr E1
    rw [Option.bind_some]
    dsimp only
    by_cases w2 : nx (mch σ) q2 = 58
    case neg =>
      have eY : pEx (mch σ) 58 q2 = none := by unfold pEx; rw [if_neg w2]
      rw [eY, Option.bind_none]
      have eB : wtB (mch σ) 58 0 q2 = 1 := if_neg (fun h => w2 h.1)
      rw [eB] at S0
      refine Fl.of S0 ((((S3.1.tr frM.Z).tr frM.dft).tr (frM.mu rfl (by decide))).tr frM.aft) (Fl.bad ?_)
      rw [aft_at.1 24 (by decide), mup_ne (by decide), dft_at.1 24 (by decide), Zm_bad]; decide
    have eW : wtP (mch σ) 58 q2 = sk (mch σ) q2 + 1 := if_pos w2
    have eB : wtB (mch σ) 58 0 q2 = 0 := if_pos ⟨w2, rfl⟩
    have eY : pEx (mch σ) 58 q2 = some (sk (mch σ) q2 + 1) := by unfold pEx; rw [if_pos w2]
    rw [eY, Option.bind_some]
    rw [eW, eB] at S0
    have ge3 := sk_ge (ch := mch σ) (p := q2)
    have sl3 := mch_lt (σ := σ) (x := sk (mch σ) q2) (fun v => by have v' : nx (mch σ) q2 = -1 := v; omega)
    have S4 := ((S3.Z (q' := sk (mch σ) q2 + 1) ⟨by omega, by omega⟩).put (x := 13) (y := 0) (z := 0) g1).own (j := 72) (z := σ 58 7 + ln U) (Or.inr (Or.inl rfl))
    have z7 : (Zm τ2 (sk (mch σ) q2 + 1) 0) 58 7 = σ 58 7 + ln U := (Zm_f (by decide) (by decide)).trans S3.2.2.2.2.2.2.2.2.2.1
    have C0 := (dft_at (τ := Zm τ2 (sk (mch σ) q2 + 1) 0) (x := 13) (y := 0) (z := 0)).2.2.1
    rw [z7] at C0
    have C0 := C0.own (j := 72) (k := σ 58 21 - 1) (z := σ 58 7 + ln U) (Or.inr (Or.inl rfl))
    have C4 : isC (mup (dft (Zm τ2 (sk (mch σ) q2 + 1) 0) 13 0 0) 72 (σ 58 21 - 1) (σ 58 7 + ln U)) U (σ 58 7) (σ 58 14) := (kpD.isC h7.1 h14.1 (dft_kD (n := σ 58 7 + ln U) (by omega)) (dft_kS (n := σ 58 14 + sn U)) (Int.le_refl _) (Int.le_refl _) C3.Z).own (Or.inr (Or.inl rfl))
    have v72 : (mup (dft (Zm τ2 (sk (mch σ) q2 + 1) 0) 13 0 0) 72 (σ 58 21 - 1) (σ 58 7 + ln U)) 72 (σ 58 21 - 1) = σ 58 7 + ln U := mup_eq
    generalize mup (dft (Zm τ2 (sk (mch σ) q2 + 1) 0) 13 0 0) 72 (σ 58 21 - 1) (σ 58 7 + ln U) = τb at *
    have gi2 := S4.gi (s := 6) (g := 0) HM (by omega) (by omega) (by omega) (by omega) (by omega)
    have B2 := S4.begun (by omega) g2 h21.1 gi2 (by omega) hE
    cases hV : pE (mch σ) k (sk (mch σ) q2 + 1) with
    | none =>
      rw [hV] at B2
      exact Fl.of S0 (S4.1.tr frM.aft) B2
    | some t =>
      obtain ⟨V, q4⟩ := t
      rw [hV] at B2
      obtain ⟨τ4, sm4, S5, y1, y2, ⟨y3, y4, y5⟩, C5, kD2, kS2⟩ := B2
      have lV := pE_l k _ _ _ hV
      have g3 := ln_ge (T := V)
      have g4 := sn_ge (T := V)
      have q5 := S5.2.2.2.1
      have E4 := eg6 (w := σ 58 7 + ln U) HH S5 y3 (y4.trans v72) ⟨by omega, by omega⟩ (by omega)
      have S6 := (S0.tr sm4).tr E4
      rw [Option.bind_some]
      dsimp only
      by_cases w5 : nx (mch σ) q4 = 124
      case neg =>
        have eY : pEx (mch σ) 124 q4 = none := by unfold pEx; rw [if_neg w5]
        rw [eY, Option.bind_none]
        have eB : wtB (mch σ) 124 0 q4 = 1 := if_neg (fun h => w5 h.1)
        rw [eB] at S6
        refine Fl.of S6 (((((S5.1.tr frM.Z).tr frM.dft).tr (frM.mu rfl (by decide))).tr (frM.mu rfl (by decide))).tr frM.aft) (Fl.bad ?_)
        rw [aft_at.1 24 (by decide), mup_ne (by decide), mup_ne (by decide), dft_at.1 24 (by decide), Zm_bad]; decide
      have eW : wtP (mch σ) 124 q4 = sk (mch σ) q4 + 1 := if_pos w5
      have eB : wtB (mch σ) 124 0 q4 = 0 := if_pos ⟨w5, rfl⟩
      have eY : pEx (mch σ) 124 q4 = some (sk (mch σ) q4 + 1) := by unfold pEx; rw [if_pos w5]
      rw [eY, Option.bind_some]
      have e71 : σ 58 7 + (ln U + 1 + ln V) + 1 = σ 58 7 + ln U + ln V + 2 := by omega
      have e72 : σ 58 7 + (ln U + 1 + ln V) = σ 58 7 + ln U + ln V + 1 := by omega
      rw [eW, eB, e71, e72] at S6
      have ge6 := sk_ge (ch := mch σ) (p := q4)
      have sl6 := mch_lt (σ := σ) (x := sk (mch σ) q4) (fun v => by have v' : nx (mch σ) q4 = -1 := v; omega)
      have S7 := (((S5.Z (q' := sk (mch σ) q4 + 1) ⟨by omega, by omega⟩).put (x := 14) (y := 0) (z := σ 58 7 + ln U) (by omega)).fix (x := σ 58 7 + ln U) (z := σ 58 7 + ln U + ln V + 2) (by omega)).own (j := 72) (z := σ 58 7 + ln U + ln V + 1) (Or.inr (Or.inl rfl))
      have zz7 : (Zm τ4 (sk (mch σ) q4 + 1) 0) 58 7 = σ 58 7 + ln U + ln V + 1 := ((Zm_f (by decide) (by decide)).trans S5.2.2.2.2.2.2.2.2.2.1).trans e72
      have D1 := (dft_at (τ := Zm τ4 (sk (mch σ) q4 + 1) 0) (x := 14) (y := 0) (z := σ 58 7 + ln U)).2.2.1
      rw [zz7] at D1
      have D1 := (D1.fix (x := σ 58 7 + ln U) (z := σ 58 7 + ln U + ln V + 2) (by omega)).own (j := 72) (k := σ 58 21 - 1) (z := σ 58 7 + ln U + ln V + 1) (Or.inr (Or.inl rfl))
      have c1 : kpD (σ 58 7 + ln U + 1 + ln V) τ4 (dft (Zm τ4 (sk (mch σ) q4 + 1) 0) 14 0 (σ 58 7 + ln U)) := (Zm_kD (n := σ 58 7 + ln U + 1 + ln V)).tr (dft_kD (n := σ 58 7 + ln U + 1 + ln V) (by omega)) (Int.le_refl _)
      have c2 : ∀ n, kpS n τ4 (dft (Zm τ4 (sk (mch σ) q4 + 1) 0) 14 0 (σ 58 7 + ln U)) := fun n => (Zm_kS (n := n)).tr (dft_kS (n := n)) (Int.le_refl _)
      have D0 : cell (mup (mup (dft (Zm τ4 (sk (mch σ) q4 + 1) 0) 14 0 (σ 58 7 + ln U)) 61 (σ 58 7 + ln U) (σ 58 7 + ln U + ln V + 2)) 72 (σ 58 21 - 1) (σ 58 7 + ln U + ln V + 1)) (σ 58 7 + ln U) 13 (σ 58 7 + ln U + ln V + 2) 0 :=
        (((C0.kp kD2 (by omega) (by omega)).kp c1 (by omega) (by omega)).set).own (Or.inr (Or.inl rfl))
      have D4 : isC (mup (mup (dft (Zm τ4 (sk (mch σ) q4 + 1) 0) 14 0 (σ 58 7 + ln U)) 61 (σ 58 7 + ln U) (σ 58 7 + ln U + ln V + 2)) 72 (σ 58 21 - 1) (σ 58 7 + ln U + ln V + 1)) U (σ 58 7) (σ 58 14) :=
        ((kpD.isC h7.1 h14.1 c1 (c2 (σ 58 14 + sn U)) (by omega) (Int.le_refl _) (kpD.isC h7.1 h14.1 kD2 kS2 (by omega) (Int.le_refl _) C4)).fix (Or.inr (by omega))).own (Or.inr (Or.inl rfl))
      have D5 : isC (mup (mup (dft (Zm τ4 (sk (mch σ) q4 + 1) 0) 14 0 (σ 58 7 + ln U)) 61 (σ 58 7 + ln U) (σ 58 7 + ln U + ln V + 2)) 72 (σ 58 21 - 1) (σ 58 7 + ln U + ln V + 1)) V (σ 58 7 + (ln U + 1)) (σ 58 14 + sn U) :=
        ((kpD.isC (by omega) (by omega) c1 (c2 (σ 58 14 + sn U + sn V)) (by omega) (Int.le_refl _) C5).fix (Or.inl (by omega))).own (Or.inr (Or.inl rfl))
      have v72 : (mup (mup (dft (Zm τ4 (sk (mch σ) q4 + 1) 0) 14 0 (σ 58 7 + ln U)) 61 (σ 58 7 + ln U) (σ 58 7 + ln U + ln V + 2)) 72 (σ 58 21 - 1) (σ 58 7 + ln U + ln V + 1)) 72 (σ 58 21 - 1) = σ 58 7 + ln U + ln V + 1 := mup_eq
      clear c1 c2
      generalize mup (mup (dft (Zm τ4 (sk (mch σ) q4 + 1) 0) 14 0 (σ 58 7 + ln U)) 61 (σ 58 7 + ln U) (σ 58 7 + ln U + ln V + 2)) 72 (σ 58 21 - 1) (σ 58 7 + ln U + ln V + 1) = τc at *
      have gi3 := S7.gi (s := 7) (g := 0) HM (by omega) (by omega) (by omega) (by omega) (by omega)
      have B3 := S7.begun (by omega) (by omega) h21.1 gi3 (by omega) hE
      cases hX : pE (mch σ) k (sk (mch σ) q4 + 1) with
      | none =>
        rw [hX] at B3
        exact Fl.of S6 (S7.1.tr frM.aft) B3
      | some t =>
        obtain ⟨X, q6⟩ := t
        rw [hX] at B3
        obtain ⟨τ6, sm6, S8, z1, z2, ⟨z3, z4, z5⟩, C8, kD3, kS3⟩ := B3
        have lX := pE_l k _ _ _ hX
        have g5 := ln_ge (T := X)
        have g6 := sn_ge (T := X)
        have q7 := S8.2.2.2.1
        have E7 := eg7 (w := σ 58 7 + ln U + ln V + 1) HH S8 z3 (z4.trans v72) ⟨by omega, by omega⟩ (by omega)
        have e7 : σ 58 7 + (ln U + 1 + ln V + 1 + ln X) = σ 58 7 + ln U + ln V + ln X + 2 := by omega
        rw [e7] at E7
        have s7 := S8.2.2.2.2.2.2.2.2.2.1
        have S9 := (S8.fix (x := σ 58 7 + ln U + ln V + 1) (z := σ 58 7 + ln U + ln V + ln X + 2) (by omega)).put (x := 18) (y := 0) (z := σ 58 7 + ln U + ln V + 1) (by omega)
        have l1 : ln U + 1 + ln V + 1 + ln X + 1 = ln (nd 15 0 U V X) := by show _ = ln U + ln V + ln X + 3; omega
        have l2 : sn U + sn V + sn X = sn (nd 15 0 U V X) := rfl
        rw [l1, l2] at S9
        have f7 : (mup τ6 61 (σ 58 7 + ln U + ln V + 1) (σ 58 7 + ln U + ln V + ln X + 2)) 58 7 = σ 58 7 + ln U + ln V + ln X + 2 := (mup_ne (by decide)).trans (s7.trans e7)
        have c1 : kpD (σ 58 7 + ln U + ln V + 1) τ6 (dft (mup τ6 61 (σ 58 7 + ln U + ln V + 1) (σ 58 7 + ln U + ln V + ln X + 2)) 18 0 (σ 58 7 + ln U + ln V + 1)) := (fix_kD (Int.le_refl _)).tr (dft_kD (n := σ 58 7 + ln U + ln V + 1) (by omega)) (Int.le_refl _)
        have c2 : ∀ n, kpS n τ6 (dft (mup τ6 61 (σ 58 7 + ln U + ln V + 1) (σ 58 7 + ln U + ln V + ln X + 2)) 18 0 (σ 58 7 + ln U + ln V + 1)) := fun n => (fix_kS (n := n)).tr (dft_kS (n := n)) (Int.le_refl _)
        refine ⟨_, (S6.tr sm6).tr E7, S9.popD ⟨?_, ?_, ?_, ?_, ?_, ?_⟩⟩
        · exact kpD.isC h7.1 h14.1 c1 (c2 (σ 58 14 + sn U)) (by omega) (Int.le_refl _) (kpD.isC h7.1 h14.1 kD3 kS3 (by omega) (by omega) D4)
        · exact (D0.kp kD3 (by omega) (by omega)).kp c1 (by omega) (by omega)
        · have : isC (dft (mup τ6 61 (σ 58 7 + ln U + ln V + 1) (σ 58 7 + ln U + ln V + ln X + 2)) 18 0 (σ 58 7 + ln U + ln V + 1)) V (σ 58 7 + (ln U + 1)) (σ 58 14 + sn U) := kpD.isC (by omega) (by omega) c1 (c2 (σ 58 14 + sn U + sn V)) (by omega) (Int.le_refl _) (kpD.isC (by omega) (by omega) kD3 kS3 (by omega) (by omega) D5)
          rwa [show σ 58 7 + (ln U + 1) = σ 58 7 + ln U + 1 by omega] at this
        · exact ((D1.kp kD3 (by omega) (by omega)).set).kp (dft_kD (n := σ 58 7 + ln U + ln V + 2) (by omega)) (by omega) (by omega)
        · have : isC (dft (mup τ6 61 (σ 58 7 + ln U + ln V + 1) (σ 58 7 + ln U + ln V + ln X + 2)) 18 0 (σ 58 7 + ln U + ln V + 1)) X (σ 58 7 + (ln U + 1 + ln V + 1)) (σ 58 14 + (sn U + sn V)) := kpD.isC (by omega) (by omega) (dft_kD (n := σ 58 7 + ln U + ln V + ln X + 2) (by omega)) (dft_kS (n := σ 58 14 + (sn U + sn V) + sn X)) (by omega) (Int.le_refl _) (C8.fix (Or.inl (by omega)))
          rwa [show σ 58 7 + (ln U + 1 + ln V + 1) = σ 58 7 + ln U + ln V + 2 by omega, ← Int.add_assoc] at this
        · have := (dft_at (τ := mup τ6 61 (σ 58 7 + ln U + ln V + 1) (σ 58 7 + ln U + ln V + ln X + 2)) (x := 18) (y := 0) (z := σ 58 7 + ln U + ln V + 1)).2.2.1
          rwa [f7] at this
end MII
