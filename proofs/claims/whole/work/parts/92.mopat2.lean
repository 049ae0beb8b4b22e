/-! The model's reader: patterns. -/
section PTN
variable {σ τ : Mem} {q b m D : Int} {L : List Int}
theorem dp1_pgA (hq : σ 58 3 ≤ q ∧ q ≤ σ 58 2) : Pg σ (Zm (dp1 σ) q 0) q 1 0 0 := by
  have o : ∀ {i : Nat}, i ≠ 58 → (Zm (dp1 σ) q 0) i = σ i := fun h => (Zm_o h).trans (mup_obj h)
  have u : ∀ {k : Int}, k ≠ 3 → k ≠ 22 → k ≠ 24 → (Zm (dp1 σ) q 0) 58 k = σ 58 k := fun h1 h2 h3 => (Zm_f h1 h3).trans (mup_nk h2)
  refine ⟨dp1_f.tr frM.Z, Zm_bad, Zm_at, hq, u (by decide) (by decide) (by decide), (Zm_f (by decide) (by decide)).trans mup_eq, ?_, ?_, ?_, ?_, ?_, ?_⟩
  · intro x _ _; rw [o (by decide), o (by decide), o (by decide), o (by decide)]; exact ⟨rfl, rfl, rfl, rfl⟩
  · intro x _ _; rw [o (by decide), o (by decide), o (by decide), o (by decide)]; exact ⟨rfl, rfl, rfl, rfl⟩
  · intro x _ _; rw [o (by decide), o (by decide)]; exact ⟨rfl, rfl⟩
  · rw [u (by decide) (by decide) (by decide)]; omega
  · rw [u (by decide) (by decide) (by decide)]; omega
  · rw [o (by decide)]
theorem isP.o {T : Tr} {s : Int} (h6 : τ 66 = σ 66) (h7 : τ 67 = σ 67) (h : isP σ T s) : isP τ T s :=
  isP.mv (fun x _ _ => by rw [h6, h7]; exact ⟨rfl, rfl⟩) h
theorem isP.kp {T : Tr} {s n : Int} (h0 : 0 ≤ s) (h1 : s + pn T ≤ n) (k : kpS n σ τ) (h : isP σ T s) : isP τ T s :=
  isP.mv (fun x a b => k x (by omega) (by omega)) h
theorem pt_par {P : (Int → Int) → Int → List Int → PaR} (H : GI σ 8) (hD : σ 58 22 = D) (hm : mk (σ 58 23) L) (hP : PSpM D 7 P) (hc : nx (mch σ) (σ 58 3) = 40) : DpM (pPart (mch σ) (P (mch σ)) (σ 58 3) L) σ := by
  have K := pt0 H rfl rfl
  have HM := H.1
  have h60 := HM.2.1
  have hat := H.2.2.1
  have h7 := H.2.2.2.1
  have h14 := H.2.2.2.2.1
  have h22 := H.2.2.2.2.2.1
  have h21 := H.2.2.2.2.2.2.1
  have h70 := H.2.2.2.2.2.2.2.1
  have u7 := gu_7
  have u8 := gu_8
  have ge := sk_ge (ch := mch σ) (p := σ 58 3)
  have sl := mch_lt (σ := σ) (x := sk (mch σ) (σ 58 3)) (fun w => by have w' : nx (mch σ) (σ 58 3) = -1 := w; omega)
  have eh : hr (nx (mch σ) (σ 58 3)) = 40 := (HM.hr_eq (by decide) (by decide)).mpr hc
  rw [eh] at K
  have Sm := K _ (Eq.mpr (if_pos (dgt_0 (by decide))) (Eq.mpr (if_neg (by decide)) rfl))
  have eP : pPart (mch σ) (P (mch σ)) (σ 58 3) L = (P (mch σ) (sk (mch σ) (σ 58 3) + 1) L).bind fun t => (pEx (mch σ) 41 t.2.1).map fun r => (t.1, r, t.2.2) := by
    unfold pPart; rw [hc, if_neg (by decide), if_neg (by decide), if_neg (by decide), if_pos rfl]
  rw [eP]
  have S := H.pg.Z (q' := sk (mch σ) (σ 58 3) + 1) ⟨by omega, by omega⟩
  have gi := S.gi (s := 1) (g := 7) HM (by omega) (by omega) (by omega) (by omega) (by omega)
  have B := S.begunP (Int.le_refl 0) (Int.le_refl 0) h21.1 gi (by omega) (L := L) (by rw [Zm_f (by decide) (by decide)]; exact hm) hP
  cases hU : P (mch σ) (sk (mch σ) (σ 58 3) + 1) L with
  | none =>
    rw [hU] at B
    exact Fl.of Sm (frM.Z.tr frM.aft) B
  | some t =>
    obtain ⟨U, q2, L2⟩ := t
    rw [hU] at B
    obtain ⟨τ2, sm2, ⟨S3, b1, b2, ⟨b3, b4, b5⟩, C3, kD, kS⟩, m2⟩ := B
    rw [Int.zero_add] at S3
    rw [Int.add_zero] at C3
    have q0 := S3.2.2.2.1
    have ge2 := sk_ge (ch := mch σ) (p := q2)
    have e21 : τ2 58 21 = σ 58 21 := S3.2.2.2.2.1
    have e70 : τ2 70 (σ 58 21 - 1) = 8 := S3.2.2.2.2.2.2.2.2.2.2.2.trans h70
    have W := s_want (d := 7) (b := 0) (σ := τ2) (q := q2) (c := 41) (S3.1.mi HM) ⟨by omega, by omega⟩ (rgk rfl) (by decide) (by decide)
    rw [S3.id, S3.1.ch] at W
    have go : ∀ {z b : Int}, Rn 14 yMo_want [.ref 58, vi 41] τ2 none (Zm τ2 z b) → Sim σ (mup (Zm τ2 z b) 58 21 ((Zm τ2 z b) 58 21 - 1)) := by
      intro z b hw
      refine (Sm.tr sm2).tr (Sim.go (g := 8) (s := 1) S3.2.1 (by omega) (by rw [e21]; exact e70) (by rw [e21]; exact b3) ?_)
      rw [e21]
      show Rn 15 yMo_part [.ref 58, vi (σ 58 21 - 1)] τ2 none _
      refine M_Mo_part (d := 11) ⟨by omega, by omega⟩ ⟨⟨by omega, by omega⟩, ?_⟩
      have t21 : (Zm τ2 z b) 58 21 = σ 58 21 := (Zm_f (by decide) (by decide)).trans e21
      rw [b3, if_neg (by decide)]
      exact ⟨_, hw, ⟨by omega, by omega⟩, rfl, rfl⟩
    rw [Option.bind_some]
    dsimp only
    unfold pEx
    by_cases w : nx (mch σ) q2 = 41
    · rw [if_pos w, if_pos ⟨w, rfl⟩] at W
      rw [if_pos w]
      have sl2 := mch_lt (σ := σ) (x := sk (mch σ) q2) (fun v => by have v' : nx (mch σ) q2 = -1 := v; omega)
      refine ⟨_, go W, (S3.Z (q' := sk (mch σ) q2 + 1) ⟨by omega, by omega⟩).popP, C3.o ?_ ?_, ?_⟩
      · exact (mup_obj (by decide)).trans (Zm_o (by decide))
      · exact (mup_obj (by decide)).trans (Zm_o (by decide))
      · rw [mup_nk (by decide), Zm_f (by decide) (by decide)]; exact m2
    · rw [if_neg w, if_neg (fun h => w h.1)] at W
      rw [if_neg w]
      refine Fl.of (go W) (((S3.1.tr frM.Z)).tr (frM.m8 (by unfold mfP; omega))) (Fl.bad ?_)
      rw [mup_nk (by decide), Zm_bad]; decide
theorem s_mopart {P : (Int → Int) → Int → List Int → PaR} (hP : PSpM D 7 P) : PSpM D 8 (fun ch => pPart ch (P ch)) := by
  intro σ L H hD hm
  by_cases c1 : 48 ≤ nx (mch σ) (σ 58 3) ∧ nx (mch σ) (σ 58 3) ≤ 57
  · have e : pPart (mch σ) (P (mch σ)) (σ 58 3) L = (pDg (mch σ) 4 (sk (mch σ) (σ 58 3))).map (fun q => (nd 0 q.1 nl nl nl, q.2, L)) := by
      unfold pPart; rw [if_neg (by omega), if_pos c1]
    show DpM (pPart (mch σ) (P (mch σ)) (σ 58 3) L) σ
    rw [e]
    exact pt_d H hm c1
  by_cases c2 : nx (mch σ) (σ 58 3) = 40
  · exact pt_par H hD hm hP c2
  · exact pt_s H hm c1 c2
/-- how a pattern begins -/
theorem pn0 (H : GI σ 7) : Sim σ (aft (mup (Zm (dp1 σ) (σ 58 3) (dpb σ)) 72 (σ 58 21 - 1) (σ 58 14)) 1 8) := by
  have h60 := H.1.2.1
  obtain ⟨-, h24, h3, h7, h14, h22, h21, h70, h71, -⟩ := H
  have ug := gu_7
  refine Sim.go (g := 7) (s := 0) h24 (by omega) h70 h71 ?_
  show Rn 15 yMo_pattern [.ref 58, vi (σ 58 21 - 1)] σ none _
  refine M_Mo_pattern (d := 11) ⟨by omega, by omega⟩ ⟨⟨by omega, by omega⟩, ?_⟩
  have z14 : (Zm (dp1 σ) (σ 58 3) (dpb σ)) 58 14 = σ 58 14 := (Zm_f (by decide) (by decide)).trans (mup_nk (by decide))
  have z21 : (mup (Zm (dp1 σ) (σ 58 3) (dpb σ)) 72 (σ 58 21 - 1) (σ 58 14)) 58 21 = σ 58 21 := (mup_ne (by decide)).trans ((Zm_f (by decide) (by decide)).trans (mup_nk (by decide)))
  rw [h71, if_neg (by decide)]
  refine ⟨_, s_deeper (d := 10) (by omega), ⟨by omega, by omega⟩, ?_⟩
  rw [dpr_Z h24, z14]
  exact ⟨_, s_after (d := 9) (rgk rfl) (rgk rfl) (by rw [z21]; omega), rfl, rfl⟩
theorem s_mopat1 {k : Nat} (hk : D < 16) (hP : PSpM (D + 1) 7 (fun ch => pPat ch k)) : PSpM D 7 (fun ch => pPat ch (k + 1)) := by
  intro σ L H hD hm
  have Sm := pn0 H
  have HM := H.1
  have h60 := HM.2.1
  have HH := H
  obtain ⟨-, h24, h3, h7, h14, h22, h21, h70, h71, -⟩ := H
  have u7 := gu_7
  have u8 := gu_8
  have db : dpb σ = 0 := if_pos (by omega)
  rw [db] at Sm
  have S := (dp1_pgA (q := σ 58 3) ⟨Int.le_refl _, h3.2⟩).own (j := 72) (z := σ 58 14) (Or.inr (Or.inl rfl))
  have y72 : (mup (Zm (dp1 σ) (σ 58 3) 0) 72 (σ 58 21 - 1) (σ 58 14)) 72 (σ 58 21 - 1) = σ 58 14 := mup_eq
  have y23 : (mup (Zm (dp1 σ) (σ 58 3) 0) 72 (σ 58 21 - 1) (σ 58 14)) 58 23 = σ 58 23 := (mup_ne (by decide)).trans ((Zm_f (by decide) (by decide)).trans (mup_nk (by decide)))
  generalize mup (Zm (dp1 σ) (σ 58 3) 0) 72 (σ 58 21 - 1) (σ 58 14) = τa at *
  have gi := S.gi (s := 1) (g := 8) HM (by omega) (by omega) (by omega) (by omega) (by omega)
  have B := S.begunP (Int.le_refl 0) (Int.le_refl 0) h21.1 gi (by omega) (L := L) (by rw [y23]; exact hm) (s_mopart hP)
  show DpM ((pPart (mch σ) (pPat (mch σ) k) (σ 58 3) L).bind fun t => if nx (mch σ) t.2.1 = 44 then (pPat (mch σ) k (sk (mch σ) t.2.1 + 1) t.2.2).map (fun r => (nd 10 0 t.1 r.1 nl, r.2)) else some (t.1, sk (mch σ) t.2.1, t.2.2)) σ
  cases hU : pPart (mch σ) (pPat (mch σ) k) (σ 58 3) L with
  | none =>
    rw [hU] at B
    exact Fl.of Sm (S.1.tr frM.aft) B
  | some t =>
    obtain ⟨U, q2, L2⟩ := t
    rw [hU] at B
    obtain ⟨τ2, sm2, ⟨S3, b1, b2, ⟨b3, b4, b5⟩, C3, kD, kS⟩, m2⟩ := B
    have lU := pPart_l (pPat_l k) _ _ _ hU
    have g1 := pn_ge (T := U)
    rw [Int.zero_add] at S3
    rw [Int.add_zero] at C3
    have q0 := S3.2.2.2.1
    have ge2 := sk_ge (ch := mch σ) (p := q2)
    have e21 : τ2 58 21 = σ 58 21 := S3.2.2.2.2.1
    have e22 : τ2 58 22 = σ 58 22 + 1 := S3.2.2.2.2.2.1
    have e14 : τ2 58 14 = σ 58 14 + pn U := S3.2.2.2.2.2.2.2.2.2.2.1
    have e70 : τ2 70 (σ 58 21 - 1) = 7 := S3.2.2.2.2.2.2.2.2.2.2.2.trans h70
    dsimp only at lU
    have Ea := s_eat (d := 8) (b := 0) (σ := τ2) (q := q2) (c := 44) (S3.1.mi HM) ⟨by omega, by omega⟩ (rgk rfl) (by decide) (by decide)
    rw [S3.id, S3.1.ch] at Ea
    rw [Option.bind_some]
    dsimp only
    have go : ∀ {v : Int} {m5 m' : Mem}, Rn 14 yMo_eat [.ref 58, vi 44] τ2 (some v) m5 → (if v = 0 then (B_Mo_pattern_72 11 m5 none m') else (((0 : Int) ≤ σ 58 21 - 1 ∧ σ 58 21 - 1 < (180 : Int)) ∧ (∃ (m8 : Mem), Rn 14 yMo_insertSign [.ref 58, vi (m5 72 (σ 58 21 - 1))] m5 none m8 ∧ (∃ (m9 : Mem), Rn 14 yMo_after [.ref 58, vi 2, vi 7] m8 none m9 ∧ ((none : Option Int) = none ∧ m' = m9))))) → Sim σ m' := by
      intro v m5 m' hr hb
      refine (Sm.tr sm2).tr (Sim.go (g := 7) (s := 1) S3.2.1 (by omega) (by rw [e21]; exact e70) (by rw [e21]; exact b3) ?_)
      rw [e21]
      show Rn 15 yMo_pattern [.ref 58, vi (σ 58 21 - 1)] τ2 none _
      refine M_Mo_pattern (d := 11) ⟨by omega, by omega⟩ ⟨⟨by omega, by omega⟩, ?_⟩
      rw [b3, if_pos (by decide)]
      refine ⟨⟨by omega, by omega⟩, ?_⟩
      rw [if_neg (by decide)]
      exact ⟨v, m5, hr, hb⟩
    by_cases w : nx (mch σ) q2 = 44
    · rw [if_pos w, if_pos w] at Ea
      rw [if_pos w]
      have sl2 := mch_lt (σ := σ) (x := sk (mch σ) q2) (fun v => by have v' : nx (mch σ) q2 = -1 := v; omega)
      have S4 := S3.Z (q' := sk (mch σ) q2 + 1) ⟨by omega, by omega⟩
      have z14 : (Zm τ2 (sk (mch σ) q2 + 1) 0) 58 14 = σ 58 14 + pn U := (Zm_f (by decide) (by decide)).trans e14
      have z72 : (Zm τ2 (sk (mch σ) q2 + 1) 0) 72 (σ 58 21 - 1) = σ 58 14 := by rw [Zm_o (by decide)]; exact b4.trans y72
      have z23 : mk ((Zm τ2 (sk (mch σ) q2 + 1) 0) 58 23) L2 := by rw [Zm_f (by decide) (by decide)]; exact m2
      have C4 : isP (Zm τ2 (sk (mch σ) q2 + 1) 0) U (σ 58 14) := C3.o (Zm_o (by decide)) (Zm_o (by decide))
      have go := fun {m' : Mem} hb => go (m' := m') Ea (Eq.mpr (if_neg (by decide)) hb)
      generalize Zm τ2 (sk (mch σ) q2 + 1) 0 = ρ at *
      obtain ⟨τ3, R3, I1, I2, I3, I4, I5, I6⟩ := s_insertSign (σ := ρ) (d := 10) (p := σ 58 14) (by omega)
      have f3 : frM ρ τ3 := by
        refine ⟨fun i hi => I1 i (fun e => by rw [e] at hi; cases hi) (fun e => by rw [e] at hi; cases hi) (fun e => by rw [e] at hi; cases hi), fun k hk => I2 k (fun e => hk (by rw [e]; unfold mfP; omega))⟩
      have S5 : Pg σ τ3 (sk (mch σ) q2 + 1) 1 0 (pn U + 1) := by
        obtain ⟨f, s24, s3, s3b, s21, s22, k1, k2, k3, s7, s14, s70⟩ := S4
        refine ⟨f.tr f3, (I2 24 (by decide)).trans s24, (I2 3 (by decide)).trans s3, s3b, (I2 21 (by decide)).trans s21, (I2 22 (by decide)).trans s22, ?_, ?_, ?_, (I2 7 (by decide)).trans s7, by omega, ?_⟩
        · intro x h0 h1; rw [I1 70 (by decide) (by decide) (by decide), I1 71 (by decide) (by decide) (by decide), I1 72 (by decide) (by decide) (by decide), I1 73 (by decide) (by decide) (by decide)]; exact k1 x h0 h1
        · intro x h0 h1; rw [I1 60 (by decide) (by decide) (by decide), I1 61 (by decide) (by decide) (by decide), I1 62 (by decide) (by decide) (by decide), I1 74 (by decide) (by decide) (by decide)]; exact k2 x h0 h1
        · intro x h0 h1
          obtain ⟨i1, i2⟩ := I4 x h1
          rw [i1, i2]; exact k3 x h0 h1
        · rw [I1 70 (by decide) (by decide) (by decide)]; exact s70
      have t21 : τ3 58 21 = σ 58 21 := S5.2.2.2.2.1
      have Sm3 := go ⟨⟨by omega, by omega⟩, τ3, by rw [z72]; exact R3, _, s_after (d := 9) (rgk rfl) (rgk rfl) (by omega), rfl, rfl⟩
      have C5 : isP τ3 U (σ 58 14 + 1) := C4.sh (fun x a b => I6 x (by omega) (by omega))
      have gi2 := S5.gi (s := 2) (g := 7) HM (by omega) (by omega) (by omega) (by omega) (by omega)
      have B2 := S5.begunP (Int.le_refl 0) (by omega) h21.1 gi2 (by omega) (L := L2) (by rw [I2 23 (by decide)]; exact z23) hP
      cases hV : pPat (mch σ) k (sk (mch σ) q2 + 1) L2 with
      | none =>
        rw [hV] at B2
        exact Fl.of Sm3 (S5.1.tr frM.aft) B2
      | some t =>
        obtain ⟨V, q6, L6⟩ := t
        rw [hV] at B2
        obtain ⟨τ6, sm6, ⟨S6, y1, y2, ⟨y3, y4, y5⟩, C6, kD6, kS6⟩, m6⟩ := B2
        have lV := pPat_l k _ _ _ hV
        have g3 := pn_ge (T := V)
        have q7 := S6.2.2.2.1
        dsimp only at lV
        have x21 : τ6 58 21 = σ 58 21 := S6.2.2.2.2.1
        have x22 : τ6 58 22 = σ 58 22 + 1 := S6.2.2.2.2.2.1
        have x70 : τ6 70 (σ 58 21 - 1) = 7 := S6.2.2.2.2.2.2.2.2.2.2.2.trans h70
        have Sm6 : Sim σ (eDp τ6) := by
          refine (Sm3.tr sm6).tr (Sim.go (g := 7) (s := 2) S6.2.1 (by omega) (by rw [x21]; exact x70) (by rw [x21]; exact y3) ?_)
          rw [x21]
          show Rn 15 yMo_pattern [.ref 58, vi (σ 58 21 - 1)] τ6 none _
          refine M_Mo_pattern (d := 11) ⟨by omega, by omega⟩ ⟨⟨by omega, by omega⟩, ?_⟩
          rw [y3, if_pos (by decide)]
          refine ⟨⟨by omega, by omega⟩, ?_⟩
          rw [if_pos (by decide)]
          exact ⟨_, s_endsDeep (d := 10) (by omega) (by omega), rfl, rfl⟩
        have e66 : (eDp τ6) 66 = τ6 66 := (mup_obj (by decide)).trans (mup_obj (by decide))
        have e67 : (eDp τ6) 67 = τ6 67 := (mup_obj (by decide)).trans (mup_obj (by decide))
        have el : pn U + 1 + pn V = pn (nd 10 0 U V nl) := by show _ = pn U + pn V + 1; omega
        rw [el] at S6
        refine ⟨_, Sm6, S6.popPD, ⟨?_, ?_, ?_⟩, ?_⟩
        · obtain ⟨i1, i2⟩ := kS6 (σ 58 14) (by omega) (by omega)
          exact ⟨by rw [e66, i1]; exact I5.1, by rw [e67, i2]; exact I5.2⟩
        · exact (C5.kp (by omega) (by omega) kS6).o e66 e67
        · have := C6.o (τ := eDp τ6) e66 e67
          rwa [show σ 58 14 + (pn U + 1) = σ 58 14 + 1 + pn U by omega] at this
        · have e23 : (eDp τ6) 58 23 = τ6 58 23 := (mup_nk (by decide)).trans (mup_nk (by decide))
          rw [e23]; exact m6
    · rw [if_neg w, if_neg w] at Ea
      rw [if_neg w]
      have sin : sk (mch σ) q2 ≤ σ 58 2 := skf_in (fun x e => (mch_lt (by omega)).2) 60 q2 (by omega)
      have S4 := S3.Z (q' := sk (mch σ) q2) ⟨by omega, sin⟩
      have z21 : (Zm τ2 (sk (mch σ) q2) 0) 58 21 = σ 58 21 := (Zm_f (by decide) (by decide)).trans e21
      have z22 : (Zm τ2 (sk (mch σ) q2) 0) 58 22 = σ 58 22 + 1 := (Zm_f (by decide) (by decide)).trans e22
      refine ⟨_, go (m' := eDp (Zm τ2 (sk (mch σ) q2) 0)) Ea (Eq.mpr (if_pos rfl) ⟨_, s_endsDeep (d := 10) (by omega) (by omega), rfl, rfl⟩), S4.popPD, C3.o ?_ ?_, ?_⟩
      · exact ((mup_obj (by decide)).trans (mup_obj (by decide))).trans (Zm_o (by decide))
      · exact ((mup_obj (by decide)).trans (mup_obj (by decide))).trans (Zm_o (by decide))
      · have e23 : (eDp (Zm τ2 (sk (mch σ) q2) 0)) 58 23 = τ2 58 23 := ((mup_nk (by decide)).trans (mup_nk (by decide))).trans (Zm_f (by decide) (by decide))
        rw [e23]; exact m2
theorem s_mopat0 (hk : D = 16) : PSpM D 7 (fun ch => pPat ch 0) := by
  intro σ L H hD hm
  show Fl σ
  refine Fl.of (pn0 H) (((dp1_f.tr frM.Z).tr (frM.mu rfl (by decide))).tr frM.aft) (Fl.bad ?_)
  rw [aft_at.1 24 (by decide), mup_ne (by decide), Zm_bad]
  unfold dpb
  rw [if_neg (by omega)]; decide
theorem s_mopat : ∀ (k : Nat) (D : Int), D + k = 16 → PSpM D 7 (fun ch => pPat ch k)
  | 0, D, h => s_mopat0 (by omega)
  | k + 1, D, h => s_mopat1 (by omega) (s_mopat k (D + 1) (by omega))
end PTN
