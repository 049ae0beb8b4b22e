/-! The model's reader: the clauses of a choice, one after another. -/
section CLM
variable {σ τ ρ : Mem} {D : Int}
set_option maxHeartbeats 4000000 in
theorem mobr_l {P : (Int → Int) → Int → List Int → PaR} {E : (Int → Int) → Int → Option (Tr × Int)} (H : GI σ 0) (hD : σ 58 22 = D) (h16 : σ 58 22 < 16) (hP : PSpM (D + 1) 7 P) (lP : ∀ ch, lpp (P ch)) (bP : ∀ ch, lpb (P ch)) (hE : GSp (D + 1) 0 E) (lE : Lp E) : ∀ (n : Nat) (q a b last : Int) (J : List Int) (τ0 τ : Mem), (∀ m, (∀ d : Nat, Rn (d + 6) yMo_clauseBegins [.ref 58, vi (σ 58 21 - 1)] τ none m) → Sim τ0 m) → Sim σ τ0 → Pg σ τ q 1 a b → 0 ≤ a → 0 ≤ b → τ 73 (σ 58 21 - 1) = (5 - (n : Int)) * 65536 + last → 0 ≤ last → last < 124 → chn τ last J → (∀ j ∈ J, j < σ 58 7 + a) → a + 1 ≤ 2 * (q - σ 58 3) → b ≤ q - σ 58 3 → n ≤ 5 → BrM (pBr (mch σ) (P (mch σ)) (E (mch σ)) n q) σ τ a b J := by
  intro n
  induction n with
  | zero =>
    intro q a b last J τ0 τ K S0 S ha hb h73 l0 l1 hJ hJ2 la lb hn
    show Fl σ
    have HM := H.1
    have h60 := HM.2.1
    obtain ⟨-, h24, h3, h7, h14, h22, h21, h70, -⟩ := H
    have ug := gu_0
    have q0 := S.2.2.2.1
    have e7 := S.2.2.2.2.2.2.2.2.2.1
    have e14 := S.2.2.2.2.2.2.2.2.2.2.1
    have e21 : τ 58 21 = σ 58 21 := S.2.2.2.2.1
    obtain ⟨y1, y2, y3⟩ := yy1 (c := 5) (j := last) (by decide) ⟨l0, l1⟩
    refine Fl.of (S0.tr (K (clB τ (σ 58 21 - 1) 1) (fun d => s_clB (by omega) (by omega) (by omega) (by omega) (Or.inl ⟨rfl, Or.inr ?_⟩)))) (S.1.tr clB_f) (Fl.bad ?_)
    · rw [h73]; exact y2
    · rw [clB_bad]; decide
  | succ n ih =>
    intro q a b last J τ0 τ K S0 S ha hb h73 l0 l1 hJ hJ2 la lb hn
    have HM := H.1
    have h60 := HM.2.1
    have HH := H
    obtain ⟨-, h24, h3, h7, h14, h22, h21, h70, -⟩ := H
    have ug := gu_0
    have u7 := gu_7
    have q0 := S.2.2.2.1
    have e7 := S.2.2.2.2.2.2.2.2.2.1
    have e14 := S.2.2.2.2.2.2.2.2.2.2.1
    have e21 : τ 58 21 = σ 58 21 := S.2.2.2.2.1
    have e24 : τ 58 24 = 0 := S.2.1
    obtain ⟨y1, y2, y3⟩ := yy1 (c := 5 - ((n + 1 : Nat) : Int)) (j := last) (by omega) ⟨l0, l1⟩
    have Sm := S0.tr (K (clB τ (σ 58 21 - 1) 0) (fun d => s_clB (by omega) (by omega) (by omega) (by omega) (Or.inr ⟨rfl, e24, by rw [h73, y2]; omega⟩)))
    have em : mup τ 58 24 0 = τ := by rw [← e24, mup_id]
    unfold clB at Sm
    rw [em, e14, e7] at Sm
    -- the state behind the draft of the clause
    have S1 := ((S.m23 (z := 0)).put (x := 16) (y := σ 58 14 + b) (z := 0) ha).own (j := 72) (z := σ 58 7 + a) (Or.inr (Or.inl rfl))
    have w7 : (mup τ 58 23 0) 58 7 = σ 58 7 + a := (mup_nk (by decide)).trans e7
    have C1 : cell (mup (dft (mup τ 58 23 0) 16 (σ 58 14 + b) 0) 72 (σ 58 21 - 1) (σ 58 7 + a)) (σ 58 7 + a) 16 (σ 58 14 + b) 0 := by
      have := (dft_at (τ := mup τ 58 23 0) (x := 16) (y := σ 58 14 + b) (z := 0)).2.2.1
      rw [w7] at this
      exact this.own (Or.inr (Or.inl rfl))
    have kD1 : kpD (σ 58 7 + a) τ (mup (dft (mup τ 58 23 0) 16 (σ 58 14 + b) 0) 72 (σ 58 21 - 1) (σ 58 7 + a)) :=
      ((show kpD (σ 58 7 + a) τ (mup τ 58 23 0) from fun x _ _ => by rw [mup_obj (by decide), mup_obj (by decide), mup_obj (by decide), mup_obj (by decide)]; exact ⟨rfl, rfl, rfl, rfl⟩).tr (dft_kD (n := σ 58 7 + a) (by omega)) (Int.le_refl _)).tr (own_kD (n := σ 58 7 + a) (Or.inr (Or.inl rfl))) (Int.le_refl _)
    have kS1 : kpS (σ 58 14 + b) τ (mup (dft (mup τ 58 23 0) 16 (σ 58 14 + b) 0) 72 (σ 58 21 - 1) (σ 58 7 + a)) :=
      ((show kpS (σ 58 14 + b) τ (mup τ 58 23 0) from fun x _ _ => by rw [mup_obj (by decide), mup_obj (by decide)]; exact ⟨rfl, rfl⟩).tr (dft_kS (n := σ 58 14 + b)) (Int.le_refl _)).tr (own_kS (n := σ 58 14 + b) (Or.inr (Or.inl rfl))) (Int.le_refl _)
    have a72 : (mup (dft (mup τ 58 23 0) 16 (σ 58 14 + b) 0) 72 (σ 58 21 - 1) (σ 58 7 + a)) 72 (σ 58 21 - 1) = σ 58 7 + a := mup_eq
    have a73 : (mup (dft (mup τ 58 23 0) 16 (σ 58 14 + b) 0) 72 (σ 58 21 - 1) (σ 58 7 + a)) 73 (σ 58 21 - 1) = (5 - ((n + 1 : Nat) : Int)) * 65536 + last := by
      rw [mup_ne (by decide), dft_at.2.2.2.2 73 (by decide) (by decide) (by decide) (by decide), mup_ne (by decide)]; exact h73
    have a23 : (mup (dft (mup τ 58 23 0) 16 (σ 58 14 + b) 0) 72 (σ 58 21 - 1) (σ 58 7 + a)) 58 23 = 0 := by
      rw [mup_ne (by decide), dft_at.1 23 (by decide), mup_eq]
    generalize mup (dft (mup τ 58 23 0) 16 (σ 58 14 + b) 0) 72 (σ 58 21 - 1) (σ 58 7 + a) = τ1 at *
    have gi := S1.gi (s := 10) (g := 7) HM (by omega) (by omega) (by omega) (by omega) (by omega)
    have B := S1.begunP (by omega) hb h21.1 gi (by omega) (L := []) (by rw [a23]; exact mk_0) hP
    show BrM ((P (mch σ) q []).bind fun a => (pEx (mch σ) 58 a.2.1).bind fun r => (E (mch σ) r).bind fun b =>
      if nx (mch σ) b.2 = 124 then (pBr (mch σ) (P (mch σ)) (E (mch σ)) n (sk (mch σ) b.2 + 1)).map (fun x => (nd 17 a.2.2.length a.1 b.1 x.1, x.2))
      else (pEx (mch σ) 125 b.2).map (fun t => (nd 17 a.2.2.length a.1 b.1 nl, t))) σ τ a b J
    cases hU : P (mch σ) q [] with
    | none =>
      rw [hU] at B
      exact Fl.of Sm (S1.1.tr frM.aft) B
    | some t =>
      obtain ⟨U, q2, L2⟩ := t
      rw [hU] at B
      obtain ⟨τ2, sm2, ⟨S3, x1, x2, ⟨x3, x4, x5⟩, C3, kD2, kS2⟩, m2⟩ := B
      have lU := lP _ _ _ _ hU
      have bU := bP _ _ _ _ hU
      have g1 := pn_ge (T := U)
      have bb := bnP_rg (T := U)
      dsimp only at lU bU
      have q3 := S3.2.2.2.1
      have E1 := eg10 (w := σ 58 7 + a) HH S3 x3 (x4.trans a72) ⟨by omega, by omega⟩ (by omega)
      have Sm2 := (Sm.tr sm2).tr E1
      rw [Option.bind_some]
      dsimp only
      by_cases w2 : nx (mch σ) q2 = 58
      case neg =>
        have eY : pEx (mch σ) 58 q2 = none := by unfold pEx; rw [if_neg w2]
        rw [eY, Option.bind_none]
        have eB : wtB (mch σ) 58 0 q2 = 1 := if_neg (fun h => w2 h.1)
        rw [eB] at Sm2
        refine Fl.of Sm2 (((S3.1.tr frM.Z).tr (frM.mu rfl (by decide))).tr frM.aft) (Fl.bad ?_)
        rw [aft_at.1 24 (by decide), mup_ne (by decide), Zm_bad]; decide
      have eW : wtP (mch σ) 58 q2 = sk (mch σ) q2 + 1 := if_pos w2
      have eB : wtB (mch σ) 58 0 q2 = 0 := if_pos ⟨w2, rfl⟩
      have eY : pEx (mch σ) 58 q2 = some (sk (mch σ) q2 + 1) := by unfold pEx; rw [if_pos w2]
      rw [eY, Option.bind_some]
      have e71 : σ 58 14 + (b + pn U) = σ 58 14 + b + pn U := by omega
      rw [eW, eB, e71] at Sm2
      have ge3 := sk_ge (ch := mch σ) (p := q2)
      have sl3 := mch_lt (σ := σ) (x := sk (mch σ) q2) (fun v => by have v' : nx (mch σ) q2 = -1 := v; omega)
      have S4 := (S3.Z (q' := sk (mch σ) q2 + 1) ⟨by omega, by omega⟩).fixJ (j := 62) (x := σ 58 7 + a) (z := σ 58 14 + b + pn U) (Or.inl rfl) (by omega)
      have C4 : cell (mup (Zm τ2 (sk (mch σ) q2 + 1) 0) 62 (σ 58 7 + a) (σ 58 14 + b + pn U)) (σ 58 7 + a) 16 (σ 58 14 + b) (σ 58 14 + b + pn U) := by
        have := C1.kp kD2 (by omega) (by omega)
        exact ⟨by rw [mup_ne (by decide), Zm_o (by decide)]; exact this.1, by rw [mup_ne (by decide), Zm_o (by decide)]; exact this.2.1, mup_eq⟩
      have P4 : isP (mup (Zm τ2 (sk (mch σ) q2 + 1) 0) 62 (σ 58 7 + a) (σ 58 14 + b + pn U)) U (σ 58 14 + b) :=
        C3.o ((mup_obj (by decide)).trans (Zm_o (by decide))) ((mup_obj (by decide)).trans (Zm_o (by decide)))
      have kD4 : kpD (σ 58 7 + a) τ (mup (Zm τ2 (sk (mch σ) q2 + 1) 0) 62 (σ 58 7 + a) (σ 58 14 + b + pn U)) :=
        ((kD1.tr kD2 (by omega)).tr (Zm_kD (n := σ 58 7 + a)) (Int.le_refl _)).tr (fixJ_kD (n := σ 58 7 + a) (Int.le_refl _)) (Int.le_refl _)
      have kS4 : kpS (σ 58 14 + b) τ (mup (Zm τ2 (sk (mch σ) q2 + 1) 0) 62 (σ 58 7 + a) (σ 58 14 + b + pn U)) :=
        ((kS1.tr kS2 (by omega)).tr (Zm_kS (n := σ 58 14 + b)) (Int.le_refl _)).tr (fixJ_kS (n := σ 58 14 + b) (Or.inl rfl)) (Int.le_refl _)
      have b72 : (mup (Zm τ2 (sk (mch σ) q2 + 1) 0) 62 (σ 58 7 + a) (σ 58 14 + b + pn U)) 72 (σ 58 21 - 1) = σ 58 7 + a := by
        rw [mup_ne (by decide), Zm_o (by decide)]; exact x4.trans a72
      have b73 : (mup (Zm τ2 (sk (mch σ) q2 + 1) 0) 62 (σ 58 7 + a) (σ 58 14 + b + pn U)) 73 (σ 58 21 - 1) = (5 - ((n + 1 : Nat) : Int)) * 65536 + last := by
        rw [mup_ne (by decide), Zm_o (by decide)]; exact x5.trans a73
      generalize mup (Zm τ2 (sk (mch σ) q2 + 1) 0) 62 (σ 58 7 + a) (σ 58 14 + b + pn U) = τ4 at *
      have gi2 := S4.gi (s := 11) (g := 0) HM (by omega) (by omega) (by omega) (by omega) (by omega)
      have B2 := S4.begun (by omega) (by omega) h21.1 gi2 (by omega) hE
      cases hV : E (mch σ) (sk (mch σ) q2 + 1) with
      | none =>
        rw [hV] at B2
        exact Fl.of Sm2 (S4.1.tr frM.aft) B2
      | some t =>
        obtain ⟨V, q4⟩ := t
        rw [hV] at B2
        obtain ⟨τ5, sm5, S5, z1, z2, ⟨z3, z4, z5⟩, C5, kD5, kS5⟩ := B2
        have lV := lE _ _ _ _ hV
        have g3 := ln_ge (T := V)
        have g4 := sn_ge (T := V)
        have q5 := S5.2.2.2.1
        have K5 := eg11 HH S5 z3
        have Sm5 := Sm2.tr sm5
        have ge6 := sk_ge (ch := mch σ) (p := q4)
        have v72 : τ5 72 (σ 58 21 - 1) = σ 58 7 + a := z4.trans b72
        have v73 : τ5 73 (σ 58 21 - 1) = (5 - ((n + 1 : Nat) : Int)) * 65536 + last := z5.trans b73
        have v7 : τ5 58 7 = σ 58 7 + a + ln V + 1 := by have := S5.2.2.2.2.2.2.2.2.2.1; omega
        have C6 := C4.kp kD5 (by omega) (by omega)
        have P6 := P4.kp (by omega) (by omega) kS5
        have kD6 : kpD (σ 58 7 + a) τ τ5 := kD4.tr kD5 (by omega)
        have kS6 : kpS (σ 58 14 + b) τ τ5 := kS4.tr kS5 (by omega)
        rw [show σ 58 7 + (a + 1) = σ 58 7 + a + 1 by omega, show σ 58 14 + (b + pn U) = σ 58 14 + b + pn U by omega] at C5
        rw [Option.bind_some]
        dsimp only
        have eL : (L2.length : Int) = bnP U := by rw [bU]; simp
        rw [eL]
        -- the two drafts behind the clause
        have S6 := ((((S5.put (x := 12) (y := bnP U) (z := 0) (by omega)).put (x := 14) (y := last) (z := 0) (by omega)).fixJ (j := 74) (x := σ 58 7 + a) (z := σ 58 7 + a + ln V + 3) (Or.inr rfl) (by omega))).own (j := 73) (z := (5 - (n : Int)) * 65536 + (σ 58 7 + a + ln V + 2)) (Or.inr (Or.inr rfl))
        have d7 : (dft τ5 12 (bnP U) 0) 58 7 = σ 58 7 + a + ln V + 2 := by rw [dft_at.2.1]; omega
        have dd7 : (dft (dft τ5 12 (bnP U) 0) 14 last 0) 58 7 = σ 58 7 + a + ln V + 3 := by rw [dft_at.2.1]; omega
        have d72 : (dft (dft τ5 12 (bnP U) 0) 14 last 0) 72 (σ 58 21 - 1) = σ 58 7 + a := by
          rw [dft_at.2.2.2.2 72 (by decide) (by decide) (by decide) (by decide), dft_at.2.2.2.2 72 (by decide) (by decide) (by decide) (by decide)]; exact v72
        have d73 : (dft (dft τ5 12 (bnP U) 0) 14 last 0) 73 (σ 58 21 - 1) = (5 - ((n + 1 : Nat) : Int)) * 65536 + last := by
          rw [dft_at.2.2.2.2 73 (by decide) (by decide) (by decide) (by decide), dft_at.2.2.2.2 73 (by decide) (by decide) (by decide) (by decide)]; exact v73
        have c73 : (dft τ5 12 (bnP U) 0) 73 (σ 58 21 - 1) = (5 - ((n + 1 : Nat) : Int)) * 65536 + last := by
          rw [dft_at.2.2.2.2 73 (by decide) (by decide) (by decide) (by decide)]; exact v73
        obtain ⟨ny1, ny2, ny3⟩ := yy1 (c := 5 - (n : Int)) (j := σ 58 7 + a + ln V + 2) (by omega) ⟨by omega, by omega⟩
        have K6 : ∀ m, (∃ (v11 : Int) (m11 : Mem), Rn 13 yMo_eat [.ref 58, vi 124] (mup (mup (dft (dft τ5 12 (bnP U) 0) 14 last 0) 74 (σ 58 7 + a) (σ 58 7 + a + ln V + 3)) 73 (σ 58 21 - 1) ((5 - (n : Int)) * 65536 + (σ 58 7 + a + ln V + 2))) (some v11) m11 ∧ (if v11 = 0 then (∃ (m13 : Mem), Rn 13 yMo_want [.ref 58, vi 125] m11 none m13 ∧ (∃ (m14 : Mem), Rn 13 yMo_put [.ref 58, vi 17, vi 0, vi 0] m13 none m14 ∧ (((0 : Int) ≤ (σ 58 21 - 1) ∧ (σ 58 21 - 1) < (180 : Int)) ∧ (Lb 13 yMo_clauseEnds 170 [(0, .ref 58), (4, vi (zAnd (m14 73 (σ 58 21 - 1)) 65535))] [] m14 none m)))) else (∃ (m16 : Mem), Rn 13 yMo_clauseBegins [.ref 58, vi (σ 58 21 - 1)] m11 none m16 ∧ ((none : Option Int) = none ∧ m = m16)))) → Sim τ5 m := by
          intro m hm
          refine K5 m (M_Mo_clauseEnds (d := 10) ⟨by omega, by omega⟩ ⟨⟨by omega, by omega⟩, by rw [v72]; exact ⟨by omega, by omega⟩, ?_⟩)
          rw [v72, C6.2.1]
          refine cnt_l (d := 10) (e := σ 58 14 + b + pn U) ⟨by omega, by omega⟩ v72 ⟨by omega, by omega⟩ C6.2.2 (by omega) U _ 0 P6 (by omega) (Int.le_refl _) ⟨by decide, by omega⟩ none m ?_
          refine K_Mo_clauseEnds_14 (d := 10) ⟨by omega, by omega⟩ ⟨by omega, by omega⟩ ⟨by omega, by omega⟩ ?_
          unfold B_Mo_clauseEnds_14
          rw [v72, C6.2.2, if_pos (Int.le_refl _), Int.zero_add]
          refine ⟨⟨by omega, by omega⟩, ⟨by omega, by omega⟩, _, s_put (d := 9) (rgk rfl) ⟨by omega, by omega⟩ (rgk rfl) (by omega), ⟨by omega, by omega⟩, ?_⟩
          rw [c73, y1]
          refine ⟨_, s_put (d := 9) (rgk rfl) ⟨by omega, by omega⟩ (rgk rfl) (by rw [d7]; omega), ⟨by omega, by omega⟩, ?_⟩
          rw [d72, d73, dd7, y2, show 5 - ((n + 1 : Nat) : Int) + 1 = 5 - (n : Int) by omega, show σ 58 7 + a + ln V + 3 - 1 = σ 58 7 + a + ln V + 2 by omega, ny3]
          exact ⟨⟨by omega, by omega⟩, ⟨by omega, by omega⟩, ⟨by omega, by omega⟩, hm⟩
        -- what stands in it
        have n74 : ∀ {x : Int}, (mup (mup (dft (dft τ5 12 (bnP U) 0) 14 last 0) 74 (σ 58 7 + a) (σ 58 7 + a + ln V + 3)) 73 (σ 58 21 - 1) ((5 - (n : Int)) * 65536 + (σ 58 7 + a + ln V + 2))) 60 x = (dft (dft τ5 12 (bnP U) 0) 14 last 0) 60 x := by
          intro x; rw [mup_ne (by decide), mup_ne (by decide)]
        have toF : ∀ {x u v w : Int}, cell (dft (dft τ5 12 (bnP U) 0) 14 last 0) x u v w → cell (mup (mup (dft (dft τ5 12 (bnP U) 0) 14 last 0) 74 (σ 58 7 + a) (σ 58 7 + a + ln V + 3)) 73 (σ 58 21 - 1) ((5 - (n : Int)) * 65536 + (σ 58 7 + a + ln V + 2))) x u v w := by
          intro x u v w h
          exact ⟨by rw [mup_ne (by decide), mup_ne (by decide)]; exact h.1, by rw [mup_ne (by decide), mup_ne (by decide)]; exact h.2.1, by rw [mup_ne (by decide), mup_ne (by decide)]; exact h.2.2⟩
        have kk : kpD (σ 58 7 + a + ln V + 1) τ5 (dft (dft τ5 12 (bnP U) 0) 14 last 0) := (dft_kD (n := σ 58 7 + a + ln V + 1) (by omega)).tr (dft_kD (n := σ 58 7 + a + ln V + 1) (by omega)) (Int.le_refl _)
        have kks : ∀ n', kpS n' τ5 (dft (dft τ5 12 (bnP U) 0) 14 last 0) := fun n' => (dft_kS (n := n')).tr (dft_kS (n := n')) (Int.le_refl _)
        have F1 := toF (C6.kp kk (by omega) (by omega))
        have F2 : (mup (mup (dft (dft τ5 12 (bnP U) 0) 14 last 0) 74 (σ 58 7 + a) (σ 58 7 + a + ln V + 3)) 73 (σ 58 21 - 1) ((5 - (n : Int)) * 65536 + (σ 58 7 + a + ln V + 2))) 74 (σ 58 7 + a) = σ 58 7 + a + ln V + 3 := by rw [mup_ne (by decide), mup_eq]
        have F3 : isP (mup (mup (dft (dft τ5 12 (bnP U) 0) 14 last 0) 74 (σ 58 7 + a) (σ 58 7 + a + ln V + 3)) 73 (σ 58 21 - 1) ((5 - (n : Int)) * 65536 + (σ 58 7 + a + ln V + 2))) U (σ 58 14 + b) :=
          (P6.kp (by omega) (Int.le_refl _) (kks _)).o ((mup_obj (by decide)).trans (mup_obj (by decide))) ((mup_obj (by decide)).trans (mup_obj (by decide)))
        have F4 : isC (mup (mup (dft (dft τ5 12 (bnP U) 0) 14 last 0) 74 (σ 58 7 + a) (σ 58 7 + a + ln V + 3)) 73 (σ 58 21 - 1) ((5 - (n : Int)) * 65536 + (σ 58 7 + a + ln V + 2))) V (σ 58 7 + a + 1) (σ 58 14 + b + pn U) := by
          have h0 : isC (dft (dft τ5 12 (bnP U) 0) 14 last 0) V (σ 58 7 + a + 1) (σ 58 14 + b + pn U) := kpD.isC (by omega) (by omega) kk (kks (σ 58 14 + b + pn U + sn V)) (by omega) (Int.le_refl _) C5
          refine isC.own (Or.inr (Or.inr rfl)) (isC.mv (fun x h1 h2 => ?_) (fun x _ _ => ?_) h0)
          · unfold Da; rw [mup_ne (by decide), mup_ne (by decide), mup_ne (by decide), mup_nk (show x ≠ σ 58 7 + a by omega)]; exact ⟨rfl, fun _ => rfl, rfl, rfl⟩
          · rw [mup_ne (by decide), mup_ne (by decide)]; exact ⟨rfl, rfl⟩
        have F5 : cell (mup (mup (dft (dft τ5 12 (bnP U) 0) 14 last 0) 74 (σ 58 7 + a) (σ 58 7 + a + ln V + 3)) 73 (σ 58 21 - 1) ((5 - (n : Int)) * 65536 + (σ 58 7 + a + ln V + 2))) (σ 58 7 + a + ln V + 1) 12 (bnP U) 0 := by
          have := (dft_at (τ := τ5) (x := 12) (y := bnP U) (z := 0)).2.2.1
          rw [v7] at this
          exact toF (this.kp (dft_kD (n := σ 58 7 + a + ln V + 2) (by omega)) (by omega) (by omega))
        have F6 : cell (mup (mup (dft (dft τ5 12 (bnP U) 0) 14 last 0) 74 (σ 58 7 + a) (σ 58 7 + a + ln V + 3)) 73 (σ 58 21 - 1) ((5 - (n : Int)) * 65536 + (σ 58 7 + a + ln V + 2))) (σ 58 7 + a + ln V + 2) 14 last 0 := by
          have := (dft_at (τ := dft τ5 12 (bnP U) 0) (x := 14) (y := last) (z := 0)).2.2.1
          rw [d7] at this
          exact toF this
        have kD7 : kpD (σ 58 7 + a) τ (mup (mup (dft (dft τ5 12 (bnP U) 0) 14 last 0) 74 (σ 58 7 + a) (σ 58 7 + a + ln V + 3)) 73 (σ 58 21 - 1) ((5 - (n : Int)) * 65536 + (σ 58 7 + a + ln V + 2))) :=
          ((kD6.tr kk (by omega)).tr (fixJ_kD (n := σ 58 7 + a) (Int.le_refl _)) (Int.le_refl _)).tr (own_kD (n := σ 58 7 + a) (Or.inr (Or.inr rfl))) (Int.le_refl _)
        have kS7 : kpS (σ 58 14 + b) τ (mup (mup (dft (dft τ5 12 (bnP U) 0) 14 last 0) 74 (σ 58 7 + a) (σ 58 7 + a + ln V + 3)) 73 (σ 58 21 - 1) ((5 - (n : Int)) * 65536 + (σ 58 7 + a + ln V + 2))) :=
          ((kS6.tr (kks _) (Int.le_refl _)).tr (fixJ_kS (n := σ 58 14 + b) (Or.inr rfl)) (Int.le_refl _)).tr (own_kS (n := σ 58 14 + b) (Or.inr (Or.inr rfl))) (Int.le_refl _)
        have s73 : (mup (mup (dft (dft τ5 12 (bnP U) 0) 14 last 0) 74 (σ 58 7 + a) (σ 58 7 + a + ln V + 3)) 73 (σ 58 21 - 1) ((5 - (n : Int)) * 65536 + (σ 58 7 + a + ln V + 2))) 73 (σ 58 21 - 1) = (5 - (n : Int)) * 65536 + (σ 58 7 + a + ln V + 2) := mup_eq
        clear n74 toF kk kks d7 dd7 d72 d73 c73
        generalize mup (mup (dft (dft τ5 12 (bnP U) 0) 14 last 0) 74 (σ 58 7 + a) (σ 58 7 + a + ln V + 3)) 73 (σ 58 21 - 1) ((5 - (n : Int)) * 65536 + (σ 58 7 + a + ln V + 2)) = τ6 at *
        have hc6 : chn τ6 (σ 58 7 + a + ln V + 2) ((σ 58 7 + a + ln V + 2) :: J) := by
          have hJ0 : ∀ j ∈ J, 0 < j := hJ.pos
          refine ⟨rfl, ⟨by omega, by omega⟩, fun i hi => by have := hJ2 i hi; omega, ?_⟩
          rw [F6.2.1]
          refine chn.mv (fun j hj => ?_) hJ
          have h0 := hJ0 j hj
          have h1 := hJ2 j hj
          exact (kD7 j (by omega) h1).2.1
        by_cases w6 : nx (mch σ) q4 = 124
        · rw [if_pos w6]
          have sl6 := mch_lt (σ := σ) (x := sk (mch σ) q4) (fun v => by have v' : nx (mch σ) q4 = -1 := v; omega)
          refine br_bar HH S6 Sm5 K6 ha hb F1 F2 F3 F4 F5 F6 kD7 kS7 s73 hc6 hJ2 (by omega) (by omega) hn (fun τ7 k7 p7 r7 c7 => ?_) w6
          exact ih (sk (mch σ) q4 + 1) (a + 1 + ln V + 1 + 1) (b + pn U + sn V) (σ 58 7 + a + ln V + 2) ((σ 58 7 + a + ln V + 2) :: J) τ5 τ7 k7 Sm5 p7 (by omega) (by omega) r7 (by omega) (by omega) c7 (fun j hj => by
            rcases List.mem_cons.mp hj with e | e
            · omega
            · have := hJ2 j e; omega) (by omega) (by omega) (by omega)
        · rw [if_neg w6]
          exact br_end HH S6 Sm5 K6 ha hb F1 F2 F3 F4 F5 F6 kD7 kS7 s73 hc6 hJ2 (by omega) (by omega) hn w6
end CLM
