/-! The model's reader: sums and products; how operands begin. -/
section OPS
variable {σ τ : Mem} {q g u v D : Int} {A : (Int → Int) → Int → Option (Tr × Int)}
theorem gu_op (hg : 1 ≤ g ∧ g ≤ 6) : gu g = g - 6 := by
  unfold gu
  rw [if_neg (by omega), if_neg (by omega)]
theorem op0 (H : GI σ g) (hg : 1 ≤ g ∧ g ≤ 5) : Sim σ (aft σ 1 (g + 1)) := by
  have h60 := H.1.2.1
  obtain ⟨-, h24, h3, h7, h14, h22, h21, h70, h71, -⟩ := H
  have ug := gu_op (g := g) (by omega)
  refine Sim.go (g := g) (s := 0) h24 (by omega) h70 h71 ?_
  have e : goM g 0 = yMo_operands := by unfold goM; rw [if_neg (by omega), if_pos (by omega)]
  rw [e]
  refine M_Mo_operands (d := 11) ⟨by omega, by omega⟩ ⟨⟨by omega, by omega⟩, ⟨by omega, by omega⟩, ?_⟩
  rw [h71, if_neg (fun h => h rfl), h70]
  exact ⟨_, s_after (d := 9) (rgk rfl) ⟨by omega, by omega⟩ (by omega), rfl, rfl⟩
theorem op1 {τ2 : Mem} {a b : Int} (H : GI σ g) (hg : 1 ≤ g ∧ g ≤ 5) (S : Pg σ τ2 q 0 a b) (h : τ2 71 (σ 58 21 - 1) = 1) : ∀ m, B_Mo_operands_84 11 (σ 58 21 - 1) g τ2 none m → Sim τ2 m := by
  intro m hm
  have h60 := H.1.2.1
  obtain ⟨-, h24, h3, h7, h14, h22, h21, h70, h71, -⟩ := H
  have ug := gu_op (g := g) (by omega)
  have e21 : τ2 58 21 = σ 58 21 := S.2.2.2.2.1
  have e70 : τ2 70 (σ 58 21 - 1) = g := S.2.2.2.2.2.2.2.2.2.2.2.trans h70
  refine Sim.go (g := g) (s := 1) S.2.1 (by omega) (by rw [e21]; exact e70) (by rw [e21]; exact h) ?_
  have e : goM g 1 = yMo_operands := by unfold goM; rw [if_neg (by omega), if_pos (by omega)]
  rw [e, e21]
  refine M_Mo_operands (d := 11) ⟨by omega, by omega⟩ ⟨⟨by omega, by omega⟩, ⟨by omega, by omega⟩, ?_⟩
  rw [h, e70, if_pos (by decide)]
  refine ⟨⟨by omega, by omega⟩, ?_⟩
  rw [if_pos (by decide)]
  unfold B_Mo_operands_58
  rw [h, if_pos (by decide)]
  exact ⟨⟨by omega, by omega⟩, hm⟩
/-- the first part of operands -/
theorem op_first (H : GI σ g) (hg : 1 ≤ g ∧ g ≤ 5) (hD : σ 58 22 = D) (hA : GSp D (g + 1) A) : match A (mch σ) (σ 58 3) with
    | none => Fl σ
    | some (T, q2) => ∃ τ2, Sim σ τ2 ∧ Pg σ τ2 q2 0 (ln T) (sn T) ∧ τ2 71 (σ 58 21 - 1) = 1 ∧ isC τ2 T (σ 58 7) (σ 58 14) := by
  have S0 := op0 H hg
  have HM := H.1
  have hp := H.pg
  have HH := H
  obtain ⟨-, h24, h3, h7, h14, h22, h21, h70, h71, -⟩ := H
  have ug := gu_op (g := g) (by omega)
  have ug1 := gu_op (g := g + 1) (by omega)
  have gi := hp.gi (s := 1) (g := g + 1) HM (by omega) (by omega) (by omega) (by omega) (by omega)
  have B := hp.begun (Int.le_refl 0) (Int.le_refl 0) h21.1 gi (by omega) hA
  cases hU : A (mch σ) (σ 58 3) with
  | none =>
    rw [hU] at B
    exact Fl.of S0 frM.aft B
  | some t =>
    obtain ⟨T, q2⟩ := t
    rw [hU] at B
    obtain ⟨τ2, sm2, S3, b1, b2, ⟨b3, b4, b5⟩, C3, kD, kS⟩ := B
    rw [Int.zero_add, Int.zero_add] at S3
    rw [Int.add_zero, Int.add_zero] at C3
    exact ⟨τ2, S0.tr sm2, S3, b3, C3⟩
theorem s_moapp (hA : GSp D 6 A) (lA : Lp A) : GSp D 5 (fun ch p => (A ch p).bind fun t => pAppL ch (A ch) 60 t.1 t.2) := by
  intro σ H hD
  have h60 := H.1.2.1
  have F := op_first H (by decide) hD hA
  show DnM ((A (mch σ) (σ 58 3)).bind fun t => pAppL (mch σ) (A (mch σ)) 60 t.1 t.2) σ
  cases hU : A (mch σ) (σ 58 3) with
  | none => rw [hU] at F; exact F
  | some t =>
    obtain ⟨T, q2⟩ := t
    rw [hU] at F
    obtain ⟨τ2, sm, S, s1, C⟩ := F
    obtain ⟨m1, m2⟩ := lA _ _ _ _ hU
    have q0 := S.2.2.2.1
    have h3 := H.2.2.1
    exact moapp_l H hD hA lA 60 T q2 τ2 τ2 (op1 H (by decide) S s1) sm S C m1 m2 (by omega)
/-- an operator with a part behind it -/
theorem opR_p (hu : u ≠ 61 ∧ v ≠ 61) {ch : Int → Int} : (nx ch q = u ∨ nx ch q = v) → pOp ch u v q = some (opR ch u v q) := by
  intro h
  unfold pOp opR
  rw [if_pos h, if_pos h]
  have : nx ch q ≠ 61 := by omega
  by_cases w : ch (sk ch q + 1) = 46
  · rw [if_pos w, if_pos ⟨this, w⟩]
  · rw [if_neg w, if_neg (fun h => w h.2)]
theorem opR_n {ch : Int → Int} : ¬(nx ch q = u ∨ nx ch q = v) → pOp ch u v q = none ∧ opR ch u v q = (0, sk ch q) := by
  intro h
  unfold pOp opR
  rw [if_neg h, if_neg h]
  exact ⟨rfl, rfl⟩
theorem opR_in (H : MI σ) (hu : 0 < u ∧ 0 < v) (h : nx (mch σ) q = u ∨ nx (mch σ) q = v) (h0 : q ≤ σ 58 2) : sk (mch σ) q < (opR (mch σ) u v q).2 ∧ (opR (mch σ) u v q).2 ≤ σ 58 2 ∧ (opR (mch σ) u v q).1 ≠ 0 ∧ 0 ≤ (opR (mch σ) u v q).1 ∧ (opR (mch σ) u v q).1 ≤ 1000 := by
  have hc := H.cr (sk (mch σ) q)
  have l := mch_lt (σ := σ) (x := sk (mch σ) q) (fun e => by
    have e' : nx (mch σ) q = -1 := e
    omega)
  have hc' : nx (mch σ) q = -1 ∨ (32 ≤ nx (mch σ) q ∧ nx (mch σ) q ≤ 126) := hc
  unfold opR
  rw [if_pos h]
  split
  · next w =>
    have l2 := mch_lt (σ := σ) (x := sk (mch σ) q + 1) (by rw [w.2]; decide)
    dsimp only
    omega
  · dsimp only
    omega
theorem moop_l (hg : (g = 3 ∧ u = 43 ∧ v = 45) ∨ (g = 4 ∧ u = 42 ∧ v = 47)) (H : GI σ g) (hD : σ 58 22 = D) (hA : GSp D (g + 1) A) (lA : Lp A) : ∀ (n : Nat) (T : Tr) (q : Int) (τ0 τ : Mem), (∀ m, B_Mo_operands_84 11 (σ 58 21 - 1) g τ none m → Sim τ0 m) → Sim σ τ0 → Pg σ τ q 0 (ln T) (sn T) → isC τ T (σ 58 7) (σ 58 14) → ln T + 1 ≤ 2 * (q - σ 58 3) → sn T ≤ q - σ 58 3 → σ 58 2 - q + 1 ≤ n → DnM (pOpL (mch σ) (A (mch σ)) u v n T q) σ := by
  intro n
  induction n with
  | zero =>
    intro T q τ0 τ K S0 S C l1 l2 hn
    have q0 := S.2.2.2.1
    omega
  | succ n ih =>
    intro T q τ0 τ K S0 S C l1 l2 hn
    have HM := H.1
    have h60 := HM.2.1
    have HH := H
    obtain ⟨-, -, h3, h7, h14, h22, h21, -⟩ := H
    have u5 := gu_op (g := g) (by omega)
    have u6 := gu_op (g := g + 1) (by omega)
    have q0 := S.2.2.2.1
    have ge := sk_ge (ch := mch σ) (p := q)
    have g1 := ln_ge (T := T)
    have g2 := sn_ge (T := T)
    have N := s_operator (d := 8) (b := 0) (σ := τ) (q := q) (k := g - 2) (u := u) (v := v) (S.1.mi HM) ⟨by omega, by omega⟩ (by omega)
    rw [S.id, S.1.ch] at N
    have sin : sk (mch σ) q ≤ σ 58 2 := skf_in (fun x e => (mch_lt (by omega)).2) 60 q (by omega)
    by_cases k : nx (mch σ) q = u ∨ nx (mch σ) q = v
    · have eO := opR_p (q := q) (ch := mch σ) (u := u) (v := v) (by omega) k
      obtain ⟨o1, o2, o3, o4, o5⟩ := opR_in HM (by omega) k q0.2
      have eP : pOpL (mch σ) (A (mch σ)) u v (n + 1) T q = (A (mch σ) (opR (mch σ) u v q).2).bind fun U => pOpL (mch σ) (A (mch σ)) u v n (nd 9 (opR (mch σ) u v q).1 T U.1 nl) U.2 := by rw [pOpL, eO]
      rw [eP]
      generalize opR (mch σ) u v q = o at *
      have t21 : (Zm τ o.2 0) 58 21 = σ 58 21 := (Zm_f (by decide) (by decide)).trans S.2.2.2.2.1
      have S2 := (S.Z (q' := o.2) ⟨by omega, by omega⟩).own (j := 72) (z := o.1) (Or.inr (Or.inl rfl))
      have C2 := (C.Z (q := o.2) (b := 0)).own (j := 72) (k := σ 58 21 - 1) (z := o.1) (Or.inr (Or.inl rfl))
      have e21 : (mup (Zm τ o.2 0) 72 (σ 58 21 - 1) o.1) 58 21 = σ 58 21 := (mup_ne (by decide)).trans t21
      have e72 : (mup (Zm τ o.2 0) 72 (σ 58 21 - 1) o.1) 72 (σ 58 21 - 1) = o.1 := mup_eq
      have Sm := K (aft (mup (Zm τ o.2 0) 72 (σ 58 21 - 1) o.1) 2 (g + 1)) (by
        unfold B_Mo_operands_84
        rw [if_pos (by omega), if_pos (by omega)]
        refine ⟨_, _, N, ?_⟩
        unfold B_Mo_operands_142
        rw [if_pos o3, if_pos (by omega)]
        refine ⟨⟨by omega, by omega⟩, ⟨by omega, by omega⟩, ?_⟩
        exact ⟨_, s_after (d := 9) (rgk rfl) ⟨by omega, by omega⟩ (by rw [e21]; omega), rfl, rfl⟩)
      generalize mup (Zm τ o.2 0) 72 (σ 58 21 - 1) o.1 = τa at *
      have gi := S2.gi (s := 2) (g := g + 1) HM (by omega) (by omega) (by omega) (by omega) (by omega)
      have B := S2.begun g1 g2 h21.1 gi (by omega) hA
      cases hU : A (mch σ) o.2 with
      | none =>
        rw [hU] at B
        exact Fl.of (S0.tr Sm) (S2.1.tr frM.aft) B
      | some t =>
        obtain ⟨U, q2⟩ := t
        rw [hU] at B
        obtain ⟨τ2, sm2, S3, b1, b2, ⟨b3, b4, b5⟩, C3, kD, kS⟩ := B
        obtain ⟨m1, m2⟩ := lA _ _ _ _ hU
        have g3 := ln_ge (T := U)
        have g4 := sn_ge (T := U)
        show DnM (pOpL (mch σ) (A (mch σ)) u v n (nd 9 o.1 T U nl) q2) σ
        have eL : ln (nd 9 o.1 T U nl) = ln T + ln U + 1 := rfl
        have eS : sn (nd 9 o.1 T U nl) = sn T + sn U := by show sn T + sn U + 0 = _; omega
        have s7 := S3.2.2.2.2.2.2.2.2.2.1
        have S4 := S3.put (x := 9) (y := o.1) (z := 0) (by omega)
        refine ih (nd 9 o.1 T U nl) q2 τ2 (dft τ2 9 o.1 0) ?_ ((S0.tr Sm).tr sm2) ?_ ?_ (by rw [eL]; omega) (by rw [eS]; omega) (by omega)
        · intro m hm
          have e21' : τ2 58 21 = σ 58 21 := S3.2.2.2.2.1
          have e70 : τ2 70 (σ 58 21 - 1) = g := S3.2.2.2.2.2.2.2.2.2.2.2.trans HH.2.2.2.2.2.2.2.1
          refine Sim.go (g := g) (s := 2) S3.2.1 (by omega) (by rw [e21']; exact e70) (by rw [e21']; exact b3) ?_
          have eg : goM g 2 = yMo_operands := by unfold goM; rw [if_neg (by omega), if_pos (by omega)]
          rw [eg, e21']
          refine M_Mo_operands (d := 11) ⟨by omega, by omega⟩ ⟨⟨by omega, by omega⟩, ⟨by omega, by omega⟩, ?_⟩
          rw [b3, e70, if_pos (by decide), if_neg (by decide), if_pos (by omega)]
          refine ⟨⟨by omega, by omega⟩, ⟨by omega, by omega⟩, _, s_put (d := 10) (rgk rfl) (by rw [b4, e72]; exact ⟨by omega, by omega⟩) (rgk rfl) (by omega), ?_⟩
          rw [b4, e72]
          unfold B_Mo_operands_58
          have d71 : (dft τ2 9 o.1 0) 71 = τ2 71 := dft_at.2.2.2.2 71 (by decide) (by decide) (by decide) (by decide)
          rw [d71, b3, if_neg (by decide), if_pos (by omega)]
          exact ⟨⟨by omega, by omega⟩, hm⟩
        · rw [eL, eS]; exact S4
        · obtain ⟨j1, j2, j3⟩ := isC.join (x := 9) (y := o.1) (w := 0) S3 h7.1 h14.1 C2 C3 kD kS
          exact ⟨j1, j2, j3⟩
    · obtain ⟨eO, eR⟩ := opR_n (q := q) (ch := mch σ) (u := u) (v := v) k
      have eP : pOpL (mch σ) (A (mch σ)) u v (n + 1) T q = some (T, sk (mch σ) q) := by rw [pOpL, eO]
      rw [eP]
      rw [eR] at N
      dsimp only at N
      have t21 : (Zm τ (sk (mch σ) q) 0) 58 21 = σ 58 21 := (Zm_f (by decide) (by decide)).trans S.2.2.2.2.1
      have S2 := (S.Z (q' := sk (mch σ) q) ⟨by omega, sin⟩).own (j := 72) (z := 0) (Or.inr (Or.inl rfl))
      have C2 := (C.Z (q := sk (mch σ) q) (b := 0)).own (j := 72) (k := σ 58 21 - 1) (z := 0) (Or.inr (Or.inl rfl))
      refine ⟨_, S0.tr (K (mup (mup (Zm τ (sk (mch σ) q) 0) 72 (σ 58 21 - 1) 0) 58 21 ((mup (Zm τ (sk (mch σ) q) 0) 72 (σ 58 21 - 1) 0) 58 21 - 1)) ?_), S2.pop C2⟩
      unfold B_Mo_operands_84
      rw [if_pos (by omega), if_pos (by omega)]
      refine ⟨_, _, N, ?_⟩
      unfold B_Mo_operands_142
      have e21 : (mup (Zm τ (sk (mch σ) q) 0) 72 (σ 58 21 - 1) 0) 58 21 = (Zm τ (sk (mch σ) q) 0) 58 21 := mup_ne (by decide)
      rw [if_neg (by decide), e21]
      exact ⟨⟨by omega, by omega⟩, ⟨by omega, by omega⟩, rfl, rfl⟩
theorem s_moop (hg : (g = 3 ∧ u = 43 ∧ v = 45) ∨ (g = 4 ∧ u = 42 ∧ v = 47)) (hA : GSp D (g + 1) A) (lA : Lp A) : GSp D g (fun ch p => (A ch p).bind fun t => pOpL ch (A ch) u v 60 t.1 t.2) := by
  intro σ H hD
  have h60 := H.1.2.1
  have F := op_first H (by omega) hD hA
  show DnM ((A (mch σ) (σ 58 3)).bind fun t => pOpL (mch σ) (A (mch σ)) u v 60 t.1 t.2) σ
  cases hU : A (mch σ) (σ 58 3) with
  | none => rw [hU] at F; exact F
  | some t =>
    obtain ⟨T, q2⟩ := t
    rw [hU] at F
    obtain ⟨τ2, sm, S, s1, C⟩ := F
    obtain ⟨m1, m2⟩ := lA _ _ _ _ hU
    have q0 := S.2.2.2.1
    have h3 := H.2.2.1
    have g1 := ln_ge (T := T)
    exact moop_l hg H hD hA lA 60 T q2 τ2 τ2 (op1 H (by omega) S s1) sm S C m1 m2 (by omega)
end OPS
