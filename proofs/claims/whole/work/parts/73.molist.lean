/-! The model's reader: comparisons and lists. -/
section OP2
variable {σ τ : Mem} {q g u v z D : Int} {A : (Int → Int) → Int → Option (Tr × Int)}
/-- two parts are joined, and the goal is done -/
theorem op_last {τ2 τa : Mem} {T U N : Tr} {q2 : Int} (hg : g = 1 ∨ g = 2) (H : GI σ g) (gz : rg z) (S : Pg σ τ2 q2 0 (ln T + ln U) (sn T + sn U)) (b3 : τ2 71 (σ 58 21 - 1) = 2) (b4 : τ2 72 (σ 58 21 - 1) = z) (C : isC τa T (σ 58 7) (σ 58 14)) (C3 : isC τ2 U (σ 58 7 + ln T) (σ 58 14 + sn T)) (kD : kpD (σ 58 7 + ln T) τa τ2) (kS : kpS (σ 58 14 + sn T) τa τ2)
    (l1 : ln T + ln U + 1 ≤ 2 * (q2 - σ 58 3)) (eL : ln N = ln T + ln U + 1) (eS : sn N = sn T + sn U) (eN : ∀ ρ a s, isC ρ T a s → isC ρ U (a + ln T) (s + sn T) → cell ρ (a + ln T + ln U) 9 z 0 → isC ρ N a s) : ∃ τ', Sim τ2 τ' ∧ Dn σ τ' N q2 := by
  have HM := H.1
  have h60 := HM.2.1
  obtain ⟨-, h24, h3, h7, h14, h22, h21, h70, h71, -⟩ := H
  have ug := gu_op (g := g) (by omega)
  have q0 := S.2.2.2.1
  have g1 := ln_ge (T := T)
  have g3 := ln_ge (T := U)
  have s7 := S.2.2.2.2.2.2.2.2.2.1
  have e21 : τ2 58 21 = σ 58 21 := S.2.2.2.2.1
  have e70 : τ2 70 (σ 58 21 - 1) = g := S.2.2.2.2.2.2.2.2.2.2.2.trans h70
  have S4 := S.put (x := 9) (y := z) (z := 0) (by omega)
  rw [← eL, ← eS] at S4
  obtain ⟨j1, j2, j3⟩ := isC.join (x := 9) (y := z) (w := 0) S h7.1 h14.1 C C3 kD kS
  refine ⟨_, ?_, S4.pop (eN _ _ _ j1 j2 j3)⟩
  refine Sim.go (g := g) (s := 2) S.2.1 (by omega) (by rw [e21]; exact e70) (by rw [e21]; exact b3) ?_
  have eg : goM g 2 = yMo_operands := by unfold goM; rw [if_neg (by omega), if_pos (by omega)]
  rw [eg, e21]
  refine M_Mo_operands (d := 11) ⟨by omega, by omega⟩ ⟨⟨by omega, by omega⟩, ⟨by omega, by omega⟩, ?_⟩
  rw [b3, e70, if_pos (by decide), if_neg (by decide), if_pos (by omega)]
  refine ⟨⟨by omega, by omega⟩, ⟨by omega, by omega⟩, _, s_put (d := 10) (rgk rfl) (by rw [b4]; exact gz) (rgk rfl) (by omega), ?_⟩
  rw [b4]
  unfold B_Mo_operands_58
  have d71 : (dft τ2 9 z 0) 71 = τ2 71 := dft_at.2.2.2.2 71 (by decide) (by decide) (by decide) (by decide)
  have d21 : (dft τ2 9 z 0) 58 21 = σ 58 21 := S4.2.2.2.2.1
  rw [d71, b3, if_neg (by decide), if_neg (by omega)]
  exact ⟨⟨by omega, by omega⟩, ⟨by omega, by omega⟩, rfl, rfl⟩
/-- another part is wanted -/
theorem op_more {T : Tr} {g' q3 : Int} (hg : (g = 1 ∧ g' = 1) ∨ (1 < g ∧ g < 6 ∧ g' = g + 1)) (H : GI σ g) (hz : rg z ∧ z ≠ 0) (S : Pg σ τ q 0 (ln T) (sn T)) (C : isC τ T (σ 58 7) (σ 58 14)) (l1 : ln T + 1 ≤ 2 * (q - σ 58 3)) (l2 : sn T ≤ q - σ 58 3) (h3 : q < q3 ∧ q3 ≤ σ 58 2) : B_Mo_operands_142 11 (σ 58 21 - 1) g z (Zm τ q3 0) none (aft (mup (Zm τ q3 0) 72 (σ 58 21 - 1) z) 2 g') ∧ Pg σ (mup (Zm τ q3 0) 72 (σ 58 21 - 1) z) q3 0 (ln T) (sn T) ∧ isC (mup (Zm τ q3 0) 72 (σ 58 21 - 1) z) T (σ 58 7) (σ 58 14) ∧ GI (aft (mup (Zm τ q3 0) 72 (σ 58 21 - 1) z) 2 g') g' := by
  have HM := H.1
  have h60 := HM.2.1
  obtain ⟨-, h24, h3', h7, h14, h22, h21, h70, h71, -⟩ := H
  have ug := gu_op (g := g) (by omega)
  have ug1 := gu_op (g := g') (by omega)
  have q0 := S.2.2.2.1
  have g1 := ln_ge (T := T)
  have g2 := sn_ge (T := T)
  have t21 : (Zm τ q3 0) 58 21 = σ 58 21 := (Zm_f (by decide) (by decide)).trans S.2.2.2.2.1
  have S2 := (S.Z (q' := q3) ⟨by omega, by omega⟩).own (j := 72) (z := z) (Or.inr (Or.inl rfl))
  have C2 := (C.Z (q := q3) (b := 0)).own (j := 72) (k := σ 58 21 - 1) (z := z) (Or.inr (Or.inl rfl))
  have e21 : (mup (Zm τ q3 0) 72 (σ 58 21 - 1) z) 58 21 = σ 58 21 := (mup_ne (by decide)).trans t21
  refine ⟨?_, S2, C2, S2.gi (s := 2) (g := g') HM (by omega) (by omega) (by omega) (by omega) (by omega)⟩
  unfold B_Mo_operands_142
  rw [if_pos hz.2]
  refine ⟨⟨by omega, by omega⟩, ?_⟩
  by_cases w : g = 1
  · rw [if_neg (fun h => h w)]
    have : g' = 1 := by omega
    subst this
    exact ⟨_, s_after (d := 9) (rgk rfl) (rgk rfl) (by rw [e21]; omega), rfl, rfl⟩
  · rw [if_pos w]
    have : g' = g + 1 := by omega
    subst this
    exact ⟨⟨by omega, by omega⟩, _, s_after (d := 9) (rgk rfl) ⟨by omega, by omega⟩ (by rw [e21]; omega), rfl, rfl⟩
/-- no other part is wanted -/
theorem op_none {T : Tr} {q3 : Int} (hg : 1 ≤ g ∧ g ≤ 5) (H : GI σ g) (S : Pg σ τ q 0 (ln T) (sn T)) (C : isC τ T (σ 58 7) (σ 58 14)) (h3 : q ≤ q3 ∧ q3 ≤ σ 58 2) : ∃ m, B_Mo_operands_142 11 (σ 58 21 - 1) g 0 (Zm τ q3 0) none m ∧ Dn σ m T q3 := by
  have HM := H.1
  have h60 := HM.2.1
  obtain ⟨-, h24, h3', h7, h14, h22, h21, h70, h71, -⟩ := H
  have ug := gu_op (g := g) (by omega)
  have q0 := S.2.2.2.1
  have t21 : (Zm τ q3 0) 58 21 = σ 58 21 := (Zm_f (by decide) (by decide)).trans S.2.2.2.2.1
  have S2 := (S.Z (q' := q3) ⟨by omega, by omega⟩).own (j := 72) (z := 0) (Or.inr (Or.inl rfl))
  have C2 := (C.Z (q := q3) (b := 0)).own (j := 72) (k := σ 58 21 - 1) (z := 0) (Or.inr (Or.inl rfl))
  have e21 : (mup (Zm τ q3 0) 72 (σ 58 21 - 1) 0) 58 21 = (Zm τ q3 0) 58 21 := mup_ne (by decide)
  refine ⟨_, ?_, S2.pop C2⟩
  unfold B_Mo_operands_142
  rw [if_neg (by decide), e21]
  exact ⟨⟨by omega, by omega⟩, ⟨by omega, by omega⟩, rfl, rfl⟩
theorem cmp_eq {ch : Int → Int} {T : Tr} {F : Int → Option (Tr × Int)} : (if nx ch q = 61 then (F (sk ch q + 1)).map (fun r => (nd 9 61 T r.1 nl, r.2)) else match pOp ch 60 60 q with
    | none => some (T, sk ch q)
    | some o => (F o.2).map (fun r => (nd 9 o.1 T r.1 nl, r.2))) = if nx ch q = 60 ∨ nx ch q = 61 then (F (opR ch 60 61 q).2).map (fun r => (nd 9 (opR ch 60 61 q).1 T r.1 nl, r.2)) else some (T, sk ch q) := by
  unfold opR pOp
  by_cases c : nx ch q = 61
  · rw [if_pos c, if_pos (Or.inr c), if_pos (Or.inr c), if_neg (fun h => h.1 c), c]
  · rw [if_neg c]
    by_cases c2 : nx ch q = 60
    · rw [if_pos (Or.inl c2), if_pos (Or.inl c2), if_pos (Or.inl c2)]
      by_cases w : ch (sk ch q + 1) = 46
      · rw [if_pos w, if_pos ⟨c, w⟩]
      · rw [if_neg w, if_neg (fun h => w h.2)]
    · rw [if_neg (by omega), if_neg (by omega)]
theorem s_mocmp (hA : GSp D 3 A) (lA : Lp A) : GSp D 2 (fun ch p => (A ch p).bind fun t => if nx ch t.2 = 61 then (A ch (sk ch t.2 + 1)).map (fun r => (nd 9 61 t.1 r.1 nl, r.2)) else match pOp ch 60 60 t.2 with
    | none => some (t.1, sk ch t.2)
    | some o => (A ch o.2).map (fun r => (nd 9 o.1 t.1 r.1 nl, r.2))) := by
  intro σ H hD
  have HM := H.1
  have h60 := H.1.2.1
  have F := op_first H (by decide) hD hA
  show DnM ((A (mch σ) (σ 58 3)).bind fun t => if nx (mch σ) t.2 = 61 then (A (mch σ) (sk (mch σ) t.2 + 1)).map (fun r => (nd 9 61 t.1 r.1 nl, r.2)) else match pOp (mch σ) 60 60 t.2 with
    | none => some (t.1, sk (mch σ) t.2)
    | some o => (A (mch σ) o.2).map (fun r => (nd 9 o.1 t.1 r.1 nl, r.2))) σ
  cases hU : A (mch σ) (σ 58 3) with
  | none => rw [hU] at F; exact F
  | some t =>
    obtain ⟨T, q⟩ := t
    rw [hU] at F
    obtain ⟨τ, sm, S, s1, C⟩ := F
    obtain ⟨l1, l2⟩ := lA _ _ _ _ hU
    have K := op1 H (by decide) S s1
    rw [Option.bind_some]
    dsimp only
    rw [cmp_eq]
    have h3 := H.2.2.1
    have q0 := S.2.2.2.1
    have ge := sk_ge (ch := mch σ) (p := q)
    have g1 := ln_ge (T := T)
    have g2 := sn_ge (T := T)
    have N := s_operator (d := 8) (b := 0) (σ := τ) (q := q) (k := 0) (u := 60) (v := 61) (S.1.mi HM) ⟨by omega, by omega⟩ (by omega)
    rw [S.id, S.1.ch] at N
    have sin : sk (mch σ) q ≤ σ 58 2 := skf_in (fun x e => (mch_lt (by omega)).2) 60 q (by omega)
    by_cases k : nx (mch σ) q = 60 ∨ nx (mch σ) q = 61
    · rw [if_pos k]
      obtain ⟨o1, o2, o3, o4, o5⟩ := opR_in HM (by omega) k q0.2
      generalize opR (mch σ) 60 61 q = o at *
      obtain ⟨m1, m2, m3, m4⟩ := op_more (g' := 3) (q3 := o.2) (z := o.1) (Or.inr ⟨by decide, by decide, rfl⟩) H ⟨⟨by omega, by omega⟩, o3⟩ S C l1 l2 ⟨by omega, o2⟩
      have Sm := K _ (by
        unfold B_Mo_operands_84
        rw [if_pos (by decide), if_pos (by decide)]
        exact ⟨_, _, N, m1⟩)
      have B := m2.begun g1 g2 H.2.2.2.2.2.2.1.1 m4 (by omega) hA
      have e72 : (mup (Zm τ o.2 0) 72 (σ 58 21 - 1) o.1) 72 (σ 58 21 - 1) = o.1 := mup_eq
      generalize mup (Zm τ o.2 0) 72 (σ 58 21 - 1) o.1 = τa at *
      cases hV : A (mch σ) o.2 with
      | none =>
        rw [hV] at B
        exact Fl.of (sm.tr Sm) (m2.1.tr frM.aft) B
      | some t =>
        obtain ⟨U, q2⟩ := t
        rw [hV] at B
        obtain ⟨τ2, sm2, S3, b1, b2, ⟨b3, b4, b5⟩, C3, kD, kS⟩ := B
        obtain ⟨n1, n2⟩ := lA _ _ _ _ hV
        obtain ⟨τ', x1, x2⟩ := op_last (z := o.1) (N := nd 9 o.1 T U nl) (Or.inr rfl) H ⟨by omega, by omega⟩ S3 b3 (b4.trans e72) m3 C3 kD kS (by omega) rfl (by show sn T + sn U + 0 = _; omega) (fun ρ a s c1 c2 c3 => ⟨c1, c2, c3⟩)
        exact ⟨τ', ((sm.tr Sm).tr sm2).tr x1, x2⟩
    · rw [if_neg k]
      obtain ⟨-, eR⟩ := opR_n (q := q) (ch := mch σ) (u := 60) (v := 61) k
      rw [eR] at N
      dsimp only at N
      obtain ⟨m, m1, m2⟩ := op_none (q3 := sk (mch σ) q) (by decide) H S C ⟨ge, sin⟩
      refine ⟨m, sm.tr (K m ?_), m2⟩
      unfold B_Mo_operands_84
      rw [if_pos (by decide), if_pos (by decide)]
      exact ⟨_, _, N, m1⟩
/-- a list: at most n parts more -/
theorem molist_l (hA : GSp D 2 A) (lA : Lp A) {F : (Int → Int) → Nat → Int → Option (Tr × Int)} (F0 : ∀ ch n p, F ch (n + 1) p = (A ch p).bind fun t => if nx ch t.2 = 44 then (F ch n (sk ch t.2 + 1)).map (fun r => (nd 10 0 t.1 r.1 nl, r.2)) else some (t.1, sk ch t.2)) (lF : ∀ n, Lp (fun ch => F ch n)) : ∀ (n : Nat) (σ : Mem), GI σ 1 → σ 58 22 = D → σ 58 2 - σ 58 3 + 2 ≤ 2 * n → DnM (F (mch σ) n (σ 58 3)) σ := by
  intro n
  induction n with
  | zero => intro σ H hD hn; have := H.2.2.1; omega
  | succ n ih =>
    intro σ H hD hn
    have HM := H.1
    have h60 := H.1.2.1
    have Fi := op_first H (by decide) hD hA
    rw [F0]
    cases hU : A (mch σ) (σ 58 3) with
    | none => rw [hU] at Fi; exact Fi
    | some t =>
      obtain ⟨T, q⟩ := t
      rw [hU] at Fi
      obtain ⟨τ, sm, S, s1, C⟩ := Fi
      obtain ⟨l1, l2⟩ := lA _ _ _ _ hU
      have K := op1 H (by decide) S s1
      rw [Option.bind_some]
      dsimp only
      have h3 := H.2.2.1
      have q0 := S.2.2.2.1
      have ge := sk_ge (ch := mch σ) (p := q)
      have g1 := ln_ge (T := T)
      have g2 := sn_ge (T := T)
      have N := s_eat (d := 8) (b := 0) (σ := τ) (q := q) (c := 44) (S.1.mi HM) ⟨by omega, by omega⟩ (rgk rfl) (by decide) (by decide)
      rw [S.id, S.1.ch] at N
      have sin : sk (mch σ) q ≤ σ 58 2 := skf_in (fun x e => (mch_lt (by omega)).2) 60 q (by omega)
      by_cases k : nx (mch σ) q = 44
      · rw [if_pos k] at N ⊢
        rw [if_pos k] at N
        have sl := mch_lt (σ := σ) (x := sk (mch σ) q) (fun e => by
          have e' : nx (mch σ) q = -1 := e
          rw [e'] at k; exact absurd k (by decide))
        obtain ⟨m1, m2, m3, m4⟩ := op_more (g' := 1) (q3 := sk (mch σ) q + 1) (z := 44) (Or.inl ⟨rfl, rfl⟩) H ⟨rgk rfl, by decide⟩ S C l1 l2 ⟨by omega, by omega⟩
        have Sm := K _ (by
          unfold B_Mo_operands_84
          rw [if_neg (by decide)]
          refine ⟨_, _, N, ?_⟩
          unfold B_Mo_operands_106
          rw [if_neg (by decide)]
          exact m1)
        have e72 : (mup (Zm τ (sk (mch σ) q + 1) 0) 72 (σ 58 21 - 1) 44) 72 (σ 58 21 - 1) = 44 := mup_eq
        generalize mup (Zm τ (sk (mch σ) q + 1) 0) 72 (σ 58 21 - 1) 44 = τa at *
        have fa := m2.1.tr (frM.aft (s := 2) (g := 1))
        have ea := (aft_at (σ := τa) (s := 2) (g := 1)).1 3 (by decide)
        rw [m2.2.2.1] at ea
        have hI := ih (aft τa 2 1) m4 (by rw [(aft_at (σ := τa) (s := 2) (g := 1)).1 22 (by decide), m2.2.2.2.2.2.1]; omega) (by rw [fa.len, ea]; omega)
        rw [fa.ch, ea] at hI
        have B := m2.begun0 g1 g2 H.2.2.2.2.2.2.1.1 hI
        cases hV : F (mch σ) n (sk (mch σ) q + 1) with
        | none =>
          rw [hV] at B
          exact Fl.of (sm.tr Sm) (m2.1.tr frM.aft) B
        | some t =>
          obtain ⟨U, q2⟩ := t
          rw [hV] at B
          obtain ⟨τ2, sm2, S3, b1, b2, ⟨b3, b4, b5⟩, C3, kD, kS⟩ := B
          obtain ⟨n1, n2⟩ := lF _ _ _ _ _ hV
          obtain ⟨τ', x1, x2⟩ := op_last (z := 44) (N := nd 10 0 T U nl) (Or.inl rfl) H (rgk rfl) S3 b3 (b4.trans e72) m3 C3 kD kS (by omega) rfl (by show sn T + sn U + 0 = _; omega) (fun ρ a s c1 c2 c3 => ⟨c1, c2, c3⟩)
          exact ⟨τ', ((sm.tr Sm).tr sm2).tr x1, x2⟩
      · rw [if_neg k] at N ⊢
        rw [if_neg k] at N
        obtain ⟨m, m1, m2⟩ := op_none (q3 := sk (mch σ) q) (by decide) H S C ⟨ge, sin⟩
        refine ⟨m, sm.tr (K m ?_), m2⟩
        unfold B_Mo_operands_84
        rw [if_neg (by decide)]
        refine ⟨_, _, N, ?_⟩
        unfold B_Mo_operands_106
        rw [if_pos rfl]
        exact m1
end OP2
