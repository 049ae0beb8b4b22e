/-! The model's reader: an application. -/
/-- a tree is no longer than what it is read from -/
def Lp (P : (Int → Int) → Int → Option (Tr × Int)) : Prop := ∀ ch p T q, P ch p = some (T, q) → ln T + 1 ≤ 2 * (q - p) ∧ sn T ≤ q - p
section APP
variable {σ τ : Mem} {q dp a b z D : Int} {A : (Int → Int) → Int → Option (Tr × Int)}
theorem Pg.own {j : Nat} (hj : j = 71 ∨ j = 72 ∨ j = 73) (S : Pg σ τ q dp a b) : Pg σ (mup τ j (σ 58 21 - 1) z) q dp a b := by
  obtain ⟨f, s24, s3, s3b, s21, s22, k1, k2, k3, s7, s14, s70⟩ := S
  have o : ∀ {i : Nat}, i ≠ 71 → i ≠ 72 → i ≠ 73 → (mup τ j (σ 58 21 - 1) z) i = τ i := fun h1 h2 h3 => mup_obj (by omega)
  have g : ∀ {i : Nat} {x : Int}, x < σ 58 21 - 1 → (mup τ j (σ 58 21 - 1) z) i x = τ i x := fun {i x} h => by
    by_cases e : i = j
    · rw [e]; exact mup_nk (by omega)
    · exact mup_ne e
  refine ⟨f.tr (frM.mu (by rcases hj with rfl | rfl | rfl <;> rfl) (by omega)), ?_, ?_, s3b, ?_, ?_, ?_, ?_, ?_, ?_, ?_, ?_⟩
  · rw [o (by decide) (by decide) (by decide)]; exact s24
  · rw [o (by decide) (by decide) (by decide)]; exact s3
  · rw [o (by decide) (by decide) (by decide)]; exact s21
  · rw [o (by decide) (by decide) (by decide)]; exact s22
  · intro x h0 h1; rw [g h1, g h1, g h1, g h1]; exact k1 x h0 h1
  · intro x h0 h1; rw [o (by decide) (by decide) (by decide), o (by decide) (by decide) (by decide), o (by decide) (by decide) (by decide), o (by decide) (by decide) (by decide)]; exact k2 x h0 h1
  · intro x h0 h1; rw [o (by decide) (by decide) (by decide), o (by decide) (by decide) (by decide)]; exact k3 x h0 h1
  · rw [o (by decide) (by decide) (by decide)]; exact s7
  · rw [o (by decide) (by decide) (by decide)]; exact s14
  · rw [o (by decide) (by decide) (by decide)]; exact s70
theorem isC.own {j : Nat} {k : Int} (hj : j = 71 ∨ j = 72 ∨ j = 73) {T : Tr} {u v : Int} (C : isC τ T u v) : isC (mup τ j k z) T u v :=
  isC.mv (fun x _ _ => by unfold Da; rw [mup_ne (by omega), mup_ne (by omega), mup_ne (by omega), mup_ne (by omega)]; exact ⟨rfl, fun _ => rfl, rfl, rfl⟩) (fun x _ _ => by rw [mup_ne (by omega), mup_ne (by omega)]; exact ⟨rfl, rfl⟩) C
theorem Pg.id (S : Pg σ τ q dp a b) : Zm τ q 0 = τ := by
  have h := Zm_id (σ := τ)
  rwa [S.2.1, S.2.2.1] at h
/-- two parts and what joins them -/
theorem isC.join {τ2 τa : Mem} {T U : Tr} {x y w : Int} (S : Pg σ τ2 q dp (ln T + ln U) (sn T + sn U)) (h7 : 0 ≤ σ 58 7) (h14 : 0 ≤ σ 58 14) (C : isC τa T (σ 58 7) (σ 58 14)) (C2 : isC τ2 U (σ 58 7 + ln T) (σ 58 14 + sn T)) (kD : kpD (σ 58 7 + ln T) τa τ2) (kS : kpS (σ 58 14 + sn T) τa τ2) : isC (dft τ2 x y w) T (σ 58 7) (σ 58 14) ∧ isC (dft τ2 x y w) U (σ 58 7 + ln T) (σ 58 14 + sn T) ∧ cell (dft τ2 x y w) (σ 58 7 + ln T + ln U) x y w := by
  have s7 := S.2.2.2.2.2.2.2.2.2.1
  have g1 := ln_ge (T := T)
  have g2 := sn_ge (T := T)
  have g3 := ln_ge (T := U)
  refine ⟨?_, ?_, ?_⟩
  · exact kpD.isC h7 h14 (dft_kD (n := σ 58 7 + ln T) (by omega)) (dft_kS (n := σ 58 14 + sn T)) (Int.le_refl _) (Int.le_refl _) (kpD.isC h7 h14 kD kS (Int.le_refl _) (Int.le_refl _) C)
  · exact kpD.isC (by omega) (by omega) (dft_kD (n := τ2 58 7) (Int.le_refl _)) (dft_kS (n := σ 58 14 + sn T + sn U)) (by omega) (Int.le_refl _) C2
  · have := (dft_at (τ := τ2) (x := x) (y := y) (z := w)).2.2.1
    rwa [s7, show σ 58 7 + (ln T + ln U) = σ 58 7 + ln T + ln U by omega] at this
theorem moapp_l (H : GI σ 5) (hD : σ 58 22 = D) (hA : GSp D 6 A) (lA : Lp A) : ∀ (n : Nat) (T : Tr) (q : Int) (τ0 τ : Mem), (∀ m, B_Mo_operands_84 11 (σ 58 21 - 1) 5 τ none m → Sim τ0 m) → Sim σ τ0 → Pg σ τ q 0 (ln T) (sn T) → isC τ T (σ 58 7) (σ 58 14) → ln T + 1 ≤ 2 * (q - σ 58 3) → sn T ≤ q - σ 58 3 → σ 58 2 - q ≤ n → DnM (pAppL (mch σ) (A (mch σ)) n T q) σ := by
  intro n
  induction n with
  | zero =>
    intro T q τ0 τ K S0 S C l1 l2 hn
    have HM := H.1
    have h60 := HM.2.1
    obtain ⟨-, -, h3, h7, h14, h22, h21, -⟩ := H
    have u5 : gu 5 = -1 := rfl
    have q0 := S.2.2.2.1
    have e1 : mch σ q = -1 := mch_end (by omega)
    have e2 : sk (mch σ) q = q := by unfold sk; rw [skf, if_neg (by rw [e1]; decide)]
    have N := s_peek (d := 9) (b := 0) (σ := τ) (q := q) (S.1.mi HM) ⟨by omega, by omega⟩
    rw [S.id, S.1.ch, e2] at N
    have Bg := s_begins (d := 10) HM (sk (mch σ) q) (τ := Zm τ q 0)
    rw [e2, if_neg (by rw [e1]; decide)] at Bg
    have en : hr (nx (mch σ) q) = hr (mch σ q) := by unfold nx; rw [e2]
    rw [en] at N
    have S2 := (S.Z (q' := q) q0).own (j := 72) (z := 0) (Or.inr (Or.inl rfl))
    have C2 := (C.Z (q := q) (b := 0)).own (j := 72) (k := σ 58 21 - 1) (z := 0) (Or.inr (Or.inl rfl))
    refine ⟨_, S0.tr (K (mup (mup (Zm τ q 0) 72 (σ 58 21 - 1) 0) 58 21 ((mup (Zm τ q 0) 72 (σ 58 21 - 1) 0) 58 21 - 1)) ?_), S2.pop C2⟩
    unfold B_Mo_operands_84
    rw [if_pos (by decide), if_neg (by decide)]
    refine ⟨_, _, N, _, _, Bg, ?_⟩
    rw [if_pos rfl]
    unfold B_Mo_operands_130 B_Mo_operands_142
    have e21 : (mup (Zm τ q 0) 72 (σ 58 21 - 1) 0) 58 21 = (Zm τ q 0) 58 21 := mup_ne (by decide)
    have t21 : (Zm τ q 0) 58 21 = σ 58 21 := (Zm_f (by decide) (by decide)).trans S.2.2.2.2.1
    rw [if_neg (by decide), e21]
    exact ⟨⟨by omega, by omega⟩, ⟨by omega, by omega⟩, rfl, rfl⟩
  | succ n ih =>
    intro T q τ0 τ K S0 S C l1 l2 hn
    have HM := H.1
    have h60 := HM.2.1
    have HH := H
    obtain ⟨-, -, h3, h7, h14, h22, h21, -⟩ := H
    have u5 : gu 5 = -1 := rfl
    have u6 : gu 6 = 0 := rfl
    have q0 := S.2.2.2.1
    have ge := sk_ge (ch := mch σ) (p := q)
    have g1 := ln_ge (T := T)
    have g2 := sn_ge (T := T)
    have N := s_peek (d := 9) (b := 0) (σ := τ) (q := q) (S.1.mi HM) ⟨by omega, by omega⟩
    rw [S.id, S.1.ch] at N
    have Bg := s_begins (d := 10) HM (sk (mch σ) q) (τ := Zm τ (sk (mch σ) q) 0)
    have sin : sk (mch σ) q ≤ σ 58 2 := skf_in (fun x e => (mch_lt (by omega)).2) 60 q (by omega)
    have t21 : (Zm τ (sk (mch σ) q) 0) 58 21 = σ 58 21 := (Zm_f (by decide) (by decide)).trans S.2.2.2.2.1
    by_cases k : stb (nx (mch σ) q) = true
    · have sl := mch_lt (σ := σ) (x := sk (mch σ) q) (fun e => by
        have e' : nx (mch σ) q = -1 := e
        rw [e'] at k; exact absurd k (by decide))
      have eP : pAppL (mch σ) (A (mch σ)) (n + 1) T q = (A (mch σ) (sk (mch σ) q)).bind fun U => pAppL (mch σ) (A (mch σ)) n (nd 11 0 T U.1 nl) U.2 := by rw [pAppL, if_pos k]
      rw [eP]
      rw [show mch σ (sk (mch σ) q) = nx (mch σ) q from rfl, if_pos k] at Bg
      have S2 := (S.Z (q' := sk (mch σ) q) ⟨by omega, sin⟩).own (j := 72) (z := 1) (Or.inr (Or.inl rfl))
      have C2 := (C.Z (q := sk (mch σ) q) (b := 0)).own (j := 72) (k := σ 58 21 - 1) (z := 1) (Or.inr (Or.inl rfl))
      have e21 : (mup (Zm τ (sk (mch σ) q) 0) 72 (σ 58 21 - 1) 1) 58 21 = σ 58 21 := (mup_ne (by decide)).trans t21
      have e72 : (mup (Zm τ (sk (mch σ) q) 0) 72 (σ 58 21 - 1) 1) 72 (σ 58 21 - 1) = 1 := mup_eq
      have Sm := K (aft (mup (Zm τ (sk (mch σ) q) 0) 72 (σ 58 21 - 1) 1) 2 6) (by
        unfold B_Mo_operands_84
        rw [if_pos (by decide), if_neg (by decide)]
        refine ⟨_, _, N, _, _, Bg, ?_⟩
        rw [if_neg (by decide)]
        unfold B_Mo_operands_130 B_Mo_operands_142
        rw [if_pos (by decide), if_pos (by decide)]
        refine ⟨⟨by omega, by omega⟩, rgk rfl, ?_⟩
        exact ⟨_, s_after (d := 9) (rgk rfl) (rgk rfl) (by rw [e21]; omega), rfl, rfl⟩)
      generalize mup (Zm τ (sk (mch σ) q) 0) 72 (σ 58 21 - 1) 1 = τa at *
      have gi := S2.gi (s := 2) (g := 6) HM (by omega) (by omega) (by omega) (by omega) (by omega)
      have B := S2.begun g1 g2 h21.1 gi (by omega) hA
      cases hU : A (mch σ) (sk (mch σ) q) with
      | none =>
        rw [hU] at B
        exact Fl.of (S0.tr Sm) (S2.1.tr frM.aft) B
      | some t =>
        obtain ⟨U, q2⟩ := t
        rw [hU] at B
        obtain ⟨τ2, sm2, S3, b1, b2, ⟨b3, b4, b5⟩, C3, kD, kS⟩ := B
        obtain ⟨m1, m2⟩ := lA _ _ _ _ hU
        have g3 := ln_ge (T := U)
        have g4 := sn_ge (T := U)
        show DnM (pAppL (mch σ) (A (mch σ)) n (nd 11 0 T U nl) q2) σ
        have eL : ln (nd 11 0 T U nl) = ln T + ln U + 1 := rfl
        have eS : sn (nd 11 0 T U nl) = sn T + sn U := by show sn T + sn U + 0 = _; omega
        have s7 := S3.2.2.2.2.2.2.2.2.2.1
        have S4 := S3.put (x := 8) (y := 1) (z := 0) (by omega)
        refine ih (nd 11 0 T U nl) q2 τ2 (dft τ2 8 1 0) ?_ ((S0.tr Sm).tr sm2) ?_ ?_ (by rw [eL]; omega) (by rw [eS]; omega) (by omega)
        · intro m hm
          have e21' : τ2 58 21 = σ 58 21 := S3.2.2.2.2.1
          have e70 : τ2 70 (σ 58 21 - 1) = 5 := S3.2.2.2.2.2.2.2.2.2.2.2.trans HH.2.2.2.2.2.2.2.1
          refine Sim.go (g := 5) (s := 2) S3.2.1 (by omega) (by rw [e21']; exact e70) (by rw [e21']; exact b3) ?_
          rw [e21']
          refine M_Mo_operands (d := 11) ⟨by omega, by omega⟩ ⟨⟨by omega, by omega⟩, ⟨by omega, by omega⟩, ?_⟩
          rw [b3, e70, if_pos (by decide), if_neg (by decide), if_neg (by decide)]
          refine ⟨⟨by omega, by omega⟩, ⟨by omega, by omega⟩, _, s_put (d := 10) (rgk rfl) (by rw [b4, e72]; exact rgk rfl) (rgk rfl) (by omega), ?_⟩
          rw [b4, e72]
          unfold B_Mo_operands_58
          have d71 : (dft τ2 8 1 0) 71 = τ2 71 := dft_at.2.2.2.2 71 (by decide) (by decide) (by decide) (by decide)
          rw [d71, b3, if_neg (by decide), if_pos (by decide)]
          exact ⟨⟨by omega, by omega⟩, hm⟩
        · rw [eL, eS]; exact S4
        · obtain ⟨j1, j2, j3⟩ := isC.join (x := 8) (y := 1) (w := 0) S3 h7.1 h14.1 C2 C3 kD kS
          exact ⟨j1, j2, j3⟩
    · have eP : pAppL (mch σ) (A (mch σ)) (n + 1) T q = some (T, sk (mch σ) q) := by rw [pAppL, if_neg k]
      rw [eP]
      rw [show mch σ (sk (mch σ) q) = nx (mch σ) q from rfl, if_neg k] at Bg
      have S2 := (S.Z (q' := sk (mch σ) q) ⟨by omega, sin⟩).own (j := 72) (z := 0) (Or.inr (Or.inl rfl))
      have C2 := (C.Z (q := sk (mch σ) q) (b := 0)).own (j := 72) (k := σ 58 21 - 1) (z := 0) (Or.inr (Or.inl rfl))
      refine ⟨_, S0.tr (K (mup (mup (Zm τ (sk (mch σ) q) 0) 72 (σ 58 21 - 1) 0) 58 21 ((mup (Zm τ (sk (mch σ) q) 0) 72 (σ 58 21 - 1) 0) 58 21 - 1)) ?_), S2.pop C2⟩
      unfold B_Mo_operands_84
      rw [if_pos (by decide), if_neg (by decide)]
      refine ⟨_, _, N, _, _, Bg, ?_⟩
      rw [if_pos rfl]
      unfold B_Mo_operands_130 B_Mo_operands_142
      have e21 : (mup (Zm τ (sk (mch σ) q) 0) 72 (σ 58 21 - 1) 0) 58 21 = (Zm τ (sk (mch σ) q) 0) 58 21 := mup_ne (by decide)
      rw [if_neg (by decide), e21]
      exact ⟨⟨by omega, by omega⟩, ⟨by omega, by omega⟩, rfl, rfl⟩
end APP
