/-! The model's reader: any atom. -/
section MAT
variable {σ : Mem} {D : Int} {E : (Int → Int) → Int → Option (Tr × Int)}
theorem gu_0 : gu 0 = 1 := rfl
theorem gu_6 : gu 6 = 0 := rfl
/-- an atom with another goal within it -/
theorem at_in {s g c : Int} (H : GI σ 6) (hc : nx (mch σ) (σ 58 3) = c) (h : (c = 126 ∧ s = 1 ∧ g = 6) ∨ (c = 40 ∧ s = 2 ∧ g = 0)) : Sim σ (aft (Zm σ (sk (mch σ) (σ 58 3) + 1) 0) s g) ∧ Pg σ (Zm σ (sk (mch σ) (σ 58 3) + 1) 0) (sk (mch σ) (σ 58 3) + 1) 0 0 0 ∧ GI (aft (Zm σ (sk (mch σ) (σ 58 3) + 1) 0) s g) g := by
  have K := at0 H
  have HM := H.1
  have h60 := HM.2.1
  have hat := H.2.2.1
  have h7 := H.2.2.2.1
  have h14 := H.2.2.2.2.1
  have h22 := H.2.2.2.2.2.1
  have h21 := H.2.2.2.2.2.2.1
  have u6 := gu_6
  have u0 := gu_0
  have ge := sk_ge (ch := mch σ) (p := σ 58 3)
  have sl := mch_lt (σ := σ) (x := sk (mch σ) (σ 58 3)) (fun w => by have w' : nx (mch σ) (σ 58 3) = -1 := w; omega)
  have S := H.pg.Z (q' := sk (mch σ) (σ 58 3) + 1) ⟨by omega, by omega⟩
  have ug : gu g = 1 ∨ gu g = 0 := by rcases h with ⟨-, -, rfl⟩ | ⟨-, -, rfl⟩; exact Or.inr gu_6; exact Or.inl gu_0
  refine ⟨?_, S, S.gi HM (by omega) (by omega) (by omega) (by omega) (by omega)⟩
  have eh : hr (nx (mch σ) (σ 58 3)) = c := by rw [hc]; unfold hr; rw [if_neg (by omega)]
  have st : stb c = true := by unfold stb; rw [decide_eq_true_eq]; omega
  rw [eh, hc, if_pos st] at K
  have t21 : (Zm σ (sk (mch σ) (σ 58 3) + 1) 0) 58 21 = σ 58 21 := Zm_f (by decide) (by decide)
  refine K _ ⟨Or.inl rfl, ?_⟩
  rw [if_pos (dgt_0 (by omega)), Zm_at, Zm_24, Zm_3]
  refine ⟨⟨by omega, by omega⟩, ?_⟩
  rcases h with ⟨rfl, rfl, rfl⟩ | ⟨rfl, rfl, rfl⟩
  · rw [if_pos rfl]
    unfold B_Mo_atom_206 B_Mo_atom_218
    rw [if_neg (by decide), if_neg (by decide)]
    exact ⟨_, s_after (d := 9) (rgk rfl) (rgk rfl) (by rw [t21]; omega), rfl, rfl⟩
  · rw [if_neg (by decide), if_neg (by decide)]
    unfold B_Mo_atom_206 B_Mo_atom_218
    rw [if_pos (by decide), if_pos (by decide)]
    exact ⟨_, s_after (d := 9) (rgk rfl) (rgk rfl) (by rw [t21]; omega), rfl, rfl⟩
/-- ~ -/
theorem mo_not {Q : Option (Tr × Int)} (H : GI σ 6) (hc : nx (mch σ) (σ 58 3) = 126) (h : DnM Q (aft (Zm σ (sk (mch σ) (σ 58 3) + 1) 0) 1 6)) (lQ : ∀ T q, Q = some (T, q) → ln T + 1 ≤ 2 * (q - (sk (mch σ) (σ 58 3) + 1))) : DnM (Q.map fun q => (nd 8 0 q.1 nl nl, sk (mch σ) q.2)) σ := by
  obtain ⟨Sm, S, gi⟩ := at_in (s := 1) (g := 6) H hc (Or.inl ⟨rfl, rfl, rfl⟩)
  have HM := H.1
  have h60 := HM.2.1
  have hat := H.2.2.1
  have h7 := H.2.2.2.1
  have h14 := H.2.2.2.2.1
  have h22 := H.2.2.2.2.2.1
  have h21 := H.2.2.2.2.2.2.1
  have h70 := H.2.2.2.2.2.2.2.1
  have u6 := gu_6
  have ge := sk_ge (ch := mch σ) (p := σ 58 3)
  have B := S.begun0 (Int.le_refl 0) (Int.le_refl 0) h21.1 h
  cases Q with
  | none => exact Fl.of Sm (frM.Z.tr frM.aft) B
  | some t =>
    obtain ⟨U, q2⟩ := t
    obtain ⟨τ2, sm2, S3, b1, b2, ⟨b3, b4, b5⟩, C3, kD, kS⟩ := B
    have l := lQ _ _ rfl
    rw [Int.zero_add, Int.zero_add] at S3
    rw [Int.add_zero, Int.add_zero] at C3
    have q0 := S3.2.2.2.1
    have ge2 := sk_ge (ch := mch σ) (p := q2)
    have g1 := ln_ge (T := U)
    have sin : sk (mch σ) q2 ≤ σ 58 2 := skf_in (fun x e => (mch_lt (by omega)).2) 60 q2 (by omega)
    have e21 : τ2 58 21 = σ 58 21 := S3.2.2.2.2.1
    have e70 : τ2 70 (σ 58 21 - 1) = 6 := S3.2.2.2.2.2.2.2.2.2.2.2.trans h70
    have N := s_peek (d := 9) (b := 0) (σ := τ2) (q := q2) (S3.1.mi HM) ⟨by omega, by omega⟩
    rw [S3.id, S3.1.ch] at N
    have S4 := S3.Z (q' := sk (mch σ) q2) ⟨by omega, sin⟩
    have C4 := C3.Z (q := sk (mch σ) q2) (b := 0)
    have s7 := S4.2.2.2.2.2.2.2.2.2.1
    have S5 := S4.put (x := 9) (y := 126) (z := 0) g1
    have d21 : (dft (Zm τ2 (sk (mch σ) q2) 0) 9 126 0) 58 21 = σ 58 21 := S5.2.2.2.2.1
    have S6 : Pg σ (dft (Zm τ2 (sk (mch σ) q2) 0) 9 126 0) (sk (mch σ) q2) 0 (ln (nd 8 0 U nl nl)) (sn (nd 8 0 U nl nl)) := by
      have e1 : ln (nd 8 0 U nl nl) = ln U + 1 := rfl
      have e2 : sn (nd 8 0 U nl nl) = sn U := by show sn U + 0 + 0 = _; omega
      rw [e1, e2]; exact S5
    have C6 : isC (dft (Zm τ2 (sk (mch σ) q2) 0) 9 126 0) (nd 8 0 U nl nl) (σ 58 7) (σ 58 14) := by
      refine ⟨kpD.isC h7.1 h14.1 (dft_kD (n := σ 58 7 + ln U) (by omega)) (dft_kS (n := σ 58 14 + sn U)) (Int.le_refl _) (Int.le_refl _) C4, ?_⟩
      have := (dft_at (τ := Zm τ2 (sk (mch σ) q2) 0) (x := 9) (y := 126) (z := 0)).2.2.1
      rwa [s7] at this
    refine ⟨_, (Sm.tr sm2).tr (Sim.go (g := 6) (s := 1) S3.2.1 (by omega) (by rw [e21]; exact e70) (by rw [e21]; exact b3) ?_), S6.pop C6⟩
    rw [e21]
    show Rn 15 yMo_atom [.ref 58, vi (σ 58 21 - 1)] τ2 none _
    refine M_Mo_atom (d := 11) ⟨by omega, by omega⟩ ⟨_, _, N, ⟨by omega, by omega⟩, ?_⟩
    have z71 : (Zm τ2 (sk (mch σ) q2) 0) 71 (σ 58 21 - 1) = 1 := by rw [Zm_o (by decide)]; exact b3
    rw [z71, if_neg (by decide)]
    refine ⟨⟨by omega, by omega⟩, ?_⟩
    rw [if_neg (by decide)]
    refine ⟨_, s_put (d := 10) (rgk rfl) (rgk rfl) (rgk rfl) (by omega), ?_⟩
    exact ⟨⟨by omega, by omega⟩, rfl, rfl⟩
/-- ( -/
theorem mo_par (H : GI σ 6) (hD : σ 58 22 = D) (hE : GSp D 0 E) (hc : nx (mch σ) (σ 58 3) = 40) : DnM (pPlain (mch σ) (E (mch σ)) (σ 58 3)) σ := by
  obtain ⟨Sm, S, gi⟩ := at_in (s := 2) (g := 0) H hc (Or.inr ⟨rfl, rfl, rfl⟩)
  have HM := H.1
  have h60 := HM.2.1
  have hat := H.2.2.1
  have h7 := H.2.2.2.1
  have h14 := H.2.2.2.2.1
  have h22 := H.2.2.2.2.2.1
  have h21 := H.2.2.2.2.2.2.1
  have h70 := H.2.2.2.2.2.2.2.1
  have u6 := gu_6
  have ge := sk_ge (ch := mch σ) (p := σ 58 3)
  have B := S.begun (Int.le_refl 0) (Int.le_refl 0) h21.1 gi (by omega) hE
  have eP : pPlain (mch σ) (E (mch σ)) (σ 58 3) = (E (mch σ) (sk (mch σ) (σ 58 3) + 1)).bind fun t => (pEx (mch σ) 41 t.2).map fun r => (t.1, r) := by
    unfold pPlain; rw [hc, if_neg (by decide), if_neg (by decide), if_neg (by decide), if_neg (by decide), if_pos rfl]
  rw [eP]
  cases hU : E (mch σ) (sk (mch σ) (σ 58 3) + 1) with
  | none =>
    rw [hU] at B
    exact Fl.of Sm (frM.Z.tr frM.aft) B
  | some t =>
    obtain ⟨U, q2⟩ := t
    rw [hU] at B
    obtain ⟨τ2, sm2, S3, b1, b2, ⟨b3, b4, b5⟩, C3, kD, kS⟩ := B
    rw [Int.zero_add, Int.zero_add] at S3
    rw [Int.add_zero, Int.add_zero] at C3
    have q0 := S3.2.2.2.1
    have ge2 := sk_ge (ch := mch σ) (p := q2)
    have sin : sk (mch σ) q2 ≤ σ 58 2 := skf_in (fun x e => (mch_lt (by omega)).2) 60 q2 (by omega)
    have e21 : τ2 58 21 = σ 58 21 := S3.2.2.2.2.1
    have e70 : τ2 70 (σ 58 21 - 1) = 6 := S3.2.2.2.2.2.2.2.2.2.2.2.trans h70
    have N := s_peek (d := 9) (b := 0) (σ := τ2) (q := q2) (S3.1.mi HM) ⟨by omega, by omega⟩
    rw [S3.id, S3.1.ch] at N
    have W := s_want (d := 7) (b := 0) (σ := τ2) (q := sk (mch σ) q2) (c := 41) (S3.1.mi HM) ⟨by omega, by omega⟩ (rgk rfl) (by decide) (by decide)
    rw [S3.1.ch, HM.sk_sk (by omega)] at W
    have en : nx (mch σ) (sk (mch σ) q2) = nx (mch σ) q2 := by unfold nx; rw [HM.sk_sk (by omega)]
    rw [en] at W
    have z71 : (Zm τ2 (sk (mch σ) q2) 0) 71 (σ 58 21 - 1) = 2 := by rw [Zm_o (by decide)]; exact b3
    have go : ∀ {z b : Int}, Rn 14 yMo_want [.ref 58, vi 41] (Zm τ2 (sk (mch σ) q2) 0) none (Zm τ2 z b) → Sim σ (mup (Zm τ2 z b) 58 21 ((Zm τ2 z b) 58 21 - 1)) := by
      intro z b hw
      refine (Sm.tr sm2).tr (Sim.go (g := 6) (s := 2) S3.2.1 (by omega) (by rw [e21]; exact e70) (by rw [e21]; exact b3) ?_)
      rw [e21]
      show Rn 15 yMo_atom [.ref 58, vi (σ 58 21 - 1)] τ2 none _
      refine M_Mo_atom (d := 11) ⟨by omega, by omega⟩ ⟨_, _, N, ⟨by omega, by omega⟩, ?_⟩
      rw [z71, if_neg (by decide)]
      refine ⟨⟨by omega, by omega⟩, ?_⟩
      rw [if_pos (by decide)]
      have t21 : (Zm τ2 z b) 58 21 = σ 58 21 := (Zm_f (by decide) (by decide)).trans e21
      refine ⟨_, hw, ?_⟩
      exact ⟨⟨by omega, by omega⟩, rfl, rfl⟩
    rw [Option.bind_some]
    dsimp only
    unfold pEx
    by_cases w : nx (mch σ) q2 = 41
    · rw [if_pos w, if_pos ⟨w, rfl⟩] at W
      rw [if_pos w]
      have sl := mch_lt (σ := σ) (x := sk (mch σ) q2) (fun v => by have v' : nx (mch σ) q2 = -1 := v; omega)
      exact ⟨_, go W, (S3.Z (q' := sk (mch σ) q2 + 1) ⟨by omega, by omega⟩).pop (C3.Z)⟩
    · rw [if_neg w, if_neg (fun h => w h.1)] at W
      rw [if_neg w]
      refine Fl.of (go W) (((S3.1.tr frM.Z)).tr (frM.m8 (by unfold mfP; omega))) (Fl.bad ?_)
      rw [mup_nk (by decide), Zm_bad]; decide
theorem moatom_l (hE : GSp D 0 E) (lE : Lp E) : ∀ (n : Nat) (σ : Mem), GI σ 6 → σ 58 22 = D → σ 58 2 - σ 58 3 ≤ n → DnM (pAtomM (mch σ) (E (mch σ)) n (σ 58 3)) σ := by
  intro n
  induction n with
  | zero =>
    intro σ H hD hn
    have e1 : nx (mch σ) (σ 58 3) = -1 := by
      have e : mch σ (σ 58 3) = -1 := mch_end (by omega)
      show mch σ (skf (mch σ) 60 (σ 58 3)) = -1
      rw [skf, if_neg (by rw [e]; decide)]; exact e
    exact moplain_s H (by omega) (by omega) (by omega) (by omega)
  | succ n ih =>
    intro σ H hD hn
    by_cases c1 : nx (mch σ) (σ 58 3) = 126
    · have eP : pAtomM (mch σ) (E (mch σ)) (n + 1) (σ 58 3) = (pAtomM (mch σ) (E (mch σ)) n (sk (mch σ) (σ 58 3) + 1)).map (fun q => (nd 8 0 q.1 nl nl, sk (mch σ) q.2)) := by rw [pAtomM, if_pos c1]
      rw [eP]
      obtain ⟨-, S, gi⟩ := at_in (s := 1) (g := 6) H c1 (Or.inl ⟨rfl, rfl, rfl⟩)
      have fa := S.1.tr (frM.aft (s := 1) (g := 6))
      have a1 := (aft_at (σ := Zm σ (sk (mch σ) (σ 58 3) + 1) 0) (s := 1) (g := 6)).1
      have ge := sk_ge (ch := mch σ) (p := σ 58 3)
      have e3 : (aft (Zm σ (sk (mch σ) (σ 58 3) + 1) 0) 1 6) 58 3 = sk (mch σ) (σ 58 3) + 1 := (a1 3 (by decide)).trans Zm_at
      have h := ih _ gi (by rw [a1 22 (by decide), Zm_f (by decide) (by decide)]; exact hD) (by rw [fa.len, e3]; omega)
      rw [fa.ch, e3] at h
      exact mo_not H c1 h (fun T q e => (pAtomM_l (lE _) n _ _ _ e).1)
    · have eP : pAtomM (mch σ) (E (mch σ)) (n + 1) (σ 58 3) = pPlain (mch σ) (E (mch σ)) (σ 58 3) := by rw [pAtomM, if_neg c1]
      rw [eP]
      by_cases c2 : 48 ≤ nx (mch σ) (σ 58 3) ∧ nx (mch σ) (σ 58 3) ≤ 57
      · exact moplain_d H c2
      by_cases c3 : nx (mch σ) (σ 58 3) = 40
      · exact mo_par H hD hE c3
      by_cases c4 : nx (mch σ) (σ 58 3) = 91
      · exact moplain_e H c4
      · exact moplain_s H c2 c1 c3 c4
end MAT
/-- lists, from expressions one level down -/
theorem s_molistE {k : Nat} {D : Int} (hE : GSp D 0 (fun ch => pE ch k)) : GSp D 1 (fun ch => pList ch (pE ch k) 60) :=
  s_molistM (fun σ H hD => moatom_l (E := fun ch => pE ch k) hE (fun ch => pE_l k) 60 σ H hD (by have := H.1.2.1; have := H.2.2.1; omega))
