/-! The model's reader: a part of a pattern. -/
section PART
variable {σ τ : Mem} {q b m x y D : Int} {L : List Int}
theorem gu_8 : gu 8 = -5 := rfl
theorem gu_7 : gu 7 = 1 := rfl
theorem Zm_m : mup (Zm σ q b) 58 23 (σ 58 23) = Zm σ q b := by
  have e : (Zm σ q b) 58 23 = σ 58 23 := Zm_f (by decide) (by decide)
  rw [← e, mup_id]
/-- a sign is put, and the goal is taken away -/
theorem p_ps (H : GI σ 8) (hx : rg x) (hy : rg y) : ∃ m1, Rn 14 yMo_putSign [.ref 58, vi x, vi y] (mup (Zm σ q b) 58 23 m) none m1 ∧ B_Mo_part_247 11 m1 none (mup (sgn (mup (Zm σ q b) 58 23 m) x y) 58 21 (σ 58 21 - 1)) := by
  have h60 := H.1.2.1
  obtain ⟨-, h24, h3, h7, h14, h22, h21, -⟩ := H
  have ug := gu_8
  have e14 : (mup (Zm σ q b) 58 23 m) 58 14 = σ 58 14 := (mup_nk (by decide)).trans (Zm_f (by decide) (by decide))
  have e21 : (sgn (mup (Zm σ q b) 58 23 m) x y) 58 21 = σ 58 21 := (sgn_at.1 21 (by decide)).trans ((mup_nk (by decide)).trans (Zm_f (by decide) (by decide)))
  refine ⟨_, s_putSign (d := 10) hx hy (by omega), ?_⟩
  unfold B_Mo_part_247
  rw [e21]
  exact ⟨⟨by omega, by omega⟩, rfl, rfl⟩
theorem p_psZ (H : GI σ 8) (hx : rg x) (hy : rg y) : ∃ m1, Rn 14 yMo_putSign [.ref 58, vi x, vi y] (Zm σ q b) none m1 ∧ B_Mo_part_247 11 m1 none (mup (sgn (mup (Zm σ q b) 58 23 (σ 58 23)) x y) 58 21 (σ 58 21 - 1)) := by
  have h := p_ps (q := q) (b := b) (m := σ 58 23) H hx hy
  rw [Zm_m] at h ⊢; exact h
theorem p_bad (h : Sim σ (mup (sgn (mup (Zm σ q 1) 58 23 m) x y) 58 21 (σ 58 21 - 1))) : Fl σ := by
  refine Fl.of h (((frM.Z.tr (frM.m8 (by unfold mfP; omega))).tr frM.sgn).tr (frM.m8 (by unfold mfP; omega))) (Fl.bad ?_)
  rw [mup_nk (by decide), sgn_at.1 24 (by decide), mup_nk (by decide), Zm_bad]; decide
theorem p_ok {T : Tr} (H : GI σ 8) (hq : σ 58 3 ≤ q ∧ q ≤ σ 58 2) (hp : pn T = 1) (hc : ∀ ρ s, sg ρ s x y → isP ρ T s) (hm : mk m L) (hS : Sim σ (mup (sgn (mup (Zm σ q 0) 58 23 m) x y) 58 21 (σ 58 21 - 1))) : DpM (some (T, q, L)) σ := by
  have S := ((H.pg.Z (q' := q) hq).m23 (z := m)).putS (x := x) (y := y) (Int.le_refl 0)
  have e14 : (mup (Zm σ q 0) 58 23 m) 58 14 = σ 58 14 := (mup_nk (by decide)).trans (Zm_f (by decide) (by decide))
  have e21 : (sgn (mup (Zm σ q 0) 58 23 m) x y) 58 21 = σ 58 21 := S.2.2.2.2.1
  have c := (sgn_at (τ := mup (Zm σ q 0) 58 23 m) (x := x) (y := y)).2.2.1
  rw [e14] at c
  rw [show (0 : Int) + 1 = pn T from hp.symm] at S
  have h := S.popP
  rw [e21] at h
  refine ⟨_, hS, h, hc _ _ ?_, ?_⟩
  · exact ⟨(mup_ne (by decide)).trans c.1, (mup_ne (by decide)).trans c.2⟩
  · rw [mup_nk (by decide), sgn_at.1 23 (by decide), mup_eq]; exact hm
/-- how a part begins -/
theorem pt0 (H : GI σ 8) {c : Int} (hc : c = hr (nx (mch σ) (σ 58 3))) {p : Int} (hp : p = sk (mch σ) (σ 58 3)) : ∀ m, (if dgt c = 0 then (if c ≠ 40 then (if c ≠ 91 then (if c = 84 then (B_Mo_part_145 11 c (Zm σ (p + 1) 0) none m) else (if c ≠ 70 then (if c = 95 then (B_Mo_part_206 11 c (ltr c) (Zm σ (p + 1) 0) none m) else (if ltr c = 0 then (B_Mo_part_202 11 c (ltr c) (Zm σ (p + 1) 0) none m) else (if zAnd (zShr (σ 58 23) (c - 97)) 1 ≠ 1 then (B_Mo_part_206 11 c (ltr c) (Zm σ (p + 1) 0) none m) else (B_Mo_part_202 11 c (ltr c) (Zm σ (p + 1) 0) none m)))) else (B_Mo_part_145 11 c (Zm σ (p + 1) 0) none m))) else (if mch σ (p + 1) = 93 then (B_Mo_part_111 11 0 (Zm σ (p + 1) 0) none m) else (B_Mo_part_106 11 (Zm σ (p + 1) 0) none m))) else (m = aft (Zm σ (p + 1) 0) 1 7)) else (∃ (v20 : Int) (m20 : Mem), Rn 14 yMo_digits [.ref 58, vi 4] (Zm σ p 0) (some v20) m20 ∧ (∃ (m21 : Mem), Rn 14 yMo_putSign [.ref 58, vi 2, vi v20] m20 none m21 ∧ ((rg ((m21 58 21) - 1)) ∧ (m = mup m21 58 21 ((m21 58 21) - 1)))))) → Sim σ m := by
  intro m hm
  have HH := H
  have HM := H.1
  have h60 := H.1.2.1
  obtain ⟨-, h24, h3, h7, h14, h22, h21, h70, h71, -⟩ := H
  have ug := gu_8
  have le := sk_le (ch := mch σ) (p := σ 58 3)
  have ge := sk_ge (ch := mch σ) (p := σ 58 3)
  refine Sim.go (g := 8) (s := 0) h24 (by omega) h70 h71 ?_
  have N := s_peek (d := 9) (b := 0) (σ := σ) (q := σ 58 3) HM ⟨by omega, by omega⟩
  rw [HH.pg.id, ← hc, ← hp] at N
  show Rn 15 yMo_part [.ref 58, vi (σ 58 21 - 1)] σ none m
  refine M_Mo_part (d := 11) ⟨by omega, by omega⟩ ⟨⟨by omega, by omega⟩, ?_⟩
  rw [h71, if_pos (by decide)]
  refine ⟨_, _, N, ?_⟩
  rw [Zm_at, Zm_3, Zm_bad]
  by_cases c0 : dgt c = 0
  · rw [if_pos c0] at hm ⊢
    refine ⟨⟨by omega, by omega⟩, ?_⟩
    by_cases c1 : c ≠ 40
    · rw [if_pos c1] at hm ⊢
      by_cases c2 : c ≠ 91
      · rw [if_pos c2] at hm ⊢
        by_cases c3 : c = 84
        · rw [if_pos c3] at hm ⊢; exact hm
        rw [if_neg c3] at hm ⊢
        by_cases c4 : c ≠ 70
        · rw [if_pos c4] at hm ⊢
          rw [if_neg (by decide)]
          have e23 : (Zm σ p 0) 58 23 = σ 58 23 := Zm_f (by decide) (by decide)
          rw [e23]; exact hm
        · rw [if_neg c4] at hm ⊢; exact hm
      · rw [if_neg c2] at hm ⊢
        rw [if_neg (by decide)]
        have Hh := s_here (d := 10) (q := p + 1) (b := 0) HM (by omega)
        refine ⟨_, _, Hh, ?_⟩
        by_cases c5 : mch σ (p + 1) = 93
        · rw [if_pos c5] at hm
          rw [if_pos ((HM.hr_eq (by decide) (by decide)).mpr c5)]; exact hm
        · rw [if_neg c5] at hm
          rw [if_neg (fun w => c5 ((HM.hr_eq (by decide) (by decide)).mp w))]; exact hm
    · rw [if_neg c1] at hm ⊢
      have t21 : (Zm σ (p + 1) 0) 58 21 = σ 58 21 := Zm_f (by decide) (by decide)
      exact ⟨_, s_after (d := 9) (rgk rfl) (rgk rfl) (by rw [t21]; omega), rfl, hm⟩
  · rw [if_neg c0] at hm ⊢
    obtain ⟨v, m20, r1, m21, r2, g, e⟩ := hm
    exact ⟨v, m20, r1, m21, r2, g, rfl, e⟩
theorem mk_or0 (h : mk m L) : mk (zOr m 0) L := ⟨fun i => by rw [bt_or, bt_0, Bool.or_false]; exact h.1 i, h.2⟩
theorem pt_d (H : GI σ 8) (hm : mk (σ 58 23) L) (hd : 48 ≤ nx (mch σ) (σ 58 3) ∧ nx (mch σ) (σ 58 3) ≤ 57) : DpM ((pDg (mch σ) 4 (sk (mch σ) (σ 58 3))).map (fun q => (nd 0 q.1 nl nl nl, q.2, L))) σ := by
  have K := pt0 H rfl rfl
  have HM := H.1
  have h60 := HM.2.1
  have hat := H.2.2.1
  have ge := sk_ge (ch := mch σ) (p := σ 58 3)
  have sl := mch_lt (σ := σ) (x := sk (mch σ) (σ 58 3)) (fun w => by have w' : nx (mch σ) (σ 58 3) = -1 := w; omega)
  have eh : hr (nx (mch σ) (σ 58 3)) = nx (mch σ) (σ 58 3) := by unfold hr; rw [if_neg (by omega)]
  rw [eh, dgt_1 hd] at K
  have K := fun m hm => K m (Eq.mpr (if_neg (by decide)) hm)
  have D1 := s_modigits (d := 9) (x1 := 4) (most := 4) (q := sk (mch σ) (σ 58 3)) (b := 0) rfl (by decide) HM ⟨by omega, by omega⟩
  have e5 : (4 : Nat) + 1 = 5 := rfl
  rw [e5] at D1
  obtain ⟨c4, c5⟩ := dgf_ps (ch := mch σ) 5 0 0 (sk (mch σ) (σ 58 3))
  have c6 := dgf_inM (σ := σ) 5 0 0 (sk (mch σ) (σ 58 3)) (by omega)
  obtain ⟨k2, b5, b6, b7, b8⟩ := dgf_val (ch := mch σ) 5 0 0 0 (sk (mch σ) (σ 58 3)) (by omega) (by decide) rfl
  have p2 : (10 : Int) ^ k2 ≤ 100000 := by
    have : k2 = 0 ∨ k2 = 1 ∨ k2 = 2 ∨ k2 = 3 ∨ k2 = 4 ∨ k2 = 5 := by omega
    rcases this with rfl | rfl | rfl | rfl | rfl | rfl <;> decide
  unfold pDg
  rw [e5]
  generalize dgf (mch σ) 5 0 0 (sk (mch σ) (σ 58 3)) = r at *
  have Sm : Sim σ (mup (sgn (mup (Zm σ r.2.2 (dgB 4 r 0)) 58 23 (σ 58 23)) 2 r.1) 58 21 (σ 58 21 - 1)) := by
    have e21 : (sgn (Zm σ r.2.2 (dgB 4 r 0)) 2 r.1) 58 21 = σ 58 21 := (sgn_at.1 21 (by decide)).trans (Zm_f (by decide) (by decide))
    have e14 : (Zm σ r.2.2 (dgB 4 r 0)) 58 14 = σ 58 14 := Zm_f (by decide) (by decide)
    have h14 := H.2.2.2.2.1
    have h21 := H.2.2.2.2.2.2.1
    have h22 := H.2.2.2.2.2.1
    have ug := gu_8
    rw [Zm_m]
    refine K _ ⟨_, _, D1, _, s_putSign (d := 10) (rgk rfl) ⟨by omega, by omega⟩ (by rw [e14]; omega), ?_, ?_⟩
    · rw [e21]; exact ⟨by omega, by omega⟩
    · rw [e21]
  rw [dgB_0] at Sm
  by_cases bad : r.2.1 = 0 ∨ 4 < r.2.1
  · have e : (if r.2.1 = 0 ∨ ((4 : Nat) : Int) < r.2.1 then (1 : Int) else 0) = 1 := if_pos bad
    rw [e] at Sm
    have e' : (if r.2.1 = 0 ∨ ((4 : Nat) : Int) < r.2.1 then (none : Option (Int × Int)) else some (r.1, r.2.2)) = none := if_pos bad
    rw [e']
    exact p_bad Sm
  · have e : (if r.2.1 = 0 ∨ ((4 : Nat) : Int) < r.2.1 then (1 : Int) else 0) = 0 := if_neg bad
    rw [e] at Sm
    have e' : (if r.2.1 = 0 ∨ ((4 : Nat) : Int) < r.2.1 then (none : Option (Int × Int)) else some (r.1, r.2.2)) = some (r.1, r.2.2) := if_neg bad
    rw [e']
    exact p_ok H ⟨by omega, by omega⟩ rfl (fun ρ s k => k) hm Sm
/-- a part that is no number and no bracket -/
theorem pt_s {P : Int → List Int → PaR} (H : GI σ 8) (hm : mk (σ 58 23) L) (h1 : ¬(48 ≤ nx (mch σ) (σ 58 3) ∧ nx (mch σ) (σ 58 3) ≤ 57)) (h2 : nx (mch σ) (σ 58 3) ≠ 40) : DpM (pPart (mch σ) P (σ 58 3) L) σ := by
  have K := pt0 H rfl rfl
  have HM := H.1
  have h60 := HM.2.1
  have hat := H.2.2.1
  have ge := sk_ge (ch := mch σ) (p := σ 58 3)
  have er : ∀ {t : Int}, t ≠ -1 → t ≠ 10 → (hr (nx (mch σ) (σ 58 3)) = t ↔ nx (mch σ) (σ 58 3) = t) := fun a b => HM.hr_eq a b
  have nd' : dgt (hr (nx (mch σ) (σ 58 3))) = 0 := dgt_0 (by unfold hr; split <;> omega)
  have K := fun m hm => K m (Eq.mpr (if_pos nd') (Eq.mpr (if_pos (fun w => h2 ((er (by decide) (by decide)).mp w))) hm))
  have hne : nx (mch σ) (σ 58 3) ≠ -1 → sk (mch σ) (σ 58 3) < σ 58 2 := fun w => (mch_lt (σ := σ) (x := sk (mch σ) (σ 58 3)) w).2
  unfold pPart
  by_cases c1 : 97 ≤ nx (mch σ) (σ 58 3) ∧ nx (mch σ) (σ 58 3) ≤ 122
  · have eh : hr (nx (mch σ) (σ 58 3)) = nx (mch σ) (σ 58 3) := by unfold hr; rw [if_neg (by omega)]
    have sl := hne (by omega)
    rw [eh, ltr_1 c1] at K
    have K := fun m hm => K m (Eq.mpr (if_pos (by omega)) (Eq.mpr (if_neg (by omega)) (Eq.mpr (if_pos (by omega)) (Eq.mpr (if_neg (by omega)) (Eq.mpr (if_neg (by decide)) hm)))))
    rw [if_pos c1]
    have go : ∀ {t : Int}, t = 0 ∨ t = 1 → B_Mo_part_207 11 (nx (mch σ) (σ 58 3)) 1 t (Zm σ (sk (mch σ) (σ 58 3) + 1) 0) none (mup (sgn (mup (Zm σ (sk (mch σ) (σ 58 3) + 1) t) 58 23 (zOr (σ 58 23) (zShl 1 (nx (mch σ) (σ 58 3) - 97)))) 1 (nx (mch σ) (σ 58 3))) 58 21 (σ 58 21 - 1)) := by
      intro t ht
      refine ⟨ht, ?_⟩
      rw [if_neg (by decide), Zm_24, show (Zm σ (sk (mch σ) (σ 58 3) + 1) 0) 58 23 = σ 58 23 from Zm_f (by decide) (by decide)]
      unfold B_Mo_part_229
      rw [if_neg (by decide)]
      exact p_ps H (rgk rfl) ⟨by omega, by omega⟩
    have ec : nx (mch σ) (σ 58 3) - 97 = ((nx (mch σ) (σ 58 3) - 97).toNat : Int) := by omega
    have hb := mk_bit hm (i := (nx (mch σ) (σ 58 3) - 97).toNat) (by omega)
    rw [← ec, show 97 + (nx (mch σ) (σ 58 3) - 97) = nx (mch σ) (σ 58 3) by omega] at hb
    by_cases cL : nx (mch σ) (σ 58 3) ∈ L
    · rw [if_pos cL]
      exact p_bad (K _ (Eq.mpr (if_neg (fun w => w (hb.mpr cL))) (go (Or.inr rfl))))
    · rw [if_neg cL]
      exact p_ok H ⟨by omega, by omega⟩ rfl (fun ρ s k => k) (mk_add hm c1 cL) (K _ (Eq.mpr (if_pos (fun w => cL (hb.mp w))) (go (Or.inl rfl))))
  rw [if_neg c1, if_neg h1]
  have l0 : ltr (hr (nx (mch σ) (σ 58 3))) = 0 := ltr_0 (by unfold hr; split <;> omega)
  have g0 : ∀ {t c : Int}, t = 0 ∨ t = 1 → B_Mo_part_207 11 c 0 t (Zm σ (sk (mch σ) (σ 58 3) + 1) 0) none (mup (sgn (mup (Zm σ (sk (mch σ) (σ 58 3) + 1) t) 58 23 (zOr (σ 58 23) 0)) 1 0) 58 21 (σ 58 21 - 1)) := by
    intro t c ht
    refine ⟨ht, ?_⟩
    rw [if_pos rfl, Zm_24, show (Zm σ (sk (mch σ) (σ 58 3) + 1) 0) 58 23 = σ 58 23 from Zm_f (by decide) (by decide)]
    unfold B_Mo_part_229
    rw [if_pos rfl]
    exact p_ps H (rgk rfl) (rgk rfl)
  by_cases c2 : nx (mch σ) (σ 58 3) = 95
  · have eh := (er (t := 95) (by decide) (by decide)).mpr c2
    have sl := hne (by omega)
    rw [if_pos c2]
    rw [eh, ltr_0 (by decide)] at K
    have K := fun m hm => K m (Eq.mpr (if_pos (by decide)) (Eq.mpr (if_neg (by decide)) (Eq.mpr (if_pos (by decide)) (Eq.mpr (if_pos rfl) hm))))
    exact p_ok H ⟨by omega, by omega⟩ rfl (fun ρ s k => k) (mk_or0 hm) (K _ (g0 (Or.inl rfl)))
  rw [if_neg c2, if_neg h2]
  unfold pCon
  by_cases c3 : nx (mch σ) (σ 58 3) = 84
  · have eh := (er (t := 84) (by decide) (by decide)).mpr c3
    have sl := hne (by omega)
    rw [if_pos c3]
    rw [eh] at K
    have K := fun m hm => K m (Eq.mpr (if_pos (by decide)) (Eq.mpr (if_pos rfl) hm))
    refine p_ok H ⟨by omega, by omega⟩ rfl (fun ρ s k => k) hm (K _ ?_)
    unfold B_Mo_part_145
    rw [if_neg (by decide)]
    exact p_psZ H (rgk rfl) (rgk rfl)
  rw [if_neg c3]
  by_cases c4 : nx (mch σ) (σ 58 3) = 70
  · have eh := (er (t := 70) (by decide) (by decide)).mpr c4
    have sl := hne (by omega)
    rw [if_pos c4]
    rw [eh] at K
    have K := fun m hm => K m (Eq.mpr (if_pos (by decide)) (Eq.mpr (if_neg (by decide)) (Eq.mpr (if_neg (by decide)) hm)))
    refine p_ok H ⟨by omega, by omega⟩ rfl (fun ρ s k => k) hm (K _ ?_)
    unfold B_Mo_part_145
    rw [if_pos (by decide)]
    exact p_psZ H (rgk rfl) (rgk rfl)
  rw [if_neg c4]
  by_cases c5 : nx (mch σ) (σ 58 3) = 91
  · have eh := (er (t := 91) (by decide) (by decide)).mpr c5
    have sl := hne (by omega)
    rw [eh] at K
    have K := fun m hm => K m (Eq.mpr (if_neg (by decide)) hm)
    have e2 : sk (mch σ) (σ 58 3) + 1 + 1 = sk (mch σ) (σ 58 3) + 2 := by omega
    have g1 : ∀ {t : Int}, t = 0 ∨ t = 1 → B_Mo_part_111 11 t (Zm σ (sk (mch σ) (σ 58 3) + 1) 0) none (mup (sgn (mup (Zm σ (sk (mch σ) (σ 58 3) + 2) t) 58 23 (σ 58 23)) 4 0) 58 21 (σ 58 21 - 1)) := by
      intro t ht
      refine ⟨ht, ?_⟩
      rw [Zm_24, Zm_at, Zm_3, e2]
      exact ⟨⟨by omega, by omega⟩, p_psZ H (rgk rfl) (rgk rfl)⟩
    by_cases c6 : mch σ (sk (mch σ) (σ 58 3) + 1) = 93
    · rw [if_pos ⟨c5, c6⟩]
      have K := fun m hm => K m (Eq.mpr (if_pos c6) hm)
      have l2 := mch_lt (σ := σ) (x := sk (mch σ) (σ 58 3) + 1) (by rw [c6]; decide)
      exact p_ok H ⟨by omega, by omega⟩ rfl (fun ρ s k => k) hm (K _ (g1 (Or.inl rfl)))
    · rw [if_neg (fun h => c6 h.2)]
      have K := fun m hm => K m (Eq.mpr (if_neg c6) hm)
      exact p_bad (K _ (g1 (Or.inr rfl)))
  · rw [if_neg (fun h => c5 h.1)]
    rw [l0] at K
    have K := fun m hm => K m (Eq.mpr (if_pos (fun w => c5 ((er (by decide) (by decide)).mp w))) (Eq.mpr (if_neg (fun w => c3 ((er (by decide) (by decide)).mp w))) (Eq.mpr (if_pos (fun w => c4 ((er (by decide) (by decide)).mp w))) (Eq.mpr (if_neg (fun w => c2 ((er (by decide) (by decide)).mp w))) (Eq.mpr (if_pos rfl) hm)))))
    exact p_bad (K _ (g0 (Or.inr rfl)))
end PART
