/-! The model: does a pattern fit, the loop. -/
section MFITL
variable {d : Nat} {P : Tr → List Int → Int → Prop}
/-- what fits comes to -/
def fiO (P : Tr → List Int → Int → Prop) (x3 x4 : Int) (nm : Int) (h : mHp) (σ : Mem) (o : Option En) (r : Int) (h' : mHp) (σ' : Mem) : Prop := frF (σ 58 57) h h' σ σ' ∧ match o with
  | some ρ' => r = 1 ∧ RMv h' σ' P (mOf σ') ρ' true (σ' 58 58) ∧ σ' 58 57 = σ 58 57 + nm
  | none => r = 0 ∧ σ' 58 57 = x3 ∧ σ' 58 58 = x4
theorem r_mfitL {x2 x3 x4 : Int} (g2 : 0 ≤ x2 ∧ x2 ≤ 80) (g3 : rg x3) (g4 : rg x4) : ∀ (N : Nat) (L : List (Tr × Va)) (x6 : Int) (ρ : En) (h : mHp) (σ : Mem), pnL L ≤ N → (∀ q ∈ L, wfP q.1 ∧ KiP q.1 q.2) → isPs (prM σ) L x6 → stkM h σ P (mOf σ) L → RMv h σ P (mOf σ) ρ true (σ 58 58) → mBo (mOf σ) → σ 58 57 + nmL L ≤ 4299 → x6 + pnL L = x2 → 0 ≤ x6 → ∃ r h' σ', Lh (d + 4) yMo_fits 34 [(0, .ref 58), (2, vi x2), (3, vi x3), (4, vi x4), (5, vi (L.length : Int)), (6, vi x6)] [] h σ (.inl (some (vi r))) h' σ' ∧ fiO P x3 x4 (nmL L) h σ (fitL L ρ) r h' σ' := by
  intro N
  induction N with
  | zero =>
    intro L x6 ρ h σ hN hw hp st re w hb hx h0
    cases L with
    | nil =>
      have hx : x6 + 0 = x2 := hx
      refine ⟨1, h, σ, K_Mo_fits_34 (by unfold rg; omega) g3 g4 (rgk rfl) (by unfold rg; omega) ?_, frF.rf, rfl, re, by show _ = σ 58 57 + 0; omega⟩
      unfold B_Mo_fits_34
      rw [if_pos (by omega)]
      exact ⟨rfl, rfl, rfl⟩
    | cons q L =>
      have := pnL_len (L := q :: L) (fun r hr => (hw r hr).1)
      have : ((q :: L).length : Int) = L.length + 1 := rfl
      omega
  | succ N ih =>
    intro L x6 ρ h σ hN hw hp st re w hb hx h0
    cases L with
    | nil =>
      have hx : x6 + 0 = x2 := hx
      refine ⟨1, h, σ, K_Mo_fits_34 (by unfold rg; omega) g3 g4 (rgk rfl) (by unfold rg; omega) ?_, frF.rf, rfl, re, by show _ = σ 58 57 + 0; omega⟩
      unfold B_Mo_fits_34
      rw [if_pos (by omega)]
      exact ⟨rfl, rfl, rfl⟩
    | cons q L =>
      obtain ⟨A, v⟩ := q
      obtain ⟨wA, kA⟩ := hw _ List.mem_cons_self
      have wA : wfP A := wA
      have kA : KiP A v := kA
      obtain ⟨pA, pL⟩ := hp
      have pA : isP (prM σ) A x6 := pA
      have pL : isPs (prM σ) L (x6 + pn A) := pL
      obtain ⟨⟨y, ey, ry⟩, st⟩ := st
      have ry : RMv h σ P (mOf σ) v false y := ry
      have hL : ∀ q ∈ L, wfP q.1 ∧ KiP q.1 q.2 := fun q hq => hw q (List.mem_cons_of_mem _ hq)
      have p1 := pn_1 wA
      have len := pnL_len (L := L) (fun r hr => (hL r hr).1)
      have nm0 := nmL_0 (L := L)
      have eN : pnL ((A, v) :: L) = pn A + pnL L := rfl
      have eM : nmL ((A, v) :: L) = (bnd A).length + nmL L := rfl
      rw [eN] at hN hx
      rw [eM] at hb
      have r6 : 0 ≤ x6 ∧ x6 < 80 := ⟨h0, by omega⟩
      have g6 : rg x6 := by unfold rg; omega
      have g61 : rg (x6 + 1) := by unfold rg; omega
      have g5 : rg (L.length : Int) := by unfold rg; omega
      have x5e : (((A, v) :: L).length : Int) + (-1) = L.length := by show ((L.length + 1 : Nat) : Int) + (-1) = L.length; omega
      have p57 := re.pl w
      -- one sign that fits without binding
      have skip : pn A = 1 → (∀ s0, fitL ((A, v) :: L) s0 = fitL L s0) → (bnd A).length = 0 → ∃ r h' σ', B_Mo_fits_244 d x2 x3 x4 (L.length : Int) x6 h σ (.inl (some (vi r))) h' σ' ∧ fiO P x3 x4 (nmL ((A, v) :: L)) h σ (fitL ((A, v) :: L) ρ) r h' σ' := fun e1 e2 e3 => by
        obtain ⟨r, h', σ', Lo, o⟩ := ih L (x6 + 1) ρ h σ (by omega) hL (by rw [e1] at pL; exact pL) st re w (by omega) (by omega) (by omega)
        refine ⟨r, h', σ', ⟨g61, Lo⟩, ?_⟩
        rw [e2, eM, e3, show ((0 : Nat) : Int) + nmL L = nmL L by omega]
        exact o
      have fail : fitL ((A, v) :: L) ρ = none → ∃ r h' σ', B_Mo_fits_140 d x2 x3 x4 (L.length : Int) x6 y h σ (.inl (some (vi r))) h' σ' ∧ fiO P x3 x4 (nmL ((A, v) :: L)) h σ (fitL ((A, v) :: L) ρ) r h' σ' := fun e => by
        refine ⟨0, h, mup (mup σ 58 57 x3) 58 58 x4, ?_, ?_⟩
        · unfold B_Mo_fits_140 B_Mo_fits_141
          rw [if_neg (by decide)]
          exact ⟨rfl, rfl, rfl⟩
        · rw [e]
          exact ⟨(frF.m8 (Or.inl rfl)).tr (Int.le_refl _) (frF.m8 (Or.inr rfl)), rfl, (mup_nk (by decide)).trans mup_eq, mup_eq⟩
      -- the loop's head
      have head : ∀ {r : mRes} {h' : mHp} {σ' : Mem}, (rg (σ 68 x6) ∧ (if σ 68 x6 ≠ 0 then (if σ 68 x6 = 1 then B_Mo_fits_136 d x2 x3 x4 (L.length : Int) x6 y h σ r h' σ' else (if σ 68 x6 ≠ 4 then (∃ (v13 : Int) (h13 : mHp) (m13 : Mem), Rh (d + 4) yMo_kind [vlg y] h σ (.inl (some (vi v13))) h13 m13 ∧ rg v13 ∧ (if v13 ≠ 0 then (rg (L.length : Int) ∧ B_Mo_fits_140 d x2 x3 x4 (L.length : Int) x6 y h13 m13 r h' σ') else (∃ (v16 : Int) (h16 : mHp) (m16 : Mem), Rh (d + 4) yMo_told [vlg y] h13 m13 (.inl (some (vi v16))) h16 m16 ∧ rg v16 ∧ (((0 : Int) ≤ x6 ∧ x6 < (80 : Int)) ∧ (rg (m16 69 x6) ∧ (if v16 ≠ m16 69 x6 then (rg (L.length : Int) ∧ B_Mo_fits_140 d x2 x3 x4 (L.length : Int) x6 y h16 m16 r h' σ') else (rg (L.length : Int) ∧ B_Mo_fits_136 d x2 x3 x4 (L.length : Int) x6 y h16 m16 r h' σ'))))))) else (∃ (v22 : Int) (h22 : mHp) (m22 : Mem), Rh (d + 4) yMo_kind [vlg y] h σ (.inl (some (vi v22))) h22 m22 ∧ rg v22 ∧ (if v22 ≠ 3 then (rg (L.length : Int) ∧ B_Mo_fits_140 d x2 x3 x4 (L.length : Int) x6 y h22 m22 r h' σ') else (rg (L.length : Int) ∧ B_Mo_fits_136 d x2 x3 x4 (L.length : Int) x6 y h22 m22 r h' σ'))))) else (∃ (v26 : Int) (h26 : mHp) (m26 : Mem), Rh (d + 4) yMo_kind [vlg y] h σ (.inl (some (vi v26))) h26 m26 ∧ rg v26 ∧ (if v26 ≠ 4 then (rg (L.length : Int) ∧ B_Mo_fits_141 d x2 x3 x4 (L.length : Int) x6 y 0 h26 m26 r h' σ') else (rg (L.length : Int) ∧ B_Mo_fits_141 d x2 x3 x4 (L.length : Int) x6 y 1 h26 m26 r h' σ'))))) → Lh (d + 4) yMo_fits 34 [(0, .ref 58), (2, vi x2), (3, vi x3), (4, vi x4), (5, vi (((A, v) :: L).length : Int)), (6, vi x6)] [] h σ r h' σ' := fun {r h' σ'} H => by
        refine K_Mo_fits_34 (by unfold rg; omega) g3 g4 (by show rg ((L.length + 1 : Nat) : Int); unfold rg; omega) g6 ?_
        unfold B_Mo_fits_34
        rw [if_neg (by omega), x5e, Int.toNat_natCast]
        refine ⟨by omega, y, ey, r6, H.1, ?_⟩
        obtain ⟨H1, H⟩ := H
        by_cases c0 : σ 68 x6 ≠ 0
        · rw [if_pos c0] at H ⊢
          refine ⟨r6, ?_⟩
          by_cases c1 : σ 68 x6 = 1
          · rw [if_pos c1] at H ⊢; exact ⟨g5, H⟩
          · rw [if_neg c1] at H ⊢
            refine ⟨r6, ?_⟩
            by_cases c4 : σ 68 x6 ≠ 4
            · rw [if_pos c4] at H ⊢; exact H
            · rw [if_neg c4] at H ⊢; exact H
        · rw [if_neg c0] at H ⊢; exact H
      -- a pass where nothing is bound: the sign is none of 0, 1
      have pass : ∀ {r : mRes} {h' : mHp} {σ' : Mem}, σ 68 x6 ≠ 0 → σ 68 x6 ≠ 1 → rg (σ 68 x6) → B_Mo_fits_244 d x2 x3 x4 (L.length : Int) x6 h σ r h' σ' → B_Mo_fits_136 d x2 x3 x4 (L.length : Int) x6 y h σ r h' σ' := fun {r h' σ'} c0 c1 gg B => by
        unfold B_Mo_fits_136 B_Mo_fits_141
        rw [if_pos (by decide)]
        refine ⟨r6, gg, ?_⟩
        rw [if_pos c0]
        refine ⟨r6, ?_⟩
        rw [if_pos c1]; exact B
      rcases wfP_c wA with ⟨z, rfl, hz⟩ | ⟨z, rfl, hz⟩ | rfl | ⟨z, rfl, hz⟩ | rfl | ⟨B, C, rfl, wB, wC⟩
      · -- a number
        obtain ⟨s1, s2⟩ : σ 68 x6 = 2 ∧ σ 69 x6 = z := pA
        obtain ⟨u, rfl, gu⟩ : isNv v := kA
        obtain ⟨rfl, -⟩ : y = 8 * u ∧ rg u := ry
        have Rk := r_kind (d := d + 2) (h := h) (σ := σ) (v := u) (k := 0) (by omega)
        have Rt := r_told (d := d + 2) (h := h) (σ := σ) (v := u) (k := 0) gu (by omega)
        rw [show 8 * u + 0 = 8 * u by omega] at Rk Rt
        have ff : fitE (nd 0 z nl nl nl) (vN u) = fun ρ => if u = z then some ρ else none := by
          funext ρ
          show (if isV 0 z (vN u) = true then some ρ else none) = _
          have : isV 0 z (vN u) = decide (u = z) := by show ((0 == 0 : Bool) && (u == z)) = decide (u = z); by_cases c : u = z <;> simp [c]
          rw [this]
          by_cases c : u = z <;> simp [c]
        by_cases c : u = z
        · obtain ⟨r, h', σ', B, o⟩ := skip rfl (fun s0 => by unfold fitL; dsimp only; rw [ff]; dsimp only; rw [if_pos c]; cases L <;> rfl) rfl
          refine ⟨r, h', σ', head ⟨by rw [s1]; exact rgk rfl, ?_⟩, o⟩
          rw [if_pos (by rw [s1]; decide), if_neg (by rw [s1]; decide), if_pos (by rw [s1]; decide)]
          refine ⟨0, h, σ, Rk, rgk rfl, ?_⟩
          rw [if_neg (by decide)]
          refine ⟨u, h, σ, Rt, gu, r6, by rw [s2]; unfold rg; omega, ?_⟩
          rw [s2, if_neg (fun q => q c)]
          exact ⟨g5, pass (by rw [s1]; decide) (by rw [s1]; decide) (by rw [s1]; exact rgk rfl) B⟩
        · obtain ⟨r, h', σ', B, o⟩ := fail (by unfold fitL; dsimp only; rw [ff]; dsimp only; rw [if_neg c])
          refine ⟨r, h', σ', head ⟨by rw [s1]; exact rgk rfl, ?_⟩, o⟩
          rw [if_pos (by rw [s1]; decide), if_neg (by rw [s1]; decide), if_pos (by rw [s1]; decide)]
          refine ⟨0, h, σ, Rk, rgk rfl, ?_⟩
          rw [if_neg (by decide)]
          refine ⟨u, h, σ, Rt, gu, r6, by rw [s2]; unfold rg; omega, ?_⟩
          rw [s2, if_pos c]
          exact ⟨g5, B⟩
      · -- a truth
        obtain ⟨s1, s2⟩ : σ 68 x6 = 3 ∧ σ 69 x6 = z := pA
        obtain ⟨u, rfl, gu⟩ : ∃ u, v = vB u ∧ rg u := by
          have kA : isBv v := kA
          rcases kA with rfl | rfl
          · exact ⟨0, rfl, rgk rfl⟩
          · exact ⟨1, rfl, rgk rfl⟩
        obtain ⟨rfl, -⟩ : y = 8 * u ∧ rg u := ry
        have Rk := r_kind (d := d + 2) (h := h) (σ := σ) (v := u) (k := 0) (by omega)
        have Rt := r_told (d := d + 2) (h := h) (σ := σ) (v := u) (k := 0) gu (by omega)
        rw [show 8 * u + 0 = 8 * u by omega] at Rk Rt
        have ff : fitE (nd 2 z nl nl nl) (vB u) = fun ρ => if u = z then some ρ else none := by
          funext ρ
          show (if isV 1 z (vB u) = true then some ρ else none) = _
          have : isV 1 z (vB u) = decide (u = z) := by show ((1 == 1 : Bool) && (u == z)) = decide (u = z); by_cases c : u = z <;> simp [c]
          rw [this]
          by_cases c : u = z <;> simp [c]
        by_cases c : u = z
        · obtain ⟨r, h', σ', B, o⟩ := skip rfl (fun s0 => by unfold fitL; dsimp only; rw [ff]; dsimp only; rw [if_pos c]; cases L <;> rfl) rfl
          refine ⟨r, h', σ', head ⟨by rw [s1]; exact rgk rfl, ?_⟩, o⟩
          rw [if_pos (by rw [s1]; decide), if_neg (by rw [s1]; decide), if_pos (by rw [s1]; decide)]
          refine ⟨0, h, σ, Rk, rgk rfl, ?_⟩
          rw [if_neg (by decide)]
          refine ⟨u, h, σ, Rt, gu, r6, by rw [s2]; unfold rg; omega, ?_⟩
          rw [s2, if_neg (fun q => q c)]
          exact ⟨g5, pass (by rw [s1]; decide) (by rw [s1]; decide) (by rw [s1]; exact rgk rfl) B⟩
        · obtain ⟨r, h', σ', B, o⟩ := fail (by unfold fitL; dsimp only; rw [ff]; dsimp only; rw [if_neg c])
          refine ⟨r, h', σ', head ⟨by rw [s1]; exact rgk rfl, ?_⟩, o⟩
          rw [if_pos (by rw [s1]; decide), if_neg (by rw [s1]; decide), if_pos (by rw [s1]; decide)]
          refine ⟨0, h, σ, Rk, rgk rfl, ?_⟩
          rw [if_neg (by decide)]
          refine ⟨u, h, σ, Rt, gu, r6, by rw [s2]; unfold rg; omega, ?_⟩
          rw [s2, if_pos c]
          exact ⟨g5, B⟩
      · -- []
        obtain ⟨s1, s2⟩ : σ 68 x6 = 4 ∧ σ 69 x6 = 0 := pA
        have kA : isLv v := kA
        rcases lsv kA with rfl | ⟨p, q, rfl, -⟩
        · have ry : y = 3 := ry
          subst ry
          have Rk := r_kind (d := d + 2) (h := h) (σ := σ) (v := 0) (k := 3) (by omega)
          obtain ⟨r, h', σ', B, o⟩ := skip rfl (fun s0 => by cases L <;> rfl) rfl
          refine ⟨r, h', σ', head ⟨by rw [s1]; exact rgk rfl, ?_⟩, o⟩
          rw [if_pos (by rw [s1]; decide), if_neg (by rw [s1]; decide), if_neg (by rw [s1]; decide)]
          refine ⟨3, h, σ, Rk, rgk rfl, ?_⟩
          rw [if_neg (by decide)]
          exact ⟨g5, pass (by rw [s1]; decide) (by rw [s1]; decide) (by rw [s1]; exact rgk rfl) B⟩
        · obtain ⟨k, y1, z1, rfl, hk, -⟩ := ry
          have Rk := r_kind (d := d + 2) (h := h) (σ := σ) (v := k) (k := 4) (by omega)
          obtain ⟨r, h', σ', B, o⟩ := fail rfl
          refine ⟨r, h', σ', head ⟨by rw [s1]; exact rgk rfl, ?_⟩, o⟩
          rw [if_pos (by rw [s1]; decide), if_neg (by rw [s1]; decide), if_neg (by rw [s1]; decide)]
          refine ⟨4, h, σ, Rk, rgk rfl, ?_⟩
          rw [if_pos (by decide)]
          exact ⟨g5, B⟩
      · -- a name
        obtain ⟨s1, s2⟩ : σ 68 x6 = 1 ∧ σ 69 x6 = z := pA
        unfold ltZ at hz
        have hb : σ 58 57 + (1 + nmL L) ≤ 4299 := hb
        have w3 := w.2.2
        have w3 : 0 ≤ σ 58 57 ∧ σ 58 57 ≤ 4299 := w3
        have p57 : 0 ≤ σ 58 58 ∧ σ 58 58 ≤ σ 58 57 := p57
        have g58 : rg (σ 58 58) := by unfold rg; omega
        have W := r_worth (d := d + 2) (h := h) (σ := σ) (y := y) (e := σ 58 58) rfl ⟨w3.1, by omega⟩ g58
        have fW : frF (σ 58 57) h (hSet h 92 (σ 58 57 + 1).toNat (vlg y)) σ (mup (mup (mup σ 58 57 (σ 58 57 + 1)) 93 (σ 58 57 + 1) (σ 58 58)) 58 58 (σ 58 57 + 1)) := frF.wo w3.1
        have sW := fW.sm (m := mOf σ) (Int.le_refl _)
        generalize hh1 : hSet h 92 (σ 58 57 + 1).toNat (vlg y) = h1 at W fW sW
        generalize hσ1 : mup (mup (mup σ 58 57 (σ 58 57 + 1)) 93 (σ 58 57 + 1) (σ 58 58)) 58 58 (σ 58 57 + 1) = σ1 at W fW sW
        have e57 : σ1 58 57 = σ 58 57 + 1 := by rw [← hσ1, mup_nk (by decide), mup_ne (by decide), mup_eq]
        have e58 : σ1 58 58 = σ 58 57 + 1 := by rw [← hσ1, mup_eq]
        have e93 : σ1 93 (σ 58 57 + 1) = σ 58 58 := by rw [← hσ1, mup_ne (by decide), mup_eq]
        have e61 : σ1 58 61 = σ 58 61 := fW.2.2.2 58 61 (fun e => by cases e.1) (fun e => by omega)
        have e63 : σ1 58 63 = σ 58 63 := fW.2.2.2 58 63 (fun e => by cases e.1) (fun e => by omega)
        have a92 : hAt h1 92 (σ 58 57 + 1).toNat = vlg y := by rw [← hh1]; exact at_eq
        have eP : prM σ1 66 = prM σ 66 ∧ prM σ1 67 = prM σ 67 := ⟨funext fun k => fW.2.2.2 68 k (fun e => by cases e.1) (fun e => by cases e.1), funext fun k => fW.2.2.2 69 k (fun e => by cases e.1) (fun e => by cases e.1)⟩
        have m1 : (mOf σ).1 ≤ (mOf σ1).1 := by show σ 58 61 ≤ σ1 58 61; omega
        have m2 : (mOf σ).2.1 ≤ (mOf σ1).2.1 := by show σ 58 63 ≤ σ1 58 63; omega
        have m3 : (mOf σ).2.2 ≤ (mOf σ1).2.2 := by show σ 58 57 ≤ σ1 58 57; omega
        have r1 : RMv h1 σ1 P (mOf σ1) (eC z v ρ) true (σ1 58 58) := by
          rw [e58]
          refine ⟨⟨by omega, by show σ 58 57 + 1 ≤ σ1 58 57; omega⟩, y, a92, ry.mv sW m1 m2 m3, ?_⟩
          rw [e93]; exact re.mv sW m1 m2 m3
        have w1 : mBo (mOf σ1) := ⟨by show 0 ≤ σ1 58 61 ∧ σ1 58 61 ≤ 502; rw [e61]; exact w.1, by show 0 ≤ σ1 58 63 ∧ σ1 58 63 ≤ 502; rw [e63]; exact w.2.1, by show 0 ≤ σ1 58 57 ∧ σ1 58 57 ≤ 4299; omega⟩
        have ps : ∀ (M : List (Tr × Va)) (s : Int), isPs (prM σ) M s → isPs (prM σ1) M s := fun M => by
          have one : ∀ (A : Tr) (s : Int), isP (prM σ) A s → isP (prM σ1) A s := fun A => by
            intro s
            fun_induction isP (prM σ) A s with
            | case1 | case2 | case3 | case4 | case5 => intro e; unfold isP sg at *; rw [eP.1, eP.2]; exact e
            | case6 => rename_i i1 i2; intro e; exact ⟨by unfold sg at *; rw [eP.1, eP.2]; exact e.1, i1 e.2.1, i2 e.2.2⟩
            | case7 => intro e; exact e.elim
            | case8 => intro e; exact e.elim
          induction M with
          | nil => intro _ _; trivial
          | cons q M ihM => intro s e; exact ⟨one _ _ e.1, ihM _ e.2⟩
        obtain ⟨r, h', σ', Lo, f, o⟩ := ih L (x6 + 1) (eC z v ρ) h1 σ1 (by show pnL L ≤ N; have : pn (nd 6 z nl nl nl) = 1 := rfl; omega) hL (ps L _ pL) (st.mv sW m1 m2 m3 (fun i _ => by rw [← hh1]; exact at_ne (by decide) _)) r1 w1 (by omega) (by have : pn (nd 6 z nl nl nl) = 1 := rfl; omega) (by omega)
        have ef : fitL ((nd 6 z nl nl nl, v) :: L) ρ = fitL L (eC z v ρ) := by cases L <;> rfl
        refine ⟨r, h', σ', head ⟨by rw [s1]; exact rgk rfl, ?_⟩, fW.tr (by omega) f, ?_⟩
        · rw [if_pos (by rw [s1]; decide), if_pos s1]
          unfold B_Mo_fits_136 B_Mo_fits_141
          rw [if_pos (by decide)]
          refine ⟨r6, by rw [s1]; exact rgk rfl, ?_⟩
          rw [if_pos (by rw [s1]; decide)]
          refine ⟨r6, ?_⟩
          rw [if_neg (fun e => e s1)]
          refine ⟨r6, by rw [s2]; unfold rg; omega, ?_⟩
          rw [if_neg (by omega)]
          exact ⟨g58, h1, σ1, W, g61, Lo⟩
        · rw [ef]
          revert o
          cases fitL L (eC z v ρ) with
          | none => intro o; exact o
          | some ρ' => intro o; exact ⟨o.1, o.2.1, by rw [o.2.2, e57, eM]; show _ = σ 58 57 + (1 + nmL L); omega⟩
      · -- anything
        obtain ⟨s1, s2⟩ : σ 68 x6 = 1 ∧ σ 69 x6 = 0 := pA
        obtain ⟨r, h', σ', B, o⟩ := skip rfl (fun s0 => by cases L <;> rfl) rfl
        refine ⟨r, h', σ', head ⟨by rw [s1]; exact rgk rfl, ?_⟩, o⟩
        rw [if_pos (by rw [s1]; decide), if_pos s1]
        unfold B_Mo_fits_136 B_Mo_fits_141
        rw [if_pos (by decide)]
        refine ⟨r6, by rw [s1]; exact rgk rfl, ?_⟩
        rw [if_pos (by rw [s1]; decide)]
        refine ⟨r6, ?_⟩
        rw [if_neg (fun e => e s1)]
        refine ⟨r6, by rw [s2]; exact rgk rfl, ?_⟩
        rw [if_pos (by omega)]
        exact B
      · -- a list that isn't empty
        obtain ⟨⟨s1, s2⟩, pB, pC⟩ : (σ 68 x6 = 0 ∧ σ 69 x6 = 0) ∧ isP (prM σ) B (x6 + 1) ∧ isP (prM σ) C (x6 + 1 + pn B) := pA
        obtain ⟨kl, kk⟩ : isLv v ∧ ∀ x w, v = vC x w → KiP B x ∧ KiP C w := kA
        have w1 := w.1
        rcases lsv kl with rfl | ⟨p, q, rfl, -⟩
        · have ry : y = 3 := ry
          subst ry
          have Rk := r_kind (d := d + 2) (h := h) (σ := σ) (v := 0) (k := 3) (by omega)
          obtain ⟨r, h', σ', B', o⟩ := fail rfl
          refine ⟨r, h', σ', head ⟨by rw [s1]; exact rgk rfl, ?_⟩, o⟩
          rw [if_neg (by rw [s1]; decide)]
          refine ⟨3, h, σ, Rk, rgk rfl, ?_⟩
          rw [if_pos (by decide)]
          exact ⟨g5, B'⟩
        · obtain ⟨k, y1, z1, rfl, hk, a94, a95, rp, rq⟩ := ry
          obtain ⟨kB, kC⟩ := kk p q rfl
          have gk : rg k := by unfold rg; omega
          have Rk := r_kind (d := d + 2) (h := h) (σ := σ) (v := k) (k := 4) (by omega)
          have Rt : ∀ {h2 : mHp}, Rh (d + 4) yMo_told [vlg (8 * k + 4)] h2 σ (.inl (some (vi k))) h2 σ := fun {h2} => r_told (d := d + 2) gk (by omega)
          have eP : pn (nd 10 0 B C nl) = pn B + pn C + 1 := rfl
          have pB1 := pn_1 wB
          have pC1 := pn_1 wC
          have f1 : frF (σ 58 57) h (hSet (hSet h 97 L.length (vlg z1)) 97 (L.length + 1) (vlg y1)) σ σ := frF.s97.tr (Int.le_refl _) frF.s97
          have s1' := f1.sm (m := mOf σ) (Int.le_refl _)
          have rf : ∀ x : Int, x ≤ x := fun x => Int.le_refl x
          have eb : ((bnd (nd 10 0 B C nl)).length : Int) = (bnd B).length + (bnd C).length := by
            show ((bnd B ++ bnd C).length : Int) = _
            rw [List.length_append]; omega
          obtain ⟨r, h', σ', Lo, f, o⟩ := ih ((B, p) :: (C, q) :: L) (x6 + 1) ρ (hSet (hSet h 97 L.length (vlg z1)) 97 (L.length + 1) (vlg y1)) σ (by show pn B + (pn C + pnL L) ≤ N; omega) (fun r hr => by
            rcases List.mem_cons.mp hr with e | e
            · rw [e]; exact ⟨wB, kB⟩
            · rcases List.mem_cons.mp e with e | e
              · rw [e]; exact ⟨wC, kC⟩
              · exact hL r e) ⟨pB, pC, by rw [eP] at pL; rw [show x6 + 1 + pn B + pn C = x6 + (pn B + pn C + 1) by omega]; exact pL⟩ ⟨⟨y1, at_eq, rp.mv s1' (rf _) (rf _) (rf _)⟩, ⟨z1, (at_nk (show L.length ≠ L.length + 1 by omega)).trans at_eq, rq.mv s1' (rf _) (rf _) (rf _)⟩, st.mv s1' (rf _) (rf _) (rf _) (fun i hi => (at_nk (show i ≠ L.length + 1 by omega)).trans (at_nk (show i ≠ L.length by omega)))⟩ (re.mv s1' (rf _) (rf _) (rf _)) w (by show σ 58 57 + (((bnd B).length : Int) + (((bnd C).length : Int) + nmL L)) ≤ 4299; omega) (by show x6 + 1 + (pn B + (pn C + pnL L)) = x2; omega) (by omega)
          refine ⟨r, h', σ', head ⟨by rw [s1]; exact rgk rfl, ?_⟩, f1.tr (Int.le_refl _) f, ?_⟩
          · rw [if_neg (by rw [s1]; decide)]
            refine ⟨4, h, σ, Rk, rgk rfl, ?_⟩
            rw [if_neg (by decide)]
            refine ⟨g5, ?_⟩
            unfold B_Mo_fits_141
            rw [if_pos (by decide)]
            refine ⟨r6, by rw [s1]; exact rgk rfl, ?_⟩
            rw [if_neg (by rw [s1]; decide)]
            have hk5 : 0 ≤ k ∧ k < 502 := ⟨hk.1, by have := hk.2; omega⟩
            refine ⟨k, h, σ, Rt, gk, hk5, z1, a95, by omega, k, _, σ, Rt, gk, hk5, y1, (at_ne (by decide) _).trans a94, by omega, by unfold rg; omega, g61, ?_⟩
            rw [Int.toNat_natCast, show ((L.length : Int) + 1).toNat = L.length + 1 by omega]
            exact Lo
          · have ef : fitL ((nd 10 0 B C nl, vC p q) :: L) ρ = fitL ((B, p) :: (C, q) :: L) ρ := by
              show (match (match fitE B p ρ with | some ρ1 => fitE C q ρ1 | none => none) with | some ρ1 => fitL L ρ1 | none => none) = (match fitE B p ρ with | some ρ1 => (match fitE C q ρ1 with | some ρ2 => fitL L ρ2 | none => none) | none => none)
              cases fitE B p ρ <;> rfl
            rw [ef, eM, eb]
            have en : nmL ((B, p) :: (C, q) :: L) = ((bnd B).length + (bnd C).length : Int) + nmL L := by show ((bnd B).length : Int) + (((bnd C).length : Int) + nmL L) = _; omega
            rw [← en]; exact o
end MFITL
