/-! The model's types: CASE; every tree. -/
section MCS
variable {σ σ1 σ2 τ m mi : Mem} {z x n p q s a b l r t0 : Int} {E : List (Int × Int)} {F : List Int} {S S' : TS} {A B C T : Tr} {M X : Int → Prop} {h : Int}
theorem PM_case (wA : 1 ≤ rwl A) (wB : 1 ≤ rwl B) (pA : PMT A) (pB : PMB B) : PMT (nd 16 0 A B nl) := by
  intro p s σ E F CC N cl hp hs t r rm
  obtain ⟨CA, C1, CBb, C2⟩ : isC σ A p s ∧ cell σ (p + ln A) 15 0 0 ∧ isC σ B (p + ln A + 1) (s + sn A) ∧ cell σ (p + ln A + ln B + 1) 17 0 0 := CC
  obtain ⟨NA, NB⟩ : isN σ A p (E.map Prod.fst) ∧ isN σ B (p + ln A + 1) (E.map Prod.fst) := N
  have cl : (clo A (inE E) && (clo B (inE E) && true)) = true := cl
  rw [Bool.and_true, Bool.and_eq_true] at cl
  have hl : ln (nd 16 0 A B nl) = ln A + ln B + 2 := rfl
  have hsn : sn (nd 16 0 A B nl) = sn A + sn B + 0 := rfl
  have w0 : rwl (nd 16 0 A B nl) = 2 + rwl A + rwl B := rfl
  obtain ⟨rA, rB⟩ : rmC A 0 0 (mS σ) E F ∧ ∀ S1 a, RT A 0 (mS σ) E F S1 a → S1.2.1 + 1 ≤ 1300 ∧ rmC B a S1.2.1 (nwS S1) E F := rm
  rw [hl] at hp
  rw [hsn] at hs
  have gA := ln_ge (T := A)
  have gB := ln_ge (T := B)
  have sA := sn_ge (T := A)
  have sB := sn_ge (T := B)
  have c0 := t.1.2.1
  have l30 := t.2.1.1
  have r0 := r
  rw [w0] at r
  obtain ⟨r1, r2, r3, r4⟩ := r
  have c0' : 0 ≤ (mS σ).2.1 := by show 0 ≤ σ 58 35; omega
  rcases pA p s σ E F CA NA cl.1 ⟨hp.1, by omega, hp.2.2⟩ ⟨hs.1, by omega⟩ t ⟨by omega, by omega, by omega, by omega⟩ rA with ⟨σ1, a, D1, k1⟩ | ⟨zz, no⟩
  · obtain ⟨f1, t1, b1, ⟨c30, c37, c41, c43⟩, top1, px1, TA, RTA⟩ := D1
    have b143 := b1.2.2.1.1
    have s71 := f1.s7
    have cc1 := t1.1.2.1
    have ia : 0 ≤ a ∧ a < σ1 58 35 := TA.2.1.1
    have e37 : σ1 58 37 - 1 = σ 58 37 := by omega
    have n83 : σ1 83 (σ1 58 37 - 1) = a := by rw [e37]; exact top1
    have q1 := f1.cel C1
    have hq1 : 0 ≤ p + ln A ∧ p + ln A < σ1 58 7 ∧ σ1 58 7 ≤ 124 := ⟨by omega, by omega, by omega⟩
    obtain ⟨hc, rB⟩ := rB _ _ RTA
    have hc : σ1 58 35 + 1 ≤ 1300 := hc
    obtain ⟨Hp, ep⟩ := p37 (z := σ1 58 37 - 1) t1.1
    have mk : ∀ k, k ≠ 37 → (mup σ1 58 37 (σ1 58 37 - 1)) 58 k = σ1 58 k := fun k h => mup_nk h
    have B3 := b_147i (d := 6) (m := mup σ1 58 37 (σ1 58 37 - 1)) (x := a) ⟨by omega, by omega⟩ (by rw [mk 41 (by decide)]; omega) (by rw [mk 35 (by decide)]; omega) (by rw [mk 35 (by decide)]; omega)
    have Rb := b_15 (d := 6) (p := p + ln A) (σ := σ1) (m2 := lkM (mup σ1 58 37 (σ1 58 37 - 1)) a) ⟨by omega, by omega⟩ (by omega) (by rw [n83]; exact ⟨by omega, by omega⟩) (by rw [n83]; exact B3)
    have R := t_bd (d := 6) (p := p + ln A) (σ := σ1) (m := lkM (mup σ1 58 37 (σ1 58 37 - 1)) a) ⟨by omega, by omega⟩ (by rw [q1.1]; omega) (by rw [q1.1]; exact Rb) (by rw [lkM_k (by decide) (by decide), mk 30 (by decide)]; exact ⟨by omega, by omega⟩)
    rcases op_go (a := a) (mi := mup σ1 58 37 (σ1 58 37 - 1)) t1 Hp ((mk 44 (by decide)).trans t1.2.2.2.1) (mk 35 (by decide)) (fun i h1 _ _ _ => mup_obj h1) (fun k h1 _ _ _ => mk k h1) mup_eq (by rw [ep]; exact t1.2.2.1) hq1 (by omega) (by omega) hc R with ⟨σ2, k2, f2, t2, e2, ⟨g83, g84, ga, gr, g85, g76, g77, g78⟩, d30, d37, d41, d43⟩ | ⟨z2, no⟩
    · rw [ep] at e2
      have s72 := f2.s7
      have k35 : σ2 58 35 = σ1 58 35 + 1 := congrArg (fun S : TS => S.2.1) e2
      have kf : (mS σ2).1 (σ1 58 35) = (0, -1, 0) := by rw [e2]; exact ad_c
      have vf : (mS σ2).2.2 (σ1 58 35) = 0 := by rw [e2]; exact if_pos rfl
      have la1 : lO (mS σ1) 0 a := TA.2.1.2.2.2 t.2.2.1.2.1
      have la2 : lO (mS σ2) 0 a := by rw [e2]; exact lO_ad t1.1.1.1 ia.1 ia.2 la1
      have I2a := t2.2.2.1.on (r := a) ⟨ia.1, by show a < σ2 58 35; omega⟩ la2
      have I2 := I2a.on (r := σ1 58 35) ⟨by omega, by show σ1 58 35 < σ2 58 35; omega⟩ (lO_fr kf vf (by decide))
      have bl2 : Blw σ σ2 := ⟨fun k h => by rw [g83]; exact b1.1 k h, fun k h => by rw [g84 k (by omega)]; exact b1.2.1 k h, ⟨by omega, fun k h => by rw [g85]; exact b1.2.2.1.2 k h⟩, fun k h => by rw [g76, g77, g78]; exact b1.2.2.2 k h⟩
      rcases pB (p + ln A + 1) (s + sn A) σ2 E F a (σ1 58 35) ((f1.tr f2).ic CBb) ((f1.tr f2).isn NB) cl.2 ⟨by omega, by omega, by omega⟩ ⟨by omega, by omega⟩ t2 ⟨by omega, by omega, by omega, by omega⟩ (by omega) (by rw [d41, show σ1 58 41 + 2 - 2 = σ1 58 41 by omega]; exact ga) (by rw [d41, show σ1 58 41 + 2 - 1 = σ1 58 41 + 1 by omega]; exact gr) I2 (by rw [e2]; exact rB) with ⟨σ3, D3, k3⟩ | ⟨zz, no⟩
      · obtain ⟨f3, t3, b3, ⟨h30, h37, h41, h43⟩, XB, RTB⟩ := D3
        rw [e2] at XB RTB
        have s73 := f3.s7
        have cc3 := t3.1.2.1
        have b343 := b3.2.2.1.1
        have bl3 : Blw σ σ3 := bl2.tr (by omega) (by omega) (by omega) b3
        have TT := TR_case t.2.2.1 (by decide) t.1.1 c0' TA rfl XB
        have er3 : σ3 84 (σ3 58 41 - 1) = σ1 58 35 := by
          rw [show σ3 58 41 - 1 = σ1 58 41 + 1 by omega, b3.2.1 _ (by omega)]; exact gr
        have e17 : p + ln A + 1 + ln B = p + ln A + ln B + 1 := by omega
        have q3 := (f1.tr (f2.tr f3)).cel C2
        have rm3 : rmS σ3 := ⟨by omega, by omega, by omega, by omega⟩
        have Rc := b_17 (d := 6) (p := p + ln A + 1 + ln B) (σ := σ3) ⟨by omega, by omega⟩ (b_263 (d := 6) rm3 (by omega) (by rw [er3]; exact ⟨by omega, by omega⟩))
        rw [er3] at Rc
        have pu8 : ∀ k, k ≠ 41 → mup (puM σ3 (σ1 58 35)) 58 41 (σ3 58 41 - 2) 58 k = puM σ3 (σ1 58 35) 58 k := fun k h => mup_nk h
        have pui : ∀ i, i ≠ 58 → mup (puM σ3 (σ1 58 35)) 58 41 (σ3 58 41 - 2) i = puM σ3 (σ1 58 35) i := fun i h => mup_obj h
        have R3 := t_bd (d := 6) (p := p + ln A + 1 + ln B) (σ := σ3) (m := mup (puM σ3 (σ1 58 35)) 58 41 (σ3 58 41 - 2)) ⟨by omega, by omega⟩ (by rw [e17, q3.1]; omega) (by rw [show σ3 60 (p + ln A + 1 + ln B) = 17 by rw [e17]; exact q3.1]; exact Rc) (by rw [pu8 30 (by decide), puM_30]; exact ⟨by omega, by omega⟩)
        have fm : fT σ3 (mup (puM σ3 (σ1 58 35)) 58 41 (σ3 58 41 - 2)) := puM.fT.tr (fT.m8 rfl)
        obtain ⟨Hq, eq⟩ := puM_mt (x := σ1 58 35) t3.1
        obtain ⟨Hm, em⟩ : MT (mup (puM σ3 (σ1 58 35)) 58 41 (σ3 58 41 - 2)) ∧ _ := Hq.cg (pui 79 (by decide)) (pui 80 (by decide)) (pui 81 (by decide)) (pui 82 (by decide)) (pu8 35 (by decide))
        rw [eq] at em
        have p43 : mup (puM σ3 (σ1 58 35)) 58 41 (σ3 58 41 - 2) 58 43 = σ3 58 43 + 1 := by rw [pu8 43 (by decide), puM_43]
        have e85 : ∀ k, k < σ3 58 43 → puM σ3 (σ1 58 35) 85 k = σ3 85 k := fun k h => by rw [puM_85, if_neg (by omega)]
        have m37' : σ3 58 37 = σ 58 37 := by omega
        have blm : Blw σ (mup (puM σ3 (σ1 58 35)) 58 41 (σ3 58 41 - 2)) := by
          refine ⟨fun k h => ?_, fun k h => ?_, ⟨by omega, fun k h => ?_⟩, fun k h => ?_⟩
          · rw [pui 83 (by decide), puM_83, if_neg (by omega)]; exact bl3.1 k h
          · rw [pui 84 (by decide), puM_fx.1 84 (by decide) (by decide) (by decide)]; exact bl3.2.1 k h
          · rw [pui 85 (by decide), e85 k (by omega)]; exact bl3.2.2.1.2 k h
          · rw [pui 76 (by decide), pui 77 (by decide), pui 78 (by decide), puM_fx.1 76 (by decide) (by decide) (by decide), puM_fx.1 77 (by decide) (by decide) (by decide), puM_fx.1 78 (by decide) (by decide) (by decide)]; exact bl3.2.2.2 k h
        refine td_fin (P := fun y => (PsA σ σ1 y ∨ PsA σ2 σ3 y) ∨ y = σ1 58 35) (q := p + ln A + 1 + ln B) t r0 (by omega) ⟨by omega, by rw [hl]; omega, by omega, by omega⟩ t3.2.2.2.1 R3 (fun o s' h => k1 o s' (k2 o s' (k3 o s' h))) (f1.tr (f2.tr f3)) fm Hm ?_ blm ?_ ?_ ?_ ?_ ?_ ?_ (fun y => ?_) (Or.inr rfl) (fun sx => ?_)
        · rw [pu8 44 (by decide), puM_fx.2 44 (by decide) (by decide)]; exact t3.2.2.2.1
        · rw [pu8 30 (by decide), puM_30]; omega
        · rw [pu8 37 (by decide), puM_37]; omega
        · rw [mup_eq]; omega
        · rw [p43, w0]; omega
        · rw [pui 83 (by decide), puM_83, if_pos m37'.symm]
        · rw [em]; exact TT
        · have e12 : PsA σ σ2 = PsA σ σ1 := by unfold PsA; rw [d43, g85]
          have y1 := psA_tr (σ := σ) (σ1 := σ2) (σ' := σ3) (by omega) b343 b3.2.2.1.2 (y := y)
          have y3 : y = σ1 58 35 ↔ PsA σ3 (mup (puM σ3 (σ1 58 35)) 58 41 (σ3 58 41 - 2)) y := psA_1 p43 (by rw [pui 85 (by decide), puM_85, if_pos rfl])
          have y4 := psA_tr (σ := σ) (σ1 := σ3) (σ' := mup (puM σ3 (σ1 58 35)) 58 41 (σ3 58 41 - 2)) (by omega) (by omega) (fun k h => by rw [pui 85 (by decide)]; exact e85 k h) (y := y)
          rw [← y4, ← y3, ← y1, e12]
        · rw [em] at sx ⊢
          exact ⟨mS σ1, a, RTA, RTB, rfl, sx⟩
      · refine Or.inr ⟨(zz.tr k2 f2).tr k1 f1, fun ρ s V sm y => ?_⟩
        obtain ⟨-, a', y1, y2⟩ := y
        obtain ⟨ρ1, V1, s1, eG, ea, ol⟩ := TRP.nx t.2.2.1 (by decide) t.1.1 TA (PMs.inC t) V sm y1
        obtain ⟨ρ2, V2, ol2, er⟩ := ad_x (lv := 0) t1.1.1 (by show 0 ≤ σ1 58 35; omega) (Or.inl ⟨rfl, by show (-1 : Int) < 0; decide⟩ : nwT (mS σ1) (0, -1, 0)) V1 s (Or.inl ⟨rfl, by show (-1 : Int) < 0; decide⟩)
        have eG2 : Gam (nwS (mS σ1)) ρ2 E = Gam (mS σ1) ρ1 E := TRes.gam2 t1.2.2.1 (by decide) t1.1.1 (nwS_st (M := mnF E F) t1.1.1 (by show 0 ≤ σ1 58 35; omega)) V1 V2 ol2
        refine no ρ2 (by rw [e2]; exact V2) (fun q hq => ?_) ?_
        · have hq1 : PMs σ1 E F q := by
            rcases hq with ⟨k, hk, e⟩ | h
            · rw [d43] at hk
              rw [g85] at e
              exact Or.inl ⟨k, hk, e⟩
            · exact Or.inr h
          have := PMs.inC t1 q hq1
          rw [ol2 q this.1 this.2]
          exact s1 q (pms_1 b1 hq1)
        · have er : ρ2 (σ1 58 35) = s := er
          rw [er, ol2 a ia.1 ia.2, ea, e2, eG2, eG]; exact y2
    · refine Or.inr ⟨z2.tr k1 f1, fun ρ s V sm y => ?_⟩
      obtain ⟨-, a', y1, -⟩ := y
      obtain ⟨ρ1, V1, s1, -⟩ := TRP.nx t.2.2.1 (by decide) t.1.1 TA (PMs.inC t) V sm y1
      exact no ρ1 (by rw [ep]; exact V1) (fun k k0 k1 => s1 _ (pms_1 b1 (Or.inl ⟨k, ⟨k0, k1⟩, rfl⟩)))
  · refine Or.inr ⟨zz, fun ρ s V sm y => ?_⟩
    obtain ⟨-, a', y1, -⟩ := y
    exact no ρ a' V sm y1
end MCS
