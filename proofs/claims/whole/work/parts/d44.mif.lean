/-! The model's types: IF. -/
section MIF
variable {σ σ1 σ2 τ m mi : Mem} {d : Nat} {z x n p q s a b l r t0 : Int} {E : List (Int × Int)} {F : List Int} {S S' : TS} {A B C T : Tr} {M : Int → Prop}
/-- a node more that may change -/
theorem EnvI.on {h : Int} (I : EnvI S h E M) (ir : 0 ≤ r ∧ r < S.2.1) (lr : lO S h r) : EnvI S h E (fun m => M m ∨ m = r) := ⟨fun m q => q.elim (I.1 m) (fun e => by rw [e]; exact ir), fun m q => q.elim (I.2.1 m) (fun e => by rw [e]; exact lr), fun e he => ⟨(I.2.2 e he).1, gO_mo (I.2.2 e he).2 (fun m a => Or.inl a)⟩⟩
theorem PM_if (hB : isE B) (hC : isE C) (wA : 1 ≤ rwl A) (wB : 1 ≤ rwl B) (wC : 1 ≤ rwl C) (pA : PMT A) (pB : PMT B) (pC : PMT C) : PMT (nd 15 0 A B C) := by
  intro p s σ E F CC N cl hp hs t r rm
  obtain ⟨CA, C1, CBb, C2, CCc, C3⟩ : isC σ A p s ∧ cell σ (p + ln A) 13 (p + ln A + ln B + 2) 0 ∧ isC σ B (p + ln A + 1) (s + sn A) ∧ cell σ (p + ln A + ln B + 1) 14 (p + ln A + ln B + ln C + 2) (p + ln A) ∧ isC σ C (p + ln A + ln B + 2) (s + sn A + sn B) ∧ cell σ (p + ln A + ln B + ln C + 2) 18 0 (p + ln A + ln B + 1) := CC
  obtain ⟨NA, NB, NC⟩ : isN σ A p (E.map Prod.fst) ∧ isN σ B (p + ln A + 1) (E.map Prod.fst) ∧ isN σ C (p + ln A + ln B + 2) (E.map Prod.fst) := N
  have cl : (clo A (inE E) && (clo B (inE E) && clo C (inE E))) = true := cl
  rw [Bool.and_eq_true, Bool.and_eq_true] at cl
  have hl : ln (nd 15 0 A B C) = ln A + ln B + ln C + 3 := rfl
  have hsn : sn (nd 15 0 A B C) = sn A + sn B + sn C := rfl
  have w0 : rwl (nd 15 0 A B C) = 3 + rwl A + rwl B + rwl C := rfl
  obtain ⟨rA, rB⟩ : rmC A 0 0 (mS σ) E F ∧ ∀ S1 a, RT A 0 (mS σ) E F S1 a → S1.2.1 + 1 ≤ 1300 ∧ ∀ S2, unR S1 a 1 S2 → rmC B 0 0 (nwS S2) E F ∧ ∀ S4 b S5, RT B 0 (nwS S2) E F S4 b → unR S4 S2.2.1 b S5 → rmC C 0 0 S5 E F := rm
  rw [hl] at hp
  rw [hsn] at hs
  have gA := ln_ge (T := A)
  have gB := ln_ge (T := B)
  have gC := ln_ge (T := C)
  have sA := sn_ge (T := A)
  have sB := sn_ge (T := B)
  have sC := sn_ge (T := C)
  have c0 := t.1.2.1
  have l30 := t.2.1.1
  have r0 := r
  rw [w0] at r
  obtain ⟨r1, r2, r3, r4⟩ := r
  have c0' : 0 ≤ (mS σ).2.1 := by show 0 ≤ σ 58 35; omega
  rcases pA p s σ E F CA NA cl.1 ⟨hp.1, by omega, hp.2.2⟩ ⟨hs.1, by omega⟩ t ⟨by omega, by omega, by omega, by omega⟩ rA with ⟨σ1, a, D1, k1⟩ | ⟨zz, no⟩
  · obtain ⟨f1, t1, b1, ⟨c30, c37, c41, c43⟩, top1, px1, TA, RTA⟩ := D1
    have b143 := b1.2.2.1.1
    have s71 := f1.s7
    have cc1 := t1.1.2.1
    have ia : 0 ≤ a ∧ a < σ1 58 35 := TA.2.1.1
    have e37 : σ1 58 37 - 1 = σ 58 37 := by omega
    have n83 : σ1 83 (σ1 58 37 - 1) = a := by rw [e37]; exact top1
    have q1 := f1.cel C1
    have hq1 : 0 ≤ p + ln A ∧ p + ln A < σ1 58 7 ∧ σ1 58 7 ≤ 124 := ⟨by omega, by omega, by omega⟩
    have bs1 : bsN (mS σ1) 1 2 := t1.bs (c := 1) (by decide)
    obtain ⟨mi, U, FF, out⟩ := dem_g2 (c := 1) (w := σ1 58 37 - 1) t1.1 t1.2.2.2.1 (by decide) ia (TA.2.1.2.2.2 t.2.2.1.2.1)
    have o8 : ∀ k, k ≠ 37 → k ≠ 38 → k ≠ 44 → k ≠ 45 → mi 58 k = σ1 58 k := fun k h1 h2 h3 h4 => (FF.2 k h3 h4 h2).trans (mup_nk h1)
    have og : ∀ i, i ≠ 58 → i ≠ 80 → i ≠ 86 → i ≠ 87 → mi i = σ1 i := fun i h1 h2 h3 h4 => (FF.1 i h1 h2 h3 h4).trans (mup_obj h1)
    have i37 : mi 58 37 = σ1 58 37 - 1 := (FF.2 37 (by decide) (by decide) (by decide)).trans mup_eq
    have i35 := o8 35 (by decide) (by decide) (by decide) (by decide)
    have i41 := o8 41 (by decide) (by decide) (by decide) (by decide)
    have bnd13 : σ1 58 35 + 1 ≤ 1300 → Rn 20 yMo_typeOf [.ref 58, vi (p + ln A)] σ1 none (lkM mi a) := fun hc => by
      have B3 := b_147i (d := 6) (m := mi) (x := a) ⟨by omega, by omega⟩ (by omega) (by omega) (by omega)
      have Rb := b_13 (d := 6) (p := p + ln A) (σ := σ1) (m := mi) (m2 := lkM mi a) ⟨by omega, by omega⟩ (by omega) (by rw [n83]; exact ⟨by omega, by omega⟩) (by rw [n83]; exact U) (by rw [n83]; exact B3)
      exact t_bd (d := 6) (p := p + ln A) (σ := σ1) (m := lkM mi a) ⟨by omega, by omega⟩ (by rw [q1.1]; omega) (by rw [q1.1]; exact Rb) (by rw [lkM_k (by decide) (by decide), o8 30 (by decide) (by decide) (by decide) (by decide)]; exact ⟨by omega, by omega⟩)
    obtain ⟨hc, rB⟩ := rB _ _ RTA
    have hc : σ1 58 35 + 1 ≤ 1300 := hc
    rcases out with ⟨o1, o2, o3, o4⟩ | ⟨o1, o2⟩
    · obtain ⟨rB, rC⟩ := rB _ o4
      have DA : DRes (mS σ) (mS mi) E (mnF E F) 0 A (PsA σ σ1) (gK 2) := TR_dem t.2.2.1 TA bs1 (o4.1 0) o4.2.2
      have Ii := t.2.2.1.up (by decide) t.1.1 DA.1.2.1
      have keyA : ∀ ρ, VS (mS σ).1 (mS σ).2.1 ρ → (∀ q, PMs σ E F q → gw (ρ q) ≤ 80) → tyE A true (Gam (mS σ) ρ E) (gK 2) → ∃ ρ1, VS (mS mi).1 (mS mi).2.1 ρ1 ∧ (∀ q, PMs σ1 E F q → gw (ρ1 q) ≤ 80) ∧ Gam (mS mi) ρ1 E = Gam (mS σ) ρ E := fun ρ V sm y => by
        obtain ⟨ρ1, V1, ol, w1⟩ := DA.2.2.2 true ρ V y
        refine ⟨ρ1, V1, fun q hq => ?_, TRes.gam2 t.2.2.1 (by decide) t.1.1 DA.1 V V1 ol⟩
        rcases pms_1 b1 hq with h | h
        · have := PMs.inC t q h
          rw [ol q this.1 this.2]; exact sm q h
        · exact w1 rfl q h
      rcases op_go (a := a) t1 o2 o1 i35 og o8 i37 Ii hq1 (by omega) (by omega) (by omega) (bnd13 (by omega)) with ⟨σ2, k2, f2, t2, e2, ⟨g83, g84, ga, gr, g85, g76, g77, g78⟩, d30, d37, d41, d43⟩ | ⟨z2, no⟩
      · have s72 := f2.s7
        have cc2 := t2.1.2.1
        have k35 : σ2 58 35 = mi 58 35 + 1 := congrArg (fun S : TS => S.2.1) e2
        -- the node for what comes out
        have kf : (mS σ2).1 (σ1 58 35) = (0, -1, 0) := by
          rw [e2, ← i35]; exact ad_c
        have vf : (mS σ2).2.2 (σ1 58 35) = 0 := by
          rw [e2, ← i35]
          exact if_pos rfl
        have ir : 0 ≤ σ1 58 35 ∧ σ1 58 35 < (mS σ2).2.1 := ⟨by omega, by show σ1 58 35 < σ2 58 35; omega⟩
        have lr : lO (mS σ2) 0 (σ1 58 35) := lO_fr kf vf (by decide)
        have I2 := t2.2.2.1.on ir lr
        have x2 : TSt (mS σ) (mS σ2) (mnF E F) 0 := by
          have h := DA.1.tr (nwS_st (M := mnF E F) o2.1 (by show 0 ≤ mi 58 35; omega)) (fun m q => Res.m DA.1.2.1 t.2.2.1.1 q)
          rw [e2]; exact h
        have hR2 : ∀ m, (mnF E F m ∨ m = σ1 58 35) → Res (mS σ) (mnF E F) 0 (mS σ2) m := fun m q => by
          rcases q with q | q
          · exact Res.m x2.2.1 t.2.2.1.1 q
          · rw [q, e2, ← i35]; exact fresh_r (S1 := mS mi) DA.1.2.1 c0'
        have pm2 : ∀ {q}, PMs σ2 E F q → PMs σ1 E F q := fun {q} h => by
          rcases h with ⟨k, hk, e⟩ | h
          · rw [d43] at hk
            rw [g85] at e
            exact Or.inl ⟨k, hk, e⟩
          · exact Or.inr h
        have keyB : ∀ ρ s, VS (mS σ).1 (mS σ).2.1 ρ → (∀ q, PMs σ E F q → gw (ρ q) ≤ 80) → tyE A true (Gam (mS σ) ρ E) (gK 2) → ∃ ρ2, VS (mS σ2).1 (mS σ2).2.1 ρ2 ∧ (∀ q, PMs σ2 E F q → gw (ρ2 q) ≤ 80) ∧ Gam (mS σ2) ρ2 E = Gam (mS σ) ρ E ∧ ρ2 (σ1 58 35) = s := fun ρ s V sm y => by
          obtain ⟨ρ1, V1, s1, eG⟩ := keyA ρ V sm y
          obtain ⟨ρ2, V2, ol, er⟩ := ad_x (lv := 0) o2.1 (by show 0 ≤ mi 58 35; omega) (Or.inl ⟨rfl, by show (-1 : Int) < 0; decide⟩ : nwT (mS mi) (0, -1, 0)) V1 s (Or.inl ⟨rfl, by show (-1 : Int) < 0; decide⟩)
          refine ⟨ρ2, by rw [e2]; exact V2, fun q hq => ?_, ?_, by rw [← i35]; exact er⟩
          · have h := pm2 hq
            have := PMs.inC t1 q h
            have i2 : 0 ≤ q ∧ q < σ1 58 35 := this
            rw [ol q i2.1 (by show q < mi 58 35; omega)]; exact s1 q h
          · rw [e2]
            exact (TRes.gam2 Ii (by decide) o2.1 (nwS_st (M := mnF E F) o2.1 (by show 0 ≤ mi 58 35; omega)) V1 V2 ol).trans eG
        rcases pB (p + ln A + 1) (s + sn A) σ2 E F ((f1.tr f2).ic CBb) ((f1.tr f2).isn NB) cl.2.1 ⟨by omega, by omega, by omega⟩ ⟨by omega, by omega⟩ t2 ⟨by omega, by omega, by omega, by omega⟩ (by rw [e2]; exact rB) with ⟨σ3, b, D3, k3⟩ | ⟨zz, no⟩
        · obtain ⟨f3, t3, b3, ⟨h30, h37, h41, h43⟩, top3, px3, TB, RTB⟩ := D3
          have s73 := f3.s7
          have cc3 := t3.1.2.1
          have b343 := b3.2.2.1.1
          have ib : 0 ≤ b ∧ b < σ3 58 35 := TB.2.1.1
          have in3 : σ2 58 35 ≤ σ3 58 35 := TB.1.2.1.1
          have TB' := TRP.mo (M1 := fun m => mnF E F m ∨ m = σ1 58 35) TB (fun m q => Or.inl q)
          have lr3 : lO (mS σ3) 0 (σ1 58 35) := TB.1.2.1.2.2.2.2.1 0 _ ir.1 ir.2 lr
          have I3 := t3.2.2.1.on (r := σ1 58 35) ⟨by omega, by show σ1 58 35 < σ3 58 35; omega⟩ lr3
          have hI3 : ∀ S', unR (mS σ3) (σ1 58 35) b S' → EnvI S' 0 E (mnF E F) := fun S' ur => t.2.2.1.up (by decide) t.1.1 (x2.tr (BR_e (l := σ1 58 35) I2 (Or.inr rfl) TB' (ur.1 0) ur.2.2).1 hR2).2.1
          have er3 : σ3 84 (σ3 58 41 - 1) = σ1 58 35 := by
            rw [show σ3 58 41 - 1 = σ1 58 41 + 1 by omega, b3.2.1 _ (by omega)]; exact gr
          have q3 := (f1.tr (f2.tr f3)).cel C2
          have e14 : p + ln A + 1 + ln B = p + ln A + ln B + 1 := by omega
          have keyB' : ∀ ρ s, VS (mS σ).1 (mS σ).2.1 ρ → (∀ q, PMs σ E F q → gw (ρ q) ≤ 80) → tyE A true (Gam (mS σ) ρ E) (gK 2) → tyE B true (Gam (mS σ) ρ E) s → ∃ ρ3, VS (mS σ3).1 (mS σ3).2.1 ρ3 ∧ (∀ q, PMs σ3 E F q → gw (ρ3 q) ≤ 80) ∧ Gam (mS σ3) ρ3 E = Gam (mS σ) ρ E ∧ ρ3 (σ1 58 35) = s ∧ ρ3 b = s := fun ρ s V sm y y2 => by
            obtain ⟨ρ2, V2, s2, eG, er⟩ := keyB ρ s V sm y
            obtain ⟨ρ3, V3, s3, eG3, eb, ol⟩ := TRP.nx t2.2.2.1 (by decide) t2.1.1 TB (PMs.inC t2) V2 s2 (by rw [eG]; exact y2)
            exact ⟨ρ3, V3, fun q hq => s3 q (pms_1 b3 hq), eG3.trans eG, (ol _ ir.1 ir.2).trans er, eb⟩
          rcases cl_go (q := p + ln A + 1 + ln B) t3 hI3 ⟨by omega, by omega, by omega⟩ (by rw [e14]; exact q3.1) (by omega) (by omega) (by omega) (by omega) er3 (by rw [show σ3 58 37 - 1 = σ2 58 37 by omega]; exact top3) ⟨by omega, by omega⟩ ib lr3 (TB.2.1.2.2.2 t2.2.2.1.2.1) with ⟨σ4, k4, f4, t4, ur4, ⟨j83, j84, j85, j76, j77, j78⟩, i30, i37', i41', i43⟩ | ⟨z4, no⟩
          · have s74 := f4.s7
            have cc4 := t4.1.2.1
            have x24 := BR_e (l := σ1 58 35) I2 (Or.inr rfl) TB' (ur4.1 0) ur4.2.2
            have I4 := I2.up (by decide) t2.1.1 x24.1.2.1
            have c4 : σ4 58 35 = σ3 58 35 := ur4.2.1
            have pm4 : ∀ {q}, PMs σ4 E F q → PMs σ3 E F q := fun {q} h => by
              rcases h with ⟨k, hk, e⟩ | h
              · rw [i43] at hk
                rw [j85] at e
                exact Or.inl ⟨k, hk, e⟩
              · exact Or.inr h
            have keyC : ∀ ρ s, VS (mS σ).1 (mS σ).2.1 ρ → (∀ q, PMs σ E F q → gw (ρ q) ≤ 80) → tyE A true (Gam (mS σ) ρ E) (gK 2) → tyE B true (Gam (mS σ) ρ E) s → ∃ ρ4, VS (mS σ4).1 (mS σ4).2.1 ρ4 ∧ (∀ q, PMs σ4 E F q → gw (ρ4 q) ≤ 80) ∧ Gam (mS σ4) ρ4 E = Gam (mS σ) ρ E ∧ ρ4 (σ1 58 35) = s := fun ρ s V sm y y2 => by
              obtain ⟨ρ2, V2, s2, eG, er⟩ := keyB ρ s V sm y
              obtain ⟨ρ3, V3, s3, eG3, eb, ol⟩ := TRP.nx t2.2.2.1 (by decide) t2.1.1 TB (PMs.inC t2) V2 s2 (by rw [eG]; exact y2)
              have er3 := (ol _ ir.1 ir.2).trans er
              have V4 := (ur4.2.2 ρ3).mpr ⟨V3, er3.trans eb.symm⟩
              refine ⟨ρ3, V4, fun q hq => s3 q (pms_1 b3 (pm4 hq)), ?_, er3⟩
              exact (TRes.gam2 I2 (by decide) t2.1.1 x24.1 V2 V4 ol).trans eG
            have e4p : p + ln A + 1 + ln B + 1 = p + ln A + ln B + 2 := by omega
            rcases pC (p + ln A + ln B + 2) (s + sn A + sn B) σ4 E F ((f1.tr (f2.tr (f3.tr f4))).ic CCc) ((f1.tr (f2.tr (f3.tr f4))).isn NC) cl.2.2 ⟨by omega, by omega, by omega⟩ ⟨by omega, by omega⟩ t4 ⟨by omega, by omega, by omega, by omega⟩ (rC _ _ _ (by rw [← e2]; exact RTB) (by show unR (mS σ3) (mi 58 35) b (mS σ4); rw [i35]; exact ur4)) with ⟨σ5, c, D5, k5⟩ | ⟨zz, no⟩
            · obtain ⟨f5, t5, b5, ⟨l30', l37, l41, l43⟩, top5, px5, TC, RTC⟩ := D5
              have s75 := f5.s7
              have cc5 := t5.1.2.1
              have b543 := b5.2.2.1.1
              have ic : 0 ≤ c ∧ c < σ5 58 35 := TC.2.1.1
              have in5 : σ4 58 35 ≤ σ5 58 35 := TC.1.2.1.1
              have TC' := TRP.mo (M1 := fun m => mnF E F m ∨ m = σ1 58 35) TC (fun m q => Or.inl q)
              have lr4 : lO (mS σ4) 0 (σ1 58 35) := I4.2.1 _ (Or.inr rfl)
              have lr5 : lO (mS σ5) 0 (σ1 58 35) := TC.1.2.1.2.2.2.2.1 0 _ ir.1 (by show σ1 58 35 < σ4 58 35; omega) lr4
              have er5 : σ5 84 (σ5 58 41 - 1) = σ1 58 35 := by
                rw [show σ5 58 41 - 1 = σ3 58 41 - 1 by omega, b5.2.1 _ (by omega), j84]; exact er3
              have ec5 : σ5 83 (σ5 58 37 - 1) = c := by rw [show σ5 58 37 - 1 = σ4 58 37 by omega]; exact top5
              obtain ⟨Hp, ep⟩ := p37 (z := σ5 58 37 - 1) t5.1
              have kp : (mup σ5 58 37 (σ5 58 37 - 1)) 58 35 = σ5 58 35 := mup_nk (by decide)
              obtain ⟨m, U5, F5, out5⟩ := s_munify (d := 7) (a := σ1 58 35) (b := c) Hp ((mup_nk (by decide)).trans t5.2.2.2.1) (by rw [kp]; omega) (by rw [kp]; exact ic) (by rw [ep]; exact lr5) (by rw [ep]; exact TC.2.1.2.2.2 t4.2.2.1.2.1)
              rw [ep, kp] at out5
              have m8 : ∀ k, k ≠ 37 → k ≠ 38 → k ≠ 44 → k ≠ 45 → m 58 k = σ5 58 k := fun k h1 h2 h3 h4 => (F5.2 k h3 h4 h2).trans (mup_nk h1)
              have mg : ∀ i, i ≠ 58 → i ≠ 80 → i ≠ 86 → i ≠ 87 → m i = σ5 i := fun i h1 h2 h3 h4 => (F5.1 i h1 h2 h3 h4).trans (mup_obj h1)
              have m37 : m 58 37 = σ5 58 37 - 1 := (F5.2 37 (by decide) (by decide) (by decide)).trans mup_eq
              have m41 := m8 41 (by decide) (by decide) (by decide) (by decide)
              have m43 := m8 43 (by decide) (by decide) (by decide) (by decide)
              have m30 := m8 30 (by decide) (by decide) (by decide) (by decide)
              have m84 : m 84 (m 58 41 - 1) = σ1 58 35 := by rw [m41, mg 84 (by decide) (by decide) (by decide) (by decide)]; exact er5
              have e18 : p + ln A + ln B + 2 + ln C = p + ln A + ln B + ln C + 2 := by omega
              have q5 := (f1.tr (f2.tr (f3.tr (f4.tr f5)))).cel C3
              have rmm : rmS m := ⟨by omega, by omega, by omega, by omega⟩
              have Rb := b_18 (d := 6) (p := p + ln A + ln B + 2 + ln C) (σ := σ5) (m := m) ⟨by omega, by omega⟩ (by omega) (by omega) (by rw [er5, ec5]; exact U5) (b_263 (d := 6) rmm (by omega) (by rw [m84]; exact ⟨by omega, by omega⟩))
              rw [m84] at Rb
              have pu8 : ∀ k, k ≠ 41 → mup (puM m (σ1 58 35)) 58 41 (m 58 41 - 2) 58 k = puM m (σ1 58 35) 58 k := fun k h => mup_nk h
              have pui : ∀ i, i ≠ 58 → mup (puM m (σ1 58 35)) 58 41 (m 58 41 - 2) i = puM m (σ1 58 35) i := fun i h => mup_obj h
              have R := t_bd (d := 6) (p := p + ln A + ln B + 2 + ln C) (σ := σ5) (m := mup (puM m (σ1 58 35)) 58 41 (m 58 41 - 2)) ⟨by omega, by omega⟩ (by rw [e18, q5.1]; omega) (by rw [show σ5 60 (p + ln A + ln B + 2 + ln C) = 18 by rw [e18]; exact q5.1]; exact Rb) (by rw [pu8 30 (by decide), puM_30, m30]; exact ⟨by omega, by omega⟩)
              have fm : fT σ5 (mup (puM m (σ1 58 35)) 58 41 (m 58 41 - 2)) := by
                refine fT.tr (σ1 := m) ⟨fun i h => ?_, fun k h => ?_⟩ (puM.fT.tr (fT.m8 rfl))
                · have := tP_no h; exact mg i (by omega) (by omega) (by omega) (by omega)
                · have := tK_no h; exact m8 k (by omega) (by omega) (by omega) (by omega)
              have f15 := f1.tr (f2.tr (f3.tr (f4.tr f5)))
              have k15 : ∀ o s', tfL (p + ln A + ln B + 2 + ln C) σ5 o s' → tfL p σ o s' := fun o s' h => k1 o s' (k2 o s' (k3 o s' (k4 o s' (by rw [e4p]; exact k5 o s' h))))
              have hq5 : 0 ≤ p + ln A + ln B + 2 + ln C ∧ p + ln A + ln B + 2 + ln C < σ5 58 7 ∧ σ5 58 7 ≤ 124 := ⟨by omega, by omega, by omega⟩
              have p43 : mup (puM m (σ1 58 35)) 58 41 (m 58 41 - 2) 58 43 = σ5 58 43 + 1 := by rw [pu8 43 (by decide), puM_43, m43]
              rcases out5 with ⟨w1, w2, w3, w4, w5⟩ | ⟨w1, w2⟩
              · have ur6 : unR (mS σ5) (σ1 58 35) c (mS m) := ⟨w3, w4, w5⟩
                obtain ⟨Hq, eq⟩ := puM_mt (x := σ1 58 35) w2
                obtain ⟨Hm, em⟩ : MT (mup (puM m (σ1 58 35)) 58 41 (m 58 41 - 2)) ∧ _ := Hq.cg (pui 79 (by decide)) (pui 80 (by decide)) (pui 81 (by decide)) (pui 82 (by decide)) (pu8 35 (by decide))
                rw [eq] at em
                have RC := BR_2 I2 (by decide) t2.1.1 (Or.inr rfl) (Or.inr rfl) x24 (BR_e (l := σ1 58 35) I4 (Or.inr rfl) TC' (ur6.1 0) ur6.2.2)
                rw [e2, ← i35] at RC
                have TT := TR_if2 t.2.2.1 (by decide) t.1.1 c0' DA rfl RC
                -- what lies below
                have e85 : ∀ k, k < σ5 58 43 → puM m (σ1 58 35) 85 k = σ5 85 k := fun k h => by rw [puM_85, if_neg (by omega), mg 85 (by decide) (by decide) (by decide) (by decide)]
                have bl2 : Blw σ σ2 := ⟨fun k h => by rw [g83]; exact b1.1 k h, fun k h => by rw [g84 k (by omega)]; exact b1.2.1 k h, ⟨by omega, fun k h => by rw [g85]; exact b1.2.2.1.2 k h⟩, fun k h => by rw [g76, g77, g78]; exact b1.2.2.2 k h⟩
                have bl3 : Blw σ σ3 := bl2.tr (by omega) (by omega) (by omega) b3
                have bl4 : Blw σ σ4 := bl3.cg j83 j84 j85 j76 j77 j78 i43
                have bl5 : Blw σ σ5 := bl4.tr (by omega) (by omega) (by omega) b5
                have m37' : m 58 37 = σ 58 37 := by omega
                have blm : Blw σ (mup (puM m (σ1 58 35)) 58 41 (m 58 41 - 2)) := by
                  refine ⟨fun k h => ?_, fun k h => ?_, ⟨by omega, fun k h => ?_⟩, fun k h => ?_⟩
                  · rw [pui 83 (by decide), puM_83, if_neg (by omega), mg 83 (by decide) (by decide) (by decide) (by decide)]; exact bl5.1 k h
                  · rw [pui 84 (by decide), puM_fx.1 84 (by decide) (by decide) (by decide), mg 84 (by decide) (by decide) (by decide) (by decide)]; exact bl5.2.1 k h
                  · rw [pui 85 (by decide), e85 k (by omega)]; exact bl5.2.2.1.2 k h
                  · rw [pui 76 (by decide), pui 77 (by decide), pui 78 (by decide), puM_fx.1 76 (by decide) (by decide) (by decide), puM_fx.1 77 (by decide) (by decide) (by decide), puM_fx.1 78 (by decide) (by decide) (by decide), mg 76 (by decide) (by decide) (by decide) (by decide), mg 77 (by decide) (by decide) (by decide) (by decide), mg 78 (by decide) (by decide) (by decide) (by decide)]; exact bl5.2.2.2 k h
                refine td_fin (P := fun y => (PsA σ σ1 y ∨ (PsA σ2 σ3 y ∨ PsA σ4 σ5 y)) ∨ y = σ1 58 35) t r0 (by omega) ⟨hq5.1, by rw [hl]; omega, hq5.2⟩ t5.2.2.2.1 R k15 f15 fm Hm ?_ blm ?_ ?_ ?_ ?_ ?_ ?_ (fun y => ?_) (Or.inr rfl) (fun sx => ?_)
                · rw [pu8 44 (by decide), puM_fx.2 44 (by decide) (by decide)]; exact w1
                · rw [pu8 30 (by decide), puM_30]; omega
                · rw [pu8 37 (by decide), puM_37]; omega
                · rw [mup_eq]; omega
                · rw [p43, w0]; omega
                · rw [pui 83 (by decide), puM_83, if_pos m37'.symm]
                · rw [em, ← i35]; exact TT
                · have e12 : PsA σ σ2 = PsA σ σ1 := by unfold PsA; rw [d43, g85]
                  have e34 : PsA σ σ4 = PsA σ σ3 := by unfold PsA; rw [i43, j85]
                  have y1 := psA_tr (σ := σ) (σ1 := σ2) (σ' := σ3) (by omega) b343 b3.2.2.1.2 (y := y)
                  have y2 := psA_tr (σ := σ) (σ1 := σ4) (σ' := σ5) (by omega) b543 b5.2.2.1.2 (y := y)
                  have y3 : y = σ1 58 35 ↔ PsA σ5 (mup (puM m (σ1 58 35)) 58 41 (m 58 41 - 2)) y := psA_1 p43 (by rw [pui 85 (by decide), puM_85, if_pos m43.symm])
                  have y4 := psA_tr (σ := σ) (σ1 := σ5) (σ' := mup (puM m (σ1 58 35)) 58 41 (m 58 41 - 2)) (by omega) (by omega) (fun k h => by rw [pui 85 (by decide)]; exact e85 k h) (y := y)
                  rw [← y4, ← y3, ← y2, e34, ← y1, e12]
                  simp only [or_assoc]
                · rw [em] at sx ⊢
                  have RTB' := RTB
                  rw [e2] at RTB'
                  exact ⟨mS σ1, a, mS mi, mS σ3, b, mS σ4, mS σ5, c, RTA, o4, RTB', by show unR (mS σ3) (mi 58 35) b (mS σ4); rw [i35]; exact ur4, RTC, by show unR (mS σ5) (mi 58 35) c (mS m); rw [i35]; exact ur6, i35.symm, sx⟩
              · refine Or.inr ⟨(tf_bad hq5 t5.2.2.2.1 R ?_ (by omega) fm).tr k15 f15, fun ρ s V sm y => ?_⟩
                · rw [pu8 44 (by decide), puM_fx.2 44 (by decide) (by decide)]; exact w1
                · have wid := y.1 (by decide) rfl
                  obtain ⟨-, y1, y2, y3⟩ := y
                  obtain ⟨ρ4, V4, s4, eG, er⟩ := keyC ρ s V sm y1 y2
                  obtain ⟨ρ5, V5, s5, -, ec, ol⟩ := TRP.nx t4.2.2.1 (by decide) t4.1.1 TC (PMs.inC t4) V4 s4 (by rw [eG]; exact y3)
                  have er5 := (ol (σ1 58 35) ir.1 (by show σ1 58 35 < σ4 58 35; omega)).trans er
                  exact w2 ρ5 V5 (er5.trans ec.symm) (by rw [er5]; exact wid)
            · refine Or.inr ⟨(((TZ.tr k4 f4 (by rw [e4p]; exact zz)).tr k3 f3).tr k2 f2).tr k1 f1, fun ρ s V sm y => ?_⟩
              obtain ⟨-, y1, y2, y3⟩ := y
              obtain ⟨ρ4, V4, s4, eG, -⟩ := keyC ρ s V sm y1 y2
              exact no ρ4 s V4 s4 (by rw [eG]; exact y3)
          · refine Or.inr ⟨((z4.tr k3 f3).tr k2 f2).tr k1 f1, fun ρ s V sm y => ?_⟩
            have wid := y.1 (by decide) rfl
            obtain ⟨-, y1, y2, -⟩ := y
            obtain ⟨ρ3, V3, s3, -, er, eb⟩ := keyB' ρ s V sm y1 y2
            exact no ρ3 V3 (er.trans eb.symm) (by rw [er]; exact wid) (fun k k0 k1 => s3 _ (Or.inl ⟨k, ⟨k0, k1⟩, rfl⟩))
        · refine Or.inr ⟨(zz.tr k2 f2).tr k1 f1, fun ρ s V sm y => ?_⟩
          obtain ⟨-, y1, y2, -⟩ := y
          obtain ⟨ρ2, V2, s2, eG, -⟩ := keyB ρ s V sm y1
          exact no ρ2 s V2 s2 (by rw [eG]; exact y2)
      · refine Or.inr ⟨z2.tr k1 f1, fun ρ s V sm y => ?_⟩
        obtain ⟨-, y1, -⟩ := y
        obtain ⟨ρ1, V1, s1, -⟩ := keyA ρ V sm y1
        exact no ρ1 V1 (fun k k0 k1 => s1 _ (Or.inl ⟨k, ⟨k0, k1⟩, rfl⟩))
    · refine Or.inr ⟨(tf_bad hq1 t1.2.2.2.1 (bnd13 hc) ((lkM_k (by decide) (by decide)).trans o1) (by rw [lkM_k (by decide) (by decide), o8 43 (by decide) (by decide) (by decide) (by decide)]; omega) ?_).tr k1 f1, fun ρ s V sm y => ?_⟩
      · refine ⟨fun i h => ?_, fun k h => ?_⟩
        · have := tP_no h
          rw [lkM_i (by omega) (by omega) (by omega) (by omega) (by omega) (by omega)]; exact og i (by omega) (by omega) (by omega) (by omega)
        · have := tK_no h
          rw [lkM_k (by omega) (by omega)]; exact o8 k (by omega) (by omega) (by omega) (by omega)
      · obtain ⟨-, y1, -⟩ := y
        exact TR_dem_no TA bs1 (fun ρ V e => (o2 ρ V e).elim) V y1
  · refine Or.inr ⟨zz, fun ρ s V sm y => ?_⟩
    obtain ⟨-, y1, -⟩ := y
    exact no ρ _ V sm y1
end MIF
