/-! The model's types: LET. -/
section ML2
variable {σ σ1 σ2 τ m mg : Mem} {z x n p q s a b l t0 : Int} {E E1 : List (Int × Int)} {F F1 : List Int} {S S' : TS} {A B T : Tr} {M : Int → Prop}
theorem NoM.nx {F0 : Bool → Gm → GT → Prop} {sa : GT} {S1 : TS} {PM PA : Int → Prop} {ρ : Int → GT} (I : EnvI S 0 E M) (W : SO S) (RA : TRP S S1 E M 0 F0 PA a) (hP : inC S PM) (V : VS S.1 S.2.1 ρ) (sm : ∀ p, PM p → gw (ρ p) ≤ 80) (y : F0 true (Gam S ρ E) sa) : ∃ ρ1, VS S1.1 S1.2.1 ρ1 ∧ (∀ p, PM p ∨ PA p → gw (ρ1 p) ≤ 80) ∧ Gam S ρ1 E = Gam S ρ E ∧ ρ1 a = sa := by
  obtain ⟨ρ1, V1, s1, eG, ea, -⟩ := TRP.nx I (by decide) W RA hP V sm y
  exact ⟨ρ1, V1, s1, (TRes.gam I (by decide) W RA.1 V1).symm.trans eG, ea⟩
theorem PM_let (hz : ltZ z) (wA : 1 ≤ rwl A) (wB : 1 ≤ rwl B) (pA : PMT A) (pB : PMT B) : PMT (nd 13 z A B nl) := by
  intro p s σ E F C N cl hp hs t r rm
  obtain ⟨CA, C1, CBb, C2⟩ : isC σ A p s ∧ cell σ (p + ln A) 10 0 z ∧ isC σ B (p + ln A + 1) (s + sn A) ∧ cell σ (p + ln A + ln B + 1) 12 1 z := C
  obtain ⟨NA, NB⟩ : isN σ A p (E.map Prod.fst) ∧ isN σ B (p + ln A + 1) (z :: E.map Prod.fst) := N
  have cl : (clo A (inE E) && clo B (adde (inE E) z)) = true := cl
  rw [Bool.and_eq_true] at cl
  have hl : ln (nd 13 z A B nl) = ln A + ln B + 2 := rfl
  have hsn : sn (nd 13 z A B nl) = sn A + sn B + 0 := rfl
  have w0 : rwl (nd 13 z A B nl) = 4 + rwl A + rwl B := rfl
  obtain ⟨rA, rB⟩ : rmC A 0 0 (mS σ) E F ∧ ∀ S1 t lev, RT A 0 (mS σ) E F S1 t → genR S1 (mnF E F) t lev → rmC B 0 0 (S1.1, S1.2.1, lev) ((z, t) :: E) (1 :: F) := rm
  rw [hl] at hp
  rw [hsn] at hs
  have gA := ln_ge (T := A)
  have gB := ln_ge (T := B)
  have sA := sn_ge (T := A)
  have sB := sn_ge (T := B)
  have c0 := t.1.2.1
  have l30 := t.2.1.1
  have gz : rg z := by have h : 97 ≤ z ∧ z ≤ 122 := hz; exact ⟨by omega, by omega⟩
  rw [w0] at r
  obtain ⟨r1, r2, r3, r4⟩ := r
  rcases pA p s σ E F CA NA cl.1 ⟨hp.1, by omega, hp.2.2⟩ ⟨hs.1, by omega⟩ t ⟨by omega, by omega, by omega, by omega⟩ rA with ⟨σ1, t0, D1, k1⟩ | ⟨zz, no⟩
  · obtain ⟨f1, t1, b1, ⟨c30, c37, c41, c43⟩, top1, px1, TA, RTA⟩ := D1
    have b43 := b1.2.2.1.1
    have s71 := f1.s7
    have H1 := t1.1
    have cc1 := H1.2.1
    have l31 := t1.2.1.1
    have ir : 0 ≤ t0 ∧ t0 < σ1 58 35 := TA.2.1.1
    have e37 : σ1 58 37 - 1 = σ 58 37 := by omega
    have n83 : σ1 83 (σ1 58 37 - 1) = t0 := by rw [e37]; exact top1
    obtain ⟨Hp, ep⟩ := p37 (z := σ1 58 37 - 1) H1
    have N1 : nmM (mup σ1 58 37 (σ1 58 37 - 1)) := by
      have := t1.nm (by omega)
      unfold nmM
      rw [mup_nk (by decide), mup_nk (by decide), mup_obj (by decide)]; exact this
    have tm1 : tmE (mup σ1 58 37 (σ1 58 37 - 1)) E F := ⟨(mup_nk (by decide)).trans t1.2.1.1, t1.2.1.2.mv (fun k _ _ => by rw [mup_obj (by decide), mup_obj (by decide), mup_obj (by decide)]; exact ⟨rfl, rfl, rfl⟩)⟩
    obtain ⟨mg, G, fg, out⟩ := m_gen (d := 10) (n := t0) Hp N1 (by rw [mup_nk (by decide)]; exact ir) ((mup_nk (by decide)).trans t1.2.2.2.1)
    have hq : 0 ≤ p + ln A ∧ p + ln A < σ1 58 7 ∧ σ1 58 7 ≤ 124 := ⟨by omega, by omega, by omega⟩
    have c1 := f1.cel C1
    have Rb := b_10 (d := 6) (p := p + ln A) (m := mg) ⟨by omega, by omega⟩ (by rw [c1.2.2]; exact gz) (by omega) (by omega) (by rw [n83]; exact ⟨by omega, by omega⟩) (by rw [n83]; exact G) fg
    rw [c1.2.2, n83] at Rb
    have g30 : mg 58 30 = σ1 58 30 := (fg.2 30 (by decide) (by decide) (by decide)).trans (mup_nk (by decide))
    have R := t_bd (d := 6) (p := p + ln A) (σ := σ1) (m := mup (bdM mg z t0) 78 (σ1 58 30) 1) ⟨by omega, by omega⟩ (by rw [c1.1]; omega) (by rw [c1.1]; exact Rb) (by rw [mup_ne (by decide), bdM_30, g30]; exact ⟨by omega, by omega⟩)
    rcases out with ⟨o1, o2⟩ | ⟨o1, o2, o3⟩
    · refine Or.inr ⟨(tf_bad hq t1.2.2.2.1 R ?_ ?_ (((fT.m8 rfl).tr fg.fT).tr (bdM.fT.tr (fT.mu rfl (by decide))))).tr k1 f1, fun ρ s V sm y => ?_⟩
      · rw [mup_ne (by decide), bdM_fx.2 44 (by decide)]; exact o1
      · rw [mup_ne (by decide), bdM_fx.2 43 (by decide), fg.2 43 (by decide) (by decide) (by decide), mup_nk (by decide)]; omega
      · obtain ⟨-, ⟨a, y1⟩, -⟩ := y
        rw [ep] at o2
        rcases o2 with o2 | ⟨k, h1, h2, h3⟩
        · exact TRP.wd t.2.2.1 (by decide) t.1.1 TA (PMs.inC t) (Or.inr px1) o2 ρ a V sm y1
        · rw [mup_obj (by decide)] at h2 h3
          rw [mup_nk (by decide)] at h1
          refine TRP.wd t.2.2.1 (by decide) t.1.1 TA (PMs.inC t) (p := σ1 77 k) (Or.inl (Or.inr ?_)) h3 ρ a V sm y1
          rw [t1.2.1.2.mn]
          exact ⟨k, by omega, h2, rfl⟩
    · obtain ⟨v1, v2, v3⟩ := GO.gv o3 fg
      rw [ep, tm1.mn] at v2 v3
      rw [ep] at v1
      generalize hlev : (mS mg).2.2 = lev at *
      have gR : genR (mS σ1) (mnF E F) t0 lev := ⟨v2, v3⟩
      have hg : ∀ {ρ}, VS (mS σ1).1 (mS σ1).2.1 ρ → _ := fun {ρ} V => let_gam (z := z) t.2.2.1 (by decide) (Int.le_refl 0) t.1.1 TA v2 v3 V
      obtain ⟨μ1, Mi1⟩ := ms_min H1
      obtain ⟨⟨st, g0⟩, -⟩ := hg Mi1.1
      have I0 := t.2.2.1.up (by decide) t.1.1 st.2.1
      rw [← v1] at g0 I0
      obtain ⟨σ2, k2, f2, t2, e2, nb, b83, b84, b85, d30, d37, d41, d43⟩ := lt_go (z := z) (t0 := t0) (hd := σ1 58 37 - 1) t1 I0 g0 ir (by omega) (by omega) hq o2 o1 (by rw [v1]) fg R
      rw [v1] at e2
      have s72 := f2.s7
      rcases pB (p + ln A + 1) (s + sn A) σ2 ((z, t0) :: E) (1 :: F) ((f1.tr f2).ic CBb) ((f1.tr f2).isn (show isN σ B (p + ln A + 1) (((z, t0) :: E).map Prod.fst) from NB)) (by rw [inE_cons]; exact cl.2) ⟨by omega, by omega, by omega⟩ ⟨by omega, by omega⟩ t2 ⟨by omega, by omega, by omega, by omega⟩ (by rw [e2]; exact rB _ _ _ RTA gR) with ⟨σ3, b, D3, k3⟩ | ⟨zz, no⟩
      · obtain ⟨f3, t3, b3, ⟨h30, h37, h41, h43⟩, top3, px3, TB, RTB⟩ := D3
        rw [e2, mnF_1] at TB
        rw [e2] at RTB
        have s73 := f3.s7
        have TT := TR_let t.2.2.1 (by decide) (Int.le_refl 0) t.1.1 TA v2 v3 rfl TB
        have I3 := t.2.2.1.up (by decide) t.1.1 TT.1.2.1
        have b343 := b3.2.2.1.1
        have c2 := (f1.tr (f2.tr f3)).cel C2
        obtain ⟨σ4, k4, f4, t4, e4, b4, i30, i37, i41, i43, i83, i85⟩ := en_go (p := p + ln A + 1 + ln B) (E1 := [(z, t0)]) (F1 := [1]) (E := E) (F := F) (c := 1) t3 rfl rfl I3 (by omega) (by omega) ⟨by omega, by omega, by omega⟩ (by rw [show p + ln A + 1 + ln B = p + ln A + ln B + 1 by omega]; exact c2.1) (by rw [show p + ln A + 1 + ln B = p + ln A + ln B + 1 by omega]; exact c2.2.1)
        have bl2 : Blw σ σ2 := ⟨fun k h => by rw [b83]; exact b1.1 k h, fun k h => by rw [b84]; exact b1.2.1 k h, ⟨by omega, fun k h => by rw [b85]; exact b1.2.2.1.2 k h⟩, fun k h => by
          have q := nb k (by omega)
          have w := b1.2.2.2 k h
          exact ⟨q.1.trans w.1, q.2.1.trans w.2.1, q.2.2.trans w.2.2⟩⟩
        have bl3 : Blw σ σ3 := bl2.tr (by omega) (by omega) (by omega) b3
        have bl4 : Blw σ σ4 := bl3.tr (by omega) (by omega) (by omega) b4
        have ps : ∀ y, ((PsA σ σ1 y ∨ PsA σ2 σ3 y) ∨ y = b) ↔ PsA σ σ4 y := fun y => by
          have e12 : PsA σ σ2 = PsA σ σ1 := by unfold PsA; rw [d43, b85]
          have e34 : PsA σ σ4 = PsA σ σ3 := by unfold PsA; rw [i43, i85]
          have q := psA_tr (σ := σ) (σ1 := σ2) (σ' := σ3) (by omega) b343 b3.2.2.1.2 (y := y)
          rw [e34, ← q, e12]
          constructor
          · rintro (h | h)
            · exact h
            · rw [h]; exact Or.inr px3
          · exact fun h => Or.inl h
        have eP : (fun y => (PsA σ σ1 y ∨ PsA σ2 σ3 y) ∨ y = b) = PsA σ σ4 := funext fun y => propext (ps y)
        rw [eP, ← e4] at TT
        refine Or.inl ⟨σ4, b, ⟨f1.tr (f2.tr (f3.tr f4)), t4, bl4, ⟨by omega, by omega, by omega, by rw [w0]; omega⟩, ?_, (ps b).mp (Or.inr rfl), TT, ?_⟩, fun o s' h => k1 o s' (k2 o s' (k3 o s' (k4 o s' (by rw [show p + ln A + 1 + ln B + 1 = p + (ln A + ln B + 2) by omega]; rw [hl] at h; exact h))))⟩
        · rw [i83, ← e37, ← d37]; exact top3
        · rw [e4]
          exact ⟨mS σ1, t0, lev, RTA, gR, RTB⟩
      · refine Or.inr ⟨(zz.tr k2 f2).tr k1 f1, fun ρ s V sm y => ?_⟩
        obtain ⟨-, ⟨a, y1⟩, y2⟩ := y
        obtain ⟨ρ1, V1, s1, eG, -⟩ := NoM.nx t.2.2.1 t.1.1 TA (PMs.inC t) V sm y1
        rw [e2] at no
        have e3 := (hg V1).2
        rw [eG] at e3
        refine no ρ1 s V1 (fun q hq => ?_) (by rw [e3]; exact y2)
        rcases hq with ⟨k, hk, e⟩ | h
        · rw [d43] at hk
          rw [b85] at e
          exact s1 q (pms_1 b1 (E := E) (F := F) (Or.inl ⟨k, hk, e⟩))
        · rw [mnF_1] at h
          exact s1 q (Or.inl (Or.inr h))
  · refine Or.inr ⟨zz, fun ρ s V sm y => ?_⟩
    obtain ⟨-, ⟨a, y1⟩, -⟩ := y
    exact no ρ a V sm y1
end ML2
