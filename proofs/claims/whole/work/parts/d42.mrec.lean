/-! The model's types: REC. -/
section MRC
variable {σ σ1 σ2 τ m mg mu : Mem} {d : Nat} {z x n p q s a b l t0 : Int} {E E1 : List (Int × Int)} {F F1 : List Int} {S S' : TS} {A B T : Tr} {M : Int → Prop}
theorem gen_ill (hc : 3 ≤ σ 58 35 ∧ σ 58 35 ≤ 1300) (hN : 0 ≤ σ 58 30 ∧ σ 58 30 ≤ 64) (hn : rg n) (hi : σ 58 44 = 1) : ∃ s', Rn (d + 8) yMo_generalize [.ref 58, vi n] σ none s' ∧ FG σ s' ∧ s' 58 44 = 1 := by
  have F1 : FG σ (mup σ 58 44 1) := FG.m44
  obtain ⟨s', l, F, i⟩ := gen_i (d := d) (n := n) (σ 58 30).toNat 0 (mup σ 58 44 1) (by rw [mup_nk (by decide)]; exact hc) (by rw [mup_nk (by decide)]; exact hN) hn mup_eq (by rw [mup_nk (by decide)]; omega) (by omega)
  refine ⟨s', M_Mo_generalize (d := d + 4) hn ?_, F1.tr F, i⟩
  unfold B_Mo_generalize
  rw [if_pos (by omega)]
  unfold B_Mo_generalize_18 B_Mo_generalize_23
  exact ⟨Or.inr rfl, l⟩
/-- after REC's own name was made general -/
theorem rc_go {hd : Int} (t : TH σ2 ((z, n) :: E) (0 :: F)) (I0 : EnvI (mS mg) 0 E (mnF E F)) (g0 : gO (mS mg) 1000 (mnF E F) n) (ir : 0 ≤ n ∧ n < σ2 58 35) (h30 : σ2 58 30 ≤ 64) (h43 : 0 ≤ σ2 58 43 ∧ σ2 58 43 ≤ 250) (hp : 0 ≤ p ∧ p < σ2 58 7 ∧ σ2 58 7 ≤ 124) (Hg : MT mg) (ig : mg 58 44 = 0) (c2 : mg 58 35 = σ2 58 35) (og : ∀ i, i ≠ 58 → i ≠ 78 → i ≠ 80 → i ≠ 81 → i ≠ 86 → i ≠ 87 → mg i = σ2 i) (o78 : mg 78 = (mup σ2 78 (σ2 58 30 - 1) 1) 78) (o8 : ∀ k, k ≠ 37 → k ≠ 38 → k ≠ 44 → k ≠ 45 → mg 58 k = σ2 58 k) (o37 : mg 58 37 = hd) (fm : fT σ2 mg) (R : Rn 20 yMo_typeOf [.ref 58, vi p] σ2 none mg) : (∃ σ3, (∀ o s', tfL (p + 1) σ3 o s' → tfL p σ2 o s') ∧ fT σ2 σ3 ∧ TH σ3 ((z, n) :: E) (1 :: F) ∧ mS σ3 = mS mg ∧ (∀ k, k < σ2 58 30 - 1 → σ3 76 k = σ2 76 k ∧ σ3 77 k = σ2 77 k ∧ σ3 78 k = σ2 78 k) ∧ σ3 83 = σ2 83 ∧ σ3 84 = σ2 84 ∧ σ3 85 = σ2 85 ∧ σ3 58 30 = σ2 58 30 ∧ σ3 58 37 = hd ∧ σ3 58 41 = σ2 58 41 ∧ σ3 58 43 = σ2 58 43) ∨ (TZ σ2 p ∧ ∃ k, (0 ≤ k ∧ k < σ2 58 43) ∧ ∀ ρ, VS (mS mg).1 (mS mg).2.1 ρ → 80 < gw (ρ (σ2 85 k))) := by
  have l30 := t.2.1.1
  have lc : (((z, n) :: E).length : Int) = E.length + 1 := by rw [List.length_cons]; omega
  have k43 : mg 58 43 = σ2 58 43 := o8 43 (by decide) (by decide) (by decide) (by decide)
  have e85 : mg 85 = σ2 85 := og 85 (by decide) (by decide) (by decide) (by decide) (by decide) (by decide)
  have ip : inPt mg := fun k k0 k1 => by
    rw [e85, c2]; exact t.2.2.2.2.1 k k0 (by omega)
  rcases tf_ok hp t.2.2.2.1 R Hg ig ip (by omega) fm with ⟨σ3, k, FF, i1, Hs, es, sp⟩ | ⟨z1, k, hk, wd⟩
  · have nm : ∀ i, i ≠ σ2 58 30 - 1 → σ3 76 i = σ2 76 i ∧ σ3 77 i = σ2 77 i ∧ σ3 78 i = σ2 78 i := fun i h => by
      rw [FF.1 76 (by decide) (by decide), FF.1 77 (by decide) (by decide), FF.1 78 (by decide) (by decide), og 76 (by decide) (by decide) (by decide) (by decide) (by decide) (by decide), og 77 (by decide) (by decide) (by decide) (by decide) (by decide) (by decide), o78, mup_nk h]
      exact ⟨rfl, rfl, rfl⟩
    have ge : σ2 58 30 - 1 = E.length := by omega
    have g8 : ∀ k, k ≠ 37 → k ≠ 38 → k ≠ 44 → k ≠ 45 → σ3 58 k = σ2 58 k := fun k h1 h2 h3 h4 => (FF.2 k h3 h4).trans (o8 k h1 h2 h3 h4)
    have gi : ∀ i, i ≠ 58 → i ≠ 78 → i ≠ 80 → i ≠ 81 → i ≠ 86 → i ≠ 87 → σ3 i = σ2 i := fun i h1 h2 h3 h4 h5 h6 => (FF.1 i h1 h5).trans (og i h1 h2 h3 h4 h5 h6)
    refine Or.inl ⟨σ3, k, fm.tr FF.fT, ⟨Hs, ⟨?_, ?_, ?_⟩, ?_, i1, ?_, sp⟩, es, fun j h => nm j (by omega), gi 83 (by decide) (by decide) (by decide) (by decide) (by decide) (by decide), gi 84 (by decide) (by decide) (by decide) (by decide) (by decide) (by decide), gi 85 (by decide) (by decide) (by decide) (by decide) (by decide) (by decide), g8 30 (by decide) (by decide) (by decide) (by decide), (FF.2 37 (by decide) (by decide)).trans o37, g8 41 (by decide) (by decide) (by decide) (by decide), g8 43 (by decide) (by decide) (by decide) (by decide)⟩
    · rw [g8 30 (by decide) (by decide) (by decide) (by decide)]; exact l30
    · have q := t.2.1.2.1
      refine ⟨?_, ?_, ?_, Or.inr rfl⟩
      · rw [gi 76 (by decide) (by decide) (by decide) (by decide) (by decide) (by decide)]; exact q.1
      · rw [gi 77 (by decide) (by decide) (by decide) (by decide) (by decide) (by decide)]; exact q.2.1
      · rw [FF.1 78 (by decide) (by decide), o78, ge, mup_eq]
    · exact t.2.1.2.2.mv (fun j _ h => nm j (by omega))
    · rw [es, mnF_1]; exact I0.lt (by show 0 ≤ n ∧ n < mg 58 35; rw [c2]; exact ir) g0
    · intro j j0 j1
      rw [g8 43 (by decide) (by decide) (by decide) (by decide)] at j1
      rw [gi 85 (by decide) (by decide) (by decide) (by decide) (by decide) (by decide), g8 35 (by decide) (by decide) (by decide) (by decide)]; exact t.2.2.2.2.1 j j0 j1
  · rw [k43] at hk
    rw [e85] at wd
    exact Or.inr ⟨z1, k, hk, wd⟩
theorem PM_rec (hz : ltZ z) (hA : isE A) (wA : 1 ≤ rwl A) (wB : 1 ≤ rwl B) (pA : PMT A) (pB : PMT B) : PMT (nd 14 z A B nl) := by
  intro p s σ E F C N cl hp hs t r rm
  obtain ⟨C0, CA, C1, CBb, C2⟩ : cell σ p 19 0 z ∧ isC σ A (p + 1) s ∧ cell σ (p + ln A + 1) 11 0 z ∧ isC σ B (p + ln A + 2) (s + sn A) ∧ cell σ (p + ln A + ln B + 2) 12 1 z := C
  obtain ⟨NA, NB⟩ : isN σ A (p + 1) (z :: E.map Prod.fst) ∧ isN σ B (p + ln A + 2) (z :: E.map Prod.fst) := N
  have cl : (clo A (adde (inE E) z) && clo B (adde (inE E) z)) = true := cl
  rw [Bool.and_eq_true] at cl
  have hl : ln (nd 14 z A B nl) = ln A + ln B + 3 := rfl
  have hsn : sn (nd 14 z A B nl) = sn A + sn B + 0 := rfl
  have w0 : rwl (nd 14 z A B nl) = 4 + rwl A + rwl B := rfl
  obtain ⟨m1, rA, rB⟩ : (mS σ).2.1 + 1 ≤ 1300 ∧ rmC A 0 0 (nwS (mS σ)) ((z, (mS σ).2.1) :: E) (0 :: F) ∧ ∀ S2 a S3 lev, RT A 0 (nwS (mS σ)) ((z, (mS σ).2.1) :: E) (0 :: F) S2 a → unR S2 (mS σ).2.1 a S3 → genR S3 (mnF E F) (mS σ).2.1 lev → rmC B 0 0 (S3.1, S3.2.1, lev) ((z, (mS σ).2.1) :: E) (1 :: F) := rm
  rw [hl] at hp
  rw [hsn] at hs
  have gA := ln_ge (T := A)
  have gB := ln_ge (T := B)
  have sA := sn_ge (T := A)
  have sB := sn_ge (T := B)
  have c0 := t.1.2.1
  have l30 := t.2.1.1
  have gz : rg z := by have h : 97 ≤ z ∧ z ≤ 122 := hz; exact ⟨by omega, by omega⟩
  rw [w0] at r
  obtain ⟨r1, r2, r3, r4⟩ := r
  have c0' : 0 ≤ (mS σ).2.1 := by show 0 ≤ σ 58 35; omega
  obtain ⟨σ1, k1, f1, t1, e1, b1, h30, h37, h41, h43, h77⟩ := bn_go (p := p) t ⟨by omega, by omega, by omega⟩ ⟨hp.1, by omega, hp.2.2⟩ (Or.inr C0.1) C0.2.2 gz m1
  have s71 := f1.s7
  have ps01 : ∀ {q}, PMs σ1 ((z, σ 58 35) :: E) (0 :: F) q → PMs σ E F q ∨ q = σ 58 35 := fun {q} h => by
    rcases h with ⟨k, hk, e⟩ | h
    · rw [h43] at hk
      exact Or.inl (Or.inl ⟨k, hk, by rw [e, b1.2.2.1.2 k hk.2]⟩)
    · rw [mnF_0] at h
      exact h.imp (fun h => Or.inr h) (fun h => h)
  rcases pA (p + 1) s σ1 ((z, σ 58 35) :: E) (0 :: F) (f1.ic CA) (f1.isn (show isN σ A (p + 1) (((z, σ 58 35) :: E).map Prod.fst) from NA)) (by rw [inE_cons]; exact cl.1) ⟨by omega, by omega, by omega⟩ ⟨hs.1, by omega⟩ t1 ⟨by omega, by omega, by omega, by omega⟩ (by rw [e1]; exact rA) with ⟨σ2, a, D2, k2⟩ | ⟨zz, no⟩
  · obtain ⟨f2, t2, b2, ⟨d30, d37, d41, d43⟩, top2, px2, TA, RTA⟩ := D2
    have b243 := b2.2.2.1.1
    rw [e1] at TA RTA
    have TA0 := TA
    rw [mnF_0] at TA
    have s72 := f2.s7
    have H2 := t2.1
    have cc := H2.2.1
    have l32 := t2.2.1.1
    have ia : 0 ≤ a ∧ a < σ2 58 35 := TA.2.1.1
    have in0 : (nwS (mS σ)).2.1 ≤ (mS σ2).2.1 := TA.1.2.1.1
    have in0 : σ 58 35 + 1 ≤ σ2 58 35 := in0
    have n77 : σ2 77 (σ2 58 30 - 1) = σ 58 35 := by
      rw [show σ2 58 30 - 1 = σ 58 30 by omega, (b2.2.2.2 (σ 58 30) (by omega)).2.1]; exact h77
    have n83 : σ2 83 (σ2 58 37 - 1) = a := by rw [show σ2 58 37 - 1 = σ1 58 37 by omega]; exact top2
    have hq : 0 ≤ p + 1 + ln A ∧ p + 1 + ln A < σ2 58 7 ∧ σ2 58 7 ≤ 124 := ⟨by omega, by omega, by omega⟩
    have c1 := (f1.tr f2).cel C1
    rw [show p + ln A + 1 = p + 1 + ln A by omega] at c1
    -- own and the function's node
    obtain ⟨Hp, ep⟩ := p37 (z := σ2 58 37 - 1) H2
    have k35 : (mup σ2 58 37 (σ2 58 37 - 1)) 58 35 = σ2 58 35 := mup_nk (by decide)
    have lo0 : lO (mS σ2) 0 (σ 58 35) := t2.2.2.1.2.1 _ (by rw [mnF_0]; exact Or.inr rfl)
    have la0 : lO (mS σ2) 0 a := TA0.2.1.2.2.2 (by rw [← e1]; exact t1.2.2.1.2.1)
    obtain ⟨mu, U, FF, out⟩ := s_munify (d := 7) (a := σ 58 35) (b := a) Hp ((mup_nk (by decide)).trans t2.2.2.2.1) (by rw [k35]; omega) (by rw [k35]; exact ia) (by rw [ep]; exact lo0) (by rw [ep]; exact la0)
    rw [ep, k35] at out
    have ub : ∀ i, i ≠ 58 → i ≠ 80 → i ≠ 86 → i ≠ 87 → mu i = σ2 i := fun i h1 h2 h3 h4 => (FF.1 i h1 h2 h3 h4).trans (mup_obj h1)
    have u8 : ∀ k, k ≠ 37 → k ≠ 38 → k ≠ 44 → k ≠ 45 → mu 58 k = σ2 58 k := fun k h1 h2 h3 h4 => (FF.2 k h3 h4 h2).trans (mup_nk h1)
    have u37 : mu 58 37 = σ2 58 37 - 1 := (FF.2 37 (by decide) (by decide) (by decide)).trans mup_eq
    have u30 : mu 58 30 = σ2 58 30 := u8 30 (by decide) (by decide) (by decide) (by decide)
    generalize hτ : mup mu 78 (σ2 58 30 - 1) 1 = τ2 at *
    have vb : ∀ i, i ≠ 78 → τ2 i = mu i := fun i h => by rw [← hτ, mup_obj h]
    have v58 : τ2 58 = mu 58 := vb 58 (by decide)
    have R0 : ∀ mg, Rn 18 yMo_generalize [.ref 58, vi (σ 58 35)] τ2 none mg → FG τ2 mg → Rn 20 yMo_typeOf [.ref 58, vi (p + 1 + ln A)] σ2 none mg := fun mg G fg => by
      have Rb := b_11 (d := 6) (p := p + 1 + ln A) (σ := σ2) (m := mu) (m2 := mg) ⟨by omega, by omega⟩ (by omega) (by omega) (by rw [n77, n83]; exact U) FF (by rw [n77, hτ]; exact G)
      exact t_bd (d := 6) (p := p + 1 + ln A) ⟨by omega, by omega⟩ (by rw [c1.1]; omega) (by rw [c1.1]; exact Rb) (by rw [fg.2 30 (by decide) (by decide) (by decide), v58, u30]; exact ⟨by omega, by omega⟩)
    have fτ : fT σ2 τ2 := by
      rw [← hτ]
      exact fT.tr (σ1 := mu) ⟨fun i h => by have := tP_no h; exact ub i (by omega) (by omega) (by omega) (by omega), fun k h => by have := tK_no h; exact u8 k (by omega) (by omega) (by omega) (by omega)⟩ (fT.mu rfl (by decide))
    have bad : ∀ mg, mg 58 44 = 1 → Rn 18 yMo_generalize [.ref 58, vi (σ 58 35)] τ2 none mg → FG τ2 mg → TZ σ p := fun mg i G fg => by
      refine ((tf_bad hq t2.2.2.2.1 (R0 mg G fg) i ?_ (fτ.tr fg.fT)).tr k2 f2).tr k1 f1
      rw [fg.2 43 (by decide) (by decide) (by decide), v58, u8 43 (by decide) (by decide) (by decide) (by decide)]; omega
    rcases out with ⟨o1, o2, o3, o4, o5⟩ | ⟨o1, o2⟩
    · -- made one
      obtain ⟨Hτ, eτ⟩ : MT τ2 ∧ mS τ2 = mS mu := o2.cg (vb 79 (by decide)) (vb 80 (by decide)) (vb 81 (by decide)) (vb 82 (by decide)) (by rw [v58])
      have UR : unR (mS σ2) (σ 58 35) a (mS mu) := ⟨o3, o4, o5⟩
      have TF := TR_fix2 (z := z) (S1 := nwS (mS σ)) (t := 0) t.2.2.1 (by decide) t.1.1 c0' rfl TA (o3 0) o5
      have tmτ : tmE τ2 ((z, σ 58 35) :: E) (1 :: F) := by
        refine ⟨by rw [v58, u30]; exact l32, ?_, ?_⟩
        · have q := t2.2.1.2.1
          refine ⟨?_, ?_, ?_, Or.inr rfl⟩
          · rw [vb 76 (by decide), ub 76 (by decide) (by decide) (by decide) (by decide)]; exact q.1
          · rw [vb 77 (by decide), ub 77 (by decide) (by decide) (by decide) (by decide)]; exact q.2.1
          · have lc : (((z, σ 58 35) :: E).length : Int) = E.length + 1 := by rw [List.length_cons]; omega
            rw [← hτ, show (E.length : Int) = σ2 58 30 - 1 by omega, mup_eq]
        · refine t2.2.1.2.2.mv (fun j _ h => ?_)
          have lc : (((z, σ 58 35) :: E).length : Int) = E.length + 1 := by rw [List.length_cons]; omega
          rw [vb 76 (by decide), ub 76 (by decide) (by decide) (by decide) (by decide), vb 77 (by decide), ub 77 (by decide) (by decide) (by decide) (by decide), ← hτ, mup_nk (by omega), ub 78 (by decide) (by decide) (by decide) (by decide)]
          exact ⟨rfl, rfl, rfl⟩
      have mnτ : mnM τ2 = mnF E F := by rw [tmτ.mn, mnF_1]
      have Nτ : nmM τ2 := by
        have := t2.nm (by omega)
        unfold nmM
        rw [v58, u30, vb 77 (by decide), ub 77 (by decide) (by decide) (by decide) (by decide), o4]; exact this
      obtain ⟨mg, G, fg, out⟩ := m_gen (d := 10) (n := σ 58 35) Hτ Nτ (by rw [v58, o4]; omega) (by rw [v58]; exact o1)
      have key : ∀ ρ s, VS (mS σ).1 (mS σ).2.1 ρ → (∀ q, PMs σ E F q → gw (ρ q) ≤ 80) → fxE z A true (Gam (mS σ) ρ E) s → ∃ ρ1, VS (mS mu).1 (mS mu).2.1 ρ1 ∧ (∀ q, PMs σ E F q ∨ PsA σ1 σ2 q → gw (ρ1 q) ≤ 80) ∧ Gam (mS σ) ρ1 E = Gam (mS σ) ρ E ∧ ρ1 (σ 58 35) = s := fun ρ s V sm y => NoM.nx t.2.2.1 t.1.1 TF (PMs.inC t) V sm y
      rcases out with ⟨p1, p2⟩ | ⟨p1, p2, p3⟩
      · refine Or.inr ⟨bad mg p1 G fg, fun ρ s V sm y => ?_⟩
        obtain ⟨-, ⟨a', y1⟩, -⟩ := y
        obtain ⟨ρ1, V1, s1, -, ea⟩ := key ρ a' V sm y1
        rw [eτ] at p2
        rcases p2 with p2 | ⟨k, h1, h2, h3⟩
        · have := p2 ρ1 V1
          rw [ea] at this
          have := tyE_w hA y1
          omega
        · have := h3 ρ1 V1
          have mm : mnM τ2 (τ2 77 k) := ⟨k, h1, h2, rfl⟩
          rw [mnτ] at mm
          have := s1 _ (Or.inl (Or.inr mm))
          omega
      · obtain ⟨v1, v2, v3⟩ := GO.gv p3 fg
        rw [eτ, mnτ] at v2 v3
        rw [eτ] at v1
        generalize hlev : (mS mg).2.2 = lev at *
        have gR : genR (mS mu) (mnF E F) (σ 58 35) lev := ⟨v2, v3⟩
        have hg : ∀ {ρ}, VS (mS mu).1 (mS mu).2.1 ρ → _ := fun {ρ} V => let_gam (z := z) t.2.2.1 (by decide) (Int.le_refl 0) t.1.1 TF v2 v3 V
        obtain ⟨μ1, Mi1⟩ := ms_min o2
        obtain ⟨⟨st, g0⟩, -⟩ := hg Mi1.1
        have I0 := t.2.2.1.up (by decide) t.1.1 st.2.1
        rw [← v1] at g0 I0
        have mg35 : mg 58 35 = σ2 58 35 := by rw [fg.2 35 (by decide) (by decide) (by decide), v58, o4]
        have mgi : ∀ i, i ≠ 58 → i ≠ 78 → i ≠ 80 → i ≠ 81 → i ≠ 86 → i ≠ 87 → mg i = σ2 i := fun i h1 h2 h3 h4 h5 h6 => (fg.1 i h1 h4 h5).trans ((vb i h2).trans (ub i h1 h3 h5 h6))
        have mg78 : mg 78 = (mup σ2 78 (σ2 58 30 - 1) 1) 78 := by
          rw [fg.1 78 (by decide) (by decide) (by decide), ← hτ]
          funext k
          by_cases h : k = σ2 58 30 - 1
          · rw [h, mup_eq, mup_eq]
          · rw [mup_nk h, mup_nk h, ub 78 (by decide) (by decide) (by decide) (by decide)]
        rcases rc_go (z := z) (n := σ 58 35) (hd := σ2 58 37 - 1) t2 I0 g0 (by omega) (by omega) (by omega) hq p2 p1 mg35 mgi mg78 (fun k h1 h2 h3 h4 => by rw [fg.2 k h2 h3 h4, v58]; exact u8 k h1 h2 h3 h4) (by rw [fg.2 37 (by decide) (by decide) (by decide), v58]; exact u37) (fτ.tr fg.fT) (R0 mg G fg) with ⟨σ3, k3, f3, t3, e3, nb, b83, b84, b85, e30, e37, e41, e43⟩ | ⟨z2, k, hk, wd⟩
        · rw [v1] at e3
          have s73 := f3.s7
          rcases pB (p + ln A + 2) (s + sn A) σ3 ((z, σ 58 35) :: E) (1 :: F) ((f1.tr (f2.tr f3)).ic CBb) ((f1.tr (f2.tr f3)).isn (show isN σ B (p + ln A + 2) (((z, σ 58 35) :: E).map Prod.fst) from NB)) (by rw [inE_cons]; exact cl.2) ⟨by omega, by omega, by omega⟩ ⟨by omega, by omega⟩ t3 ⟨by omega, by omega, by omega, by omega⟩ (by rw [e3]; exact rB _ _ _ _ RTA UR gR) with ⟨σ4, b, D4, k4⟩ | ⟨zz, no⟩
          · obtain ⟨f4, t4, b4, ⟨j30, j37, j41, j43⟩, top4, px4, TB, RTB⟩ := D4
            rw [e3, mnF_1] at TB
            rw [e3] at RTB
            have s74 := f4.s7
            have TT := TR_rec t.2.2.1 (by decide) (Int.le_refl 0) t.1.1 TF v2 v3 rfl TB
            have I4 := t.2.2.1.up (by decide) t.1.1 TT.1.2.1
            have b443 := b4.2.2.1.1
            have c2 := (f1.tr (f2.tr (f3.tr f4))).cel C2
            have ep : p + ln A + 2 + ln B = p + ln A + ln B + 2 := by omega
            obtain ⟨σ5, k5, f5, t5, e5, b5, i30, i37, i41, i43, i83, i85⟩ := en_go (p := p + ln A + 2 + ln B) (E1 := [(z, σ 58 35)]) (F1 := [1]) (E := E) (F := F) (c := 1) t4 rfl rfl I4 (by omega) (by omega) ⟨by omega, by omega, by omega⟩ (by rw [ep]; exact c2.1) (by rw [ep]; exact c2.2.1)
            have b12 := b1.tr (by omega) (by omega) (by omega) b2
            have bl3 : Blw σ σ3 := ⟨fun k h => by rw [b83]; exact b12.1 k h, fun k h => by rw [b84]; exact b12.2.1 k h, ⟨by omega, fun k h => by rw [b85]; exact b12.2.2.1.2 k h⟩, fun k h => by
              have q := nb k (by omega)
              have w := b12.2.2.2 k h
              exact ⟨q.1.trans w.1, q.2.1.trans w.2.1, q.2.2.trans w.2.2⟩⟩
            have bl4 : Blw σ σ4 := bl3.tr (by omega) (by omega) (by omega) b4
            have bl5 : Blw σ σ5 := bl4.tr (by omega) (by omega) (by omega) b5
            have ps : ∀ y, ((PsA σ1 σ2 y ∨ PsA σ3 σ4 y) ∨ y = b) ↔ PsA σ σ5 y := fun y => by
              have e12 : PsA σ σ3 = PsA σ1 σ2 := by unfold PsA; rw [e43, b85, h43]
              have e34 : PsA σ σ5 = PsA σ σ4 := by unfold PsA; rw [i43, i85]
              have q := psA_tr (σ := σ) (σ1 := σ3) (σ' := σ4) (by omega) b443 b4.2.2.1.2 (y := y)
              rw [e34, ← q, e12]
              constructor
              · rintro (h | h)
                · exact h
                · rw [h]; exact Or.inr px4
              · exact fun h => Or.inl h
            have eP : (fun y => (PsA σ1 σ2 y ∨ PsA σ3 σ4 y) ∨ y = b) = PsA σ σ5 := funext fun y => propext (ps y)
            rw [eP, ← e5] at TT
            refine Or.inl ⟨σ5, b, ⟨f1.tr (f2.tr (f3.tr (f4.tr f5))), t5, bl5, ⟨by omega, by omega, by omega, by rw [w0]; omega⟩, ?_, (ps b).mp (Or.inr rfl), TT, ?_⟩, fun o s' h => k1 o s' (k2 o s' (k3 o s' (by
              rw [show p + 1 + ln A + 1 = p + ln A + 2 by omega]
              exact k4 o s' (k5 o s' (by rw [show p + ln A + 2 + ln B + 1 = p + (ln A + ln B + 3) by omega]; rw [hl] at h; exact h)))))⟩
            · rw [i83, show σ 58 37 = σ3 58 37 by omega]; exact top4
            · rw [e5]
              exact ⟨mS σ2, a, mS mu, lev, RTA, UR, gR, RTB⟩
          · refine Or.inr ⟨((TZ.tr k3 f3 (by rw [show p + 1 + ln A + 1 = p + ln A + 2 by omega]; exact zz)).tr k2 f2).tr k1 f1, fun ρ s V sm y => ?_⟩
            obtain ⟨-, ⟨a', y1⟩, y2⟩ := y
            obtain ⟨ρ1, V1, s1, eG, -⟩ := key ρ a' V sm y1
            rw [e3] at no
            have e4 := (hg V1).2
            rw [eG] at e4
            have e4 : Gam ((mS mu).1, (mS mu).2.1, lev) ρ1 ((z, σ 58 35) :: E) = (z, fxE z A false (Gam (mS σ) ρ E)) :: Gam (mS σ) ρ E := e4
            refine no ρ1 s V1 (fun q hq => ?_) (by rw [e4]; exact y2)
            rcases hq with ⟨k, hk, e⟩ | h
            · rw [e43] at hk
              rw [b85] at e
              by_cases c : k < σ1 58 43
              · rw [b2.2.2.1.2 k c] at e
                rcases ps01 (Or.inl ⟨k, ⟨hk.1, c⟩, e⟩) with h | h
                · exact s1 q (Or.inl h)
                · exact s1 q (Or.inl (Or.inl ⟨k, by omega, by rw [e, b1.2.2.1.2 k (by omega)]⟩))
              · exact s1 q (Or.inr ⟨k, by omega, hk.2, e⟩)
            · rw [mnF_1] at h
              exact s1 q (Or.inl (Or.inr h))
        · refine Or.inr ⟨(z2.tr k2 f2).tr k1 f1, fun ρ s V sm y => ?_⟩
          obtain ⟨-, ⟨a', y1⟩, -⟩ := y
          obtain ⟨ρ1, V1, s1, -, -⟩ := key ρ a' V sm y1
          have := wd ρ1 (by rw [v1]; exact V1)
          by_cases c : k < σ1 58 43
          · have := s1 (σ2 85 k) (Or.inl (Or.inl ⟨k, by omega, by rw [b2.2.2.1.2 k c, b1.2.2.1.2 k (by omega)]⟩))
            omega
          · have := s1 (σ2 85 k) (Or.inr ⟨k, by omega, hk.2, rfl⟩)
            omega
    · obtain ⟨mg, G, fg, i⟩ := gen_ill (d := 10) (σ := τ2) (n := σ 58 35) (by rw [v58, u8 35 (by decide) (by decide) (by decide) (by decide)]; exact cc) (by rw [v58, u30]; omega) ⟨by omega, by omega⟩ (by rw [v58]; exact o1)
      refine Or.inr ⟨bad mg i G fg, fun ρ s V sm y => ?_⟩
      obtain ⟨-, ⟨a', y1⟩, -⟩ := y
      exact TR_fix_no (s := 0) (S1 := nwS (mS σ)) (t := 0) t.2.2.1 (by decide) t.1.1 c0' rfl hA TA o2 V y1
  · refine Or.inr ⟨zz.tr k1 f1, fun ρ s V sm y => ?_⟩
    obtain ⟨-, ⟨a', y1⟩, -⟩ := y
    have y1 : tyE A true ((z, is1 a') :: Gam (mS σ) ρ E) a' := y1
    obtain ⟨ρ', V', o', va, eG⟩ := TR_fun_no (z := z) (S1 := nwS (mS σ)) (t := 0) t.2.2.1 (by decide) t.1.1 c0' rfl a' V
    rw [e1] at no
    refine no ρ' a' V' (fun q hq => ?_) (by
      have eG : Gam (nwS (mS σ)) ρ' ((z, σ 58 35) :: E) = (z, is1 a') :: Gam (mS σ) ρ E := eG
      rw [eG]; exact y1)
    rcases ps01 hq with h | h
    · have := PMs.inC t q h
      rw [o' _ this.1 this.2]
      exact sm _ h
    · rw [h]
      have va : ρ' (σ 58 35) = a' := va
      rw [va]; exact tyE_w hA y1
end MRC
