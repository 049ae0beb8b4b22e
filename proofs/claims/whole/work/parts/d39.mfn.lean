/-! The model's types: functions. -/
section MFN
variable {σ σ1 σ2 τ m m5 : Mem} {z x n p q s a b l : Int} {E : List (Int × Int)} {F : List Int} {S S' : TS} {A B T : Tr} {M : Int → Prop}
theorem mnF_0 : mnF ((z, n) :: E) (0 :: F) = fun m => mnF E F m ∨ m = n := funext fun m => propext ⟨fun h => h.elim (fun h => Or.inr h.2) Or.inl, fun h => h.elim Or.inr (fun h => Or.inl ⟨rfl, h⟩)⟩
theorem mnF_1 : mnF ((z, n) :: E) (1 :: F) = mnF E F := funext fun m => propext ⟨fun h => h.elim (fun h => absurd h.1 (by decide)) (fun h => h), Or.inr⟩
theorem ad_old {t : Int × Int × Int} {lv : Int} {ρ : Int → GT} (h : VS (adT S t lv).1 (adT S t lv).2.1 ρ) (W : SO S) (hc : 0 ≤ S.2.1) : VS S.1 S.2.1 ρ := ((ad_V W hc).mp h).1
/-- an instruction after which all parts can still be short -/
theorem tf_ok2 (hp : 0 ≤ p ∧ p < σ 58 7 ∧ σ 58 7 ≤ 124) (hi : σ 58 44 = 0) (R : Rn 20 yMo_typeOf [.ref 58, vi p] σ none m) (H : MT m) (im : m 58 44 = 0) (P : inPt m) (k43 : 0 ≤ m 58 43 ∧ m 58 43 ≤ 260) (f : fT σ m) (sh : ∃ ρ, VS (mS m).1 (mS m).2.1 ρ ∧ ∀ k, 0 ≤ k → k < m 58 43 → gw (ρ (m 85 k)) ≤ 80) : ∃ σ', (∀ o s', tfL (p + 1) σ' o s' → tfL p σ o s') ∧ FX m σ' ∧ σ' 58 44 = 0 ∧ MT σ' ∧ mS σ' = mS m ∧ smP σ' := by
  rcases tf_ok hp hi R H im P k43 f with h | ⟨-, k, hk, wd⟩
  · exact h
  · obtain ⟨ρ, V, sm⟩ := sh
    have := wd ρ V
    have := sm k hk.1 hk.2
    omega
theorem TH.sh (t : TH σ E F) : ∃ ρ, MinV (mS σ).1 (mS σ).2.1 ρ ∧ ∀ k, 0 ≤ k → k < σ 58 43 → gw (ρ (σ 85 k)) ≤ 80 := by
  obtain ⟨μ, Mi⟩ := ms_min t.1
  exact ⟨μ, Mi, fun k k0 k1 => t.2.2.2.2.2 k k0 k1 μ Mi⟩
/-- a name with a new variable is bound -/
theorem bn_go (t : TH σ E F) (hr : σ 58 30 < 64 ∧ 0 ≤ σ 58 43 ∧ σ 58 43 ≤ 250) (hp : 0 ≤ p ∧ p < σ 58 7 ∧ σ 58 7 ≤ 124) (hk : σ 60 p = 6 ∨ σ 60 p = 19) (hz : σ 62 p = z) (gz : rg z) (hc : σ 58 35 + 1 ≤ 1300) : ∃ σ1, (∀ o s', tfL (p + 1) σ1 o s' → tfL p σ o s') ∧ fT σ σ1 ∧ TH σ1 ((z, σ 58 35) :: E) (0 :: F) ∧ mS σ1 = nwS (mS σ) ∧ Blw σ σ1 ∧ σ1 58 30 = σ 58 30 + 1 ∧ σ1 58 37 = σ 58 37 ∧ σ1 58 41 = σ 58 41 ∧ σ1 58 43 = σ 58 43 ∧ σ1 77 (σ 58 30) = σ 58 35 := by
  have c0 := t.1.2.1
  have l30 := t.2.1.1
  have Rb := b_6 (d := 6) (p := p) (x := σ 60 p) t.1 ⟨by omega, by omega⟩ hk (by rw [hz]; exact gz) ⟨by omega, by omega⟩ hc
  rw [hz] at Rb
  have R := t_bd (d := 6) (p := p) ⟨by omega, by omega⟩ (by omega) Rb (by rw [bdM_30, mkM_58 (by decide)]; exact ⟨by omega, by omega⟩)
  obtain ⟨-, H1, -⟩ := m_make (d := 0) t.1 (by omega) (k := 0) (a := -1) (b := 0) (Or.inl ⟨rfl, rfl, rfl⟩)
  have e1 : mS (mkM σ 0 (-1) 0) = nwS (mS σ) := mkM_S
  obtain ⟨Hm, em⟩ := bdM_mt (z := z) (l := σ 58 35) H1
  rw [e1] at em
  have n1 : nwT (mS σ) (0, -1, 0) := Or.inl ⟨rfl, by show (-1 : Int) < 0; decide⟩
  have st : TSt (mS σ) (nwS (mS σ)) (mnF E F) 0 := ad_S t.1.1 (by show 0 ≤ σ 58 35; omega) n1 (fun _ => by decide)
  have b1 : Blw σ (mkM σ 0 (-1) 0) := mkM.fk.bl
  have ks := (mkM.fk (σ := σ) (k := 0) (a := -1) (b := 0)).ks
  have f1 : fT σ (mkM σ 0 (-1) 0) := mkM.fk.fT
  have k8 : ∀ k, k ≠ 30 → bdM (mkM σ 0 (-1) 0) z (σ 58 35) 58 k = mkM σ 0 (-1) 0 58 k := fun k h => bdM_fx.2 k h
  have ob : ∀ i, i ≠ 58 → i ≠ 76 → i ≠ 77 → i ≠ 78 → bdM (mkM σ 0 (-1) 0) z (σ 58 35) i = mkM σ 0 (-1) 0 i := fun i h1 h2 h3 h4 => bdM_fx.1 i h1 h2 h3 h4
  generalize eM : bdM (mkM σ 0 (-1) 0) z (σ 58 35) = m at *
  have k43 : m 58 43 = σ 58 43 := (k8 43 (by decide)).trans ks.2.2.2
  have k35 : m 58 35 = σ 58 35 + 1 := (k8 35 (by decide)).trans mkM_c
  have e85 : m 85 = σ 85 := by rw [ob 85 (by decide) (by decide) (by decide) (by decide)]; exact mkM.fk.1 85 (by decide) (by decide) (by decide) (by decide) (by decide) (by decide) (by decide)
  have nm : ∀ i, m 76 i = (if i = σ 58 30 then z else σ 76 i) ∧ m 77 i = (if i = σ 58 30 then σ 58 35 else σ 77 i) ∧ m 78 i = if i = σ 58 30 then 0 else σ 78 i := fun i => by
    have q := bdM_r (σ := mkM σ 0 (-1) 0) (z := z) (l := σ 58 35) (i := i)
    rw [eM, ks.2.1] at q
    have o : ∀ j, j = 76 ∨ j = 77 ∨ j = 78 → mkM σ 0 (-1) 0 j = σ j := fun j hj => mkM.fk.1 j (by omega) (by omega) (by omega) (by omega) (by omega) (by omega) (by omega)
    rw [o 76 (by omega), o 77 (by omega), o 78 (by omega)] at q
    exact q
  have ipm : inPt m := fun k k0 k1 => by
    rw [e85, k35]
    have := t.2.2.2.2.1 k k0 (by omega)
    omega
  have fm : fT σ m := by rw [← eM]; exact f1.tr bdM.fT
  obtain ⟨μ, Mi, sm⟩ := t.sh
  obtain ⟨ρ', V', o', -⟩ := ad_x (lv := 0) t.1.1 (by show 0 ≤ σ 58 35; omega) n1 Mi.1 (gK 1) (Or.inl ⟨rfl, by show (-1 : Int) < 0; decide⟩)
  obtain ⟨σ1, k, FF, i1, Hs, es, sp⟩ := tf_ok2 hp t.2.2.2.1 R Hm ((k8 44 (by decide)).trans ((mkM_58 (by decide)).trans t.2.2.2.1)) ipm ⟨by omega, by omega⟩ fm ⟨ρ', by rw [em]; exact V', fun k k0 k1 => by
    have := t.2.2.2.2.1 k k0 (by omega)
    rw [e85, o' _ this.1 this.2]
    exact sm k k0 (by omega)⟩
  have bl : Blw σ m := ⟨fun j _ => by rw [ob 83 (by decide) (by decide) (by decide) (by decide)]; exact b1.1 j (by omega), fun j _ => by rw [ob 84 (by decide) (by decide) (by decide) (by decide)]; exact b1.2.1 j (by omega), ⟨by omega, fun j _ => by rw [e85]⟩, fun j h => by
    obtain ⟨q1, q2, q3⟩ := nm j
    rw [q1, q2, q3, if_neg (by omega), if_neg (by omega), if_neg (by omega)]
    exact ⟨rfl, rfl, rfl⟩⟩
  have bl1 : Blw σ σ1 := bl.cg (FF.1 83 (by decide) (by decide)) (FF.1 84 (by decide) (by decide)) (FF.1 85 (by decide) (by decide)) (FF.1 76 (by decide) (by decide)) (FF.1 77 (by decide) (by decide)) (FF.1 78 (by decide) (by decide)) (FF.2 43 (by decide) (by decide))
  have g30 : σ1 58 30 = σ 58 30 + 1 := by
    rw [FF.2 30 (by decide) (by decide), ← eM, bdM_30, mkM_58 (by decide)]
  have nm1 : σ1 76 (σ 58 30) = z ∧ σ1 77 (σ 58 30) = σ 58 35 ∧ σ1 78 (σ 58 30) = 0 := by
    obtain ⟨q1, q2, q3⟩ := nm (σ 58 30)
    rw [if_pos rfl] at q1 q2 q3
    rw [FF.1 76 (by decide) (by decide), FF.1 77 (by decide) (by decide), FF.1 78 (by decide) (by decide)]
    exact ⟨q1, q2, q3⟩
  have kf : (nwS (mS σ)).1 (σ 58 35) = (0, -1, 0) := ad_c
  have I1 : EnvI (nwS (mS σ)) 0 E (mnF E F) := t.2.2.1.up (by decide) t.1.1 st.2.1
  have I2 := I1.fn (z := z) (p := σ 58 35) ⟨by omega, by show σ 58 35 < σ 58 35 + 1; omega⟩ (lO_fr kf (if_pos rfl) (by decide))
  refine ⟨σ1, k, fm.tr FF.fT, ⟨Hs, ⟨?_, ?_, ?_⟩, ?_, i1, ?_, sp⟩, es.trans em, bl1, g30, ?_, ?_, ?_, nm1.2.1⟩
  · rw [g30, List.length_cons]; omega
  · rw [← l30]; exact ⟨nm1.1, nm1.2.1, nm1.2.2, Or.inl rfl⟩
  · exact t.2.1.2.mv (fun j _ h => bl1.2.2.2 j (by omega))
  · rw [es, em, mnF_0]; exact I2
  · intro j j0 j1
    rw [FF.2 43 (by decide) (by decide)] at j1
    rw [FF.1 85 (by decide) (by decide), FF.2 35 (by decide) (by decide)]
    exact ipm j j0 j1
  · rw [FF.2 37 (by decide) (by decide), k8 37 (by decide)]; exact ks.1
  · rw [FF.2 41 (by decide) (by decide), k8 41 (by decide)]; exact ks.2.2.1
  · rw [FF.2 43 (by decide) (by decide)]; exact k43
theorem inE_cons : inE ((z, n) :: E) = adde (inE E) z := by
  funext c
  show (decide (z = c) || inE E c) = _
  unfold adde
  by_cases h : z = c
  · subst h; simp
  · rw [decide_eq_false h]
    simp [Ne.symm h]
theorem PM_fun (hz : ltZ z) (wA : 1 ≤ rwl A) (pA : PMT A) : PMT (nd 12 z A nl nl) := by
  intro p s σ E F C N cl hp hs t r rm
  obtain ⟨C1, CA, C2⟩ : cell σ p 6 (p + ln A + 2) z ∧ isC σ A (p + 1) s ∧ cell σ (p + ln A + 1) 7 0 p := C
  have NA : isN σ A (p + 1) (z :: E.map Prod.fst) := N
  have cl : clo A (adde (inE E) z) = true := cl
  have hl : ln (nd 12 z A nl nl) = ln A + 2 := rfl
  have hsn : sn (nd 12 z A nl nl) = sn A + 0 + 0 := rfl
  have w0 : rwl (nd 12 z A nl nl) = 3 + rwl A := rfl
  obtain ⟨m1, rA, m2⟩ : (mS σ).2.1 + 1 ≤ 1300 ∧ rmC A 0 0 (nwS (mS σ)) ((z, (mS σ).2.1) :: E) (0 :: F) ∧ ∀ S2 b, RT A 0 (nwS (mS σ)) ((z, (mS σ).2.1) :: E) (0 :: F) S2 b → S2.2.1 + 1 ≤ 1300 := rm
  rw [hl] at hp
  rw [hsn] at hs
  have gA := ln_ge (T := A)
  have c0 := t.1.2.1
  have l30 := t.2.1.1
  have r0 := r
  rw [w0] at r
  obtain ⟨r1, r2, r3, r4⟩ := r
  have gz : rg z := by have h : 97 ≤ z ∧ z ≤ 122 := hz; exact ⟨by omega, by omega⟩
  obtain ⟨σ1, k1, f1, t1, e1, b1, h30, h37, h41, h43, h77⟩ := bn_go (p := p) t ⟨by omega, by omega, by omega⟩ ⟨hp.1, by omega, hp.2.2⟩ (Or.inl C1.1) C1.2.2 gz m1
  have s71 := f1.s7
  rcases pA (p + 1) s σ1 ((z, σ 58 35) :: E) (0 :: F) (f1.ic CA) (f1.isn (show isN σ A (p + 1) (((z, σ 58 35) :: E).map Prod.fst) from NA)) (by rw [inE_cons]; exact cl) ⟨by omega, by omega, by omega⟩ ⟨hs.1, by omega⟩ t1 ⟨by omega, by omega, by omega, by omega⟩ (by rw [e1]; exact rA) with ⟨σ2, b, D2, k2⟩ | ⟨zz, no⟩
  · obtain ⟨f2, t2, b2, ⟨d30, d37, d41, d43⟩, top2, px2, TA, RTA⟩ := D2
    rw [e1] at TA RTA
    have s72 := f2.s7
    have H2 := t2.1
    have cc := H2.2.1
    have l32 := t2.2.1.1
    have hc : σ2 58 35 + 1 ≤ 1300 := m2 _ _ RTA
    have n77 : σ2 77 (σ2 58 30 - 1) = σ 58 35 := by
      rw [show σ2 58 30 - 1 = σ 58 30 by omega, (b2.2.2.2 (σ 58 30) (by omega)).2.1]; exact h77
    have n83 : σ2 83 (σ2 58 37 - 1) = b := by rw [show σ2 58 37 - 1 = σ1 58 37 by omega]; exact top2
    have ib : 0 ≤ b ∧ b < σ2 58 35 := TA.2.1.1
    have in0 : (nwS (mS σ)).2.1 ≤ (mS σ2).2.1 := TA.1.2.1.1
    have in0 : σ 58 35 + 1 ≤ σ2 58 35 := in0
    have bb2 := b2.2.2.1.1
    have rm2 : rmS σ2 := ⟨by omega, by omega, by omega, by omega⟩
    have R := t_fun (d := 6) (p := p + 1 + ln A) (m := mup σ2 58 37 (σ2 58 37 - 1)) H2 ⟨by omega, by omega⟩ (by rw [show p + 1 + ln A = p + ln A + 1 by omega]; exact ((f1.tr f2).cel C2).1) rm2 (by omega) (by omega) hc (by rw [n77]; omega) (by rw [n83]; exact ib) rfl
    rw [n77, n83] at R
    obtain ⟨Hp, ep⟩ := p37 (z := σ2 58 37 - 1) H2
    have kp : (mup σ2 58 37 (σ2 58 37 - 1)) 58 35 = σ2 58 35 := mup_nk (by decide)
    obtain ⟨-, H4, -⟩ := m_make (d := 0) Hp (by omega) (k := 5) (a := σ 58 35) (b := b) (Or.inr (Or.inr ⟨rfl, by omega, by omega⟩))
    have e4 : mS (mkM (mup σ2 58 37 (σ2 58 37 - 1)) 5 (σ 58 35) b) = adT (mS σ2) (5, σ 58 35, b) (if b = 1 then 1000 else 0) := by rw [mkM_S, ep, if_pos rfl]
    have fk := mkM.fk (σ := mup σ2 58 37 (σ2 58 37 - 1)) (k := 5) (a := σ 58 35) (b := b)
    have ks := fk.ks
    have ob : ∀ i, i ≠ 58 → i ≠ 79 → i ≠ 80 → i ≠ 81 → i ≠ 82 → i ≠ 86 → i ≠ 87 → mkM (mup σ2 58 37 (σ2 58 37 - 1)) 5 (σ 58 35) b i = σ2 i := fun i h1 h2 h3 h4 h5 h6 h7 => (fk.1 i h1 h2 h3 h4 h5 h6 h7).trans (mup_obj h1)
    have k8 : ∀ k, k ≠ 35 → k ≠ 37 → mkM (mup σ2 58 37 (σ2 58 37 - 1)) 5 (σ 58 35) b 58 k = σ2 58 k := fun k h1 h2 => (mkM_58 h1).trans (mup_nk h2)
    have ks37 : mkM (mup σ2 58 37 (σ2 58 37 - 1)) 5 (σ 58 35) b 58 37 = σ 58 37 := by rw [ks.1, mup_eq]; omega
    generalize eM : mkM (mup σ2 58 37 (σ2 58 37 - 1)) 5 (σ 58 35) b = m5 at *
    have b12 := b1.tr (by omega) (by omega) (by omega) b2
    have k43 : m5 58 43 = σ2 58 43 := k8 43 (by decide) (by decide)
    have bl5 : Blw σ m5 := b12.cg (ob 83 (by decide) (by decide) (by decide) (by decide) (by decide) (by decide) (by decide)) (ob 84 (by decide) (by decide) (by decide) (by decide) (by decide) (by decide) (by decide)) (ob 85 (by decide) (by decide) (by decide) (by decide) (by decide) (by decide) (by decide)) (ob 76 (by decide) (by decide) (by decide) (by decide) (by decide) (by decide) (by decide)) (ob 77 (by decide) (by decide) (by decide) (by decide) (by decide) (by decide) (by decide)) (ob 78 (by decide) (by decide) (by decide) (by decide) (by decide) (by decide) (by decide)) k43
    have o5 : ∀ i, i ≠ 58 → mup (puM m5 (σ2 58 35)) 58 30 (σ2 58 30 - 1) i = puM m5 (σ2 58 35) i := fun i h => mup_obj h
    have o8 : ∀ k, k ≠ 30 → mup (puM m5 (σ2 58 35)) 58 30 (σ2 58 30 - 1) 58 k = puM m5 (σ2 58 35) 58 k := fun k h => mup_nk h
    have p43 : puM m5 (σ2 58 35) 58 43 = σ2 58 43 + 1 := by rw [puM_43, k43]
    obtain ⟨Hq, eq⟩ := puM_mt (x := σ2 58 35) H4
    obtain ⟨Hm, em⟩ : MT (mup (puM m5 (σ2 58 35)) 58 30 (σ2 58 30 - 1)) ∧ _ := Hq.cg (o5 79 (by decide)) (o5 80 (by decide)) (o5 81 (by decide)) (o5 82 (by decide)) (o8 35 (by decide))
    rw [eq, e4] at em
    have hq : 0 ≤ p + 1 + ln A ∧ p + 1 + ln A < σ2 58 7 ∧ σ2 58 7 ≤ 124 := ⟨by omega, by omega, by omega⟩
    have bb := b12.2.2.1.1
    have e85 : ∀ k, k < σ2 58 43 → puM m5 (σ2 58 35) 85 k = σ2 85 k := fun k h => by rw [puM_85, if_neg (by omega), ob 85 (by decide) (by decide) (by decide) (by decide) (by decide) (by decide) (by decide)]
    have blm : Blw σ (mup (puM m5 (σ2 58 35)) 58 30 (σ2 58 30 - 1)) := by
      refine ⟨fun k h => ?_, fun k h => ?_, ⟨by rw [o8 43 (by decide)]; omega, fun k h => ?_⟩, fun k h => ?_⟩
      · rw [o5 83 (by decide), puM_83, if_neg (by omega)]; exact bl5.1 k h
      · rw [o5 84 (by decide), puM_fx.1 84 (by decide) (by decide) (by decide)]; exact bl5.2.1 k h
      · rw [o5 85 (by decide), e85 k (by omega)]; exact b12.2.2.1.2 k h
      · rw [o5 76 (by decide), o5 77 (by decide), o5 78 (by decide), puM_fx.1 76 (by decide) (by decide) (by decide), puM_fx.1 77 (by decide) (by decide) (by decide), puM_fx.1 78 (by decide) (by decide) (by decide)]; exact bl5.2.2.2 k h
    have ps1 : ∀ y, PsA σ σ2 y ↔ PsA σ1 σ2 y := fun y => by unfold PsA; rw [h43]
    have fm : fT σ2 (mup (puM m5 (σ2 58 35)) 58 30 (σ2 58 30 - 1)) := by
      refine fT.tr (σ1 := m5) ⟨fun i h => ?_, fun k h => ?_⟩ (puM.fT.tr (fT.m8 rfl))
      · have := tP_no h; exact ob i (by omega) (by omega) (by omega) (by omega) (by omega) (by omega) (by omega)
      · have := tK_no h; exact k8 k (by omega) (by omega)
    refine td_fin (P := fun y => PsA σ1 σ2 y ∨ y = σ2 58 35) t r0 (by omega) ⟨hq.1, by rw [hl]; omega, hq.2⟩ t2.2.2.2.1 R (fun o s' h => k1 o s' (k2 o s' h)) (f1.tr f2) fm Hm ?_ blm ?_ ?_ ?_ ?_ ?_ ?_ (fun y => ?_) (Or.inr rfl) (fun sx => ?_)
    · rw [o8 44 (by decide), puM_fx.2 44 (by decide) (by decide), k8 44 (by decide) (by decide)]; exact t2.2.2.2.1
    · rw [mup_eq]; omega
    · rw [o8 37 (by decide), puM_37, ks37]
    · rw [o8 41 (by decide), puM_fx.2 41 (by decide) (by decide), k8 41 (by decide) (by decide)]; omega
    · rw [o8 43 (by decide), p43, w0]; omega
    · rw [o5 83 (by decide), puM_83, if_pos ks37.symm]
    · rw [em]
      rw [mnF_0] at TA
      exact TR_fun (S1 := nwS (mS σ)) t.2.2.1 (by decide) t.1.1 (by show 0 ≤ σ 58 35; omega) rfl TA rfl
    · have q1 : y = σ2 58 35 ↔ PsA σ2 (mup (puM m5 (σ2 58 35)) 58 30 (σ2 58 30 - 1)) y := psA_1 (by rw [o8 43 (by decide), p43]) (by rw [o5 85 (by decide), puM_85, if_pos k43.symm])
      rw [q1, ← ps1]
      exact psA_tr bb (by rw [o8 43 (by decide), p43]; omega) (fun k h => by rw [o5 85 (by decide)]; exact e85 k h)
    · rw [em] at sx ⊢
      exact ⟨mS σ2, b, _, RTA, rfl, rfl, sx⟩
  · refine Or.inr ⟨zz.tr k1 f1, fun ρ s V sm y => ?_⟩
    have wid := y.1 (by decide) rfl
    obtain ⟨-, a, b, e, y2⟩ := y
    obtain ⟨ρ', V', o', va, eG⟩ := TR_fun_no (z := z) (S1 := nwS (mS σ)) (t := 0) t.2.2.1 (by decide) t.1.1 (by show 0 ≤ σ 58 35; omega) rfl a V
    rw [e1] at no
    refine no ρ' b V' (fun q hq => ?_) (by
      have eG : Gam (nwS (mS σ)) ρ' ((z, σ 58 35) :: E) = (z, is1 a) :: Gam (mS σ) ρ E := eG
      rw [eG]; exact y2)
    have ga : gw a ≤ 80 := by
      rw [e] at wid
      have wid : 3 + gw a + gw b ≤ 80 := wid
      have := gw_ge (t := b)
      omega
    rcases pms_1 b1 hq with h | h
    · rcases h with ⟨k, hk, e⟩ | h
      · have := t.2.2.2.2.1 k hk.1 hk.2
        rw [e, o' _ this.1 this.2]
        exact sm _ (Or.inl ⟨k, hk, rfl⟩)
      · rw [mnF_0] at h
        rcases h with h | h
        · rw [o' q (t.2.2.1.1 q h).1 (t.2.2.1.1 q h).2]
          exact sm _ (Or.inr h)
        · rw [h]
          have va : ρ' (σ 58 35) = a := va
          rw [va]; exact ga
    · obtain ⟨i, i0, i1, -⟩ := h
      omega
end MFN
