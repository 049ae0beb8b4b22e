/-! The model's types: a choice is opened; a part is made one with what comes out. -/
section MOC
variable {σ σ1 σ2 τ m mi : Mem} {d : Nat} {z x n p q s a b l r t0 : Int} {E : List (Int × Int)} {F : List Int} {S S' : TS} {A B T : Tr} {M : Int → Prop}
theorem b_147i (hx : rg x) (hl : 0 ≤ m 58 41 ∧ m 58 41 + 1 < 60) (h0 : 0 ≤ m 58 35) (hc : m 58 35 + 1 ≤ 1300) : B_Mo_bindingType_147 (d + 9) x m none (lkM m x) := by
  have k35 : (mup m 84 (m 58 41) x) 58 35 = m 58 35 := mup_ne (by decide)
  have k41 : (mkM (mup m 84 (m 58 41) x) 0 (-1) 0) 58 41 = m 58 41 := by rw [mkM_58 (by decide), mup_ne (by decide)]
  have R : Rn (d + 12) yMo_fresh [.ref 58] (mup m 84 (m 58 41) x) (some ((mup m 84 (m 58 41) x) 58 35)) (mkM (mup m 84 (m 58 41) x) 0 (-1) 0) := M_Mo_fresh (d := d + 8) ⟨_, _, r_make (d := d + 7) (by omega) (by omega) (rgk rfl) (rgk rfl) (rgk rfl), rfl, rfl⟩
  rw [k35] at R
  exact ⟨⟨by omega, by omega⟩, _, _, R, ⟨by omega, by omega⟩, by rw [k41]; exact ⟨by omega, by omega⟩, rfl, by rw [k41]; rfl⟩
theorem lkM_k {k : Int} (h1 : k ≠ 35) (h2 : k ≠ 41) : lkM m x 58 k = m 58 k := by unfold lkM; rw [mup_nk h2, mup_ne (by decide), mkM_58 h1, mup_ne (by decide)]
theorem lkM_41 : lkM m x 58 41 = m 58 41 + 2 := mup_eq
theorem lkM_i {i : Nat} (h1 : i ≠ 58) (h2 : i ≠ 79) (h3 : i ≠ 80) (h4 : i ≠ 81) (h5 : i ≠ 82) (h6 : i ≠ 84) : lkM m x i = m i := by
  unfold lkM mkM
  rw [mup_obj h1, mup_obj h6, mup_obj h1, mup_obj h5, mup_obj h4, mup_obj h3, mup_obj h2, mup_obj h6]
theorem lkM_84 : (∀ k, k < m 58 41 → lkM m x 84 k = m 84 k) ∧ lkM m x 84 (m 58 41) = x ∧ lkM m x 84 (m 58 41 + 1) = m 58 35 := by
  have e : lkM m x 84 = (mup (mup m 84 (m 58 41) x) 84 (m 58 41 + 1) (m 58 35)) 84 := by
    funext k
    unfold lkM
    rw [mup_ne (by decide)]
    by_cases h : k = m 58 41 + 1
    · rw [h, mup_eq, mup_eq]
    · rw [mup_nk h, mup_nk h]
      unfold mkM
      rw [mup_ne (by decide), mup_ne (by decide), mup_ne (by decide), mup_ne (by decide), mup_ne (by decide)]
  rw [e]
  exact ⟨fun k h => by rw [mup_nk (by omega), mup_nk (by omega)], by rw [mup_nk (by omega), mup_eq], mup_eq⟩
theorem lkM_mt (H : MT m) (hc : m 58 35 + 1 ≤ 1300) : MT (lkM m x) ∧ mS (lkM m x) = nwS (mS m) ∧ lkM m x 58 35 = m 58 35 + 1 := by
  obtain ⟨H1, e1⟩ : MT (mup m 84 (m 58 41) x) ∧ mS (mup m 84 (m 58 41) x) = mS m := H.cg (mup_obj (by decide)) (mup_obj (by decide)) (mup_obj (by decide)) (mup_obj (by decide)) (mup_ne (by decide))
  have k35 : (mup m 84 (m 58 41) x) 58 35 = m 58 35 := mup_ne (by decide)
  have c0 := H.2.1
  obtain ⟨-, H2, -⟩ := m_make (d := 0) H1 (by omega) (k := 0) (a := -1) (b := 0) (Or.inl ⟨rfl, rfl, rfl⟩)
  have e2 : mS (mkM (mup m 84 (m 58 41) x) 0 (-1) 0) = nwS (mS m) := by rw [← e1]; exact mkM_S
  have q35 : lkM m x 58 35 = (mkM (mup m 84 (m 58 41) x) 0 (-1) 0) 58 35 := by unfold lkM; rw [mup_nk (by decide), mup_ne (by decide)]
  obtain ⟨H3, e3⟩ : MT (lkM m x) ∧ mS (lkM m x) = mS (mkM (mup m 84 (m 58 41) x) 0 (-1) 0) := H2.cg (by unfold lkM; rw [mup_obj (by decide), mup_obj (by decide)]) (by unfold lkM; rw [mup_obj (by decide), mup_obj (by decide)]) (by unfold lkM; rw [mup_obj (by decide), mup_obj (by decide)]) (by unfold lkM; rw [mup_obj (by decide), mup_obj (by decide)]) q35
  exact ⟨H3, e3.trans e2, by rw [q35, mkM_c, k35]⟩
theorem nwS_st (W : SO S) (hc : 0 ≤ S.2.1) : TSt S (nwS S) M 0 := ad_S W hc (Or.inl ⟨rfl, by show (-1 : Int) < 0; decide⟩) (fun _ => by decide)
/-- what is looked at is kept, with a new variable for what comes out -/
theorem op_go (t : TH σ E F) (Hi : MT mi) (im : mi 58 44 = 0) (c35 : mi 58 35 = σ 58 35) (og : ∀ i, i ≠ 58 → i ≠ 80 → i ≠ 86 → i ≠ 87 → mi i = σ i) (o8 : ∀ k, k ≠ 37 → k ≠ 38 → k ≠ 44 → k ≠ 45 → mi 58 k = σ 58 k) (o37 : mi 58 37 = σ 58 37 - 1) (hI : EnvI (mS mi) 0 E (mnF E F)) (hq : 0 ≤ q ∧ q < σ 58 7 ∧ σ 58 7 ≤ 124) (h41 : 0 ≤ σ 58 41 ∧ σ 58 41 + 1 < 60) (h43 : 0 ≤ σ 58 43 ∧ σ 58 43 ≤ 250) (hc : σ 58 35 + 1 ≤ 1300) (R : Rn 20 yMo_typeOf [.ref 58, vi q] σ none (lkM mi a)) : (∃ σ', (∀ o s', tfL (q + 1) σ' o s' → tfL q σ o s') ∧ fT σ σ' ∧ TH σ' E F ∧ mS σ' = nwS (mS mi) ∧ (σ' 83 = σ 83 ∧ (∀ k, k < σ 58 41 → σ' 84 k = σ 84 k) ∧ σ' 84 (σ 58 41) = a ∧ σ' 84 (σ 58 41 + 1) = σ 58 35 ∧ σ' 85 = σ 85 ∧ σ' 76 = σ 76 ∧ σ' 77 = σ 77 ∧ σ' 78 = σ 78) ∧ σ' 58 30 = σ 58 30 ∧ σ' 58 37 = σ 58 37 - 1 ∧ σ' 58 41 = σ 58 41 + 2 ∧ σ' 58 43 = σ 58 43) ∨ (TZ σ q ∧ ∀ ρ, VS (mS mi).1 (mS mi).2.1 ρ → (∀ k, 0 ≤ k → k < σ 58 43 → gw (ρ (σ 85 k)) ≤ 80) → False) := by
  have c0 := t.1.2.1
  obtain ⟨Hm, em, m35⟩ := lkM_mt (x := a) Hi (by omega)
  have i41 := o8 41 (by decide) (by decide) (by decide) (by decide)
  have i43 := o8 43 (by decide) (by decide) (by decide) (by decide)
  have n41 : lkM mi a 58 41 = σ 58 41 + 2 := by rw [lkM_41, i41]
  have n84 := lkM_84 (m := mi) (x := a)
  rw [i41, og 84 (by decide) (by decide) (by decide) (by decide), c35] at n84
  have n8 : ∀ k, k ≠ 35 → k ≠ 37 → k ≠ 38 → k ≠ 41 → k ≠ 44 → k ≠ 45 → lkM mi a 58 k = σ 58 k := fun k h1 h2 h3 h4 h5 h6 => (lkM_k h1 h4).trans (o8 k h2 h3 h5 h6)
  have n37 : lkM mi a 58 37 = σ 58 37 - 1 := (lkM_k (by decide) (by decide)).trans o37
  have n44 : lkM mi a 58 44 = 0 := (lkM_k (by decide) (by decide)).trans im
  have ni : ∀ i, i ≠ 58 → i ≠ 79 → i ≠ 80 → i ≠ 81 → i ≠ 82 → i ≠ 84 → i ≠ 86 → i ≠ 87 → lkM mi a i = σ i := fun i h1 h2 h3 h4 h5 h6 h7 h8 => (lkM_i h1 h2 h3 h4 h5 h6).trans (og i h1 h3 h7 h8)
  generalize lkM mi a = m2 at *
  have e85 : m2 85 = σ 85 := ni 85 (by decide) (by decide) (by decide) (by decide) (by decide) (by decide) (by decide) (by decide)
  have k43 : m2 58 43 = σ 58 43 := n8 43 (by decide) (by decide) (by decide) (by decide) (by decide) (by decide)
  have ip : inPt m2 := fun k k0 k1 => by
    rw [e85, m35, c35]
    have := t.2.2.2.2.1 k k0 (by omega)
    omega
  have fm : fT σ m2 := ⟨fun i h => by have := tP_no h; exact ni i (by omega) (by omega) (by omega) (by omega) (by omega) (by omega) (by omega) (by omega), fun k h => by have := tK_no h; exact n8 k (by omega) (by omega) (by omega) (by omega) (by omega) (by omega)⟩
  rcases tf_ok hq t.2.2.2.1 R Hm n44 ip (by omega) fm with ⟨σ', k, FF, i1, Hs, es, sp⟩ | ⟨z1, k, hk, wd⟩
  · have g8 : ∀ k, k ≠ 44 → k ≠ 45 → σ' 58 k = m2 58 k := fun k h1 h2 => FF.2 k h1 h2
    have gi : ∀ i, i ≠ 58 → i ≠ 79 → i ≠ 80 → i ≠ 81 → i ≠ 82 → i ≠ 84 → i ≠ 86 → i ≠ 87 → σ' i = σ i := fun i h1 h2 h3 h4 h5 h6 h7 h8 => (FF.1 i h1 h7).trans (ni i h1 h2 h3 h4 h5 h6 h7 h8)
    have g84 : σ' 84 = m2 84 := FF.1 84 (by decide) (by decide)
    have g76 := gi 76 (by decide) (by decide) (by decide) (by decide) (by decide) (by decide) (by decide) (by decide)
    have g77 := gi 77 (by decide) (by decide) (by decide) (by decide) (by decide) (by decide) (by decide) (by decide)
    have g78 := gi 78 (by decide) (by decide) (by decide) (by decide) (by decide) (by decide) (by decide) (by decide)
    have g30 : σ' 58 30 = σ 58 30 := (g8 30 (by decide) (by decide)).trans (n8 30 (by decide) (by decide) (by decide) (by decide) (by decide) (by decide))
    refine Or.inl ⟨σ', k, fm.tr FF.fT, ⟨Hs, ⟨g30.trans t.2.1.1, t.2.1.2.mv (fun j _ _ => by rw [g76, g77, g78]; exact ⟨rfl, rfl, rfl⟩)⟩, ?_, i1, ?_, sp⟩, es.trans em, ⟨gi 83 (by decide) (by decide) (by decide) (by decide) (by decide) (by decide) (by decide) (by decide), by rw [g84]; exact n84.1, by rw [g84]; exact n84.2.1, by rw [g84]; exact n84.2.2, gi 85 (by decide) (by decide) (by decide) (by decide) (by decide) (by decide) (by decide) (by decide), g76, g77, g78⟩, g30, (g8 37 (by decide) (by decide)).trans n37, (g8 41 (by decide) (by decide)).trans n41, (g8 43 (by decide) (by decide)).trans k43⟩
    · rw [es, em]
      exact hI.up (by decide) Hi.1 (nwS_st Hi.1 (by show 0 ≤ mi 58 35; omega)).2.1
    · intro j j0 j1
      rw [g8 43 (by decide) (by decide)] at j1
      rw [FF.1 85 (by decide) (by decide), g8 35 (by decide) (by decide)]; exact ip j j0 j1
  · refine Or.inr ⟨z1, fun ρ V sm => ?_⟩
    obtain ⟨ρ', V', o', -⟩ := ad_x (lv := 0) Hi.1 (by show 0 ≤ mi 58 35; omega) (Or.inl ⟨rfl, by show (-1 : Int) < 0; decide⟩ : nwT (mS mi) (0, -1, 0)) V (gK 1) (Or.inl ⟨rfl, by show (-1 : Int) < 0; decide⟩)
    have q1 := wd ρ' (by rw [em]; exact V')
    have q2 := t.2.2.2.2.1 k hk.1 (by omega)
    have q3 := sm k hk.1 (by omega)
    rw [e85, o' _ q2.1 (by show _ < mi 58 35; omega)] at q1
    omega
/-- a part is made one with what comes out -/
theorem cl_go (t : TH σ E F) (hI : ∀ S', unR (mS σ) r b S' → EnvI S' 0 E (mnF E F)) (hq : 0 ≤ q ∧ q < σ 58 7 ∧ σ 58 7 ≤ 124) (hk : σ 60 q = 14) (h41 : 1 ≤ σ 58 41 ∧ σ 58 41 ≤ 60) (h37 : 1 ≤ σ 58 37 ∧ σ 58 37 ≤ 120) (h30 : σ 58 30 ≤ 64) (h43 : 0 ≤ σ 58 43 ∧ σ 58 43 ≤ 250) (er : σ 84 (σ 58 41 - 1) = r) (eb : σ 83 (σ 58 37 - 1) = b) (ir : 0 ≤ r ∧ r < σ 58 35) (ib : 0 ≤ b ∧ b < σ 58 35) (lr : lO (mS σ) 0 r) (lb : lO (mS σ) 0 b) : (∃ σ', (∀ o s', tfL (q + 1) σ' o s' → tfL q σ o s') ∧ fT σ σ' ∧ TH σ' E F ∧ unR (mS σ) r b (mS σ') ∧ (σ' 83 = σ 83 ∧ σ' 84 = σ 84 ∧ σ' 85 = σ 85 ∧ σ' 76 = σ 76 ∧ σ' 77 = σ 77 ∧ σ' 78 = σ 78) ∧ σ' 58 30 = σ 58 30 ∧ σ' 58 37 = σ 58 37 - 1 ∧ σ' 58 41 = σ 58 41 ∧ σ' 58 43 = σ 58 43) ∨ (TZ σ q ∧ ∀ ρ, VS (mS σ).1 (mS σ).2.1 ρ → ρ r = ρ b → gw (ρ r) ≤ 80 → (∀ k, 0 ≤ k → k < σ 58 43 → gw (ρ (σ 85 k)) ≤ 80) → False) := by
  have c0 := t.1.2.1
  have l30 := t.2.1.1
  obtain ⟨Hp, ep⟩ := p37 (z := σ 58 37 - 1) t.1
  have k35 : (mup σ 58 37 (σ 58 37 - 1)) 58 35 = σ 58 35 := mup_nk (by decide)
  obtain ⟨m, U, FF, out⟩ := s_munify (d := 7) (a := r) (b := b) Hp ((mup_nk (by decide)).trans t.2.2.2.1) (by rw [k35]; exact ir) (by rw [k35]; exact ib) (by rw [ep]; exact lr) (by rw [ep]; exact lb)
  rw [ep, k35] at out
  have kk : ∀ k, k ≠ 37 → k ≠ 38 → k ≠ 44 → k ≠ 45 → m 58 k = σ 58 k := fun k h1 h2 h3 h4 => (FF.2 k h3 h4 h2).trans (mup_nk h1)
  have ob : ∀ i, i ≠ 58 → i ≠ 80 → i ≠ 86 → i ≠ 87 → m i = σ i := fun i h1 h2 h3 h4 => (FF.1 i h1 h2 h3 h4).trans (mup_obj h1)
  have m37 : m 58 37 = σ 58 37 - 1 := (FF.2 37 (by decide) (by decide) (by decide)).trans mup_eq
  have fm : fT σ m := ⟨fun i h => by have := tP_no h; exact ob i (by omega) (by omega) (by omega) (by omega), fun k h => by have := tK_no h; exact kk k (by omega) (by omega) (by omega) (by omega)⟩
  have Rb := b_14 (d := 6) (p := q) (m := m) ⟨by omega, by omega⟩ h37 h41 (by rw [er, eb]; exact U)
  have R := t_bd (d := 6) (p := q) (σ := σ) (m := m) ⟨by omega, by omega⟩ (by rw [hk]; omega) (by rw [hk]; exact Rb) (by rw [kk 30 (by decide) (by decide) (by decide) (by decide)]; exact ⟨by omega, by omega⟩)
  have k43 := kk 43 (by decide) (by decide) (by decide) (by decide)
  have e85 := ob 85 (by decide) (by decide) (by decide) (by decide)
  rcases out with ⟨o1, o2, o3, o4, o5⟩ | ⟨o1, o2⟩
  · have ip : inPt m := fun k k0 k1 => by
      rw [e85, o4]; exact t.2.2.2.2.1 k k0 (by omega)
    rcases tf_ok hq t.2.2.2.1 R o2 o1 ip (by omega) fm with ⟨σ', k, F2, i1, Hs, es, sp⟩ | ⟨z1, k, hk, wd⟩
    · have g8 : ∀ k, k ≠ 37 → k ≠ 38 → k ≠ 44 → k ≠ 45 → σ' 58 k = σ 58 k := fun k h1 h2 h3 h4 => (F2.2 k h3 h4).trans (kk k h1 h2 h3 h4)
      have gi : ∀ i, i ≠ 58 → i ≠ 80 → i ≠ 86 → i ≠ 87 → σ' i = σ i := fun i h1 h2 h3 h4 => (F2.1 i h1 h3).trans (ob i h1 h2 h3 h4)
      have UR : unR (mS σ) r b (mS m) := ⟨o3, o4, o5⟩
      have g76 := gi 76 (by decide) (by decide) (by decide) (by decide)
      have g77 := gi 77 (by decide) (by decide) (by decide) (by decide)
      have g78 := gi 78 (by decide) (by decide) (by decide) (by decide)
      have g30 := g8 30 (by decide) (by decide) (by decide) (by decide)
      refine Or.inl ⟨σ', k, fm.tr F2.fT, ⟨Hs, ⟨g30.trans l30, t.2.1.2.mv (fun j _ _ => by rw [g76, g77, g78]; exact ⟨rfl, rfl, rfl⟩)⟩, by rw [es]; exact hI _ UR, i1, ?_, sp⟩, by rw [es]; exact UR, ⟨gi 83 (by decide) (by decide) (by decide) (by decide), gi 84 (by decide) (by decide) (by decide) (by decide), gi 85 (by decide) (by decide) (by decide) (by decide), g76, g77, g78⟩, g30, (F2.2 37 (by decide) (by decide)).trans m37, g8 41 (by decide) (by decide) (by decide) (by decide), g8 43 (by decide) (by decide) (by decide) (by decide)⟩
      intro j j0 j1
      rw [g8 43 (by decide) (by decide) (by decide) (by decide)] at j1
      rw [gi 85 (by decide) (by decide) (by decide) (by decide), g8 35 (by decide) (by decide) (by decide) (by decide)]; exact t.2.2.2.2.1 j j0 j1
    · refine Or.inr ⟨z1, fun ρ V e _ sm => ?_⟩
      have q1 := wd ρ ((o5 ρ).mpr ⟨V, e⟩)
      rw [e85] at q1
      have := sm k hk.1 (by omega)
      omega
  · exact Or.inr ⟨tf_bad hq t.2.2.2.1 R o1 (by omega) fm, fun ρ V e w _ => o2 ρ V e w⟩
end MOC
