/-! The class's machine: its loop. -/
section CLOOP
variable {σ0 : Mem} {d : Nat} {nn : Int} {T : Tr}
theorem c_go (g : pg8 σ0) (pp : PP (shf σ0)) (SF : sfR T) (hn : 0 ≤ nn ∧ nn ≤ 100) : ∀ (F : Nat) (S : WkS) (k s a i : Int) (h : mHp) (σ : Mem), wkI T S → (∃ n, cRel σ0 n h σ S) → σ 54 7 = 1 → σ 54 9 = s → σ 54 10 = a → (0 ≤ s ∧ s ≤ 500) → (0 ≤ a ∧ a ≤ 1000) → (0 ≤ k ∧ k ≤ nn) → (wkZ S : Int) + 641 * (500 - s) ≤ F → (0 ≤ i ∧ i + F ≤ 900000) → (h.1 : Int) + wkQ S + 258 * (1000 - a) ≤ 2000000 →
    ∃ o e h' σ' c, goS F nn k s a S o e ∧ Lh (d + 22) yMc_go 4 [(0, .ref 54), (1, vi nn), (2, vi k), (3, vi i)] [] h σ (.inl (some (vi o.1))) h' σ' ∧ frGo c h h' σ σ' ∧ (c : Int) + cQe e ≤ wkQ S + 258 * (o.1 - k) ∧ (σ' 54 9 = o.2.1 ∧ σ' 54 10 = o.2.2) ∧ (o.2.1 - s = o.1 - k ∧ o.2.2 - a = o.1 - k) ∧ (k ≤ o.1 ∧ o.1 ≤ nn ∧ o.2.1 ≤ 500 ∧ o.2.2 ≤ 1000) ∧ cEnd T σ0 (wkZ S + 641 * (500 - s)) h σ h' σ' o.2.1 e := by
  intro F
  induction F with
  | zero =>
    intro S k s a i h σ I R e7 e9 e10 hs ha hk hF
    have := wkZ_pos (S := S)
    omega
  | succ F ih =>
    intro S k s a i h σ I R e7 e9 e10 hs ha hk hF hi hq
    obtain ⟨n, R⟩ := R
    have gn : rg nn := by unfold rg; omega
    have gk : rg k := by unfold rg; omega
    have gk1 : rg (k + 1) := by unfold rg; omega
    have gi : rg i := by unfold rg; omega
    have gi1 : rg (i + 1) := by unfold rg; omega
    have gs : rg s := by unfold rg; omega
    have gs1 : rg (s + 1) := by unfold rg; omega
    have ga : rg a := by unfold rg; omega
    have ga1 : rg (a + 1) := by unfold rg; omega
    have hi1 : ¬ i ≥ 1000000 := by omega
    have hj1 : i + 1 < 1000000 := by omega
    have g1 : rg (1 : Int) := rgk rfl
    by_cases h2 : S.1 = 2
    · have e4 : σ 54 4 = 2 := by
        obtain ⟨m, N, cx, ρ, vs, fs⟩ := S
        have h2 : m = 2 := h2
        subst h2
        obtain ⟨hl, x, R⟩ := R
        rw [if_neg (by decide)] at R
        obtain ⟨v, vs', -, -, -, q, -⟩ := R
        rw [if_neg (by decide)] at q
        exact q.1
      by_cases q1 : nn ≤ k
      · refine ⟨_, _, h, σ, 0, go_2a h2 q1, K_Mc_go_4 gn gk gi ?_, frGo.rf, by show ((0 : Nat) : Int) + wkQ S ≤ wkQ S + 258 * (k - k); omega, ⟨e9, e10⟩, ⟨by show s - s = k - k; omega, by show a - a = k - k; omega⟩, ⟨Int.le_refl _, hk.2, hs.2, ha.2⟩, ⟨⟨n, R⟩, e7, rfl, rfl⟩, I, h2, Int.le_refl _⟩
        unfold B_Mc_go_4
        rw [if_neg hi1, e7, if_neg (by decide), e4, if_pos (by decide), if_pos (by decide), if_neg (by omega)]
        exact ⟨g1, rgk rfl, rfl, rfl, rfl⟩
      by_cases q2 : 500 ≤ s ∨ 1000 ≤ a
      · have fl : B_Mc_go_74 d nn k i h σ (.inl (some (vi k))) h (mup (mup σ 54 7 3) 54 8 4) := ⟨_, _, r_fail (d := d + 20) (rgk rfl), gl_109 gn gk gi gi1 (gl_end gn gk gi1 hj1 (q := 3) ((mup_nk (by decide)).trans mup_eq) (rgk rfl) (by decide))⟩
        refine ⟨_, _, h, mup (mup σ 54 7 3) 54 8 4, 0, go_2b h2 q1 q2, K_Mc_go_4 gn gk gi ?_, frGo.m4.tr frGo.m4, by show ((0 : Nat) : Int) + 0 ≤ wkQ S + 258 * (k - k); omega, ⟨?_, ?_⟩, ⟨by show s - s = k - k; omega, by show a - a = k - k; omega⟩, ⟨Int.le_refl _, hk.2, hs.2, ha.2⟩, (mup_nk (by decide)).trans mup_eq, mup_eq, rfl⟩
        · unfold B_Mc_go_4
          rw [if_neg hi1, e7, if_neg (by decide), e4, if_pos (by decide), if_pos (by decide), if_pos (by omega), e9, e10]
          refine ⟨g1, rgk rfl, gs, ?_⟩
          by_cases q3 : s ≥ 500
          · rw [if_pos q3]; exact fl
          · rw [if_neg q3, if_neg (by omega)]; exact ⟨ga, fl⟩
        · rw [mup_nk (by decide), mup_nk (by decide)]; exact e9
        · rw [mup_nk (by decide), mup_nk (by decide)]; exact e10
      · have hh : h.1 ≤ 2000000 := by omega
        have R1 : cRel σ0 n h (mup (mup σ 54 9 (s + 1)) 54 10 (a + 1)) S := (R.m (j := 9) (by decide) (by decide) (by decide)).m (by decide) (by decide) (by decide)
        obtain ⟨o, hm, h', σ', St, co⟩ := cs_all (d := d) g pp hh SF R1 I h2
        have pre : ∀ {r : mRes} {h2 : mHp} {σ2 : Mem}, B_Mc_go_109 d nn (k + 1) i h' σ' r h2 σ2 → Lh (d + 22) yMc_go 4 [(0, .ref 54), (1, vi nn), (2, vi k), (3, vi i)] [] h σ r h2 σ2 := fun B => by
          refine K_Mc_go_4 gn gk gi ?_
          unfold B_Mc_go_4
          rw [if_neg hi1, e7, if_neg (by decide), e4, if_pos (by decide), if_pos (by decide), if_pos (by omega), e9, if_neg (by omega), mup_nk (show (10 : Int) ≠ 9 by decide), e10, if_pos (by omega)]
          exact ⟨g1, rgk rfl, gs, ga, gs1, ga, ga1, _, _, St, gk1, B⟩
        have f0 : frGo 0 h h σ (mup (mup σ 54 9 (s + 1)) 54 10 (a + 1)) := frGo.m4.tr frGo.m4
        have u9 : (mup (mup σ 54 9 (s + 1)) 54 10 (a + 1)) 54 9 = s + 1 := (mup_nk (by decide)).trans mup_eq
        have u10 : (mup (mup σ 54 9 (s + 1)) 54 10 (a + 1)) 54 10 = a + 1 := mup_eq
        have u8 : (mup (mup σ 54 9 (s + 1)) 54 10 (a + 1)) 54 8 = σ 54 8 := by rw [mup_nk (by decide), mup_nk (by decide)]
        have u7 : (mup (mup σ 54 9 (s + 1)) 54 10 (a + 1)) 54 7 = 1 := by rw [mup_nk (by decide), mup_nk (by decide)]; exact e7
        cases o with
        | inr c =>
          obtain ⟨fr, w11, w7, w8⟩ := co
          have x9 := fr.2.2.2.2.1
          have x10 := fr.2.2.2.2.2.1
          refine ⟨_, _, h', σ', 0 + 130, go_2e h2 q1 q2 hm, pre (gl_109 gn gk1 gi gi1 (gl_end gn gk1 gi1 hj1 w7 (rgk rfl) (by decide))), f0.tr fr.go, by show ((0 + 130 : Nat) : Int) + 0 ≤ wkQ S + 258 * (k + 1 - k); omega, ⟨x9.trans u9, x10.trans u10⟩, ⟨by show s + 1 - s = k + 1 - k; omega, by show a + 1 - a = k + 1 - k; omega⟩, ⟨by show k ≤ k + 1; omega, by show k + 1 ≤ nn; omega, by show s + 1 ≤ 500; omega, by show a + 1 ≤ 1000; omega⟩, w7, w8, w11⟩
        | inl S' =>
          obtain ⟨fr, w11, w⟩ := co
          have x9 := fr.2.2.2.2.1
          have x10 := fr.2.2.2.2.2.1
          by_cases hl : 200 < S'.2.2.2.2.1.length
          · obtain ⟨w7, w8⟩ : σ' 54 7 = 3 ∧ σ' 54 8 = 5 := by
              rcases w with w | w
              · exact w.2
              · exact absurd hl (by omega)
            refine ⟨_, _, h', σ', 0 + 130, go_2c h2 q1 q2 hm hl, pre (gl_109 gn gk1 gi gi1 (gl_end gn gk1 gi1 hj1 w7 (rgk rfl) (by decide))), f0.tr fr.go, by show ((0 + 130 : Nat) : Int) + 0 ≤ wkQ S + 258 * (k + 1 - k); omega, ⟨x9.trans u9, x10.trans u10⟩, ⟨by show s + 1 - s = k + 1 - k; omega, by show a + 1 - a = k + 1 - k; omega⟩, ⟨by show k ≤ k + 1; omega, by show k + 1 ≤ nn; omega, by show s + 1 ≤ 500; omega, by show a + 1 ≤ 1000; omega⟩, w7, w8, w11⟩
          · obtain ⟨-, R2, w7, w8⟩ : S'.2.2.2.2.1.length ≤ 200 ∧ (∃ n, cRel σ0 n h' σ' S') ∧ σ' 54 7 = (mup (mup σ 54 9 (s + 1)) 54 10 (a + 1)) 54 7 ∧ σ' 54 8 = (mup (mup σ 54 9 (s + 1)) 54 10 (a + 1)) 54 8 := by
              rcases w with w | w
              · exact absurd w.1 hl
              · exact w
            have mz := m_sp I.1 hm
            have mq := cq_sp I.1 hm
            have hc := fr.1.2
            obtain ⟨o, e, h3, σ3, c, G, L, f3, bc, b9, bd, bo, ce⟩ := ih S' (k + 1) (s + 1) (a + 1) (i + 1) h' σ' (I.sp hm) R2 (w7.trans u7) (x9.trans u9) (x10.trans u10) (by omega) (by omega) (by omega) (by omega) (by omega) (by omega)
            refine ⟨o, e, h3, σ3, 0 + 130 + c, go_2d h2 q1 q2 hm hl G, pre (gl_109 gn gk1 gi gi1 L), (f0.tr fr.go).tr f3, by omega, b9, by omega, by omega, ?_⟩
            have zz : (wkZ S' : Int) + 641 * (500 - (s + 1)) ≤ wkZ S + 641 * (500 - s) := by omega
            cases e with
            | inl S3 =>
              obtain ⟨⟨c1, c2, c3, c4⟩, c5, c6, c7⟩ := ce
              exact ⟨⟨c1, c2, c3.trans (w8.trans u8), c4.trans w11⟩, c5, c6, Int.le_trans c7 zz⟩
            | inr q =>
              cases q with
              | inl v =>
                obtain ⟨⟨c1, c2, c3, c4⟩, c5⟩ := ce
                exact ⟨⟨c1, c2, c3.trans (w8.trans u8), c4⟩, c5⟩
              | inr c =>
                obtain ⟨c1, c2, c3⟩ := ce
                exact ⟨c1, c2, c3.trans w11⟩
    · -- a move, or the end
      have mv : ∀ {k0 : Nat} {S' : WkS} {h' : mHp} {σ' : Mem}, wkM S = some S' → (∀ {r : mRes} {h2 : mHp} {σ2 : Mem}, B_Mc_go_109 d nn k i h' σ' r h2 σ2 → Lh (d + 22) yMc_go 4 [(0, .ref 54), (1, vi nn), (2, vi k), (3, vi i)] [] h σ r h2 σ2) → cOut σ0 k0 h σ h' σ' S' → k0 + wkQ S' ≤ wkQ S → ∃ o e h' σ' c, goS (F + 1) nn k s a S o e ∧ Lh (d + 22) yMc_go 4 [(0, .ref 54), (1, vi nn), (2, vi k), (3, vi i)] [] h σ (.inl (some (vi o.1))) h' σ' ∧ frGo c h h' σ σ' ∧ (c : Int) + cQe e ≤ wkQ S + 258 * (o.1 - k) ∧ (σ' 54 9 = o.2.1 ∧ σ' 54 10 = o.2.2) ∧ (o.2.1 - s = o.1 - k ∧ o.2.2 - a = o.1 - k) ∧ (k ≤ o.1 ∧ o.1 ≤ nn ∧ o.2.1 ≤ 500 ∧ o.2.2 ≤ 1000) ∧ cEnd T σ0 (wkZ S + 641 * (500 - s)) h σ h' σ' o.2.1 e := by
        intro k0 S' h' σ' hm pre co kq
        obtain ⟨fr, w11, w⟩ := co
        have x9 := fr.2.2.2.2.1
        have x10 := fr.2.2.2.2.2.1
        by_cases hl : 200 < S'.2.2.2.2.1.length
        · obtain ⟨w7, w8⟩ : σ' 54 7 = 3 ∧ σ' 54 8 = 5 := by
            rcases w with w | w
            · exact w.2
            · exact absurd hl (by omega)
          refine ⟨_, _, h', σ', k0, go_1b h2 hm hl, pre (gl_109 gn gk gi gi1 (gl_end gn gk gi1 hj1 w7 (rgk rfl) (by decide))), fr.go, by show (k0 : Int) + 0 ≤ wkQ S + 258 * (k - k); omega, ⟨x9.trans e9, x10.trans e10⟩, ⟨by show s - s = k - k; omega, by show a - a = k - k; omega⟩, ⟨Int.le_refl _, hk.2, hs.2, ha.2⟩, w7, w8, w11⟩
        · obtain ⟨-, R2, w7, w8⟩ : S'.2.2.2.2.1.length ≤ 200 ∧ (∃ n, cRel σ0 n h' σ' S') ∧ σ' 54 7 = σ 54 7 ∧ σ' 54 8 = σ 54 8 := by
            rcases w with w | w
            · exact absurd w.1 hl
            · exact w
          have mz := m_mv hm
          have hc := fr.1.2
          obtain ⟨o, e, h3, σ3, c, G, L, f3, bc, b9, bd, bo, ce⟩ := ih S' k s a (i + 1) h' σ' (I.mv hm) R2 (w7.trans e7) (x9.trans e9) (x10.trans e10) hs ha hk (by omega) (by omega) (by omega)
          refine ⟨o, e, h3, σ3, k0 + c, go_1c h2 hm hl G, pre (gl_109 gn gk gi gi1 L), fr.go.tr f3, by omega, b9, bd, bo, ?_⟩
          have zz : (wkZ S' : Int) + 641 * (500 - s) ≤ wkZ S + 641 * (500 - s) := by omega
          cases e with
          | inl S3 =>
            obtain ⟨⟨c1, c2, c3, c4⟩, c5, c6, c7⟩ := ce
            exact ⟨⟨c1, c2, c3.trans w8, c4.trans w11⟩, c5, c6, Int.le_trans c7 zz⟩
          | inr q =>
            cases q with
            | inl v =>
              obtain ⟨⟨c1, c2, c3, c4⟩, c5⟩ := ce
              exact ⟨⟨c1, c2, c3.trans w8, c4⟩, c5⟩
            | inr c =>
              obtain ⟨c1, c2, c3⟩ := ce
              exact ⟨c1, c2, c3.trans w11⟩
      have mq : ∀ {S'}, wkM S = some S' → wkQ S' + (if S.1 = 0 then 1 else 0) ≤ wkQ S := fun hm => cq_mv hm
      obtain ⟨m, N, cx, ρ, vs, fs⟩ := S
      have hm3 : m = 0 ∨ m = 1 := by
        rcases I.1.1.1 with e | e | e
        · exact Or.inl e.1
        · exact Or.inr e
        · exact absurd e.1 h2
      rcases hm3 with rfl | rfl
      · -- a part is entered
        have e4 : σ 54 4 = 0 := by
          obtain ⟨hl, x, R⟩ := R
          rw [if_pos rfl] at R
          exact R.2.1
        rcases I.nx h2 with ⟨ρ', vs', e⟩ | ⟨S', hm⟩
        · cases e
        · obtain ⟨we, ww⟩ : isE N ∧ wf N := by
            rcases I.1.1.1 with e | e | e
            · exact e.2
            · cases e
            · cases e.1
          obtain ⟨kk, z, A, B, C, rfl, hkk⟩ := isE_nd we ww
          obtain ⟨h', σ', En, co⟩ := cm_enter (d := d + 16) g pp R I.1 (fun e => wkC.nm I.2.2.1 e) hm
          refine mv hm (fun {r h2 σ2} B => ?_) co (by have := mq hm; rw [if_pos rfl] at this; omega)
          refine K_Mc_go_4 gn gk gi ?_
          unfold B_Mc_go_4
          rw [if_neg hi1, e7, if_neg (by decide), e4, if_neg (by decide)]
          exact ⟨g1, rgk rfl, _, _, En, B⟩
      · have tn : N = nl := I.2.2.2.1 rfl
        have R0 := R
        obtain ⟨hl, x, R1⟩ := R
        rw [if_neg (by decide)] at R1
        obtain ⟨v, vs', rfl, bb, rr, e4, -⟩ := R1
        rw [if_pos rfl] at e4
        have pre : ∀ {h' : mHp} {σ' : Mem}, Rh (d + 22) yMc_leave [.ref 54] h σ (.inl none) h' σ' → ∀ {r : mRes} {h2 : mHp} {σ2 : Mem}, B_Mc_go_109 d nn k i h' σ' r h2 σ2 → Lh (d + 22) yMc_go 4 [(0, .ref 54), (1, vi nn), (2, vi k), (3, vi i)] [] h σ r h2 σ2 := by
          intro h' σ' Lv r h2 σ2 B
          refine K_Mc_go_4 gn gk gi ?_
          unfold B_Mc_go_4
          rw [if_neg hi1, e7, if_neg (by decide), e4, if_pos (by decide), if_neg (by decide)]
          exact ⟨g1, rgk rfl, _, _, Lv, B⟩
        rcases I.nx h2 with ⟨ρ', vs2, e⟩ | ⟨S', hm⟩
        · -- worked out
          cases e
          obtain ⟨m, N2, G2, r⟩ := I.2.2.2.2
          have r : Run T m ([], ρ, v :: vs', []) N2 G2 := r
          have one : vs' = [] := by
            rcases SF r with ⟨w, e⟩ | e
            · cases e; rfl
            · obtain ⟨w, e⟩ := e; cases e; rfl
          subst one
          obtain ⟨u, σ', Lv, fr, rv, w7, w8, sp⟩ := cm_finish (d := d + 16) g R0
          refine ⟨_, _, _, σ', 0, go_1a, pre Lv (gl_109 gn gk gi gi1 (gl_end gn gk gi1 hj1 w7 (rgk rfl) (by decide))), fr.go, by show ((0 : Nat) : Int) + 0 ≤ _ + 258 * (k - k); omega, ⟨fr.2.2.2.2.1.trans e9, fr.2.2.2.2.2.1.trans e10⟩, ⟨by show s - s = k - k; omega, by show a - a = k - k; omega⟩, ⟨Int.le_refl _, hk.2, hs.2, ha.2⟩, ⟨?_, w7, w8, sp⟩, m, N2, G2, ρ, r⟩
          rw [at_eq]
          exact rv.mv (smC.set (Or.inl (by decide))) (Nat.le_refl _)
        · obtain ⟨h', σ', Lv, co⟩ := cm_leave (d := d + 16) g pp R0 I.1 tn hm
          exact mv hm (fun {r h2 σ2} B => pre Lv B) co (by have := mq hm; omega)
end CLOOP
