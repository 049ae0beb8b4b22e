/-! The class's reader: choices, and any expression. -/
section CX
variable {d : Nat} {x e : Int} {E : (Int → Int) → Int → Option (Tr × Int)} {P : (Int → Int) → Int → List Int → PaR}
theorem choice_b (hx : 0 ≤ x ∧ x ≤ 100) (hB : BrS (d + 6) x e E P) {cc x3 : Int} {σ : Mem} (gc : rg cc) (g3 : rg x3) (H : RI σ) (hC : CB e σ) (hb : σ 35 4 ≠ 0) :
    ∃ σ2, Lb (d + 6) yRd_choice 37 [(0, .ref 35), (1, vi x), (2, vi cc), (3, vi x3), (4, vi 0)] [] σ (some cc) σ2 ∧ frR σ σ2 ∧ RI σ2 ∧ σ2 37 = σ 37 ∧ σ2 35 4 ≠ 0 := by
  obtain ⟨b, σa, ra, gb, fa, ia, za, ba, -⟩ := hB σ ⟨H, fun h => absurd h hb⟩ hC
  have ba := ba hb
  have hL : ∃ σL, Rn (d + 6) yTr_addBranch [.ref 5, vi cc, vi x3, vi b] σa none σL ∧ frR σa σL ∧ RI σL ∧ σL 37 = σa 37 ∧ σL 35 = σa 35 := by
    by_cases w : x3 = -1
    · refine ⟨lnk σa 13 cc b cc, M_Tr_addBranch (d := d + 4) gc g3 gb ?_, lnk_fr (Or.inl rfl), lnk_RI (Or.inl rfl) ia, lnk_f (Or.inl rfl) 37 (by decide) (by decide), lnk_f (Or.inl rfl) 35 (by decide) (by decide)⟩
      unfold B_Tr_addBranch B_Tr_addBranch_26 lnk
      rw [if_neg (fun q => q w)]; exact ⟨rfl, rfl⟩
    · refine ⟨lnk σa 15 x3 b cc, M_Tr_addBranch (d := d + 4) gc g3 gb ?_, lnk_fr (Or.inr rfl), lnk_RI (Or.inr rfl) ia, lnk_f (Or.inr rfl) 37 (by decide) (by decide), lnk_f (Or.inr rfl) 35 (by decide) (by decide)⟩
      unfold B_Tr_addBranch B_Tr_addBranch_26 lnk
      rw [if_pos w]; exact ⟨rfl, rfl⟩
  obtain ⟨σL, rL, fL, iL, zL, L35⟩ := hL
  have bL : σL 35 4 ≠ 0 := by rw [L35]; exact ba
  have t1 := takes_n (d := d + 1) iL (c := 124) (rgk rfl) (by rw [nxv_b bL]; decide)
  have s1 := iL.inl.skb iL.1
  have iW := iL.at s1.1 s1.2
  have bW : (Wq σL (sk (chr σL) (σL 35 3))) 35 4 ≠ 0 := by rw [Wq_k (by decide)]; exact bL
  have x1 := expect_n (d := d) iW (c := 125) (rgk rfl) (by rw [nxv_b bW]; decide)
  have s2 := iW.inl.skb iW.1
  refine ⟨_, K_Rd_choice_37 (d := d + 3) ⟨by omega, by omega⟩ gc g3 (rgk rfl) ?_, ((((fa.tr fL).tr Wq_f).tr Wq_f).tr (frR.mu (i := 35) (k := 4) (z := 1) rfl)), (iW.at s2.1 s2.2).br, ?_, ?_⟩
  · unfold B_Rd_choice_37
    rw [if_neg (by decide)]
    refine ⟨b, σa, ra, σL, rL, 0, _, t1, ?_⟩
    rw [if_neg (by decide)]
    exact ⟨_, x1, rfl, rfl⟩
  · exact (mup_obj (by decide)).trans ((mup_obj (by decide)).trans ((mup_obj (by decide)).trans (zL.trans za)))
  · rw [mup_eq]; decide
theorem s_choice (hx : 0 ≤ x ∧ x ≤ 100) (hE : LSp yRd_expression (d + 6) (x + 1) (e + 1) E) (hB : BrS (d + 6) x e E P) : LSp yRd_choice (d + 7) x e (fun ch p => pCase ch (P ch) (E ch) p) := by
  intro σ H hC
  have rx : rg x := ⟨by omega, by omega⟩
  obtain ⟨σ1, r1, S1, z1, -⟩ := (ST.init H).expect (d := d) (t := 35) (rgk rfl) (by decide)
  obtain ⟨v2, σ2, r2, g2, S2, z2⟩ := S1.sub hE (fun y a b => by rw [z1]; have := hC y a b; omega)
  have y2 : σ2 37 = σ 37 := z2.trans z1
  -- what is broken at the curly bracket
  have brk : ∀ {σ3 σ4 : Mem} {v3 : Int}, rg v3 → Rn (d + 6) yTr_add [.ref 5, vi 16, vi 0, vi v2, vi (-1), vi (-1)] σ2 (some v3) σ3 → Rn (d + 6) yRd_expect [.ref 35, vi 123] σ3 none σ4 → frR σ σ4 → RI σ4 → σ4 37 = σ 37 → σ4 35 4 ≠ 0 → (σ 35 4 = 0 → pCase (chr σ) (P (chr σ)) (E (chr σ)) (σ 35 3) = none) → ∃ v σ', Rn (d + 7) yRd_choice [.ref 35, vi x] σ (some v) σ' ∧ EO (pCase (chr σ) (P (chr σ)) (E (chr σ)) (σ 35 3)) σ σ' v := by
    intro σ3 σ4 v3 g3 r3 r4 f4 i4 z4 b4 hP
    obtain ⟨σ5, L5, f5, i5, z5, b5⟩ := choice_b hx hB (cc := v3) (x3 := -1) g3 (rgk rfl) i4 (fun y a b => by rw [z4]; exact hC y a b) b4
    exact ⟨v3, σ5, M_Rd_choice (d := d + 3) rx ⟨σ1, r1, v2, σ2, r2, v3, σ3, r3, σ4, r4, L5⟩, g3, f4.tr f5, i5, z5.trans z4, fun _ => b5, fun h _ => by rw [hP h]; exact b5⟩
  show ∃ v σ', _ ∧ EO (pCase (chr σ) (P (chr σ)) (E (chr σ)) (σ 35 3)) σ σ' v
  generalize hR : (((stR σ).bind fun x => (pEx (chr σ) 35 x.2.2.2).map fun r => (x.1 + 2, x.2.1, x.2.2.1, r)).bind fun r => (E (chr σ) r.2.2.2).map fun t => (r.1 + 1, (t.1, v2) :: r.2.1, r.2.2.1 || !(clo t.1 (bd σ1)), t.2)) = R2 at S2
  cases R2 with
  | none =>
    obtain ⟨v3, σ3, r3, i3, f3, g3⟩ := add_any (d := d + 4) (k := 16) (z := 0) (a := v2) (b := -1) (c := -1) S2.2.1 (rgk rfl) (rgk rfl) g2 (rgk rfl) (rgk rfl)
    have b3 : σ3 35 4 ≠ 0 := by rw [f3 35 rfl]; exact S2.2.2
    have x4 := expect_n (d := d) i3 (c := 123) (rgk rfl) (by rw [nxv_b b3]; decide)
    have s4 := i3.inl.skb i3.1
    refine brk g3 r3 x4 (((S2.1.tr (fun i hi => f3 i (trP_rd hi))).tr Wq_f).tr (frR.mu rfl)) (i3.at s4.1 s4.2).br ?_ (by rw [mup_eq]; decide) (fun hb => ?_)
    · exact (mup_obj (by decide)).trans ((mup_obj (by decide)).trans ((f3 37 rfl).trans y2))
    · unfold pCase
      rw [stR, if_pos hb] at hR
      dsimp only [Option.bind_some] at hR
      cases h1 : pEx (chr σ) 35 (σ 35 3) with
      | none => rfl
      | some a =>
        rw [h1] at hR
        dsimp only [Option.map_some, Option.bind_some] at hR ⊢
        cases h2 : E (chr σ) a with
        | none => rfl
        | some t => rw [h2] at hR; cases hR
  | some w =>
    obtain ⟨w1, q1, hw⟩ := Option.bind_eq_some_iff.mp hR
    obtain ⟨t, h2, rfl⟩ := Option.map_eq_some_iff.mp hw
    obtain ⟨w0, q0, hw⟩ := Option.bind_eq_some_iff.mp q1
    obtain ⟨a, h1, rfl⟩ := Option.map_eq_some_iff.mp hw
    have hb : σ 35 4 = 0 := by
      by_cases hb : σ 35 4 = 0
      · exact hb
      · rw [stR, if_neg hb] at q0; cases q0
    rw [stR, if_pos hb] at q0
    cases q0
    dsimp only at h1 h2
    have S2 : ST σ σ2 (some (3, [(t.1, v2)], !(clo t.1 (bd σ)), t.2)) := by rw [bd_of z1] at S2; exact S2
    obtain ⟨σ3, r3, f3, i3, z3, o3, n3, le3, p3, k3, t3, ⟨e7, e9, e11, e13, e15⟩, tA, -, -⟩ := S2.addX (d := d + 4) (k := 16) (ki := 16) (z := 0) (a := v2) (b := -1) (c := -1) (A := t.1) (B := nl) (C := nl) rfl (rgk rfl) (rgk rfl) g2 (rgk rfl) (rgk rfl) (fun h => by cases h) (by decide) (Or.inr List.mem_cons_self) (Or.inl ⟨rfl, rfl⟩) (Or.inl ⟨rfl, rfl⟩) (fun _ => df_1)
    obtain ⟨g, k1, k2, k3', k4, k5, -, -, -, k9⟩ := S2.2.2
    have z0 := g.2.1
    have c2 := S2.2.1.2.2.2
    have g3 : rg (σ2 5 7) := ⟨by omega, by omega⟩
    have b3 : σ3 35 4 = 0 := by rw [o3]; exact k1
    have at3 : σ3 35 3 = t.2 := by rw [o3]; exact k2
    have nv3 : nxv σ3 = nx (chr σ) t.2 := by rw [nxv_u b3, f3.chr, at3]
    have y3 : σ3 37 = σ 37 := z3.trans y2
    have eC : pCase (chr σ) (P (chr σ)) (E (chr σ)) (σ 35 3) = (pEx (chr σ) 123 t.2).bind fun b => (pBr (chr σ) (P (chr σ)) (E (chr σ)) 5 b).map fun y => (nd 16 0 t.1 y.1 nl, y.2) := by
      unfold pCase; rw [h1]; dsimp only [Option.bind_some]; rw [h2]; rfl
    by_cases c : nx (chr σ) t.2 = 123
    · have x4 := expect_y (d := d) i3 (c := 123) (rgk rfl) (by decide) (nv3.trans c)
      rw [f3.chr, at3] at x4
      have s4 := i3.inl.sn i3.1 (by rw [f3.chr, at3, c]; decide)
      rw [f3.chr, at3] at s4
      have iW := i3.at s4.1 s4.2
      have ge := sk_ge (ch := chr σ) (p := t.2)
      have wo : ∀ {i : Nat}, i ≠ 35 → (Wq σ3 (sk (chr σ) t.2 + 1)) i = σ3 i := fun hi => Wq_o hi
      have w5 : (Wq σ3 (sk (chr σ) t.2 + 1)) 5 7 = σ2 5 7 + 1 := by rw [wo (by decide)]; exact n3
      have HW : OK (Wq σ3 (sk (chr σ) t.2 + 1)) := by
        refine ⟨iW, fun _ => ⟨?_, p3.wq⟩⟩
        have := g.2.2.1
        rw [w5, Wq_at]; omega
      have zW : (Wq σ3 (sk (chr σ) t.2 + 1)) 37 = σ 37 := (wo (by decide)).trans y3
      obtain ⟨v, σ5, L5, gv, f5, i5, z5, v5, m5⟩ := choice_l hx hB 5 (σ2 5 7) (-1) 0 (σ2 5 7) 13 _ (by omega) (by omega) (rgk rfl) HW (fun y a b => by rw [zW]; exact hC y a b) (by rw [Wq_k (by decide)]; exact b3) (Or.inl ⟨rfl, rfl, rfl⟩) ⟨by omega, by rw [w5]; omega⟩ ⟨by omega, by rw [w5]; omega⟩ (by rw [wo (by decide)]; exact e13)
      have cW : chr (Wq σ3 (sk (chr σ) t.2 + 1)) = chr σ := W_chr.trans f3.chr
      rw [cW, Wq_at] at v5 m5
      have eP : pEx (chr σ) 123 t.2 = some (sk (chr σ) t.2 + 1) := by unfold pEx; rw [if_pos c]
      rw [eP] at eC
      dsimp only [Option.bind_some] at eC
      refine ⟨v, σ5, M_Rd_choice (d := d + 3) rx ⟨σ1, r1, v2, σ2, r2, _, σ3, r3, _, x4, L5⟩, gv, (f3.tr Wq_f).tr f5, i5, z5.trans zW, fun h => absurd hb h, fun _ _ => ?_⟩
      rw [eC]
      cases hP : pBr (chr σ) (P (chr σ)) (E (chr σ)) 5 (sk (chr σ) t.2 + 1) with
      | none => rw [hP] at m5; exact m5
      | some y =>
        obtain ⟨T, q⟩ := y
        have hv := v5 _ hP
        subst hv
        rw [hP] at m5
        obtain ⟨a1, a2, a3, ⟨b1, b2, b3', b4, b5, b6⟩, a5⟩ := m5
        rw [Wq_at] at a3 b1
        rw [w5] at b1 b2 b3' b6
        have low : ∀ y, 0 ≤ y → y < σ2 5 7 + 1 → σ5 7 y = σ3 7 y ∧ σ5 9 y = σ3 9 y ∧ σ5 11 y = σ3 11 y ∧ (y ≠ σ2 5 7 → σ5 13 y = σ3 13 y) ∧ σ5 15 y = σ3 15 y ∧ σ5 17 y = σ3 17 y := by
          intro y ya yb
          obtain ⟨u1, u2, u3, u4, u5, u6⟩ := b6 y ya yb
          rw [wo (by decide)] at u1 u2 u3 u4 u5 u6
          exact ⟨u1, u2, u3, fun s => u4 (Or.inl s), u5 (Or.inr (by decide)), u6⟩
        have lc := low (σ2 5 7) (by omega) (by omega)
        refine ⟨a1, a2, by omega, ⟨?_, ⟨by omega, by omega⟩, ?_, ?_, b5, ?_⟩, ?_⟩
        · rw [a2] at b1 ⊢; omega
        · refine isT_nd.mpr ⟨⟨by omega, by omega⟩, lc.1.trans e7, lc.2.1.trans e9, ?_, ?_, ?_⟩
          · show isT σ5 5 (σ 5 7) (σ5 5 7) t.1 (σ5 11 (σ2 5 7))
            rw [lc.2.2.1, e11]
            refine isT.mv (Int.le_refl _) (by omega) (fun y ya yb => ?_) tA
            obtain ⟨c1, c2, c3, c4, c5, c6⟩ := low y (by omega) (by omega)
            exact ⟨c1, c2, c3, c4 (by omega), c5⟩
          · show isT σ5 5 (σ 5 7) (σ5 5 7) T (σ5 13 (σ2 5 7))
            exact isT.mv (by omega) (Int.le_refl _) (fun _ _ _ => ⟨rfl, rfl, rfl, rfl, rfl⟩) b3'
          · show isT σ5 5 (σ 5 7) (σ5 5 7) nl (σ5 15 (σ2 5 7))
            rw [lc.2.2.2.2.1]; exact e15
        · exact lc.2.2.2.2.2.trans t3
        · intro y ya yb
          obtain ⟨c1, c2, c3, c4, c5, c6⟩ := low y ya (by omega)
          obtain ⟨u1, u2, u3, u4, u5, u6⟩ := k3 y ya yb
          exact ⟨c1.trans u1, c2.trans u2, c3.trans u3, (c4 (by omega)).trans u4, c5.trans u5, c6.trans u6⟩
        · rw [a5, Wq_k (by decide), o3, k9, bd_of zW, clo_nd]
          cases clo t.1 (bd σ) <;> cases clo T (bd σ) <;> simp [clo_nl, or_assoc]
    · have x4 := expect_n (d := d) i3 (c := 123) (rgk rfl) (by rw [nv3]; exact c)
      have s4 := i3.inl.skb i3.1
      refine brk g3 r3 x4 ((f3.tr Wq_f).tr (frR.mu rfl)) (i3.at s4.1 s4.2).br ?_ (by rw [mup_eq]; decide) (fun _ => ?_)
      · exact (mup_obj (by decide)).trans ((mup_obj (by decide)).trans y3)
      · rw [eC]; unfold pEx; rw [if_neg c]; rfl
theorem LSp.deep {y D D' : Nat} {x e : Int} {Q : (Int → Int) → Int → Option (Tr × Int)} (h : LSp y D x e Q) (hd : D ≤ D') : LSp y D' x e Q := fun σ H hC => by
  obtain ⟨v, σ', r, E⟩ := h σ H hC
  exact ⟨v, σ', r.deep hd, E⟩
theorem PSp.deep {y D D' : Nat} {x : Int} {Q : (Int → Int) → Int → List Int → PaR} (h : PSp y D x Q) (hd : D ≤ D') : PSp y D' x Q := fun σ L H hm => by
  obtain ⟨v, σ', r, E⟩ := h σ L H hm
  exact ⟨v, σ', r.deep hd, E⟩
section SK
variable {σ : Mem} {q : Int} {F : Int → Option (Tr × Int)} {G : Int → List Int → PaR}
theorem pAtom_sk (L : LI σ) (h : 0 ≤ q) {n : Nat} : pAtom (chr σ) F n (sk (chr σ) q) = pAtom (chr σ) F n q := by
  cases n with
  | zero => exact pPlain_sk L h
  | succ n => rw [pAtom, pAtom, L.nx_sk h, L.sk_sk h, pPlain_sk L h]
theorem pApp_sk (L : LI σ) (h : 0 ≤ q) : pApp (chr σ) F (sk (chr σ) q) = pApp (chr σ) F q := by unfold pApp; rw [pAtom_sk L h]
theorem pProd_sk (L : LI σ) (h : 0 ≤ q) : pProd (chr σ) F (sk (chr σ) q) = pProd (chr σ) F q := by unfold pProd; rw [pApp_sk L h]
theorem pSum_sk (L : LI σ) (h : 0 ≤ q) : pSum (chr σ) F (sk (chr σ) q) = pSum (chr σ) F q := by unfold pSum; rw [pProd_sk L h]
theorem pCmp_sk (L : LI σ) (h : 0 ≤ q) : pCmp (chr σ) F (sk (chr σ) q) = pCmp (chr σ) F q := by unfold pCmp; rw [pSum_sk L h]
theorem pList_sk (L : LI σ) (h : 0 ≤ q) {n : Nat} : pList (chr σ) F n (sk (chr σ) q) = pList (chr σ) F n q := by
  cases n with
  | zero => rfl
  | succ n => rw [pList, pList, pCmp_sk L h]
end SK
theorem s_expression (hx : 0 ≤ x ∧ x ≤ 16) (he : 0 ≤ e ∧ e ≤ 500) {k : Nat} (hE : LSp yRd_expression (d + 6) (x + 1) (e + 1) (fun ch => pE ch k)) (hB : BrS (d + 7) x e (fun ch => pE ch k) (fun ch => pPat ch k)) : LSp yRd_expression (d + 14) x e (fun ch => pE ch (k + 1)) := by
  intro σ H hC
  have rx : rg x := ⟨by omega, by omega⟩
  have L := H.1.1
  have h0 := H.1.inl
  have hs := h0.skb L
  have ge := sk_ge (ch := chr σ) (p := σ 35 3)
  have OW := H.wq hs ge
  have CW : CB e (Wq σ (sk (chr σ) (σ 35 3))) := fun y a b => by rw [Wq_o (by decide)]; exact hC y a b
  have N := s_next (d := d + 9) H.1
  have wc : chr (Wq σ (sk (chr σ) (σ 35 3))) = chr σ := W_chr
  have w3 : (Wq σ (sk (chr σ) (σ 35 3))) 35 3 = sk (chr σ) (σ 35 3) := Wq_at
  have hx' : 0 ≤ x ∧ x ≤ 100 := ⟨hx.1, by omega⟩
  have e1 : ∀ {e' : Int}, e ≤ e' → ∀ {y D : Nat} {x : Int} {Q : (Int → Int) → Int → Option (Tr × Int)}, LSp y D x e' Q → LSp y D x e Q := by
    intro e' hl y D x Q h σ H hC
    exact h σ H (fun y a b => by have := hC y a b; omega)
  have hE' := e1 (show e ≤ e + 1 by omega) hE
  have lList := s_list hx' (s_comparison hx' (s_sum hx' (s_product hx' (s_application hx' (s_atom hx' (s_plainAtom hx' hE'))))))
  have go : ∀ {y : Nat} {Q : (Int → Int) → Int → Option (Tr × Int)}, LSp y (d + 13) x e Q → (Q (chr σ) (sk (chr σ) (σ 35 3)) = Q (chr σ) (σ 35 3)) → ∃ v σ', Rn (d + 13) y [.ref 35, vi x] (Wq σ (sk (chr σ) (σ 35 3))) (some v) σ' ∧ EO (Q (chr σ) (σ 35 3)) σ σ' v := by
    intro y Q h eq
    obtain ⟨v, σ', r, E1⟩ := h _ OW CW
    rw [wc, w3, eq] at E1
    exact ⟨v, σ', r, E1.at ge⟩
  have nb : ∀ {c : Int}, nxv σ = c → c ≠ -1 → nx (chr σ) (σ 35 3) = c := fun {c} h hc => by
    by_cases q : σ 35 4 = 0
    · rw [← nxv_u q]; exact h
    · rw [nxv_b q] at h; exact absurd h.symm hc
  have fin : ∀ {v : Int} {σ' : Mem}, B_Rd_expression (d + 10) x σ (some v) σ' → Rn (d + 14) yRd_expression [.ref 35, vi x] σ (some v) σ' := fun h => M_Rd_expression (d := d + 10) rx h
  show ∃ v σ', _ ∧ EO (pE (chr σ) (k + 1) (σ 35 3)) σ σ' v
  have ps := pEx_sk (c := 33) L h0.1
  by_cases c1 : nxv σ = 33
  · obtain ⟨v, σ', r, E1⟩ := go ((s_let hx' he hE).deep (show d + 7 ≤ d + 13 by omega)) (by unfold pLet; rw [pEx_sk L h0.1])
    refine ⟨v, σ', fin ?_, E1.cg (fun hb => by rw [pE, if_pos (nb c1 (by decide))])⟩
    unfold B_Rd_expression
    rw [if_pos hx.2]
    refine ⟨_, _, N, ?_⟩
    rw [if_pos c1]
    exact ⟨v, σ', r, rfl, rfl⟩
  by_cases c2 : nxv σ = 35
  · obtain ⟨v, σ', r, E1⟩ := go ((s_choice (d := d + 1) hx' (hE.deep (by omega)) hB).deep (show d + 1 + 7 ≤ d + 13 by omega)) (by unfold pCase; rw [pEx_sk L h0.1])
    refine ⟨v, σ', fin ?_, E1.cg (fun hb => by have := nb c2 (by decide); rw [pE, if_neg (by omega), if_pos this])⟩
    unfold B_Rd_expression
    rw [if_pos hx.2]
    refine ⟨_, _, N, ?_⟩
    rw [if_neg c1, if_pos c2]
    exact ⟨v, σ', r, rfl, rfl⟩
  by_cases c3 : nxv σ = 63
  · obtain ⟨v, σ', r, E1⟩ := go ((s_condition hx' hE).deep (show d + 7 ≤ d + 13 by omega)) (by unfold pIf; rw [pEx_sk L h0.1])
    refine ⟨v, σ', fin ?_, E1.cg (fun hb => by have := nb c3 (by decide); rw [pE, if_neg (by omega), if_neg (by omega), if_pos this])⟩
    unfold B_Rd_expression
    rw [if_pos hx.2]
    refine ⟨_, _, N, ?_⟩
    rw [if_neg c1, if_neg c2, if_pos c3]
    exact ⟨v, σ', r, rfl, rfl⟩
  by_cases c4 : nxv σ = 64
  · obtain ⟨v, σ', r, E1⟩ := go ((s_recursion hx' he hE).deep (show d + 7 ≤ d + 13 by omega)) (by unfold pRec; rw [pEx_sk L h0.1])
    refine ⟨v, σ', fin ?_, E1.cg (fun hb => by have := nb c4 (by decide); rw [pE, if_neg (by omega), if_neg (by omega), if_neg (by omega), if_pos this])⟩
    unfold B_Rd_expression
    rw [if_pos hx.2]
    refine ⟨_, _, N, ?_⟩
    rw [if_neg c1, if_neg c2, if_neg c3, if_pos c4]
    exact ⟨v, σ', r, rfl, rfl⟩
  by_cases c5 : nxv σ = 92
  · obtain ⟨v, σ', r, E1⟩ := go ((s_function hx' he hE).deep (show d + 7 ≤ d + 13 by omega)) (by unfold pFn; rw [pEx_sk L h0.1])
    refine ⟨v, σ', fin ?_, E1.cg (fun hb => by have := nb c5 (by decide); rw [pE, if_neg (by omega), if_neg (by omega), if_neg (by omega), if_neg (by omega), if_pos this])⟩
    unfold B_Rd_expression
    rw [if_pos hx.2]
    refine ⟨_, _, N, ?_⟩
    rw [if_neg c1, if_neg c2, if_neg c3, if_neg c4, if_pos c5]
    exact ⟨v, σ', r, rfl, rfl⟩
  · obtain ⟨v, σ', r, E1⟩ := go lList (by exact pList_sk L h0.1)
    refine ⟨v, σ', fin ?_, E1.cg (fun hb => ?_)⟩
    · unfold B_Rd_expression
      rw [if_pos hx.2]
      refine ⟨_, _, N, ?_⟩
      rw [if_neg c1, if_neg c2, if_neg c3, if_neg c4, if_neg c5]
      exact ⟨v, σ', r, rfl, rfl⟩
    · rw [nxv_u hb] at c1 c2 c3 c4 c5
      rw [pE, if_neg c1, if_neg c2, if_neg c3, if_neg c4, if_neg c5]
end CX
