/-! The class's reader: choices. -/
section CH
variable {d : Nat} {x e : Int} {E : (Int → Int) → Int → Option (Tr × Int)} {P : (Int → Int) → Int → List Int → PaR}
def BrS (D : Nat) (x e : Int) (E : (Int → Int) → Int → Option (Tr × Int)) (P : (Int → Int) → Int → List Int → PaR) : Prop := ∀ σ, OK σ → CB e σ → ∃ v σ2, Rn D yRd_branch [.ref 35, vi x] σ (some v) σ2 ∧ rg v ∧ frR σ σ2 ∧ RI σ2 ∧ σ2 37 = σ 37 ∧ (σ 35 4 ≠ 0 → σ2 35 4 ≠ 0) ∧ (σ 35 4 = 0 → B1m (pB1 (chr σ) (P (chr σ)) (E (chr σ)) (σ 35 3)) σ σ2 v)
theorem choice_l (hx : 0 ≤ x ∧ x ≤ 100) (hB : BrS (d + 6) x e E P) : ∀ (n : Nat) (cc x3 x4 l : Int) (j : Nat) (σ : Mem), x4 + n = 5 → 0 ≤ x4 → rg x3 → OK σ → CB e σ → σ 35 4 = 0 → CSl σ cc x3 j l → (0 ≤ cc ∧ cc < σ 5 7) → (0 ≤ l ∧ l < σ 5 7) → σ j l = -1 →
    ∃ v σ2, Lb (d + 6) yRd_choice 37 [(0, .ref 35), (1, vi x), (2, vi cc), (3, vi x3), (4, vi x4)] [] σ (some v) σ2 ∧ rg v ∧ frR σ σ2 ∧ RI σ2 ∧ σ2 37 = σ 37 ∧ (∀ y, pBr (chr σ) (P (chr σ)) (E (chr σ)) n (σ 35 3) = some y → v = cc) ∧ COm (pBr (chr σ) (P (chr σ)) (E (chr σ)) n (σ 35 3)) σ σ2 j l cc
  | 0, cc, x3, x4, l, j, σ, hn, h0, g3, H, hC, hb, hS, hcc, hl, hj => by
    have hm := H.1.2.2.2
    refine ⟨-1, _, K_Rd_choice_37 (d := d + 3) ⟨by omega, by omega⟩ ⟨by omega, by omega⟩ g3 ⟨by omega, by omega⟩ ?_, rgk rfl, frR.mu (i := 35) (k := 4) (z := 1) rfl, H.1.br, mup_obj (by decide), (fun y hy => by cases hy), ?_⟩
    · unfold B_Rd_choice_37
      rw [if_pos (by omega)]
      exact ⟨-1, _, s_breakOff (d := d + 2), rfl, rfl⟩
    · show mup σ 35 4 1 35 4 ≠ 0
      rw [mup_eq]; decide
  | n + 1, cc, x3, x4, l, j, σ, hn, h0, g3, H, hC, hb, hS, hcc, hl, hj => by
    have hm := H.1.2.2.2
    have gc : rg cc := ⟨by omega, by omega⟩
    have j2 : j = 13 ∨ j = 15 := by rcases hS with ⟨_, h, _⟩ | ⟨_, h, _⟩ <;> simp [h]
    obtain ⟨b, σa, ra, gb, fa, ia, za, -, ma⟩ := hB σ H hC
    have ma := ma hb
    rw [pBr_B1]
    -- the branch is hung on
    have iL : RI (lnk σa j l b cc) := lnk_RI j2 ia
    have fL : frR σ (lnk σa j l b cc) := fa.tr (lnk_fr j2)
    have zL : (lnk σa j l b cc) 37 = σ 37 := (lnk_f j2 37 (by omega) (by decide)).trans za
    have L35 : (lnk σa j l b cc) 35 = σa 35 := lnk_f j2 35 (by omega) (by decide)
    have L5 : (lnk σa j l b cc) 5 = σa 5 := lnk_f j2 5 (by omega) (by decide)
    cases hq : pB1 (chr σ) (P (chr σ)) (E (chr σ)) (σ 35 3) with
    | none =>
      rw [hq] at ma
      have bL : (lnk σa j l b cc) 35 4 ≠ 0 := by rw [L35]; exact ma
      have hSa : Rn (d + 6) yTr_addBranch [.ref 5, vi cc, vi x3, vi b] σa none (lnk σa j l b cc) := by
        refine (M_Tr_addBranch (d := d + 4) gc g3 gb ?_)
        unfold B_Tr_addBranch B_Tr_addBranch_26 lnk
        rcases hS with ⟨rfl, rfl, rfl⟩ | ⟨h0, rfl, rfl, -⟩
        · rw [if_neg (by decide)]; exact ⟨rfl, rfl⟩
        · rw [if_pos (by omega)]; exact ⟨rfl, rfl⟩
      have nv1 : nxv (lnk σa j l b cc) = -1 := nxv_b bL
      have t1 := takes_n (d := d + 1) iL (c := 124) (rgk rfl) (by rw [nv1]; decide)
      have s1 := iL.inl.skb iL.1
      have iW := iL.at s1.1 s1.2
      have bW : (Wq (lnk σa j l b cc) (sk (chr (lnk σa j l b cc)) ((lnk σa j l b cc) 35 3))) 35 4 ≠ 0 := by rw [Wq_k (by decide)]; exact bL
      have x1 := expect_n (d := d) iW (c := 125) (rgk rfl) (by rw [nxv_b bW]; decide)
      have s2 := iW.inl.skb iW.1
      refine ⟨cc, _, K_Rd_choice_37 (d := d + 3) ⟨by omega, by omega⟩ gc g3 ⟨by omega, by omega⟩ ?_, gc, ((fL.tr Wq_f).tr Wq_f).tr (frR.mu (i := 35) (k := 4) (z := 1) rfl), (iW.at s2.1 s2.2).br, ?_, fun _ _ => rfl, ?_⟩
      · unfold B_Rd_choice_37
        rw [if_neg (by omega)]
        refine ⟨b, σa, ra, _, hSa, 0, _, t1, ?_⟩
        rw [if_neg (by decide)]
        exact ⟨_, x1, rfl, rfl⟩
      · exact (mup_obj (by decide)).trans ((mup_obj (by decide)).trans ((mup_obj (by decide)).trans zL))
      · show mup _ 35 4 1 35 4 ≠ 0
        rw [mup_eq]; decide
    | some Q =>
      obtain ⟨⟨nn, A, B⟩, q⟩ := Q
      rw [hq] at ma
      obtain ⟨a1, a2, a3, a4, a5, a6, a7, a8, a9, ⟨e7, e9, e15⟩, tA, tB, au⟩ := ma
      have z0 := H.1.2.2.1
      have cntA := ia.2.2.2
      have la := a8 l hl.1 hl.2
      have hja : σa j l = -1 := by rcases j2 with rfl | rfl <;> simp only [la] <;> exact hj
      have hSl : CSl σa cc x3 j l := by
        rcases hS with h | ⟨h0, h1, h2, h3, h4⟩
        · exact Or.inl h
        · subst h2; exact Or.inr ⟨h0, h1, rfl, la.1.trans h3, la.2.2.2.2.2.trans h4⟩
      have rL := s_addBranch (d := d + 4) gc g3 gb hSl
      have wl : cc = if j = 15 ∧ σa 7 l = 17 then σa 17 l else l := by
        rcases hSl with ⟨_, h1, h2⟩ | ⟨_, h1, h2, h3, h4⟩
        · rw [if_neg (by omega)]; exact h2.symm
        · subst h2; rw [if_pos ⟨h1, h3⟩]; exact h4.symm
      have pL : PQ (lnk σa j l b cc) := lnk_PQ j2 ia a7 ⟨hl.1, by omega⟩ ⟨by omega, by omega⟩ a9 (by omega) hcc.1 wl
      have bL : (lnk σa j l b cc) 35 4 = 0 := by rw [L35]; exact a1
      have atL : (lnk σa j l b cc) 35 3 = q := by rw [L35]; exact a2
      have cL : chr (lnk σa j l b cc) = chr σ := fL.chr
      have jl : (lnk σa j l b cc) j l = b := by rw [lnk_j j2, if_pos ⟨rfl, hl.1, by omega⟩]
      have b17 : (lnk σa j l b cc) 17 b = cc := by rw [lnk_17 j2, if_pos ⟨rfl, by omega, by omega⟩]
      -- the other rows
      have row : ∀ i y, (i = 7 ∨ i = 9 ∨ i = 11 ∨ i = 13 ∨ i = 15) → (y ≠ l ∨ i ≠ j) → (lnk σa j l b cc) i y = σa i y := by
        intro i y hi hy
        by_cases w : i = j
        · subst w; rw [lnk_j j2, if_neg (fun s => by rcases hy with h | h; exact h s.1; exact h rfl)]
        · exact congrFun (lnk_f j2 i w (by omega)) y
      have r17 : ∀ y, y ≠ b → (lnk σa j l b cc) 17 y = σa 17 y := fun y hy => by rw [lnk_17 j2, if_neg (fun s => hy s.1)]
      have nvL : nxv (lnk σa j l b cc) = nx (chr σ) q := by rw [nxv_u bL, cL, atL]
      have ge := sk_ge (ch := chr σ) (p := q)
      have s1 := iL.inl.skb iL.1
      rw [cL, atL] at s1
      dsimp only [Option.bind_some]
      by_cases c : nx (chr σ) q = 124
      · rw [if_pos c]
        have t1 := takes_y (d := d + 1) iL (c := 124) (rgk rfl) (by decide) (nvL.trans c)
        rw [cL, atL] at t1
        have s2 := iL.inl.sn iL.1 (by rw [cL, atL, c]; decide)
        rw [cL, atL] at s2
        have iW := iL.at s2.1 s2.2
        have wo : ∀ {i : Nat}, i ≠ 35 → (Wq (lnk σa j l b cc) (sk (chr σ) q + 1)) i = (lnk σa j l b cc) i := fun hi => Wq_o hi
        have w5 : (Wq (lnk σa j l b cc) (sk (chr σ) q + 1)) 5 7 = b + 1 := by rw [wo (by decide), L5]; exact a5
        have HW : OK (Wq (lnk σa j l b cc) (sk (chr σ) q + 1)) := by
          refine ⟨iW, fun _ => ⟨?_, pL.wq⟩⟩
          have := (H.2 hb).1
          rw [w5, Wq_at]; omega
        have x7 : (Wq (lnk σa j l b cc) (sk (chr σ) q + 1)) 7 b = 17 := by rw [wo (by decide), row 7 b (by simp) (Or.inr (by omega))]; exact e7
        have x17 : (Wq (lnk σa j l b cc) (sk (chr σ) q + 1)) 17 b = cc := by rw [wo (by decide)]; exact b17
        have x15 : (Wq (lnk σa j l b cc) (sk (chr σ) q + 1)) 15 b = -1 := by rw [wo (by decide), row 15 b (by simp) (Or.inl (by omega))]; exact e15
        have zW : (Wq (lnk σa j l b cc) (sk (chr σ) q + 1)) 37 = σ 37 := (wo (by decide)).trans zL
        obtain ⟨v, σ2, L2, gv, f2, i2, z2, v2, m2⟩ := choice_l hx hB n cc b (x4 + 1) b 15 _ (by omega) (by omega) gb HW (fun y a b => by rw [zW]; exact hC y a b) (by rw [Wq_k (by decide)]; exact bL) (Or.inr ⟨by omega, rfl, rfl, x7, x17⟩) ⟨hcc.1, by rw [w5]; omega⟩ ⟨by omega, by rw [w5]; omega⟩ x15
        have cW : chr (Wq (lnk σa j l b cc) (sk (chr σ) q + 1)) = chr σ := W_chr.trans cL
        rw [cW, Wq_at] at v2 m2
        refine ⟨v, σ2, K_Rd_choice_37 (d := d + 3) ⟨by omega, by omega⟩ gc g3 ⟨by omega, by omega⟩ ?_, gv, (fL.tr Wq_f).tr f2, i2, z2.trans zW, ?_, ?_⟩
        · unfold B_Rd_choice_37
          rw [if_neg (by omega)]
          refine ⟨b, σa, ra, _, rL, 1, _, t1, ?_⟩
          rw [if_pos (by decide)]
          exact ⟨⟨by omega, by omega⟩, L2⟩
        · intro y hy
          obtain ⟨s, hs, -⟩ := Option.map_eq_some_iff.mp hy
          exact v2 s hs
        · cases hP : pBr (chr σ) (P (chr σ)) (E (chr σ)) n (sk (chr σ) q + 1) with
          | none => rw [hP] at m2; exact m2
          | some X =>
            obtain ⟨T, q2⟩ := X
            rw [hP] at m2
            obtain ⟨c1, c2, c3, ⟨d1, d2, d3, d4, d5, d6⟩, cu⟩ := m2
            rw [Wq_at] at c3 d1
            rw [w5] at d1 d2 d3 d6
            have low : ∀ y, 0 ≤ y → y < b + 1 → σ2 7 y = σa 7 y ∧ σ2 9 y = σa 9 y ∧ σ2 11 y = σa 11 y ∧ ((y ≠ l ∨ j ≠ 13) → σ2 13 y = σa 13 y) ∧ ((y ≠ l ∨ j ≠ 15) → y ≠ b → σ2 15 y = σa 15 y) ∧ (y ≠ b → σ2 17 y = σa 17 y) := by
              intro y ya yb
              obtain ⟨u1, u2, u3, u4, u5, u6⟩ := d6 y ya yb
              rw [wo (by decide)] at u1 u2 u3 u4 u5 u6
              rw [row 7 y (by simp) (Or.inr (by omega))] at u1
              rw [row 9 y (by simp) (Or.inr (by omega))] at u2
              rw [row 11 y (by simp) (Or.inr (by omega))] at u3
              refine ⟨u1, u2, u3, fun s => ?_, fun s t => ?_, fun s => ?_⟩
              · rw [u4 (Or.inr (by decide)), row 13 y (by simp) (by rcases s with s | s; exact Or.inl s; exact Or.inr (fun w => s w.symm))]
              · rw [u5 (Or.inl t), row 15 y (by simp) (by rcases s with s | s; exact Or.inl s; exact Or.inr (fun w => s w.symm))]
              · rw [u6, r17 y s]
            have atl : σ2 j l = b := by
              obtain ⟨u1, u2, u3, u4, u5, u6⟩ := d6 l hl.1 (by omega)
              rw [wo (by decide)] at u4 u5
              rcases j2 with rfl | rfl
              · rw [u4 (Or.inr (by decide))]; exact jl
              · rw [u5 (Or.inl (by omega))]; exact jl
            have at17 : σ2 17 b = cc := by
              have := (d6 b (by omega) (by omega)).2.2.2.2.2
              rw [this]; exact x17
            obtain ⟨lb1, lb2, lb3, lb4, -, -⟩ := low b (by omega) (by omega)
            refine ⟨c1, c2, by omega, ⟨?_, ?_, ?_, ?_, d5, ?_⟩, ?_⟩
            · rw [c2] at d1 ⊢; omega
            · rw [atl]; omega
            · rw [atl]
              refine isT_nd.mpr ⟨⟨by omega, by omega⟩, lb1.trans e7, lb2.trans e9, ?_, ?_, ?_⟩
              · show isT σ2 5 (σ 5 7) (σ2 5 7) A (σ2 11 b)
                rw [lb3]
                refine isT.mv (Int.le_refl _) (by omega) (fun y ya yb => ?_) tA
                obtain ⟨u1, u2, u3, u4, u5, u6⟩ := low y (by omega) (by omega)
                exact ⟨u1, u2, u3, u4 (Or.inl (by omega)), u5 (Or.inl (by omega)) (by omega)⟩
              · show isT σ2 5 (σ 5 7) (σ2 5 7) B (σ2 13 b)
                rw [lb4 (Or.inl (by omega))]
                refine isT.mv (Int.le_refl _) (by omega) (fun y ya yb => ?_) tB
                obtain ⟨u1, u2, u3, u4, u5, u6⟩ := low y (by omega) (by omega)
                exact ⟨u1, u2, u3, u4 (Or.inl (by omega)), u5 (Or.inl (by omega)) (by omega)⟩
              · show isT σ2 5 (σ 5 7) (σ2 5 7) T (σ2 15 b)
                exact isT.mv (by omega) (Int.le_refl _) (fun _ _ _ => ⟨rfl, rfl, rfl, rfl, rfl⟩) d3
            · rw [atl]; exact at17
            · intro y ya yb
              obtain ⟨u1, u2, u3, u4, u5, u6⟩ := low y ya (by omega)
              obtain ⟨w1, w2, w3, w4, w5', w6⟩ := a8 y ya yb
              exact ⟨u1.trans w1, u2.trans w2, u3.trans w3, fun s => (u4 s).trans w4, fun s => (u5 s (by omega)).trans w5', (u6 (by omega)).trans w6⟩
            · rw [cu, Wq_k (by decide), L35, au, bd_of zW, clo_nd]
              simp only [show (17 : Nat) ≠ 5 by decide, show (17 : Nat) ≠ 12 by decide, show (17 : Nat) ≠ 13 by decide, show (17 : Nat) ≠ 14 by decide, if_false, if_true]
              cases clo B (addl (bd σ) (bnd A)) <;> cases clo T (bd σ) <;> simp
      · rw [if_neg c]
        have t1 := takes_n (d := d + 1) iL (c := 124) (rgk rfl) (by rw [nvL]; exact c)
        rw [cL, atL] at t1
        have iW := iL.at s1.1 s1.2
        have bW : (Wq (lnk σa j l b cc) (sk (chr σ) q)) 35 4 = 0 := by rw [Wq_k (by decide)]; exact bL
        have cW : chr (Wq (lnk σa j l b cc) (sk (chr σ) q)) = chr σ := W_chr.trans cL
        have q0 : 0 ≤ q := by have := H.1.2.1.1; omega
        have nW : nxv (Wq (lnk σa j l b cc) (sk (chr σ) q)) = nx (chr σ) q := by rw [nxv_u bW, cW, Wq_at]; exact H.1.1.nx_sk q0
        by_cases c2 : nx (chr σ) q = 125
        · have x1 := expect_y (d := d) iW (c := 125) (rgk rfl) (by decide) (nW.trans c2)
          rw [cW, mup_eq, mup_mup, H.1.1.sk_sk q0] at x1
          have s2 := iL.inl.sn iL.1 (by rw [cL, atL, c2]; decide)
          rw [cL, atL] at s2
          have wo : ∀ {i : Nat}, i ≠ 35 → (Wq (lnk σa j l b cc) (sk (chr σ) q + 1)) i = (lnk σa j l b cc) i := fun hi => Wq_o hi
          have w5 : (Wq (lnk σa j l b cc) (sk (chr σ) q + 1)) 5 7 = b + 1 := by rw [wo (by decide), L5]; exact a5
          refine ⟨cc, Wq (lnk σa j l b cc) (sk (chr σ) q + 1), K_Rd_choice_37 (d := d + 3) ⟨by omega, by omega⟩ gc g3 ⟨by omega, by omega⟩ ?_, gc, fL.tr Wq_f, iL.at s2.1 s2.2, (wo (by decide)).trans zL, fun _ _ => rfl, ?_⟩
          · unfold B_Rd_choice_37
            rw [if_neg (by omega)]
            refine ⟨b, σa, ra, _, rL, 0, _, t1, ?_⟩
            rw [if_neg (by decide)]
            exact ⟨_, x1, rfl, rfl⟩
          · have eP : pEx (chr σ) 125 q = some (sk (chr σ) q + 1) := by unfold pEx; rw [if_pos c2]
            rw [eP]
            refine ⟨by rw [Wq_k (by decide)]; exact bL, Wq_at, by omega, ⟨?_, ?_, ?_, ?_, pL.wq, ?_⟩, ?_⟩
            · rw [Wq_at, w5]; omega
            · rw [wo (by omega), w5, jl]; omega
            · rw [wo (show j ≠ 35 by omega), w5, jl]
              refine isT_nd.mpr ⟨⟨by omega, by omega⟩, ?_, ?_, ?_, ?_, ?_⟩
              · show Wq _ _ 7 b = _; rw [wo (by decide), row 7 b (by simp) (Or.inr (by omega))]; exact e7
              · show Wq _ _ 9 b = _; rw [wo (by decide), row 9 b (by simp) (Or.inr (by omega))]; exact e9
              · show isT _ 5 _ _ A (Wq _ _ 11 b)
                rw [wo (show 11 ≠ 35 by decide), row 11 b (by simp) (Or.inr (by omega))]
                refine isT.mv (Int.le_refl _) (by omega) (fun y ya yb => ?_) tA
                rw [wo (show 5 + 2 ≠ 35 by decide), wo (show 5 + 4 ≠ 35 by decide), wo (show 5 + 6 ≠ 35 by decide), wo (show 5 + 8 ≠ 35 by decide), wo (show 5 + 10 ≠ 35 by decide)]
                exact ⟨row 7 y (by simp) (Or.inr (by omega)), row 9 y (by simp) (Or.inr (by omega)), row 11 y (by simp) (Or.inr (by omega)), row 13 y (by simp) (Or.inl (by omega)), row 15 y (by simp) (Or.inl (by omega))⟩
              · show isT _ 5 _ _ B (Wq _ _ 13 b)
                rw [wo (show 13 ≠ 35 by decide), row 13 b (by simp) (Or.inl (by omega))]
                refine isT.mv (Int.le_refl _) (by omega) (fun y ya yb => ?_) tB
                rw [wo (show 5 + 2 ≠ 35 by decide), wo (show 5 + 4 ≠ 35 by decide), wo (show 5 + 6 ≠ 35 by decide), wo (show 5 + 8 ≠ 35 by decide), wo (show 5 + 10 ≠ 35 by decide)]
                exact ⟨row 7 y (by simp) (Or.inr (by omega)), row 9 y (by simp) (Or.inr (by omega)), row 11 y (by simp) (Or.inr (by omega)), row 13 y (by simp) (Or.inl (by omega)), row 15 y (by simp) (Or.inl (by omega))⟩
              · show isT _ 5 _ _ nl (Wq _ _ 15 b)
                rw [wo (show 15 ≠ 35 by decide), row 15 b (by simp) (Or.inl (by omega))]; exact e15
            · rw [wo (show j ≠ 35 by omega), jl, wo (show 17 ≠ 35 by decide)]; exact b17
            · intro y ya yb
              obtain ⟨w1, w2, w3, w4, w5', w6⟩ := a8 y ya yb
              rw [wo (show 7 ≠ 35 by decide), wo (show 9 ≠ 35 by decide), wo (show 11 ≠ 35 by decide), wo (show 13 ≠ 35 by decide), wo (show 15 ≠ 35 by decide), wo (show 17 ≠ 35 by decide)]
              refine ⟨(row 7 y (by simp) (Or.inr (by omega))).trans w1, (row 9 y (by simp) (Or.inr (by omega))).trans w2, (row 11 y (by simp) (Or.inr (by omega))).trans w3, fun s => ?_, fun s => ?_, (r17 y (by omega)).trans w6⟩
              · exact (row 13 y (by simp) (by rcases s with s | s; exact Or.inl s; exact Or.inr (fun w => s w.symm))).trans w4
              · exact (row 15 y (by simp) (by rcases s with s | s; exact Or.inl s; exact Or.inr (fun w => s w.symm))).trans w5'
            · rw [Wq_k (by decide), L35, au, clo_nd]
              simp only [show (17 : Nat) ≠ 5 by decide, show (17 : Nat) ≠ 12 by decide, show (17 : Nat) ≠ 13 by decide, show (17 : Nat) ≠ 14 by decide, if_false, if_true, clo_nl, Bool.and_true]
        · have x1 := expect_n (d := d) iW (c := 125) (rgk rfl) (by rw [nW]; exact c2)
          have s2 := iW.inl.skb iW.1
          refine ⟨cc, _, K_Rd_choice_37 (d := d + 3) ⟨by omega, by omega⟩ gc g3 ⟨by omega, by omega⟩ ?_, gc, ((fL.tr Wq_f).tr Wq_f).tr (frR.mu (i := 35) (k := 4) (z := 1) rfl), (iW.at s2.1 s2.2).br, ?_, fun _ _ => rfl, ?_⟩
          · unfold B_Rd_choice_37
            rw [if_neg (by omega)]
            refine ⟨b, σa, ra, _, rL, 0, _, t1, ?_⟩
            rw [if_neg (by decide)]
            exact ⟨_, x1, rfl, rfl⟩
          · exact (mup_obj (by decide)).trans ((mup_obj (by decide)).trans ((mup_obj (by decide)).trans zL))
          · have eP : pEx (chr σ) 125 q = none := by unfold pEx; rw [if_neg c2]
            rw [eP]
            show mup _ 35 4 1 35 4 ≠ 0
            rw [mup_eq]; decide
end CH
