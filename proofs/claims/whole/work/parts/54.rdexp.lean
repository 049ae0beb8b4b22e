/-! The class's reader: atoms, applications, products, sums, comparisons, lists. -/
section EX
variable {d : Nat} {σ σ1 : Mem} {R : PRG}
/-- what was read is the whole -/
theorem ST.eo {v : Int} {P : Option (Tr × Int)} (S : ST σ σ1 R) (gv : rg v) (h37 : σ1 37 = σ 37) (hN : R = none → σ 35 4 = 0 → P = none) (hR : ∀ x, R = some x → 1 ≤ x.1 ∧ ∃ T, (T, v) ∈ x.2.1 ∧ P = some (T, x.2.2.2) ∧ x.2.2.1 = !(clo T (bd σ))) : EO P σ σ1 v := by
  refine ⟨gv, S.1, S.2.1, h37, ?_, ?_⟩
  · intro hb
    cases R with
    | none => exact S.2.2
    | some x => exact absurd S.2.2.1.1 hb
  · intro hb _
    cases R with
    | none => rw [hN rfl hb]; exact S.2.2
    | some x =>
      obtain ⟨n, Ts, u, q⟩ := x
      obtain ⟨hn, T, hT, eP, eu⟩ := hR _ rfl
      obtain ⟨g, h1, h2, h3, h4, h5, h6, h7, h8, h9⟩ := S.2.2
      obtain ⟨t1, t2, t3⟩ := h8.1 _ hT
      rw [eP]
      rcases t2 with w | ⟨w1, w2, w3⟩
      · exact absurd w t3
      refine ⟨h1, h2, h3, ⟨by rw [h2]; dsimp only at hn ⊢; omega, ⟨w1, w2⟩, t1, w3, h6, h7⟩, ?_⟩
      rw [h9]
      dsimp only at eu
      rw [eu]
      cases clo T (bd σ) <;> simp
theorem EO.st {v : Int} {P : Option (Tr × Int)} (H : OK σ) (h : EO P σ σ1 v) : ST σ σ1 ((if σ 35 4 = 0 then P else none).map fun t => (1, [(t.1, v)], !(clo t.1 (bd σ)), t.2)) := by
  obtain ⟨gv, f, i, z, b, m⟩ := h
  refine ⟨f, i, ?_⟩
  by_cases hb : σ 35 4 = 0
  · rw [if_pos hb]
    have M := m hb (H.2 hb)
    cases P with
    | none => exact M
    | some t =>
      obtain ⟨T, q⟩ := t
      obtain ⟨a1, a2, a3, ⟨b1, b2, b3, b4, b5, b6⟩, a5⟩ := M
      refine ⟨⟨hb, H.1.2.2.1, H.2 hb⟩, a1, a2, a3, ?_, ?_, b5, b6, ?_, ?_⟩
      · rw [a2] at b1; exact b1
      · omega
      · refine ⟨fun x hx => ?_, List.nodup_cons.mpr ⟨List.not_mem_nil, List.nodup_nil⟩⟩
        rw [List.mem_singleton] at hx
        subst hx
        exact ⟨b3, Or.inr ⟨b2.1, b2.2, b4⟩, by have := H.1.2.2.1; show v ≠ -1; omega⟩
      · rw [a5]
        show _ ↔ _ ∨ (!(clo T (bd σ))) = true
        cases clo T (bd σ) <;> simp
  · rw [if_neg hb]; exact b hb
theorem ST.leaf {k : Nat} {ki z : Int} {P : Option (Tr × Int)} (S : ST σ σ1 R) (h37 : σ1 37 = σ 37) (hki : ki = k) (rk : rg ki) (hz : rg z) (hN : R = none → σ 35 4 = 0 → P = none)
    (hR : ∀ x, R = some x → 2 ≤ x.1 ∧ P = some (nd k z nl nl nl, x.2.2.2) ∧ x.2.2.1 = !(clo (nd k z nl nl nl) (bd σ))) : ∃ v σ2, Rn (d + 3) yTr_addLeaf [.ref 5, vi ki, vi z] σ1 (some v) σ2 ∧ EO P σ σ2 v := by
  obtain ⟨v, σ2, r, E⟩ := S.add (d := d) (a := -1) (b := -1) (c := -1) h37 hki rk hz (rgk rfl) (rgk rfl) (rgk rfl) (fun _ => rfl) hN (fun x hx => by
    obtain ⟨h1, h2, h3⟩ := hR x hx
    exact ⟨h1, nl, nl, nl, Or.inl ⟨rfl, rfl⟩, Or.inl ⟨rfl, rfl⟩, ⟨Or.inl ⟨rfl, rfl⟩, fun _ => df_1⟩, h2, h3⟩)
  exact ⟨v, σ2, M_Tr_addLeaf rk hz ⟨v, σ2, r, rfl, rfl⟩, E⟩
theorem ST.ub {c : Nat} {Ts : List (Tr × Int)} {u : Bool} {q : Int} (S : ST σ σ1 (some (c, Ts, u, q))) : ST σ (mup σ1 35 5 1) (some (c, Ts, true, q)) := by
  obtain ⟨f, i, g, h1, h2, h3, h4, h5, h6, h7, h8, h9⟩ := S
  have ro : ∀ {j : Nat}, j ≠ 35 → (mup σ1 35 5 1) j = σ1 j := fun hj => mup_obj hj
  refine ⟨f.tr (frR.mu rfl), ⟨(frR.mu rfl).li i.1, ?_, ?_⟩, g, ?_, ?_, h3, ?_, ?_, ?_, ?_, ?_, ?_⟩
  · rw [mup_nk (by decide), mup_ne (by decide)]; exact i.2.1
  · rw [mup_ne (by decide)]; exact i.2.2
  · rw [mup_nk (by decide)]; exact h1
  · rw [mup_nk (by decide)]; exact h2
  · rw [mup_ne (by decide)]; exact h4
  · rw [mup_ne (by decide)]; exact h5
  · exact h6.cg (by rw [ro (by decide)]) (ro (by decide)) (ro (by decide)) (ro (by decide)) (ro (by decide)) (ro (by decide)) (ro (by decide))
  · intro x a b
    rw [ro (show 7 ≠ 35 by decide), ro (show 9 ≠ 35 by decide), ro (show 11 ≠ 35 by decide), ro (show 13 ≠ 35 by decide), ro (show 15 ≠ 35 by decide), ro (show 17 ≠ 35 by decide)]
    exact h7 x a b
  · refine ⟨fun x hx => ?_, h8.2⟩
    obtain ⟨t1, t2, t3⟩ := h8.1 x hx
    refine ⟨?_, ?_, t3⟩
    · rw [ro (show 5 ≠ 35 by decide)]
      refine isT.mv (Int.le_refl _) (Int.le_refl _) (fun y _ _ => ?_) t1
      rw [ro (show 5 + 2 ≠ 35 by decide), ro (show 5 + 4 ≠ 35 by decide), ro (show 5 + 6 ≠ 35 by decide), ro (show 5 + 8 ≠ 35 by decide), ro (show 5 + 10 ≠ 35 by decide)]
      exact ⟨rfl, rfl, rfl, rfl, rfl⟩
    · unfold rt at t2 ⊢
      rw [ro (show 5 ≠ 35 by decide), ro (show 17 ≠ 35 by decide)]; exact t2
  · rw [mup_eq]; simp
theorem s_usedName (H : OK σ) (hb : σ 35 4 = 0) (hl : 97 ≤ nx (chr σ) (σ 35 3) ∧ nx (chr σ) (σ 35 3) ≤ 122) : ∃ v σ', Rn (d + 6) yRd_usedName [.ref 35] σ (some v) σ' ∧ EO (some (nd 5 (nx (chr σ) (σ 35 3)) nl nl nl, sk (chr σ) (σ 35 3) + 1)) σ σ' v := by
  have e4 := H.1.inl.sn H.1.1 (by omega)
  have S0 : ST σ (Wq σ (sk (chr σ) (σ 35 3) + 1)) (some (2, [], false, sk (chr σ) (σ 35 3) + 1)) := by
    refine ⟨Wq_f, H.1.at e4.1 e4.2, ?_⟩
    have S := (ST.init H).2.2
    unfold stR at S
    rw [if_pos hb] at S
    exact PG.wq S (by have := sk_ge (ch := chr σ) (p := σ 35 3); omega) _ (by have := sk_ge (ch := chr σ) (p := σ 35 3); push_cast; omega)
  have N := name_y (d := d) H.1 hb hl
  have z1 : (Wq σ (sk (chr σ) (σ 35 3) + 1)) 37 = σ 37 := Wq_o (by decide)
  have eq : rowv 26 (Wq σ (sk (chr σ) (σ 35 3) + 1)) 37 (nx (chr σ) (σ 35 3) - 97) = σ 37 (nx (chr σ) (σ 35 3) - 97) := by
    unfold rowv; rw [if_pos (by omega), z1]
  have rc : rg (nx (chr σ) (σ 35 3)) := ⟨by omega, by omega⟩
  by_cases c : σ 37 (nx (chr σ) (σ 35 3) - 97) ≥ 1
  · obtain ⟨v, σ', r, E⟩ := S0.leaf (d := d + 2) (k := 5) (ki := 5) (P := some (nd 5 (nx (chr σ) (σ 35 3)) nl nl nl, sk (chr σ) (σ 35 3) + 1)) z1 rfl (rgk rfl) rc (fun h => by cases h) (fun x hx => by
      cases hx
      refine ⟨Nat.le_refl 2, rfl, ?_⟩
      show false = !(bd σ (nx (chr σ) (σ 35 3)))
      rw [show bd σ (nx (chr σ) (σ 35 3)) = true from decide_eq_true c]; rfl)
    refine ⟨v, σ', M_Rd_usedName (d := d + 2) ⟨_, _, N, ⟨by omega, by omega⟩, ?_⟩, E⟩
    rw [eq, if_pos c]
    exact ⟨v, σ', r, rfl, rfl⟩
  · obtain ⟨v, σ', r, E⟩ := S0.ub.leaf (d := d + 2) (k := 5) (ki := 5) (P := some (nd 5 (nx (chr σ) (σ 35 3)) nl nl nl, sk (chr σ) (σ 35 3) + 1)) ((mup_obj (by decide)).trans z1) rfl (rgk rfl) rc (fun h => by cases h) (fun x hx => by
      cases hx
      refine ⟨Nat.le_refl 2, rfl, ?_⟩
      show true = !(bd σ (nx (chr σ) (σ 35 3)))
      rw [show bd σ (nx (chr σ) (σ 35 3)) = false from decide_eq_false c]; rfl)
    refine ⟨v, σ', M_Rd_usedName (d := d + 2) ⟨_, _, N, ⟨by omega, by omega⟩, ?_⟩, E⟩
    rw [eq, if_neg c]
    exact ⟨v, σ', r, rfl, rfl⟩
theorem OK.wq {q : Int} (H : OK σ) (h : inL σ q) (hq : σ 35 3 ≤ q) : OK (Wq σ q) := ⟨H.1.at h.1 h.2, fun hb => (H.2 (by rw [Wq_k (by decide)] at hb; exact hb)).wq hq⟩
section PL
variable {x e : Int} {E : (Int → Int) → Int → Option (Tr × Int)}
theorem s_plainAtom (hx : 0 ≤ x ∧ x ≤ 100) (hE : LSp yRd_expression (d + 6) (x + 1) e E) : LSp yRd_plainAtom (d + 7) x e (fun ch p => pPlain ch (E ch) p) := by
  intro σ H hC
  have L := H.1.1
  have rx : rg x := ⟨by omega, by omega⟩
  have h0 := H.1.inl
  have hs := h0.skb L
  have ge := sk_ge (ch := chr σ) (p := σ 35 3)
  have nn : nx (chr σ) (sk (chr σ) (σ 35 3)) = nx (chr σ) (σ 35 3) := L.nx_sk h0.1
  have ss : sk (chr σ) (sk (chr σ) (σ 35 3)) = sk (chr σ) (σ 35 3) := L.sk_sk h0.1
  have OW := H.wq hs ge
  have N := s_next (d := d + 2) H.1
  have w3 : (Wq σ (sk (chr σ) (σ 35 3))) 35 3 = sk (chr σ) (σ 35 3) := Wq_at
  have w4 : (Wq σ (sk (chr σ) (σ 35 3))) 35 4 = σ 35 4 := Wq_k (by decide)
  have wc : chr (Wq σ (sk (chr σ) (σ 35 3))) = chr σ := W_chr
  by_cases c1 : 97 ≤ nxv σ ∧ nxv σ ≤ 122
  · have hb : σ 35 4 = 0 := by
      by_cases q : σ 35 4 = 0
      · exact q
      · rw [nxv_b q] at c1; omega
    rw [nxv_u hb] at c1 N
    obtain ⟨v, σ', r, E1⟩ := s_usedName (d := d) OW (w4.trans hb) (by rw [wc, w3, nn]; exact c1)
    rw [wc, w3, nn, ss] at E1
    refine ⟨v, σ', M_Rd_plainAtom (d := d + 3) rx ⟨_, _, N, ?_⟩, ?_⟩
    · rw [if_neg (by omega), if_neg (by omega)]; exact ⟨v, σ', r, rfl, rfl⟩
    · have : pPlain (chr σ) (E (chr σ)) (σ 35 3) = some (nd 5 (nx (chr σ) (σ 35 3)) nl nl nl, sk (chr σ) (σ 35 3) + 1) := by unfold pPlain; rw [if_pos c1]
      show EO (pPlain (chr σ) (E (chr σ)) (σ 35 3)) σ σ' v
      rw [this]; exact E1.at ge
  suffices hh : ∃ v σ', B_Rd_plainAtom_22 (d + 3) x (nxv σ) (Wq σ (sk (chr σ) (σ 35 3))) (some v) σ' ∧ EO (pPlain (chr σ) (E (chr σ)) (σ 35 3)) σ σ' v by
    obtain ⟨v, σ', r, E1⟩ := hh
    refine ⟨v, σ', M_Rd_plainAtom (d := d + 3) rx ⟨_, _, N, ?_⟩, E1⟩
    by_cases q : nxv σ < 97
    · rw [if_pos q]; exact r
    · rw [if_neg q, if_pos (by omega)]; exact r
  unfold B_Rd_plainAtom_22
  by_cases c2 : 48 ≤ nxv σ ∧ nxv σ ≤ 57
  · have hb : σ 35 4 = 0 := by
      by_cases q : σ 35 4 = 0
      · exact q
      · rw [nxv_b q] at c2; omega
    rw [dgt_1 c2]
    rw [nxv_u hb] at c1 c2
    obtain ⟨v, σ', r, E1⟩ := s_numeral (d := d) OW.1
    rw [wc, w3] at E1
    refine ⟨v, σ', ?_, ?_⟩
    · rw [if_neg (by decide)]; exact ⟨v, σ', r, rfl, rfl⟩
    · have : pPlain (chr σ) (E (chr σ)) (σ 35 3) = pNum (chr σ) (sk (chr σ) (σ 35 3)) := by unfold pPlain; rw [if_neg c1, if_pos c2]
      rw [this]; exact E1.at ge
  have dz := dgt_0 c2
  have S1 := (ST.init H).skp
  -- R
  obtain ⟨v2, σ2, r2, z2, -, k2⟩ := S1.takes (d := d + 1) (t := 82) (rgk rfl) (by decide)
  have z1 : (Wq σ (sk (chr σ) (σ 35 3))) 37 = σ 37 := Wq_o (by decide)
  have pn : prN (chr σ) (skR (chr σ) (stR σ)) = nxv σ := by
    unfold stR nxv
    split
    · show nx (chr σ) (sk (chr σ) (σ 35 3)) = _; exact nn
    · rfl
  have sks : skR (chr σ) (skR (chr σ) (stR σ)) = skR (chr σ) (stR σ) := by
    unfold stR
    split
    · show some ((0 : Nat), ([] : List (Tr × Int)), false, sk (chr σ) (sk (chr σ) (σ 35 3))) = some (0, [], false, sk (chr σ) (σ 35 3)); rw [ss]
    · rfl
  have gd : ∀ x, skR (chr σ) (stR σ) = some x → σ 35 4 = 0 ∧ x = (0, [], false, sk (chr σ) (σ 35 3)) := by
    intro x hx
    unfold stR at hx
    split at hx
    · next hb => cases hx; exact ⟨hb, rfl⟩
    · cases hx
  rcases k2 with ⟨rfl, y, hy, ny, S2⟩ | ⟨rfl, ny, S2⟩
  · obtain ⟨hb, rfl⟩ := gd y hy
    rw [nxv_u hb] at c1 c2
    have ny' : nx (chr σ) (σ 35 3) = 82 := nn.symm.trans ny
    obtain ⟨v, σ', r, E1⟩ := S2.leaf (d := d + 3) (k := 4) (ki := 4) (z := 82) (P := pPlain (chr σ) (E (chr σ)) (σ 35 3)) (z2.trans z1) rfl (rgk rfl) (rgk rfl) (fun h => by cases h) (fun w hw => by
      cases hw
      refine ⟨Nat.le_refl 2, ?_, rfl⟩
      unfold pPlain; rw [if_neg c1, if_neg c2, if_pos ny']
      show some _ = some (_, sk (chr σ) (sk (chr σ) (σ 35 3)) + 1)
      rw [ss])
    refine ⟨v, σ', ?_, E1⟩
    rw [dz, if_pos rfl]
    refine ⟨1, σ2, r2, ?_⟩
    rw [if_neg (by decide)]; exact ⟨v, σ', r, rfl, rfl⟩
  rw [pn] at ny
  rw [sks] at S2
  have n82 := ny
  obtain ⟨v3, σ3, r3, z3, -, k3⟩ := S2.takes (d := d + 1) (t := 73) (rgk rfl) (by decide)
  rcases k3 with ⟨rfl, y, hy, ny, S3⟩ | ⟨rfl, ny, S3⟩
  · obtain ⟨hb, rfl⟩ := gd y hy
    rw [nxv_u hb] at c1 c2 n82
    have ny' : nx (chr σ) (σ 35 3) = 73 := nn.symm.trans ny
    obtain ⟨v, σ', r, E1⟩ := S3.leaf (d := d + 3) (k := 4) (ki := 4) (z := 73) (P := pPlain (chr σ) (E (chr σ)) (σ 35 3)) ((z3.trans z2).trans z1) rfl (rgk rfl) (rgk rfl) (fun h => by cases h) (fun w hw => by
      cases hw
      refine ⟨Nat.le_refl 2, ?_, rfl⟩
      unfold pPlain; rw [if_neg c1, if_neg c2, if_neg n82, if_pos ny']
      show some _ = some (_, sk (chr σ) (sk (chr σ) (σ 35 3)) + 1)
      rw [ss])
    refine ⟨v, σ', ?_, E1⟩
    rw [dz, if_pos rfl]
    refine ⟨0, σ2, r2, ?_⟩
    rw [if_pos rfl]
    refine ⟨1, σ3, r3, ?_⟩
    rw [if_neg (by decide)]; exact ⟨v, σ', r, rfl, rfl⟩
  rw [pn] at ny
  rw [sks] at S3
  have n73 := ny
  obtain ⟨v4, σ4, r4, z4, -, k4⟩ := S3.takes (d := d + 1) (t := 40) (rgk rfl) (by decide)
  rcases k4 with ⟨rfl, y, hy, ny, S4⟩ | ⟨rfl, ny, S4⟩
  · obtain ⟨hb, rfl⟩ := gd y hy
    rw [nxv_u hb] at c1 c2 n82 n73
    have ny' : nx (chr σ) (σ 35 3) = 40 := nn.symm.trans ny
    have z5 : σ4 37 = σ 37 := ((z4.trans z3).trans z2).trans z1
    obtain ⟨v5, σ5, r5, g5, S5, z6⟩ := S4.sub hE (fun y a b => by rw [z5]; exact hC y a b)
    obtain ⟨σ6, r6, S6, z7, -⟩ := S5.expect (d := d) (t := 41) (rgk rfl) (by decide)
    refine ⟨v5, σ6, ?_, ?_⟩
    · rw [dz, if_pos rfl]
      refine ⟨0, σ2, r2, ?_⟩
      rw [if_pos rfl]
      refine ⟨0, σ3, r3, ?_⟩
      rw [if_pos rfl]
      refine ⟨1, σ4, r4, ?_⟩
      rw [if_neg (by decide)]
      exact ⟨v5, σ5, r5, σ6, r6, rfl, rfl⟩
    · have eP : pPlain (chr σ) (E (chr σ)) (σ 35 3) = (E (chr σ) (sk (chr σ) (σ 35 3) + 1)).bind fun t => (pEx (chr σ) 41 t.2).map fun r => (t.1, r) := by
        unfold pPlain; rw [if_neg c1, if_neg c2, if_neg n82, if_neg n73, if_pos ny']
      have e4 : sk (chr σ) (sk (chr σ) (σ 35 3)) + 1 = sk (chr σ) (σ 35 3) + 1 := by rw [ss]
      dsimp only [Option.bind_some] at S6
      rw [e4] at S6
      cases hq : E (chr σ) (sk (chr σ) (σ 35 3) + 1) with
      | none =>
        rw [hq] at S6 eP
        exact S6.eo g5 ((z7.trans z6).trans z5) (fun _ _ => eP) (fun w hw => by cases hw)
      | some t =>
        rw [hq] at S6 eP
        dsimp only [Option.bind_some, Option.map_some] at S6 eP
        cases hw : pEx (chr σ) 41 t.2 with
        | none =>
          rw [hw] at S6 eP
          exact S6.eo g5 ((z7.trans z6).trans z5) (fun _ _ => eP) (fun w hw => by cases hw)
        | some s =>
          rw [hw] at S6 eP
          refine S6.eo g5 ((z7.trans z6).trans z5) (fun h => by cases h) (fun w hw => ?_)
          cases hw
          refine ⟨by dsimp only; omega, t.1, List.mem_cons_self, eP, ?_⟩
          rw [bd_of z5]; rfl
  rw [pn] at ny
  rw [sks] at S4
  have n40 := ny
  obtain ⟨v5, σ5, r5, E5⟩ := s_constant (d := d) S4.2.1
  have z5 : σ4 37 = σ 37 := ((z4.trans z3).trans z2).trans z1
  refine ⟨v5, σ5, ?_, ?_⟩
  · rw [dz, if_pos rfl]
    refine ⟨0, σ2, r2, ?_⟩
    rw [if_pos rfl]
    refine ⟨0, σ3, r3, ?_⟩
    rw [if_pos rfl]
    refine ⟨0, σ4, r4, ?_⟩
    rw [if_pos rfl]
    exact ⟨v5, σ5, r5, rfl, rfl⟩
  · have S5 := S4.subE (P := fun ch p => pCon ch p) E5
    have eP : σ 35 4 = 0 → pPlain (chr σ) (E (chr σ)) (σ 35 3) = pCon (chr σ) (sk (chr σ) (σ 35 3)) := by
      intro hb
      rw [nxv_u hb] at c1 c2 n82 n73 n40
      unfold pPlain; rw [if_neg c1, if_neg c2, if_neg n82, if_neg n73, if_neg n40]
      unfold pCon; rw [nn, ss]
    have sR : σ 35 4 = 0 → skR (chr σ) (stR σ) = some (0, [], false, sk (chr σ) (σ 35 3)) := by
      intro hb
      unfold stR; rw [if_pos hb]; rfl
    refine S5.eo E5.1 (E5.2.2.2.1.trans z5) ?_ ?_
    · intro hN hb
      rw [eP hb]
      rw [sR hb] at hN
      dsimp only [Option.bind_some] at hN
      cases hq : pCon (chr σ) (sk (chr σ) (σ 35 3)) with
      | none => rfl
      | some t => rw [hq] at hN; cases hN
    · intro w hw
      by_cases hb : σ 35 4 = 0
      · rw [eP hb]
        rw [sR hb] at hw
        dsimp only [Option.bind_some] at hw
        cases hq : pCon (chr σ) (sk (chr σ) (σ 35 3)) with
        | none => rw [hq] at hw; cases hw
        | some t =>
          rw [hq] at hw
          cases hw
          refine ⟨Nat.le_refl 1, t.1, List.mem_cons_self, rfl, ?_⟩
          rw [bd_of z5]; rfl
      · unfold stR at hw
        rw [if_neg hb] at hw
        cases hw
end PL
end EX
