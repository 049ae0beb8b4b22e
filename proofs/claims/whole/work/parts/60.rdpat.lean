/-! The class's reader: patterns. -/
def PSp (y D : Nat) (x : Int) (P : (Int → Int) → Int → List Int → PaR) : Prop := ∀ σ L, OK σ → (σ 35 4 = 0 → mk (σ 35 6) L) → ∃ v σ', Rn D y [.ref 35, vi x] σ (some v) σ' ∧ EO ((P (chr σ) (σ 35 3) L).map fun t => (t.1, t.2.1)) σ σ' v ∧ ∀ t, σ 35 4 = 0 → P (chr σ) (σ 35 3) L = some t → mk (σ' 35 6) t.2.2 ∧ t.2.2 = (bnd t.1).reverse ++ L
section PA
variable {d : Nat} {σ σ1 : Mem}
theorem EO.m6 {P : Option (Tr × Int)} {σ' : Mem} {v z : Int} (h : EO P (mup σ 35 6 z) σ' v) : EO P σ σ' v := by
  have k3 : (mup σ 35 6 z) 35 3 = σ 35 3 := mup_nk (by decide)
  have k4 : (mup σ 35 6 z) 35 4 = σ 35 4 := mup_nk (by decide)
  have k5 : (mup σ 35 6 z) 35 5 = σ 35 5 := mup_nk (by decide)
  have ro : ∀ {j : Nat}, j ≠ 35 → (mup σ 35 6 z) j = σ j := fun hj => mup_obj hj
  obtain ⟨h0, h1, h2, h3, h4, h5⟩ := h
  refine ⟨h0, (frR.mu rfl).tr h1, h2, h3.trans (ro (by decide)), fun hb => h4 (by rw [k4]; exact hb), fun hb g => ?_⟩
  have g' : GC (mup σ 35 6 z) := by
    refine ⟨by rw [k3, ro (show 5 ≠ 35 by decide)]; exact g.1, g.2.cg (by rw [ro (by decide)]) (ro (by decide)) (ro (by decide)) (ro (by decide)) (ro (by decide)) (ro (by decide)) (ro (by decide))⟩
  have M := h5 (by rw [k4]; exact hb) g'
  cases P with
  | none => exact M
  | some t =>
    obtain ⟨T, q⟩ := t
    obtain ⟨a1, a2, a3, ⟨b1, b2, b3, b4, b5, b6⟩, a5⟩ := M
    rw [k3] at a3 b1
    rw [ro (show 5 ≠ 35 by decide)] at b1 b2 b3 b6
    rw [bd_of (ro (by decide)), k5] at a5
    refine ⟨a1, a2, a3, ⟨b1, b2, b3, b4, b5, fun x a b => ?_⟩, a5⟩
    obtain ⟨c1, c2, c3, c4, c5, c6⟩ := b6 x a b
    rw [ro (show 7 ≠ 35 by decide)] at c1
    rw [ro (show 9 ≠ 35 by decide)] at c2
    rw [ro (show 11 ≠ 35 by decide)] at c3
    rw [ro (show 13 ≠ 35 by decide)] at c4
    rw [ro (show 15 ≠ 35 by decide)] at c5
    rw [ro (show 17 ≠ 35 by decide)] at c6
    exact ⟨c1, c2, c3, c4, c5, c6⟩
theorem s_binder {L : List Int} (H : OK σ) (hb : σ 35 4 = 0) (hm : mk (σ 35 6) L) (hl : 97 ≤ nx (chr σ) (σ 35 3) ∧ nx (chr σ) (σ 35 3) ≤ 122) : ∃ v σ', Rn (d + 6) yRd_binder [.ref 35] σ (some v) σ' ∧ EO (if nx (chr σ) (σ 35 3) ∈ L then none else some (nd 6 (nx (chr σ) (σ 35 3)) nl nl nl, sk (chr σ) (σ 35 3) + 1)) σ σ' v ∧ (nx (chr σ) (σ 35 3) ∉ L → mk (σ' 35 6) (nx (chr σ) (σ 35 3) :: L)) := by
  have e4 := H.1.inl.sn H.1.1 (by omega)
  have N := name_y (d := d) H.1 hb hl
  have ge := sk_ge (ch := chr σ) (p := σ 35 3)
  have w6 : (mup σ 35 3 (sk (chr σ) (σ 35 3) + 1)) 35 6 = σ 35 6 := mup_nk (by decide)
  by_cases c : nx (chr σ) (σ 35 3) ∈ L
  · rw [if_pos c]
    refine ⟨-1, _, M_Rd_binder (d := d + 2) ⟨_, _, N, ?_⟩, EO.brk H.1 e4 (rgk rfl) (fun _ => rfl), fun h => absurd c h⟩
    rw [w6, if_neg (fun w => (mk_in hm hl).mp w c)]
    exact ⟨-1, _, s_breakOff (d := d + 1), rfl, rfl⟩
  · rw [if_neg c]
    generalize hz : zOr (σ 35 6) (zShl 1 (nx (chr σ) (σ 35 3) - 97)) = z
    have cm : mup (mup σ 35 3 (sk (chr σ) (σ 35 3) + 1)) 35 6 z = Wq (mup σ 35 6 z) (sk (chr σ) (σ 35 3) + 1) := mup_cm (by decide)
    have k3 : (mup σ 35 6 z) 35 3 = σ 35 3 := mup_nk (by decide)
    have iB : RI (mup σ 35 6 z) := by
      refine ⟨(frR.mu rfl).li H.1.1, ?_, ?_⟩
      · rw [k3, mup_ne (by decide)]; exact H.1.2.1
      · rw [mup_ne (by decide)]; exact H.1.2.2
    obtain ⟨v, σ', r, E, e6⟩ := EO.leaf6 (d := d + 2) (k := 6) (ki := 6) (z := nx (chr σ) (σ 35 3)) (P := some (nd 6 (nx (chr σ) (σ 35 3)) nl nl nl, sk (chr σ) (σ 35 3) + 1)) iB (q := sk (chr σ) (σ 35 3) + 1) ⟨e4.1, by rw [mup_ne (by decide)]; exact e4.2⟩ (by rw [k3]; omega) rfl (rgk rfl) ⟨by omega, by omega⟩ (fun _ => rfl) (by decide) (by decide)
    refine ⟨v, σ', M_Rd_binder (d := d + 2) ⟨_, _, N, ?_⟩, E.m6, fun _ => ?_⟩
    · rw [w6, if_pos ((mk_in hm hl).mpr c), hz, cm]
      exact ⟨v, σ', r, rfl, rfl⟩
    · rw [e6, mup_eq, ← hz]
      exact mk_add hm hl c
theorem ST.leaf6 {R : PRG} {k : Nat} {ki z : Int} {P : Option (Tr × Int)} (S : ST σ σ1 R) (h37 : σ1 37 = σ 37) (hki : ki = k) (rk : rg ki) (hz : rg z) (h17 : k ≠ 17) (hN : R = none → σ 35 4 = 0 → P = none)
    (hR : ∀ x, R = some x → 2 ≤ x.1 ∧ P = some (nd k z nl nl nl, x.2.2.2) ∧ x.2.2.1 = !(clo (nd k z nl nl nl) (bd σ))) : ∃ v σ2, Rn (d + 3) yTr_addLeaf [.ref 5, vi ki, vi z] σ1 (some v) σ2 ∧ EO P σ σ2 v ∧ σ2 35 = σ1 35 := by
  obtain ⟨v, σ2, r, gv, z2, z35, S2⟩ := S.addS (d := d) (a := -1) (b := -1) (c := -1) (A := nl) (B := nl) (C := nl) hki rk hz (rgk rfl) (rgk rfl) (rgk rfl) (fun _ => rfl) (fun x hx => ⟨(hR x hx).1, Or.inl ⟨rfl, rfl⟩, Or.inl ⟨rfl, rfl⟩, Or.inl ⟨rfl, rfl⟩, fun _ => df_1⟩)
  refine ⟨v, σ2, M_Tr_addLeaf rk hz ⟨v, σ2, r, rfl, rfl⟩, S2.eo gv (z2.trans h37) (fun h hb => ?_) (fun w hw => ?_), z35⟩
  · cases R with
    | none => exact hN rfl hb
    | some x => cases h
  · cases R with
    | none => cases hw
    | some x =>
      cases hw
      obtain ⟨h1, h2, h3⟩ := hR x rfl
      exact ⟨by dsimp only; omega, _, List.mem_cons_self, h2, h3⟩
theorem bnd_leaf {k : Nat} {z : Int} (h : k ≠ 6) : bnd (nd k z nl nl nl) = [] := by
  show (if k = 6 then [z] else bnd nl ++ bnd nl) = []
  rw [if_neg h]; rfl
theorem pCon_bnd {ch : Int → Int} {p : Int} {t : Tr × Int} (h : pCon ch p = some t) : bnd t.1 = [] := by
  unfold pCon at h
  split at h
  · cases h; exact bnd_leaf (by decide)
  split at h
  · cases h; exact bnd_leaf (by decide)
  split at h
  · cases h; exact bnd_leaf (by decide)
  · cases h
section PL
variable {x : Int} {P Pa Pp : (Int → Int) → Int → List Int → PaR}
theorem s_part (hx : 0 ≤ x ∧ x ≤ 100) (hP : PSp yRd_pattern (d + 6) (x + 1) P) : PSp yRd_part (d + 7) x (fun ch p L => pPart ch (P ch) p L) := by
  intro σ L H hm
  have LL := H.1.1
  have rx : rg x := ⟨by omega, by omega⟩
  have h0 := H.1.inl
  have hs := h0.skb LL
  have ge := sk_ge (ch := chr σ) (p := σ 35 3)
  have nn : nx (chr σ) (sk (chr σ) (σ 35 3)) = nx (chr σ) (σ 35 3) := LL.nx_sk h0.1
  have ss : sk (chr σ) (sk (chr σ) (σ 35 3)) = sk (chr σ) (σ 35 3) := LL.sk_sk h0.1
  have OW := H.wq hs ge
  have N := s_next (d := d + 2) H.1
  have w3 : (Wq σ (sk (chr σ) (σ 35 3))) 35 3 = sk (chr σ) (σ 35 3) := Wq_at
  have w4 : (Wq σ (sk (chr σ) (σ 35 3))) 35 4 = σ 35 4 := Wq_k (by decide)
  have w6 : (Wq σ (sk (chr σ) (σ 35 3))) 35 6 = σ 35 6 := Wq_k (by decide)
  have wc : chr (Wq σ (sk (chr σ) (σ 35 3))) = chr σ := W_chr
  show ∃ v σ', _ ∧ EO ((pPart (chr σ) (P (chr σ)) (σ 35 3) L).map fun t => (t.1, t.2.1)) σ σ' v ∧ ∀ t, σ 35 4 = 0 → pPart (chr σ) (P (chr σ)) (σ 35 3) L = some t → mk (σ' 35 6) t.2.2 ∧ t.2.2 = (bnd t.1).reverse ++ L
  by_cases c1 : 97 ≤ nxv σ ∧ nxv σ ≤ 122
  · have hb : σ 35 4 = 0 := by
      by_cases q : σ 35 4 = 0
      · exact q
      · rw [nxv_b q] at c1; omega
    rw [nxv_u hb] at c1 N
    obtain ⟨v, σ', r, E1, M1⟩ := s_binder (d := d) (L := L) OW (w4.trans hb) (by rw [w6]; exact hm hb) (by rw [wc, w3, nn]; exact c1)
    rw [wc, w3, nn, ss] at E1
    rw [wc, w3, nn] at M1
    have eP : pPart (chr σ) (P (chr σ)) (σ 35 3) L = if nx (chr σ) (σ 35 3) ∈ L then none else some (nd 6 (nx (chr σ) (σ 35 3)) nl nl nl, sk (chr σ) (σ 35 3) + 1, nx (chr σ) (σ 35 3) :: L) := by unfold pPart; rw [if_pos c1]
    refine ⟨v, σ', M_Rd_part (d := d + 3) rx ⟨_, _, N, ?_⟩, ?_, ?_⟩
    · rw [if_neg (by omega), if_neg (by omega)]; exact ⟨v, σ', r, rfl, rfl⟩
    · rw [eP]
      by_cases q : nx (chr σ) (σ 35 3) ∈ L
      · rw [if_pos q] at E1 ⊢; exact E1.at ge
      · rw [if_neg q] at E1 ⊢; exact E1.at ge
    · intro t _ ht
      rw [eP] at ht
      split at ht
      · cases ht
      · next q => cases ht; exact ⟨M1 q, rfl⟩
  suffices hh : ∃ v σ', B_Rd_part_22 (d + 3) x (nxv σ) (Wq σ (sk (chr σ) (σ 35 3))) (some v) σ' ∧ EO ((pPart (chr σ) (P (chr σ)) (σ 35 3) L).map fun t => (t.1, t.2.1)) σ σ' v ∧ ∀ t, σ 35 4 = 0 → pPart (chr σ) (P (chr σ)) (σ 35 3) L = some t → mk (σ' 35 6) t.2.2 ∧ t.2.2 = (bnd t.1).reverse ++ L by
    obtain ⟨v, σ', r, E1⟩ := hh
    refine ⟨v, σ', M_Rd_part (d := d + 3) rx ⟨_, _, N, ?_⟩, E1⟩
    by_cases q : nxv σ < 97
    · rw [if_pos q]; exact r
    · rw [if_neg q, if_pos (by omega)]; exact r
  unfold B_Rd_part_22
  by_cases c2 : 48 ≤ nxv σ ∧ nxv σ ≤ 57
  · have hb : σ 35 4 = 0 := by
      by_cases q : σ 35 4 = 0
      · exact q
      · rw [nxv_b q] at c2; omega
    rw [nxv_u hb] at c1 c2
    have dz := dgt_1 c2
    have D1 := s_digits (d := d + 2) (x1 := 4) (most := 4) rfl (by omega) H.1 hs
    have e1 : (4 : Nat) + 1 = 5 := rfl
    rw [e1] at D1
    obtain ⟨a1, a2, a3⟩ := dgf_in LL 5 0 0 (sk (chr σ) (σ 35 3)) hs
    obtain ⟨k1, b1, b2, b3, b4⟩ := dgf_val (ch := chr σ) 5 0 0 0 (sk (chr σ) (σ 35 3)) (by omega) (by decide) rfl
    have p1 := ten_pow (k := k1) (by omega)
    generalize hr1 : dgf (chr σ) 5 0 0 (sk (chr σ) (σ 35 3)) = r1 at *
    have P0 : pDg (chr σ) 4 (sk (chr σ) (σ 35 3)) = if r1.2.1 = 0 ∨ 4 < r1.2.1 then none else some (r1.1, r1.2.2) := by
      unfold pDg; rw [e1, hr1]; rfl
    have eP : pPart (chr σ) (P (chr σ)) (σ 35 3) L = (pDg (chr σ) 4 (sk (chr σ) (σ 35 3))).map (fun q => (nd 0 q.1 nl nl nl, q.2, L)) := by unfold pPart; rw [if_neg c1, if_pos c2]
    obtain ⟨f1, i1, z1, w1, q1⟩ := dgM_f (most := 4) (r := r1) H.1 a1
    have key : ∃ v σ', Rn (d + 6) yTr_addLeaf [.ref 5, vi 0, vi r1.1] (dgM σ 4 r1) (some v) σ' ∧ EO ((pPart (chr σ) (P (chr σ)) (σ 35 3) L).map fun t => (t.1, t.2.1)) σ σ' v ∧ ∀ t, σ 35 4 = 0 → pPart (chr σ) (P (chr σ)) (σ 35 3) L = some t → mk (σ' 35 6) t.2.2 ∧ t.2.2 = (bnd t.1).reverse ++ L := by
      rw [eP]
      by_cases c : r1.2.1 = 0 ∨ 4 < r1.2.1
      · obtain ⟨v, σ', r, E⟩ := leaf_on (d := d + 3) (ki := 0) (z := r1.1) (P := none) f1 i1 z1 (by rw [dgM_no c, mup_eq]; decide) (rgk rfl) ⟨by omega, by omega⟩ (fun _ => rfl)
        rw [P0, if_pos c]
        exact ⟨v, σ', r, E, fun t _ ht => by cases ht⟩
      · obtain ⟨v, σ', r, E, e6⟩ := EO.leaf6 (d := d + 3) (k := 0) (ki := 0) (z := r1.1) (P := some (nd 0 r1.1 nl nl nl, r1.2.2)) H.1 a1 (by omega) rfl (rgk rfl) ⟨by omega, by omega⟩ (fun _ => rfl) (by decide) (by decide)
        rw [P0, if_neg c, dgM_ok c]
        refine ⟨v, σ', r, E, fun t hb' ht => ?_⟩
        cases ht
        refine ⟨by rw [e6]; exact hm hb', ?_⟩
        rw [bnd_leaf (by decide)]; rfl
    obtain ⟨v, σ', r, E, M⟩ := key
    refine ⟨v, σ', ?_, E, M⟩
    rw [nxv_u hb, dz, if_neg (by decide)]
    exact ⟨r1.1, _, D1, v, σ', r, rfl, rfl⟩
  have dz := dgt_0 c2
  have S1 := (ST.init H).skp
  have z1 : (Wq σ (sk (chr σ) (σ 35 3))) 37 = σ 37 := Wq_o (by decide)
  have pn : prN (chr σ) (skR (chr σ) (stR σ)) = nxv σ := by
    unfold stR nxv
    split
    · show nx (chr σ) (sk (chr σ) (σ 35 3)) = _; exact nn
    · rfl
  have sks : skR (chr σ) (skR (chr σ) (stR σ)) = skR (chr σ) (stR σ) := by
    unfold stR
    split
    · show some ((0 : Nat), ([] : List (Tr × Int)), false, sk (chr σ) (sk (chr σ) (σ 35 3))) = some (0, [], false, sk (chr σ) (σ 35 3)); rw [ss]
    · rfl
  have gd : ∀ x, skR (chr σ) (stR σ) = some x → σ 35 4 = 0 ∧ x = (0, [], false, sk (chr σ) (σ 35 3)) := by
    intro x hx
    unfold stR at hx
    split at hx
    · next hb => cases hx; exact ⟨hb, rfl⟩
    · cases hx
  obtain ⟨v2, σ2, r2, z2, m2, k2⟩ := S1.takes (d := d + 1) (t := 95) (rgk rfl) (by decide)
  rcases k2 with ⟨rfl, y, hy, ny, S2⟩ | ⟨rfl, ny, S2⟩
  · obtain ⟨hb, rfl⟩ := gd y hy
    rw [nxv_u hb] at c1 c2
    have ny' : nx (chr σ) (σ 35 3) = 95 := nn.symm.trans ny
    have eP : pPart (chr σ) (P (chr σ)) (σ 35 3) L = some (nd 7 0 nl nl nl, sk (chr σ) (σ 35 3) + 1, L) := by unfold pPart; rw [if_neg c1, if_neg c2, if_pos ny']
    rw [eP]
    obtain ⟨v, σ', r, E, e35⟩ := S2.leaf6 (d := d + 3) (k := 7) (ki := 7) (z := 0) (P := some (nd 7 0 nl nl nl, sk (chr σ) (σ 35 3) + 1)) (z2.trans z1) rfl (rgk rfl) (rgk rfl) (by decide) (fun h => by cases h) (fun w hw => by
      cases hw
      refine ⟨Nat.le_refl 2, ?_, rfl⟩
      show some _ = some (_, sk (chr σ) (sk (chr σ) (σ 35 3)) + 1)
      rw [ss])
    refine ⟨v, σ', ?_, E, fun t hb' ht => ?_⟩
    · rw [dz, if_pos rfl]
      refine ⟨1, σ2, r2, ?_⟩
      rw [if_neg (by decide)]; exact ⟨v, σ', r, rfl, rfl⟩
    · cases ht
      refine ⟨by rw [e35, m2, w6]; exact hm hb', ?_⟩
      rw [bnd_leaf (by decide)]; rfl
  rw [pn] at ny
  rw [sks] at S2
  have n95 := ny
  obtain ⟨v3, σ3, r3, z3, m3, k3⟩ := S2.takes (d := d + 1) (t := 40) (rgk rfl) (by decide)
  rcases k3 with ⟨rfl, y, hy, ny, S3⟩ | ⟨rfl, ny, S3⟩
  · obtain ⟨hb, rfl⟩ := gd y hy
    rw [nxv_u hb] at c1 c2 n95
    have ny' : nx (chr σ) (σ 35 3) = 40 := nn.symm.trans ny
    have eP : pPart (chr σ) (P (chr σ)) (σ 35 3) L = (P (chr σ) (sk (chr σ) (σ 35 3) + 1) L).bind fun t => (pEx (chr σ) 41 t.2.1).map fun r => (t.1, r, t.2.2) := by unfold pPart; rw [if_neg c1, if_neg c2, if_neg n95, if_pos ny']
    have z5 : σ3 37 = σ 37 := (z3.trans z2).trans z1
    have a3 : σ3 35 3 = sk (chr σ) (σ 35 3) + 1 := by
      have := S3.2.2.2.2.1
      dsimp only at this
      rw [ss] at this; exact this
    have b3 : σ3 35 4 = 0 := S3.2.2.2.1
    obtain ⟨v5, σ5, r5, E5, M5⟩ := hP σ3 L S3.ok (fun _ => by rw [m3, m2, w6]; exact hm hb)
    rw [S3.1.chr, a3] at E5 M5
    have S5 := S3.subE (P := fun ch p => (P ch p L).map fun t => (t.1, t.2.1)) (by rw [S3.1.chr, a3]; exact E5)
    obtain ⟨σ6, r6, S6, z7, m7⟩ := S5.expect (d := d) (t := 41) (rgk rfl) (by decide)
    refine ⟨v5, σ6, ?_, ?_, ?_⟩
    · rw [dz, if_pos rfl]
      refine ⟨0, σ2, r2, ?_⟩
      rw [if_pos rfl]
      refine ⟨1, σ3, r3, ?_⟩
      rw [if_neg (by decide)]
      exact ⟨v5, σ5, r5, σ6, r6, rfl, rfl⟩
    · rw [eP]
      have e4 : sk (chr σ) (sk (chr σ) (σ 35 3)) + 1 = sk (chr σ) (σ 35 3) + 1 := by rw [ss]
      dsimp only [Option.bind_some] at S6
      rw [e4] at S6
      have zz : σ6 37 = σ 37 := (z7.trans E5.2.2.2.1).trans z5
      cases hq : P (chr σ) (sk (chr σ) (σ 35 3) + 1) L with
      | none =>
        rw [hq] at S6
        exact S6.eo E5.1 zz (fun _ _ => rfl) (fun w hw => by cases hw)
      | some t =>
        rw [hq] at S6
        dsimp only [Option.bind_some, Option.map_some] at S6 ⊢
        cases hw : pEx (chr σ) 41 t.2.1 with
        | none =>
          rw [hw] at S6
          exact S6.eo E5.1 zz (fun _ _ => rfl) (fun w hw => by cases hw)
        | some s =>
          rw [hw] at S6
          refine S6.eo E5.1 zz (fun h => by cases h) (fun w hw => ?_)
          cases hw
          refine ⟨by dsimp only; omega, t.1, List.mem_cons_self, rfl, ?_⟩
          rw [bd_of z5]; rfl
    · intro t hb' ht
      rw [eP] at ht
      obtain ⟨s, h1, ht⟩ := Option.bind_eq_some_iff.mp ht
      obtain ⟨r, h2, rfl⟩ := Option.map_eq_some_iff.mp ht
      obtain ⟨q1, q2⟩ := M5 s b3 h1
      exact ⟨by rw [m7]; exact q1, q2⟩
  rw [pn] at ny
  rw [sks] at S3
  have n40 := ny
  have z5 : σ3 37 = σ 37 := (z3.trans z2).trans z1
  obtain ⟨v5, σ5, r5, E5, m5⟩ := s_constant6 (d := d) S3.2.1
  have S5 := S3.subE (P := fun ch p => pCon ch p) E5
  have eP : σ 35 4 = 0 → pPart (chr σ) (P (chr σ)) (σ 35 3) L = (pCon (chr σ) (sk (chr σ) (σ 35 3))).map (fun q => (q.1, q.2, L)) := by
    intro hb
    rw [nxv_u hb] at c1 c2 n95 n40
    unfold pPart; rw [if_neg c1, if_neg c2, if_neg n95, if_neg n40, pCon_sk LL h0.1]
  have sR : σ 35 4 = 0 → skR (chr σ) (stR σ) = some (0, [], false, sk (chr σ) (σ 35 3)) := by
    intro hb
    unfold stR; rw [if_pos hb]; rfl
  refine ⟨v5, σ5, ?_, ?_, ?_⟩
  · rw [dz, if_pos rfl]
    refine ⟨0, σ2, r2, ?_⟩
    rw [if_pos rfl]
    refine ⟨0, σ3, r3, ?_⟩
    rw [if_pos rfl]
    exact ⟨v5, σ5, r5, rfl, rfl⟩
  · refine S5.eo E5.1 (E5.2.2.2.1.trans z5) ?_ ?_
    · intro hN hb
      rw [eP hb]
      rw [sR hb] at hN
      dsimp only [Option.bind_some] at hN
      cases hq : pCon (chr σ) (sk (chr σ) (σ 35 3)) with
      | none => rfl
      | some t => rw [hq] at hN; cases hN
    · intro w hw
      by_cases hb : σ 35 4 = 0
      · rw [eP hb]
        rw [sR hb] at hw
        dsimp only [Option.bind_some] at hw
        cases hq : pCon (chr σ) (sk (chr σ) (σ 35 3)) with
        | none => rw [hq] at hw; cases hw
        | some t =>
          rw [hq] at hw
          cases hw
          refine ⟨Nat.le_refl 1, t.1, List.mem_cons_self, rfl, ?_⟩
          rw [bd_of z5]; rfl
      · unfold stR at hw
        rw [if_neg hb] at hw
        cases hw
  · intro t hb ht
    rw [eP hb] at ht
    obtain ⟨s, h1, rfl⟩ := Option.map_eq_some_iff.mp ht
    refine ⟨by rw [m5, m3, m2, w6]; exact hm hb, ?_⟩
    rw [pCon_bnd h1]; rfl
theorem s_pattern (hx : 0 ≤ x ∧ x ≤ 16) (hA : PSp yRd_part (d + 6) x Pa) (hP : PSp yRd_pattern (d + 6) (x + 1) Pp) : PSp yRd_pattern (d + 7) x (fun ch p L => (Pa ch p L).bind fun t => if nx ch t.2.1 = 44 then (Pp ch (sk ch t.2.1 + 1) t.2.2).map (fun r => (nd 10 0 t.1 r.1 nl, r.2)) else some (t.1, sk ch t.2.1, t.2.2)) := by
  intro σ L H hm
  have rx : rg x := ⟨by omega, by omega⟩
  obtain ⟨v1, σ1, r1, E1, M1⟩ := hA σ L H hm
  have S1 := E1.st H
  have z1 : σ1 37 = σ 37 := E1.2.2.2.1
  obtain ⟨v2, σ2, r2, z2, m2, k2⟩ := S1.takes (d := d + 1) (t := 44) (rgk rfl) (by decide)
  have some_of : ∀ {y}, ((if σ 35 4 = 0 then (Pa (chr σ) (σ 35 3) L).map fun t => (t.1, t.2.1) else none).map fun t => ((1 : Nat), [(t.1, v1)], !(clo t.1 (bd σ)), t.2)) = some y → ∃ t, σ 35 4 = 0 ∧ Pa (chr σ) (σ 35 3) L = some t ∧ y = (1, [(t.1, v1)], !(clo t.1 (bd σ)), t.2.1) := by
    intro y hy
    obtain ⟨s, h1, rfl⟩ := Option.map_eq_some_iff.mp hy
    by_cases hb : σ 35 4 = 0
    · rw [if_pos hb] at h1
      obtain ⟨t, h2, rfl⟩ := Option.map_eq_some_iff.mp h1
      exact ⟨t, hb, h2, rfl⟩
    · rw [if_neg hb] at h1; cases h1
  rcases k2 with ⟨rfl, y, hy, ny, S2⟩ | ⟨rfl, ny, S2⟩
  · obtain ⟨t, hb, ht, rfl⟩ := some_of hy
    have S2 : ST σ σ2 (some (3, [(t.1, v1)], !(clo t.1 (bd σ)), sk (chr σ) t.2.1 + 1)) := S2
    have ny : nx (chr σ) t.2.1 = 44 := ny
    obtain ⟨q1, q2⟩ := M1 t hb ht
    obtain ⟨v5, σ5, r5, E5, M5⟩ := hP σ2 t.2.2 S2.ok (fun _ => by rw [m2]; exact q1)
    have a2 : σ2 35 3 = sk (chr σ) t.2.1 + 1 := S2.2.2.2.2.1
    have b2 : σ2 35 4 = 0 := S2.2.2.2.1
    rw [S2.1.chr, a2] at E5 M5
    have S5 : ST σ σ5 (((Pp (chr σ) (sk (chr σ) t.2.1 + 1) t.2.2).map fun r => (r.1, r.2.1)).map fun r => (3 + 1, (r.1, v5) :: [(t.1, v1)], !(clo t.1 (bd σ)) || !(clo r.1 (bd σ2)), r.2)) := S2.subE (P := fun ch p => (Pp ch p t.2.2).map fun r => (r.1, r.2.1)) (by rw [S2.1.chr, a2]; exact E5)
    have zz : σ5 37 = σ 37 := E5.2.2.2.1.trans (z2.trans z1)
    show ∃ v σ', _ ∧ EO (((Pa (chr σ) (σ 35 3) L).bind fun t => if nx (chr σ) t.2.1 = 44 then (Pp (chr σ) (sk (chr σ) t.2.1 + 1) t.2.2).map (fun r => (nd 10 0 t.1 r.1 nl, r.2)) else some (t.1, sk (chr σ) t.2.1, t.2.2)).map fun t => (t.1, t.2.1)) σ σ' v ∧ ∀ s, σ 35 4 = 0 → ((Pa (chr σ) (σ 35 3) L).bind fun t => if nx (chr σ) t.2.1 = 44 then (Pp (chr σ) (sk (chr σ) t.2.1 + 1) t.2.2).map (fun r => (nd 10 0 t.1 r.1 nl, r.2)) else some (t.1, sk (chr σ) t.2.1, t.2.2)) = some s → mk (σ' 35 6) s.2.2 ∧ s.2.2 = (bnd s.1).reverse ++ L
    rw [ht]
    dsimp only [Option.bind_some]
    rw [if_pos ny]
    cases hq : Pp (chr σ) (sk (chr σ) t.2.1 + 1) t.2.2 with
    | none =>
      rw [hq] at S5
      obtain ⟨v7, σ7, r7, g7, z7, e7, S7⟩ := S5.addS (d := d + 4) (k := 10) (ki := 10) (z := 0) (a := v1) (b := v5) (c := -1) (A := nl) (B := nl) (C := nl) rfl (rgk rfl) (rgk rfl) E1.1 E5.1 (rgk rfl) (fun h => by cases h) (fun x hx => by cases hx)
      refine ⟨v7, σ7, M_Rd_pattern (d := d + 3) rx ?_, S7.eo g7 (z7.trans zz) (fun _ _ => rfl) (fun w hw => by cases hw), fun s _ hs => by cases hs⟩
      unfold B_Rd_pattern
      rw [if_pos hx.2]
      refine ⟨v1, σ1, r1, 1, σ2, r2, ?_⟩
      rw [if_pos (by decide)]
      exact ⟨v5, σ5, r5, v7, σ7, r7, rfl, rfl⟩
    | some r =>
      rw [hq] at S5
      obtain ⟨v7, σ7, r7, g7, z7, e7, S7⟩ := S5.addS (d := d + 4) (k := 10) (ki := 10) (z := 0) (a := v1) (b := v5) (c := -1) (A := t.1) (B := r.1) (C := nl) rfl (rgk rfl) (rgk rfl) E1.1 E5.1 (rgk rfl) (fun h => by cases h) (fun x hx => by
        cases hx
        exact ⟨show 2 ≤ 3 + 1 by decide, Or.inr (List.mem_cons_of_mem _ List.mem_cons_self), Or.inr List.mem_cons_self, Or.inl ⟨rfl, rfl⟩, df_2⟩)
      refine ⟨v7, σ7, M_Rd_pattern (d := d + 3) rx ?_, S7.eo g7 (z7.trans zz) (fun h => by cases h) (fun w hw => ?_), fun s _ hs => ?_⟩
      · unfold B_Rd_pattern
        rw [if_pos hx.2]
        refine ⟨v1, σ1, r1, 1, σ2, r2, ?_⟩
        rw [if_pos (by decide)]
        exact ⟨v5, σ5, r5, v7, σ7, r7, rfl, rfl⟩
      · cases hw
        refine ⟨show 1 ≤ 3 + 1 - 1 by decide, _, List.mem_cons_self, rfl, ?_⟩
        dsimp only
        rw [bd_of (z2.trans z1), clo_nd]
        simp [clo_nl]
      · cases hs
        obtain ⟨s1, s2⟩ := M5 r b2 hq
        refine ⟨by rw [e7]; exact s1, ?_⟩
        rw [s2, q2]
        show _ = (if (10 : Nat) = 6 then [(0 : Int)] else bnd t.1 ++ bnd r.1).reverse ++ L
        rw [if_neg (by decide), List.reverse_append, List.append_assoc]
  · refine ⟨v1, σ2, M_Rd_pattern (d := d + 3) rx ?_, S2.eo E1.1 (z2.trans z1) (fun h hb => ?_) (fun w hw => ?_), fun s hb hs => ?_⟩
    · unfold B_Rd_pattern
      rw [if_pos hx.2]
      refine ⟨v1, σ1, r1, 0, σ2, r2, ?_⟩
      rw [if_neg (by decide)]
      exact ⟨rfl, rfl⟩
    · rw [if_pos hb] at h
      cases hq : Pa (chr σ) (σ 35 3) L with
      | none => dsimp only; rw [hq]; rfl
      | some t => rw [hq] at h; cases h
    · obtain ⟨y0, hy0, rfl⟩ := Option.map_eq_some_iff.mp hw
      obtain ⟨t, hb, ht, rfl⟩ := some_of hy0
      rw [hy0] at ny
      have ny' : nx (chr σ) t.2.1 ≠ 44 := ny
      refine ⟨Nat.le_refl 1, t.1, List.mem_cons_self, ?_, rfl⟩
      dsimp only
      rw [ht]
      dsimp only [Option.bind_some]
      rw [if_neg ny']; rfl
    · dsimp only at hs
      obtain ⟨t, ht, hs⟩ := Option.bind_eq_some_iff.mp hs
      rw [if_pos hb, ht] at ny
      have ny' : nx (chr σ) t.2.1 ≠ 44 := ny
      rw [if_neg ny'] at hs
      cases hs
      obtain ⟨q1, q2⟩ := M1 t hb ht
      exact ⟨by rw [m2]; exact q1, q2⟩
end PL
end PA
