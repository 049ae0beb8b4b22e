/-! The class writes a type. -/
def WLs (σ : Mem) (L : List Int) : Prop := σ 38 6 = L.length ∧ ∀ i : Nat, i < L.length → σ 46 i = L.getD i 0
def Wr (σ σ' : Mem) (cs L' : List Int) : Prop := (∀ i, i ≠ 38 → i ≠ 46 → i ≠ 48 → i ≠ 57 → σ' i = σ i) ∧ (∀ k, k ≠ 6 → k ≠ 7 → σ' 38 k = σ 38 k) ∧ WLs σ' L' ∧ σ' 38 7 = σ 38 7 + cs.length ∧ (∀ i : Nat, i < cs.length → σ' 57 (σ 38 7 + i) = cs.getD i 0) ∧ ∀ i, i < σ 38 7 → σ' 57 i = σ 57 i
section CWR
variable {σ σ' σ1 σ2 : Mem} {d : Nat} {n x c : Int} {L L1 L2 cs c1 c2 : List Int} {μ : Int → GT}
theorem Wr.tr (a : Wr σ σ1 c1 L1) (b : Wr σ1 σ2 c2 L2) : Wr σ σ2 (c1 ++ c2) L2 := by
  obtain ⟨a1, a2, a3, a4, a5, a6⟩ := a
  obtain ⟨b1, b2, b3, b4, b5, b6⟩ := b
  refine ⟨fun i h1 h2 h3 h4 => (b1 i h1 h2 h3 h4).trans (a1 i h1 h2 h3 h4), fun k h1 h2 => (b2 k h1 h2).trans (a2 k h1 h2), b3, by rw [List.length_append]; omega, fun i hi => ?_, fun i hi => (b6 i (by omega)).trans (a6 i hi)⟩
  rw [List.length_append] at hi
  by_cases c : i < c1.length
  · rw [(gd_l c1 c2 i c).1, b6 _ (by omega)]; exact a5 i c
  · rw [gd_r c1 c2 i (by omega), ← b5 (i - c1.length) (by omega)]
    congr 1
    omega
theorem Wr.ti (a : Wr σ σ1 c1 L1) (T : TI σ) : TI σ1 ∧ tS σ1 = tS σ := T.cg (a.1 40 (by decide) (by decide) (by decide) (by decide)) (a.1 42 (by decide) (by decide) (by decide) (by decide)) (a.1 44 (by decide) (by decide) (by decide) (by decide)) (a.2.1 5 (by decide) (by decide))
theorem wr_put (w : WLs σ L) (hc : rg c) (h : 0 ≤ σ 38 7 ∧ σ 38 7 < 80) : ∃ σ', Rn (d + 4) yTy_put [.ref 38, vi c, .ref 56] σ none σ' ∧ Wr σ σ' [c] L := by
  have e : rows 80 σ 57 (σ 38 7) c = mup σ 57 (σ 38 7) c := rows_in h.1 (by omega)
  refine ⟨mup (mup σ 57 (σ 38 7) c) 38 7 (σ 38 7 + 1), M_Ty_put hc ?_, ⟨fun i h1 _ _ h4 => by rw [mup_obj h1, mup_obj h4], fun k _ h7 => by rw [mup_nk h7, mup_ne (by decide)], ⟨by rw [mup_nk (by decide), mup_ne (by decide)]; exact w.1, fun i hi => by rw [mup_ne (by decide), mup_ne (by decide)]; exact w.2 i hi⟩, mup_eq, fun i hi => ?_, fun i hi => by rw [mup_ne (by decide), mup_nk (by omega)]⟩⟩
  · unfold B_Ty_put
    rw [e]
    exact ⟨⟨by omega, by omega⟩, rfl, rfl⟩
  · have hi : i < 1 := hi
    have e0 : i = 0 := by omega
    subst e0
    rw [mup_ne (by decide), show σ 38 7 + ((0 : Nat) : Int) = σ 38 7 by omega, mup_eq]; rfl
theorem s_wrPart : ∀ (k : Nat) (n x : Int) (σ : Mem) (L : List Int), TI σ → MinV (cS σ) (σ 38 5) μ → (k : Int) + x = 41 → 0 ≤ x → 0 ≤ n → n < σ 38 5 → gw (μ n) + 2 * x ≤ 82 → WLs σ L → L.length + glv (μ n) ≤ 20 → (0 ≤ σ 38 7 ∧ σ 38 7 + gw (μ n) ≤ 80) → ∃ σ' cs L', Rn (k + d + 5) yTy_writePart [.ref 38, vi n, .ref 56, vi x] σ none σ' ∧ Wr σ σ' cs L' ∧ L'.length ≤ L.length + glv (μ n) ∧ (cs.length : Int) = gw (μ n) ∧ ∃ j, Tx (cS σ) j n L cs L' := by
  intro k
  induction k with
  | zero =>
    intro n x σ L T M hk hx h0 h1 hw
    have g := gw_ge (t := μ n)
    omega
  | succ k ih =>
    intro n x σ L T M hk hx h0 h1 hw w hl h7
    have H := T.1
    have hc := H.2.1
    obtain ⟨hr, r0, r1⟩ := rC_root H h0 h1
    have R := s_resolve (d := k + 1 + d) H h0 h1
    have ev := rC_val H M.1 h0 h1
    have V := M.1 _ r0 r1
    have lk : ∀ {j : Nat} {L cs L'}, Tx (cS σ) j (rC σ n) L cs L' → Tx (cS σ) (j + 3000) n L cs L' := fun h => Tx.lks h
    generalize rC σ n = r at *
    have g := gw_ge (t := μ n)
    have gl := glv_ge (t := μ n)
    have mm : ∀ {σ' : Mem}, (if σ 40 r = 62 then (∃ (m5 : Mem), Rn (k + 1 + d + 1 + 3) yTy_put [.ref 38, vi 40, .ref 56] σ none m5 ∧ (∃ (m7 : Mem), Rn (k + 1 + d + 1 + 3) yTy_writePart [.ref 38, vi (rowv 3000 m5 42 r), .ref 56, vi (x + 1)] m5 none m7 ∧ (∃ (m8 : Mem), Rn (k + 1 + d + 1 + 3) yTy_put [.ref 38, vi 62, .ref 56] m7 none m8 ∧ (∃ (m10 : Mem), Rn (k + 1 + d + 1 + 3) yTy_writePart [.ref 38, vi (rowv 3000 m8 44 r), .ref 56, vi (x + 1)] m8 none m10 ∧ (∃ (m11 : Mem), Rn (k + 1 + d + 1 + 3) yTy_put [.ref 38, vi 41, .ref 56] m10 none m11 ∧ ((none : Option Int) = none ∧ σ' = m11)))))) else (if σ 40 r = 63 then (∃ (v13 : Int) (m13 : Mem), Rn (k + 1 + d + 1 + 3) yTy_placeOf [.ref 38, vi r] σ (some v13) m13 ∧ (∃ (m14 : Mem), Rn (k + 1 + d + 1 + 3) yTy_put [.ref 38, vi (97 + v13), .ref 56] m13 none m14 ∧ ((none : Option Int) = none ∧ σ' = m14))) else (if σ 40 r = 91 then (∃ (m16 : Mem), Rn (k + 1 + d + 1 + 3) yTy_put [.ref 38, vi 91, .ref 56] σ none m16 ∧ (∃ (m18 : Mem), Rn (k + 1 + d + 1 + 3) yTy_writePart [.ref 38, vi (rowv 3000 m16 42 r), .ref 56, vi (x + 1)] m16 none m18 ∧ (∃ (m19 : Mem), Rn (k + 1 + d + 1 + 3) yTy_put [.ref 38, vi 93, .ref 56] m18 none m19 ∧ ((none : Option Int) = none ∧ σ' = m19)))) else (∃ (m21 : Mem), Rn (k + 1 + d + 1 + 3) yTy_put [.ref 38, vi (σ 40 r), .ref 56] σ none m21 ∧ ((none : Option Int) = none ∧ σ' = m21))))) → Rn (k + 1 + d + 5) yTy_writePart [.ref 38, vi n, .ref 56, vi x] σ none σ' := by
      intro σ' h
      refine M_Ty_writePart (d := k + 1 + d + 1) ⟨by omega, by omega⟩ ⟨by omega, by omega⟩ ?_
      unfold B_Ty_writePart
      rw [if_pos (by omega)]
      refine ⟨r, σ, R, ?_⟩
      rw [rw_in r0 (by omega)]
      exact h
    have put : ∀ {τ : Mem} {L0 : List Int} {c : Int}, WLs τ L0 → rg c → (0 ≤ τ 38 7 ∧ τ 38 7 < 80) → ∃ τ', Rn (k + 1 + d + 1 + 3) yTy_put [.ref 38, vi c, .ref 56] τ none τ' ∧ Wr τ τ' [c] L0 := fun w hc h => by
      obtain ⟨τ', R, W⟩ := wr_put (d := k + 1 + d) w hc h
      exact ⟨τ', R, W⟩
    have leaf : σ 40 r ≠ 62 → σ 40 r ≠ 63 → σ 40 r ≠ 91 → rg (σ 40 r) → gw (μ r) = 1 → (∀ j, Tx (cS σ) (j + 1) r L [σ 40 r] L) → ∃ σ' cs L', Rn (k + 1 + d + 5) yTy_writePart [.ref 38, vi n, .ref 56, vi x] σ none σ' ∧ Wr σ σ' cs L' ∧ L'.length ≤ L.length + glv (μ n) ∧ (cs.length : Int) = gw (μ n) ∧ ∃ j, Tx (cS σ) j n L cs L' := by
      intro a1 a2 a3 a4 a5 a6
      obtain ⟨σ', Rp, W⟩ := put w a4 ⟨h7.1, by omega⟩
      refine ⟨σ', [σ 40 r], L, mm ?_, W, by omega, by rw [← ev, a5]; rfl, _, lk (a6 0)⟩
      rw [if_neg a1, if_neg a2, if_neg a3]; exact ⟨σ', Rp, rfl, rfl⟩
    have k0 : ∀ {z : Int}, (cS σ r).1 = z ↔ kC (σ 40 r) = z := Iff.rfl
    rcases root_k H r0 r1 hr with ⟨e, -⟩ | e | e | e | ⟨e, f0, f1⟩ | ⟨e, ⟨f0, f1⟩, g0, g1⟩
    · have kz : (cS σ r).1 = 0 := by show kC (σ 40 r) = 0; rw [e]; decide
      have er : gw (μ n) = 1 := by rw [← ev, M.2 r r0 r1 kz hr]; rfl
      rcases s_placeOf (σ := σ) (d := k + 1 + d) (v := r) ⟨by omega, by omega⟩ (by have := w.1; omega) with ⟨i, a, b, c⟩ | ⟨a, b⟩
      · have w1 := w.1
        obtain ⟨σ', Rp, W⟩ := put (c := 97 + i) w ⟨by omega, by omega⟩ ⟨h7.1, by omega⟩
        refine ⟨σ', [97 + i], L, mm ?_, W, by omega, by rw [er]; rfl, _, lk (j := 1) (Or.inr ⟨hr, Or.inl ⟨kz, Or.inr ⟨i.toNat, by omega, ?_, by rw [show ((i.toNat : Nat) : Int) = i by omega], rfl⟩⟩⟩)⟩
        · rw [if_neg (by omega), if_pos e]
          exact ⟨i, σ, c, σ', Rp, rfl, rfl⟩
        · rw [← w.2 i.toNat (by omega), show ((i.toNat : Nat) : Int) = i by omega]; exact b
      · have w1 := w.1
        have b := b (by omega)
        have w2 : WLs (mup (mup (mup σ 46 (σ 38 6) r) 48 (σ 38 6) (-1)) 38 6 (σ 38 6 + 1)) (L ++ [r]) := by
          refine ⟨by rw [mup_eq, List.length_append, w1]; rfl, fun i hi => ?_⟩
          rw [List.length_append] at hi
          rw [mup_ne (by decide), mup_ne (by decide)]
          by_cases c : i < L.length
          · rw [mup_nk (by omega), (gd_l L [r] i c).1]; exact w.2 i c
          · have l1 : [r].length = 1 := rfl
            have ei : i = L.length := by omega
            rw [ei, w1, mup_eq, gd_r L [r] _ (by omega), Nat.sub_self]; rfl
        have k7 : (mup (mup (mup σ 46 (σ 38 6) r) 48 (σ 38 6) (-1)) 38 6 (σ 38 6 + 1)) 38 7 = σ 38 7 := by rw [mup_nk (by decide), mup_ne (by decide), mup_ne (by decide)]
        obtain ⟨σ', Rp, W⟩ := put (c := 97 + σ 38 6) w2 ⟨by omega, by omega⟩ (by rw [k7]; omega)
        have W0 : Wr σ (mup (mup (mup σ 46 (σ 38 6) r) 48 (σ 38 6) (-1)) 38 6 (σ 38 6 + 1)) [] (L ++ [r]) := ⟨fun i h1 h2 h3 _ => by rw [mup_obj h1, mup_obj h3, mup_obj h2], fun k h6 _ => by rw [mup_nk h6, mup_ne (by decide), mup_ne (by decide)], w2, by rw [k7]; show σ 38 7 = σ 38 7 + ((0 : Nat) : Int); omega, fun i hi => absurd hi (Nat.not_lt_zero i), fun i _ => by rw [mup_ne (by decide), mup_ne (by decide), mup_ne (by decide)]⟩
        refine ⟨σ', [97 + σ 38 6], L ++ [r], mm ?_, W0.tr W, by rw [List.length_append]; have : [r].length = 1 := rfl; omega, by rw [er]; rfl, _, lk (j := 1) (Or.inr ⟨hr, Or.inl ⟨kz, Or.inl ⟨fun m => ?_, by rw [w1], rfl⟩⟩⟩)⟩
        · rw [if_neg (by omega), if_pos e]
          exact ⟨_, _, b, σ', Rp, rfl, rfl⟩
        · obtain ⟨i, hi, ei⟩ := mem_gd m
          exact a i (by omega) (by omega) ((w.2 i hi).trans ei)
    · have kz : (cS σ r).1 = 1 := by show kC (σ 40 r) = 1; rw [e]; decide
      exact leaf (by omega) (by omega) (by omega) ⟨by omega, by omega⟩ (by rw [V.2.1 (by omega), kz]; rfl) (fun j => Or.inr ⟨hr, Or.inr (Or.inl ⟨kz, by rw [e], rfl⟩)⟩)
    · have kz : (cS σ r).1 = 2 := by show kC (σ 40 r) = 2; rw [e]; decide
      exact leaf (by omega) (by omega) (by omega) ⟨by omega, by omega⟩ (by rw [V.2.1 (by omega), kz]; rfl) (fun j => Or.inr ⟨hr, Or.inr (Or.inr (Or.inl ⟨kz, by rw [e], rfl⟩))⟩)
    · have kz : (cS σ r).1 = 3 := by show kC (σ 40 r) = 3; rw [e]; decide
      exact leaf (by omega) (by omega) (by omega) ⟨by omega, by omega⟩ (by rw [V.2.1 (by omega), kz]; rfl) (fun j => Or.inr ⟨hr, Or.inr (Or.inr (Or.inr (Or.inl ⟨kz, by rw [e], rfl⟩)))⟩)
    · have k4 : (cS σ r).1 = 4 := by show kC (σ 40 r) = 4; rw [e]; decide
      have er : gw (μ n) = 2 + gw (μ (σ 42 r)) := by rw [← ev, V.2.2.1 k4]; rfl
      have el : glv (μ n) = glv (μ (σ 42 r)) := by rw [← ev, V.2.2.1 k4]; rfl
      have ga := gw_ge (t := μ (σ 42 r))
      obtain ⟨σ1, Rp1, W1⟩ := put (c := 91) w (rgk rfl) ⟨h7.1, by omega⟩
      obtain ⟨T1, e1⟩ := W1.ti T
      have ec1 : cS σ1 = cS σ := congrArg (fun S : TS => S.1) e1
      have e5 : σ1 38 5 = σ 38 5 := congrArg (fun S : TS => S.2.1) e1
      have l1 : σ1 38 7 = σ 38 7 + 1 := W1.2.2.2.1
      obtain ⟨σ2, c2, L2, R2, W2, l2, n2, j, t2⟩ := ih (σ 42 r) (x + 1) σ1 L T1 (by rw [ec1, e5]; exact M) (by omega) (by omega) f0 (by rw [e5]; exact f1) (by omega) W1.2.2.1 (by omega) (by omega)
      have l27 := W2.2.2.2.1
      obtain ⟨σ3, Rp3, W3⟩ := put (c := 93) W2.2.2.1 (rgk rfl) (by omega)
      rw [show k + d + 5 = k + 1 + d + 1 + 3 by omega] at R2
      rw [ec1] at t2
      refine ⟨σ3, 91 :: (c2 ++ [93]), L2, mm ?_, by have W := (W1.tr W2).tr W3; rw [show ([91] ++ c2) ++ [93] = (91 : Int) :: (c2 ++ [93]) from rfl] at W; exact W, by omega, ?_, _, lk (j := j + 1) (Or.inr ⟨hr, Or.inr (Or.inr (Or.inr (Or.inr (Or.inl ⟨k4, c2, t2, rfl⟩))))⟩)⟩
      · rw [if_neg (by omega), if_neg (by omega), if_pos e]
        refine ⟨σ1, Rp1, σ2, ?_, σ3, Rp3, rfl, rfl⟩
        rw [rw_in r0 (by omega), W1.1 42 (by decide) (by decide) (by decide) (by decide)]; exact R2
      · rw [List.length_cons, List.length_append, er, ← n2]
        have : [(93 : Int)].length = 1 := rfl
        omega
    · have k5 : (cS σ r).1 = 5 := by show kC (σ 40 r) = 5; rw [e]; decide
      have e22 : (cS σ r).2.2 = σ 44 r := if_pos e
      have er : gw (μ n) = 3 + gw (μ (σ 42 r)) + gw (μ (σ 44 r)) := by rw [← ev, V.2.2.2 k5, e22]; rfl
      have el : glv (μ n) = glv (μ (σ 42 r)) + glv (μ (σ 44 r)) := by rw [← ev, V.2.2.2 k5, e22]; rfl
      have ga := gw_ge (t := μ (σ 42 r))
      have gb := gw_ge (t := μ (σ 44 r))
      have la := glv_ge (t := μ (σ 42 r))
      have lb := glv_ge (t := μ (σ 44 r))
      obtain ⟨σ1, Rp1, W1⟩ := put (c := 40) w (rgk rfl) ⟨h7.1, by omega⟩
      obtain ⟨T1, e1⟩ := W1.ti T
      have ec1 : cS σ1 = cS σ := congrArg (fun S : TS => S.1) e1
      have e5 : σ1 38 5 = σ 38 5 := congrArg (fun S : TS => S.2.1) e1
      have l1 : σ1 38 7 = σ 38 7 + 1 := W1.2.2.2.1
      obtain ⟨σ2, c2, L2, R2, W2, l2, n2, j, t2⟩ := ih (σ 42 r) (x + 1) σ1 L T1 (by rw [ec1, e5]; exact M) (by omega) (by omega) f0 (by rw [e5]; exact f1) (by omega) W1.2.2.1 (by omega) (by omega)
      have l27 := W2.2.2.2.1
      obtain ⟨σ3, Rp3, W3⟩ := put (c := 62) W2.2.2.1 (rgk rfl) (by omega)
      have W123 := (W1.tr W2).tr W3
      obtain ⟨T3, e3⟩ := W123.ti T
      have ec3 : cS σ3 = cS σ := congrArg (fun S : TS => S.1) e3
      have e53 : σ3 38 5 = σ 38 5 := congrArg (fun S : TS => S.2.1) e3
      have l37 : σ3 38 7 = σ2 38 7 + 1 := W3.2.2.2.1
      obtain ⟨σ4, c4, L4, R4, W4, l4, n4, j', t4⟩ := ih (σ 44 r) (x + 1) σ3 L2 T3 (by rw [ec3, e53]; exact M) (by omega) (by omega) g0 (by rw [e53]; exact g1) (by omega) W3.2.2.1 (by omega) (by omega)
      have l47 := W4.2.2.2.1
      obtain ⟨σ5, Rp5, W5⟩ := put (c := 41) W4.2.2.1 (rgk rfl) (by omega)
      rw [show k + d + 5 = k + 1 + d + 1 + 3 by omega] at R2 R4
      rw [ec1] at t2
      rw [ec3] at t4
      have W := (W123.tr W4).tr W5
      have ecs : (([40] ++ c2) ++ [62] ++ c4) ++ [41] = (40 : Int) :: (c2 ++ 62 :: (c4 ++ [41])) := by simp
      rw [ecs] at W
      refine ⟨σ5, 40 :: (c2 ++ 62 :: (c4 ++ [41])), L4, mm ?_, W, by omega, ?_, _, lk (j := j + j' + 1) (Or.inr ⟨hr, Or.inr (Or.inr (Or.inr (Or.inr (Or.inr ⟨k5, c2, L2, c4, t2.mo (by omega), by rw [e22]; exact t4.mo (by omega), rfl⟩))))⟩)⟩
      · rw [if_pos e]
        refine ⟨σ1, Rp1, σ2, ?_, σ3, Rp3, σ4, ?_, σ5, Rp5, rfl, rfl⟩
        · rw [rw_in r0 (by omega), W1.1 42 (by decide) (by decide) (by decide) (by decide)]; exact R2
        · rw [rw_in r0 (by omega), W123.1 44 (by decide) (by decide) (by decide) (by decide)]; exact R4
      · simp only [List.length_cons, List.length_append, List.length_nil]
        rw [er, ← n2, ← n4]
        omega
/-- the type as it is shown -/
theorem s_write (T : TI σ) (h : 0 ≤ n ∧ n < σ 38 5) (hw : ∀ μ, MinV (cS σ) (σ 38 5) μ → gw (μ n) ≤ 80) : ∃ σ' cs, Rn (d + 50) yTy_write [.ref 38, vi n, .ref 56] σ (some (cs.length : Int)) σ' ∧ (∀ i, i ≠ 38 → i ≠ 46 → i ≠ 48 → i ≠ 57 → σ' i = σ i) ∧ (∀ k, k ≠ 6 → k ≠ 7 → σ' 38 k = σ 38 k) ∧ TxT (cS σ) n cs ∧ (1 ≤ cs.length ∧ cs.length ≤ 80) ∧ ∀ i : Nat, i < cs.length → σ' 57 i = cs.getD i 0 := by
  have hc := T.1.2.1
  obtain ⟨μ, M⟩ := min_ex T.1
  have w := hw μ M
  have gl := glv_gw (t := μ n)
  have g := gw_ge (t := μ n)
  obtain ⟨T0, e0⟩ := T.cg (σ' := mup (mup σ 38 6 0) 38 7 0) (by rw [mup_obj (by decide), mup_obj (by decide)]) (by rw [mup_obj (by decide), mup_obj (by decide)]) (by rw [mup_obj (by decide), mup_obj (by decide)]) (by rw [mup_nk (by decide), mup_nk (by decide)])
  have ec : cS (mup (mup σ 38 6 0) 38 7 0) = cS σ := congrArg (fun S : TS => S.1) e0
  have e5 : (mup (mup σ 38 6 0) 38 7 0) 38 5 = σ 38 5 := congrArg (fun S : TS => S.2.1) e0
  have e7 : (mup (mup σ 38 6 0) 38 7 0) 38 7 = 0 := mup_eq
  obtain ⟨σ', cs, L', R, W, -, nc, j, t⟩ := s_wrPart (d := d + 3) (μ := μ) 41 n 0 (mup (mup σ 38 6 0) 38 7 0) [] T0 (by rw [ec, e5]; exact M) (by decide) (Int.le_refl _) h.1 (by rw [e5]; exact h.2) (by omega) ⟨by rw [mup_nk (by decide), mup_eq]; rfl, fun i hi => absurd hi (Nat.not_lt_zero i)⟩ (by show ((0 : Nat) : Int) + _ ≤ 20; omega) (by omega)
  have l7 := W.2.2.2.1
  rw [e7] at l7
  refine ⟨σ', cs, M_Ty_write (d := d + 46) ⟨by omega, by omega⟩ ⟨σ', R.deep (by omega), by rw [l7]; congr 1; omega, rfl⟩, fun i h1 h2 h3 h4 => (W.1 i h1 h2 h3 h4).trans (by rw [mup_obj h1, mup_obj h1]), fun k h6 h7 => (W.2.1 k h6 h7).trans (by rw [mup_nk h7, mup_nk h6]), ⟨j, L', by rw [← ec]; exact t⟩, by omega, fun i hi => ?_⟩
  have := W.2.2.2.2.1 i hi
  rw [e7] at this
  rw [← this]
  congr 1
  omega
end CWR
