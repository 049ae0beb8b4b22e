/-! The model shows a type: nodes. -/
section MS3
variable {σ σ' σ0 σ1 σ2 : Mem} {d : Nat} {n x y c r : Int} {L L1 L2 cs c1 c2 : List Int} {μ : Int → GT}
theorem SwT.sh {b : Int} (A : SwT σ0 σ) (S : Sh2 σ0 σ σ' b cs L) : SwT σ0 σ' := ⟨(S.1 79 (by decide) (by decide) (by decide) (by decide)).trans A.1, (S.1 80 (by decide) (by decide) (by decide) (by decide)).trans A.2.1, (S.1 81 (by decide) (by decide) (by decide) (by decide)).trans A.2.2⟩
theorem Sh2.b0 {b b' : Int} (h : b' ≤ b) (S : Sh2 σ0 σ σ' b cs L) : Sh2 σ0 σ σ' b' cs L := ⟨S.1, S.2.1, fun i hi => S.2.2.1 i (by omega), S.2.2.2⟩
theorem sh_go (H : MT σ0) (M : MinV (mS σ0).1 (mS σ0).2.1 μ) : ∀ (k : Nat) (n x : Int) (σ : Mem) (L : List Int), gw (μ n) ≤ k → (0 ≤ n ∧ n < σ0 58 35) → SwT σ0 σ → LRs σ0 σ L → L.length ≤ 25 → L.length + glv (μ n) ≤ 20 → σ 86 (x - 1) = n → 1 ≤ x → x + gw (μ n) ≤ 100 → (0 ≤ σ 58 49 ∧ σ 58 49 + gw (μ n) ≤ 80) → ∃ σ' cs L', (∀ o s', Lb (d + 4) yMo_show 16 [(0, .ref 58), (2, vi (x - 1)), (3, vi (L'.length : Int))] [] σ' o s' → Lb (d + 4) yMo_show 16 [(0, .ref 58), (2, vi x), (3, vi (L.length : Int))] [] σ o s') ∧ Sh2 σ0 σ σ' (x - 1) cs L' ∧ L'.length ≤ L.length + glv (μ n) ∧ (cs.length : Int) = gw (μ n) ∧ ∃ j, Tx (mS σ0).1 j n L cs L' := by
  intro k
  induction k with
  | zero =>
    intro n x σ L hk
    have g := gw_ge (t := μ n)
    omega
  | succ k ih =>
    intro n x σ L hk hn A LR hL25 hl en h1 hx h49
    have hc := H.2.1
    obtain ⟨r, ⟨j0, ej⟩, nl⟩ := rt_ex H hn.1 hn.2
    have rin := rtM.in ⟨⟨j0, ej⟩, nl⟩ H hn.1 hn.2
    have rval := rtM.val ⟨⟨j0, ej⟩, nl⟩ H hn.1 hn.2 M.1
    have rkd := rtM.kd ⟨⟨j0, ej⟩, nl⟩ H hn.1 hn.2
    have R := s_real2 (d := d) (k := j0) H A hn.1 hn.2 (by rw [← ej]; exact nl)
    rw [← ej] at R
    have lk : ∀ {j : Nat} {L cs L'}, Tx (mS σ0).1 j r L cs L' → Tx (mS σ0).1 (j + j0) n L cs L' := fun h => by rw [ej] at h; exact Tx.lks h
    clear ej
    have V := M.1 r rin.1 rin.2
    have g := gw_ge (t := μ n)
    have gl := glv_ge (t := μ n)
    have ex : x + (-1) = x - 1 := by omega
    have k79 : σ 79 r = σ0 79 r := by rw [A.1]
    have s16 : ∀ {o s'}, (if σ 79 r ≠ 0 then ((rg (x - 1)) ∧ (B_Mo_show_75 (d + 1) (x - 1) L.length r σ o s')) else (((0 : Int) ≤ r ∧ r < (1300 : Int)) ∧ (if σ 82 r ≥ 0 then ((rg (x - 1)) ∧ (B_Mo_show_75 (d + 1) (x - 1) L.length r σ o s')) else (((0 : Int) ≤ r ∧ r < (1300 : Int)) ∧ ((rg (x - 1)) ∧ ((rg ((L.length : Int) + 1)) ∧ (B_Mo_show_75 (d + 1) (x - 1) (L.length + 1) r (mup σ 82 r L.length) o s'))))))) → Lb (d + 4) yMo_show 16 [(0, .ref 58), (2, vi x), (3, vi (L.length : Int))] [] σ o s' := fun {o s'} h => by
      refine K_Mo_show_16 (d := d + 1) ⟨by omega, by omega⟩ ⟨by omega, by omega⟩ ?_
      unfold B_Mo_show_16
      rw [if_neg (by omega), ex, en, if_neg (by omega)]
      exact ⟨by omega, r, σ, R, by omega, h⟩
    -- a type without parts
    have leaf : ∀ (c : Int), (0 ≤ c ∧ c < 128) → σ0 79 r ≠ 0 → σ0 79 r < 4 → ((σ0 79 r = 1 ∧ c = 105) ∨ (σ0 79 r = 2 ∧ c = 98) ∨ (σ0 79 r = 3 ∧ c = 114)) → gw (μ r) = 1 → (∀ j, Tx (mS σ0).1 (j + 1) r L [c] L) → ∃ σ' cs L', (∀ o s', Lb (d + 4) yMo_show 16 [(0, .ref 58), (2, vi (x - 1)), (3, vi (L'.length : Int))] [] σ' o s' → Lb (d + 4) yMo_show 16 [(0, .ref 58), (2, vi x), (3, vi (L.length : Int))] [] σ o s') ∧ Sh2 σ0 σ σ' (x - 1) cs L' ∧ L'.length ≤ L.length + glv (μ n) ∧ (cs.length : Int) = gw (μ n) ∧ ∃ j, Tx (mS σ0).1 j n L cs L' := fun c hc' k0 k4 kc gw1 tx => by
      obtain ⟨σ', kk, S⟩ := sh_168 (d := d) (x := x - 1) (y := L.length) (c := c) LR ⟨by omega, by omega⟩ ⟨by omega, by omega⟩ ⟨h49.1, by omega⟩ hc'
      refine ⟨σ', [c], L, fun o s' h => s16 ?_, S _, by omega, by rw [← rval, gw1]; rfl, _, lk (tx 0)⟩
      rw [if_pos (by omega)]
      refine ⟨⟨by omega, by omega⟩, ?_⟩
      unfold B_Mo_show_75
      rw [if_neg (by omega)]
      refine ⟨by omega, ?_⟩
      rw [if_neg (by omega)]
      unfold B_Mo_show_91
      rw [if_pos rin.1]
      refine ⟨by omega, ?_⟩
      rcases kc with ⟨e, ec⟩ | ⟨e, ec⟩ | ⟨e, ec⟩
      · rw [if_neg (by omega), ← ec]; exact kk o s' h
      · rw [if_pos (by omega)]
        refine ⟨by omega, ?_⟩
        rw [if_neg (by omega), ← ec]; exact kk o s' h
      · rw [if_pos (by omega)]
        refine ⟨by omega, ?_⟩
        rw [if_pos (by omega)]
        refine ⟨by omega, ?_⟩
        rw [if_neg (by omega), ← ec]; exact kk o s' h
    -- a variable's letter
    have s91 : ∀ {τ : Mem} {y : Int} {o s'}, τ 79 r = 0 → B_Mo_show_168 (d + 1) (x - 1) y (τ 58 49) (97 + τ 82 r) τ o s' → rg (97 + τ 82 r) → B_Mo_show_75 (d + 1) (x - 1) y r τ o s' := fun {τ y o s'} e h hr => by
      unfold B_Mo_show_75
      rw [if_neg (by omega)]
      refine ⟨by omega, ?_⟩
      rw [if_neg (by omega)]
      unfold B_Mo_show_91
      rw [if_pos rin.1]
      refine ⟨by omega, ?_⟩
      rw [if_pos (by omega)]
      refine ⟨by omega, ?_⟩
      rw [if_pos (by omega)]
      refine ⟨by omega, ?_⟩
      rw [if_pos (by omega)]
      exact ⟨by omega, hr, h⟩
    rcases rkd with ⟨e, -⟩ | e | e | e | ⟨e, f0, f1⟩ | ⟨e, ⟨f0, f1⟩, g0, g1⟩
    · have gw1 : gw (μ n) = 1 := by rw [← rval, M.2 r rin.1 rin.2 e nl]; rfl
      by_cases m : r ∈ L
      · obtain ⟨i, hi, ei⟩ := mem_gd m
        have q := (LR.1 i hi).2
        rw [ei] at q
        obtain ⟨σ', kk, S⟩ := sh_168 (d := d) (x := x - 1) (y := L.length) (c := 97 + i) LR ⟨by omega, by omega⟩ ⟨by omega, by omega⟩ ⟨h49.1, by omega⟩ (by omega)
        refine ⟨σ', [97 + (i : Int)], L, fun o s' h => s16 ?_, S _, by omega, by rw [gw1]; rfl, _, lk (j := 1) (Or.inr ⟨nl, Or.inl ⟨e, Or.inr ⟨i, hi, ei, rfl, rfl⟩⟩⟩)⟩
        rw [if_neg (by omega)]
        refine ⟨by omega, ?_⟩
        rw [if_pos (by omega)]
        exact ⟨⟨by omega, by omega⟩, s91 (by omega) (by rw [q]; exact kk o s' h) ⟨by omega, by omega⟩⟩
      · have q := LR.2 r rin.1 rin.2 m
        have LR2 : LRs σ0 (mup σ 82 r L.length) (L ++ [r]) := by
          refine ⟨fun i hi => ?_, fun n h0 h1 h2 => ?_⟩
          · rw [List.length_append] at hi
            by_cases c : i < L.length
            · rw [(gd_l L [r] i c).1]
              have w := LR.1 i c
              refine ⟨w.1, ?_⟩
              have ne : L.getD i 0 ≠ r := fun e => m (by rw [← e]; exact gd_mem c)
              rw [mup_nk ne]; exact w.2
            · have l1 : [r].length = 1 := rfl
              have ei : i = L.length := by omega
              have gr : (L ++ [r]).getD L.length 0 = r := by rw [gd_r L [r] _ (by omega), Nat.sub_self]; rfl
              rw [ei, gr, mup_eq]
              exact ⟨rin, rfl⟩
          · have ne : n ≠ r := fun e => h2 (by rw [e]; exact List.mem_append.mpr (Or.inr List.mem_cons_self))
            rw [mup_nk ne]
            exact LR.2 n h0 h1 (fun m => h2 (List.mem_append.mpr (Or.inl m)))
        obtain ⟨σ', kk, S⟩ := sh_168 (d := d) (x := x - 1) (y := (L.length : Int) + 1) (c := 97 + L.length) LR2 ⟨by omega, by omega⟩ ⟨by omega, by omega⟩ (by rw [mup_ne (by decide)]; omega) (by omega)
        have S0 : Sh2 σ0 σ (mup σ 82 r L.length) (x - 1) [] (L ++ [r]) := ⟨fun i _ h2 _ _ => mup_obj h2, fun k _ => mup_ne (by decide), fun i _ => mup_ne (by decide), LR2, by rw [mup_ne (by decide)]; show σ 58 49 = σ 58 49 + ((0 : Nat) : Int); omega, fun i hi => absurd hi (Nat.not_lt_zero i), fun i _ => mup_ne (by decide)⟩
        have ll : (L ++ [r]).length = L.length + 1 := by rw [List.length_append]; rfl
        refine ⟨σ', [97 + (L.length : Int)], L ++ [r], fun o s' h => s16 ?_, S0.tr (Int.le_refl _) (S (x - 1)), by rw [ll]; omega, by rw [gw1]; rfl, _, lk (j := 1) (Or.inr ⟨nl, Or.inl ⟨e, Or.inl ⟨m, rfl, rfl⟩⟩⟩)⟩
        rw [if_neg (by omega)]
        refine ⟨by omega, ?_⟩
        rw [if_neg (by omega)]
        refine ⟨by omega, ⟨by omega, by omega⟩, ⟨by omega, by omega⟩, s91 (by rw [mup_ne (by decide)]; omega) ?_ (by rw [mup_eq]; exact ⟨by omega, by omega⟩)⟩
        rw [mup_eq]
        rw [ll] at h
        exact kk o s' (by rw [show ((L.length + 1 : Nat) : Int) = (L.length : Int) + 1 by omega] at h; exact h)
    · exact leaf 105 (by decide) (by omega) (by omega) (Or.inl ⟨e, rfl⟩) (by rw [V.2.1 (by show 1 ≤ σ0 79 r ∧ σ0 79 r ≤ 3; omega), show ((mS σ0).1 r).1 = 1 from e]; rfl) (fun j => Or.inr ⟨nl, Or.inr (Or.inl ⟨e, rfl, rfl⟩)⟩)
    · exact leaf 98 (by decide) (by omega) (by omega) (Or.inr (Or.inl ⟨e, rfl⟩)) (by rw [V.2.1 (by show 1 ≤ σ0 79 r ∧ σ0 79 r ≤ 3; omega), show ((mS σ0).1 r).1 = 2 from e]; rfl) (fun j => Or.inr ⟨nl, Or.inr (Or.inr (Or.inl ⟨e, rfl, rfl⟩))⟩)
    · exact leaf 114 (by decide) (by omega) (by omega) (Or.inr (Or.inr ⟨e, rfl⟩)) (by rw [V.2.1 (by show 1 ≤ σ0 79 r ∧ σ0 79 r ≤ 3; omega), show ((mS σ0).1 r).1 = 3 from e]; rfl) (fun j => Or.inr ⟨nl, Or.inr (Or.inr (Or.inr (Or.inl ⟨e, rfl, rfl⟩)))⟩)
    · -- a list
      have er : gw (μ n) = 2 + gw (μ (σ0 80 r)) := by rw [← rval, V.2.2.1 e]; rfl
      have el : glv (μ n) = glv (μ (σ0 80 r)) := by rw [← rval, V.2.2.1 e]; rfl
      have ga := gw_ge (t := μ (σ0 80 r))
      have k80 : σ 80 r = σ0 80 r := by rw [A.2.1]
      generalize hτ : mup (mup (mup σ 86 (x - 1) (-93)) 86 (x - 1 + 1) (σ0 80 r)) 86 (x - 1 + 1 + 1) (-91) = τ
      have S0 : Sh2 σ0 σ τ (x - 1) [] L := by
        rw [← hτ]
        exact ⟨fun i _ _ h3 _ => by rw [mup_obj h3, mup_obj h3, mup_obj h3], fun k _ => by rw [mup_ne (by decide), mup_ne (by decide), mup_ne (by decide)], fun i hi => by rw [mup_nk (by omega), mup_nk (by omega), mup_nk (by omega)], ⟨fun i hi => by rw [mup_ne (by decide), mup_ne (by decide), mup_ne (by decide)]; exact LR.1 i hi, fun n h0 h1 h2 => by rw [mup_ne (by decide), mup_ne (by decide), mup_ne (by decide)]; exact LR.2 n h0 h1 h2⟩, by rw [mup_ne (by decide), mup_ne (by decide), mup_ne (by decide)]; show σ 58 49 = σ 58 49 + ((0 : Nat) : Int); omega, fun i hi => absurd hi (Nat.not_lt_zero i), fun i _ => by rw [mup_ne (by decide), mup_ne (by decide), mup_ne (by decide)]⟩
      have p1 : τ 86 (x + 2 - 1) = -91 := by rw [← hτ, show x + 2 - 1 = x - 1 + 1 + 1 by omega, mup_eq]
      have p2 : τ 86 (x + 1 - 1) = σ0 80 r := by rw [← hτ, show x + 1 - 1 = x - 1 + 1 by omega, mup_nk (by omega), mup_eq]
      have p3 : τ 86 (x - 1) = -93 := by rw [← hτ, mup_nk (by omega), mup_nk (by omega), mup_eq]
      have t49 : τ 58 49 = σ 58 49 := by have := S0.2.2.2.2.1; rw [show (([] : List Int).length : Int) = 0 from rfl] at this; omega
      have step : ∀ o s', Lb (d + 4) yMo_show 16 [(0, .ref 58), (2, vi (x + 2)), (3, vi (L.length : Int))] [] τ o s' → Lb (d + 4) yMo_show 16 [(0, .ref 58), (2, vi x), (3, vi (L.length : Int))] [] σ o s' := fun o s' h => s16 (by
        rw [if_pos (by omega)]
        refine ⟨⟨by omega, by omega⟩, ?_⟩
        unfold B_Mo_show_75
        rw [if_neg (by omega)]
        refine ⟨by omega, ?_⟩
        rw [if_pos (by omega)]
        refine ⟨by omega, ?_⟩
        rw [if_neg (by omega)]
        unfold B_Mo_show_199
        rw [if_neg (by decide)]
        unfold B_Mo_show_218
        refine ⟨by omega, ?_⟩
        rw [if_pos (by decide)]
        refine ⟨⟨by omega, by omega⟩, ?_⟩
        unfold B_Mo_show_253
        refine ⟨by omega, by omega, ?_⟩
        rw [if_neg (by decide)]
        refine ⟨⟨by omega, by omega⟩, ?_⟩
        unfold B_Mo_show_285 B_Mo_show_289
        refine ⟨by omega, ⟨by omega, by omega⟩, ?_⟩
        rw [mup_ne (i := 86) (j := 80) (by decide), k80, hτ, show x - 1 + 1 + 2 = x + 2 by omega]
        exact h)
      obtain ⟨τ1, kk1, S1⟩ := sh_ch (d := d) (x := x + 2) (y := L.length) (c := 91) S0.2.2.2.1 ⟨by omega, by omega⟩ ⟨by omega, by omega⟩ (by omega) (by decide) p1
      have S01 := S0.tr (b1 := x - 1) (x := x - 1) (Int.le_refl _) (S1 (x - 1))
      have q1 := (S1 (x + 1)).2.2.1
      have t149 : τ1 58 49 = σ 58 49 + 1 := by have := (S1 0).2.2.2.2.1; rw [show ([91] : List Int).length = 1 from rfl] at this; omega
      rw [show x + 2 - 1 = x + 1 by omega] at kk1
      obtain ⟨τ2, c2, L2, kk2, S2, l2, n2, j, t2⟩ := ih (σ0 80 r) (x + 1) τ1 L (by omega) ⟨f0, f1⟩ (A.sh S01) (S1 0).2.2.2.1 hL25 (by omega) (by rw [q1 _ (by omega)]; exact p2) (by omega) (by omega) (by omega)
      rw [show x + 1 - 1 = x by omega] at kk2 S2
      have t249 := S2.2.2.2.2.1
      obtain ⟨τ3, kk3, S3⟩ := sh_ch (d := d) (x := x) (y := L2.length) (c := 93) S2.2.2.2.1 ⟨by omega, by omega⟩ ⟨by omega, by omega⟩ (by omega) (by decide) (by rw [S2.2.2.1 _ (by omega), q1 _ (by omega)]; exact p3)
      have SS := ((S01.tr (b1 := x - 1) (x := x - 1) (Int.le_refl _) (S2.b0 (b' := x - 1) (by omega))).tr (b1 := x - 1) (x := x - 1) (Int.le_refl _) (S3 (x - 1)))
      have ecs : (([] ++ [91]) ++ c2) ++ [93] = (91 : Int) :: (c2 ++ [93]) := by simp
      rw [ecs] at SS
      refine ⟨τ3, 91 :: (c2 ++ [93]), L2, fun o s' h => step o s' (kk1 o s' (kk2 o s' (kk3 o s' h))), SS, by omega, ?_, _, lk (j := j + 1) (Or.inr ⟨nl, Or.inr (Or.inr (Or.inr (Or.inr (Or.inl ⟨e, c2, t2, rfl⟩))))⟩)⟩
      simp only [List.length_cons, List.length_append, List.length_nil]
      omega
    · -- an arrow
      have e22 : ((mS σ0).1 r).2.2 = σ0 81 r := if_pos e
      have er : gw (μ n) = 3 + gw (μ (σ0 80 r)) + gw (μ (σ0 81 r)) := by rw [← rval, V.2.2.2 e, e22]; rfl
      have el : glv (μ n) = glv (μ (σ0 80 r)) + glv (μ (σ0 81 r)) := by rw [← rval, V.2.2.2 e, e22]; rfl
      have ga := gw_ge (t := μ (σ0 80 r))
      have gb := gw_ge (t := μ (σ0 81 r))
      have la := glv_ge (t := μ (σ0 80 r))
      have lb := glv_ge (t := μ (σ0 81 r))
      have k80 : σ 80 r = σ0 80 r := by rw [A.2.1]
      have k81 : σ 81 r = σ0 81 r := by rw [A.2.2]
      generalize hτ : mup (mup (mup (mup (mup σ 86 (x - 1) (-41)) 86 (x - 1 + 1) (σ0 81 r)) 86 (x - 1 + 1 + 1) (-62)) 86 (x - 1 + 1 + 2) (σ0 80 r)) 86 (x - 1 + 1 + 2 + 1) (-40) = τ
      have S0 : Sh2 σ0 σ τ (x - 1) [] L := by
        rw [← hτ]
        exact ⟨fun i _ _ h3 _ => by rw [mup_obj h3, mup_obj h3, mup_obj h3, mup_obj h3, mup_obj h3], fun k _ => by rw [mup_ne (by decide), mup_ne (by decide), mup_ne (by decide), mup_ne (by decide), mup_ne (by decide)], fun i hi => by rw [mup_nk (by omega), mup_nk (by omega), mup_nk (by omega), mup_nk (by omega), mup_nk (by omega)], ⟨fun i hi => by rw [mup_ne (by decide), mup_ne (by decide), mup_ne (by decide), mup_ne (by decide), mup_ne (by decide)]; exact LR.1 i hi, fun n h0 h1 h2 => by rw [mup_ne (by decide), mup_ne (by decide), mup_ne (by decide), mup_ne (by decide), mup_ne (by decide)]; exact LR.2 n h0 h1 h2⟩, by rw [mup_ne (by decide), mup_ne (by decide), mup_ne (by decide), mup_ne (by decide), mup_ne (by decide)]; show σ 58 49 = σ 58 49 + ((0 : Nat) : Int); omega, fun i hi => absurd hi (Nat.not_lt_zero i), fun i _ => by rw [mup_ne (by decide), mup_ne (by decide), mup_ne (by decide), mup_ne (by decide), mup_ne (by decide)]⟩
      have p1 : τ 86 (x + 4 - 1) = -40 := by rw [← hτ, show x + 4 - 1 = x - 1 + 1 + 2 + 1 by omega, mup_eq]
      have p2 : τ 86 (x + 3 - 1) = σ0 80 r := by rw [← hτ, show x + 3 - 1 = x - 1 + 1 + 2 by omega, mup_nk (by omega), mup_eq]
      have p3 : τ 86 (x + 2 - 1) = -62 := by rw [← hτ, show x + 2 - 1 = x - 1 + 1 + 1 by omega, mup_nk (by omega), mup_nk (by omega), mup_eq]
      have p4 : τ 86 (x + 1 - 1) = σ0 81 r := by rw [← hτ, show x + 1 - 1 = x - 1 + 1 by omega, mup_nk (by omega), mup_nk (by omega), mup_nk (by omega), mup_eq]
      have p5 : τ 86 (x - 1) = -41 := by rw [← hτ, mup_nk (by omega), mup_nk (by omega), mup_nk (by omega), mup_nk (by omega), mup_eq]
      have t49 : τ 58 49 = σ 58 49 := by have := S0.2.2.2.2.1; rw [show (([] : List Int).length : Int) = 0 from rfl] at this; omega
      have step : ∀ o s', Lb (d + 4) yMo_show 16 [(0, .ref 58), (2, vi (x + 4)), (3, vi (L.length : Int))] [] τ o s' → Lb (d + 4) yMo_show 16 [(0, .ref 58), (2, vi x), (3, vi (L.length : Int))] [] σ o s' := fun o s' h => s16 (by
        rw [if_pos (by omega)]
        refine ⟨⟨by omega, by omega⟩, ?_⟩
        unfold B_Mo_show_75
        rw [if_neg (by omega)]
        refine ⟨by omega, ?_⟩
        rw [if_pos (by omega)]
        refine ⟨by omega, ?_⟩
        rw [if_pos (by omega)]
        unfold B_Mo_show_199
        rw [if_pos rfl]
        unfold B_Mo_show_218
        refine ⟨by omega, ?_⟩
        rw [if_neg (by decide)]
        refine ⟨by omega, by omega, by omega, ⟨by omega, by omega⟩, ?_⟩
        unfold B_Mo_show_253
        refine ⟨by omega, by omega, ?_⟩
        rw [if_pos rfl]
        refine ⟨⟨by omega, by omega⟩, ?_⟩
        unfold B_Mo_show_285 B_Mo_show_289
        refine ⟨by omega, ⟨by omega, by omega⟩, ?_⟩
        rw [mup_ne (i := 86) (j := 80) (by decide), mup_ne (i := 86) (j := 80) (by decide), mup_ne (i := 86) (j := 80) (by decide), k80, k81, hτ, show x - 1 + 1 + 2 + 2 = x + 4 by omega]
        exact h)
      obtain ⟨τ1, kk1, S1⟩ := sh_ch (d := d) (x := x + 4) (y := L.length) (c := 40) S0.2.2.2.1 ⟨by omega, by omega⟩ ⟨by omega, by omega⟩ (by omega) (by decide) p1
      have S01 := S0.tr (b1 := x - 1) (x := x - 1) (Int.le_refl _) (S1 (x - 1))
      have q1 := (S1 (x + 3)).2.2.1
      have t149 : τ1 58 49 = σ 58 49 + 1 := by have := (S1 0).2.2.2.2.1; rw [show ([40] : List Int).length = 1 from rfl] at this; omega
      rw [show x + 4 - 1 = x + 3 by omega] at kk1
      obtain ⟨τ2, c2, L2, kk2, S2, l2, n2, j, t2⟩ := ih (σ0 80 r) (x + 3) τ1 L (by omega) ⟨f0, f1⟩ (A.sh S01) (S1 0).2.2.2.1 hL25 (by omega) (by rw [q1 _ (by omega)]; exact p2) (by omega) (by omega) (by omega)
      rw [show x + 3 - 1 = x + 2 by omega] at kk2 S2
      have t249 := S2.2.2.2.2.1
      have q2 := S2.2.2.1
      obtain ⟨τ3, kk3, S3⟩ := sh_ch (d := d) (x := x + 2) (y := L2.length) (c := 62) S2.2.2.2.1 ⟨by omega, by omega⟩ ⟨by omega, by omega⟩ (by omega) (by decide) (by rw [q2 _ (by omega), q1 _ (by omega)]; exact p3)
      have q3 := (S3 (x + 1)).2.2.1
      have t349 : τ3 58 49 = τ2 58 49 + 1 := by have := (S3 0).2.2.2.2.1; rw [show ([62] : List Int).length = 1 from rfl] at this; omega
      rw [show x + 2 - 1 = x + 1 by omega] at kk3
      have S03 := ((S01.tr (b1 := x - 1) (x := x - 1) (Int.le_refl _) (S2.b0 (b' := x - 1) (by omega))).tr (b1 := x - 1) (x := x - 1) (Int.le_refl _) (S3 (x - 1)))
      obtain ⟨τ4, c4, L4, kk4, S4, l4, n4, j', t4⟩ := ih (σ0 81 r) (x + 1) τ3 L2 (by omega) ⟨g0, g1⟩ (A.sh S03) (S3 0).2.2.2.1 (by omega) (by omega) (by rw [q3 _ (by omega), q2 _ (by omega), q1 _ (by omega)]; exact p4) (by omega) (by omega) (by omega)
      rw [show x + 1 - 1 = x by omega] at kk4 S4
      have t449 := S4.2.2.2.2.1
      obtain ⟨τ5, kk5, S5⟩ := sh_ch (d := d) (x := x) (y := L4.length) (c := 41) S4.2.2.2.1 ⟨by omega, by omega⟩ ⟨by omega, by omega⟩ (by omega) (by decide) (by rw [S4.2.2.1 _ (by omega), q3 _ (by omega), q2 _ (by omega), q1 _ (by omega)]; exact p5)
      have SS := ((S03.tr (b1 := x - 1) (x := x - 1) (Int.le_refl _) (S4.b0 (b' := x - 1) (by omega))).tr (b1 := x - 1) (x := x - 1) (Int.le_refl _) (S5 (x - 1)))
      have ecs : ((([] ++ [40]) ++ c2) ++ [62] ++ c4) ++ [41] = (40 : Int) :: (c2 ++ 62 :: (c4 ++ [41])) := by simp
      rw [ecs] at SS
      refine ⟨τ5, 40 :: (c2 ++ 62 :: (c4 ++ [41])), L4, fun o s' h => step o s' (kk1 o s' (kk2 o s' (kk3 o s' (kk4 o s' (kk5 o s' h))))), SS, by omega, ?_, _, lk (j := j + j' + 1) (Or.inr ⟨nl, Or.inr (Or.inr (Or.inr (Or.inr (Or.inr ⟨e, c2, L2, c4, t2.mo (by omega), by rw [e22]; exact t4.mo (by omega), rfl⟩))))⟩)⟩
      simp only [List.length_cons, List.length_append, List.length_nil]
      omega
/-- the type as it is shown -/
theorem s_show (H : MT σ) (h : 0 ≤ n ∧ n < σ 58 35) (hw : shN (mS σ) n) : ∃ σ' cs, Rn (d + 5) yMo_show [.ref 58, vi n] σ none σ' ∧ (∀ i, i ≠ 58 → i ≠ 82 → i ≠ 86 → i ≠ 88 → σ' i = σ i) ∧ (∀ k, k ≠ 49 → σ' 58 k = σ 58 k) ∧ TxT (mS σ).1 n cs ∧ (1 ≤ cs.length ∧ cs.length ≤ 80) ∧ σ' 58 49 = cs.length ∧ ∀ i : Nat, i < cs.length → σ' 88 i = cs.getD i 0 := by
  have hc := H.2.1
  obtain ⟨μ, M⟩ := ms_min H
  have w := hw μ M
  have gl := glv_gw (t := μ n)
  have g := gw_ge (t := μ n)
  generalize hτ : mup (mup σ 58 49 0) 86 0 n = τ
  have ob : ∀ i, i ≠ 58 → i ≠ 86 → τ i = σ i := fun i h1 h2 => by rw [← hτ, mup_obj h2, mup_obj h1]
  have k8 : ∀ k, k ≠ 49 → τ 58 k = σ 58 k := fun k h => by rw [← hτ, mup_ne (by decide), mup_nk h]
  have k49 : τ 58 49 = 0 := by rw [← hτ, mup_ne (by decide), mup_eq]
  have k86 : τ 86 (1 - 1) = n := by rw [← hτ]; exact mup_eq
  have LR : LRs σ τ [] := ⟨fun i hi => absurd hi (Nat.not_lt_zero i), fun m h0 h1 _ => by rw [ob 82 (by decide) (by decide)]; exact H.2.2.2.2.2.1 m h0 h1⟩
  obtain ⟨σ', cs, L', k, S, lL, nc, j, t⟩ := sh_go (d := d) H M (gw (μ n)).toNat n 1 τ [] (by omega) h ⟨ob 79 (by decide) (by decide), ob 80 (by decide) (by decide), ob 81 (by decide) (by decide)⟩ LR (by decide) (by show ((0 : Nat) : Int) + _ ≤ 20; omega) k86 (Int.le_refl _) (by omega) (by omega)
  obtain ⟨s1, s2, -, s4, s5, s6, -⟩ := S
  rw [k49] at s5 s6
  have lL : (L'.length : Int) ≤ ((0 : Nat) : Int) + glv (μ n) := lL
  have fin : Lb (d + 4) yMo_show 16 [(0, .ref 58), (2, vi (1 - 1)), (3, vi (L'.length : Int))] [] σ' none σ' := by
    refine K_Mo_show_16 (d := d + 1) (rgk rfl) ⟨by omega, by omega⟩ ?_
    unfold B_Mo_show_16
    rw [if_pos (by decide)]
    exact ⟨rfl, rfl⟩
  refine ⟨σ', cs, M_Mo_show (d := d + 1) ⟨by omega, by omega⟩ ⟨by decide, by rw [hτ]; exact k none σ' fin⟩, fun i h1 h2 h3 h4 => (s1 i h1 h2 h3 h4).trans (ob i h1 h3), fun k h => (s2 k h).trans (k8 k h), ⟨j, L', t⟩, by omega, by omega, fun i hi => ?_⟩
  have := s6 i hi
  rw [show (0 : Int) + (i : Int) = i by omega] at this
  exact this
end MS3
