/-! The class's reader: applications, products, sums, comparisons. -/
section OPS
variable {d : Nat} {σ σ1 : Mem} {R : PRG}
theorem ST.brk (S : ST σ σ1 R) : ST σ (mup σ1 35 4 1) none := ⟨S.1.tr (frR.mu rfl), S.2.1.br, by show mup σ1 35 4 1 35 4 ≠ 0; rw [mup_eq]; decide⟩
theorem EO.cg {P Q : Option (Tr × Int)} {v : Int} (h : EO P σ σ1 v) (e : σ 35 4 = 0 → P = Q) : EO Q σ σ1 v := by
  obtain ⟨a, b, c, z, f, m⟩ := h
  refine ⟨a, b, c, z, f, fun hb g => ?_⟩
  rw [← e hb]; exact m hb g
theorem pOp_sk {u v q : Int} (L : LI σ) (h : 0 ≤ q) : pOp (chr σ) u v (sk (chr σ) q) = pOp (chr σ) u v q := by
  unfold pOp; rw [L.nx_sk h, L.sk_sk h]
section PL
variable {x e : Int} {E Pf : (Int → Int) → Int → Option (Tr × Int)}
theorem app_l (hx : 0 ≤ x ∧ x ≤ 100) (hA : LSp yRd_atom (d + 6) x e Pf) (H : OK σ) (hC : CB e σ) : ∀ (n : Nat) (x2 x3 : Int) (σ1 : Mem) (r : Option (Nat × Tr × Bool × Int)), x3 + n = 60 → 0 ≤ x3 → rg x2 → ST σ σ1 (r.map fun y => (y.1, [(y.2.1, x2)], y.2.2.1, y.2.2.2)) → σ1 37 = σ 37 → (∀ y, r = some y → 1 ≤ y.1 ∧ y.2.2.1 = !(clo y.2.1 (bd σ))) →
    ∃ v σ2, Lb (d + 6) yRd_application 8 [(0, .ref 35), (1, vi x), (2, vi x2), (3, vi x3)] [] σ1 (some v) σ2 ∧ EO (r.bind fun y => pAppL (chr σ) (Pf (chr σ)) n y.2.1 y.2.2.2) σ σ2 v
  | 0, x2, x3, σ1, r, hn, h0, g2, S, z1, hr => by
    refine ⟨x2, σ1, K_Rd_application_8 ⟨by omega, by omega⟩ g2 ⟨by omega, by omega⟩ ?_, S.eo g2 z1 (fun h _ => ?_) (fun w hw => ?_)⟩
    · unfold B_Rd_application_8
      rw [if_pos (by omega)]
      exact ⟨rfl, rfl⟩
    · cases r with
      | none => rfl
      | some y => cases h
    · cases r with
      | none => cases hw
      | some y =>
        cases hw
        obtain ⟨hc, hu⟩ := hr y rfl
        exact ⟨hc, y.2.1, List.mem_cons_self, rfl, hu⟩
  | n + 1, x2, x3, σ1, r, hn, h0, g2, S, z1, hr => by
    obtain ⟨σ2, r2, S2, z2, -⟩ := S.next (d := d + 2)
    have gp : rg (prN (chr σ) (r.map fun y => (y.1, [(y.2.1, x2)], y.2.2.1, y.2.2.2))) := by
      cases r with
      | none => exact rgk rfl
      | some y =>
        have : nx (chr σ) y.2.2.2 = -1 ∨ (32 ≤ nx (chr σ) y.2.2.2 ∧ nx (chr σ) y.2.2.2 ≤ 126) := H.1.1.chr_rg
        exact ⟨by show -2147483648 ≤ nx (chr σ) y.2.2.2; omega, by show nx (chr σ) y.2.2.2 < _; omega⟩
    have A2 := s_startsAtom (d := d + 2) (σ := σ2) gp
    by_cases c : stb (prN (chr σ) (r.map fun y => (y.1, [(y.2.1, x2)], y.2.2.1, y.2.2.2))) = true
    · rw [if_pos c] at A2
      cases r with
      | none => exact absurd (show stb (-1) = true from c) (by decide)
      | some y =>
        obtain ⟨hc, hu⟩ := hr y rfl
        have p0 := S.pos
        have c' : stb (nx (chr σ) y.2.2.2) = true := c
        obtain ⟨w, σ3, r3, gw, S3, z3⟩ := S2.sub hA (fun y a b => by rw [z2, z1]; exact hC y a b)
        have zz : σ3 37 = σ 37 := (z3.trans z2).trans z1
        have S3' : ST σ σ3 ((Pf (chr σ) (sk (chr σ) y.2.2.2)).map fun t => (y.1 + 1, (t.1, w) :: [(y.2.1, x2)], y.2.2.1 || !(clo t.1 (bd σ2)), t.2)) := S3
        have e1 : ((some y).bind fun y => pAppL (chr σ) (Pf (chr σ)) (n + 1) y.2.1 y.2.2.2) = (Pf (chr σ) (sk (chr σ) y.2.2.2)).bind fun U => pAppL (chr σ) (Pf (chr σ)) n (nd 11 0 y.2.1 U.1 nl) U.2 := by
          show pAppL (chr σ) (Pf (chr σ)) (n + 1) y.2.1 y.2.2.2 = _
          rw [pAppL, if_pos c']
        rw [e1]
        cases hP : Pf (chr σ) (sk (chr σ) y.2.2.2) with
        | none =>
          rw [hP] at S3'
          obtain ⟨v4, σ4, r4, g4, z4, -, S4⟩ := S3'.addS (d := d + 4) (k := 11) (ki := 11) (z := 0) (a := x2) (b := w) (c := -1) (A := nl) (B := nl) (C := nl) rfl (rgk rfl) (rgk rfl) g2 gw (rgk rfl) (fun h => by cases h) (fun x hx => by cases hx)
          obtain ⟨v5, σ5, L5, E5⟩ := app_l hx hA H hC n v4 (x3 + 1) σ4 none (by omega) (by omega) g4 S4 (z4.trans zz) (fun y hy => by cases hy)
          refine ⟨v5, σ5, K_Rd_application_8 ⟨by omega, by omega⟩ g2 ⟨by omega, by omega⟩ ?_, E5⟩
          unfold B_Rd_application_8
          rw [if_neg (by omega)]
          refine ⟨_, σ2, r2, _, σ2, A2, ?_⟩
          rw [if_neg (by decide)]
          exact ⟨w, σ3, r3, v4, σ4, r4, ⟨by omega, by omega⟩, L5⟩
        | some t =>
          rw [hP] at S3'
          obtain ⟨v4, σ4, r4, g4, z4, -, S4⟩ := S3'.addS (d := d + 4) (k := 11) (ki := 11) (z := 0) (a := x2) (b := w) (c := -1) (A := y.2.1) (B := t.1) (C := nl) rfl (rgk rfl) (rgk rfl) g2 gw (rgk rfl) (fun h => by cases h) (fun x hx => by
            cases hx
            exact ⟨by dsimp only; omega, Or.inr (List.mem_cons_of_mem _ List.mem_cons_self), Or.inr List.mem_cons_self, Or.inl ⟨rfl, rfl⟩, df_2⟩)
          obtain ⟨v5, σ5, L5, E5⟩ := app_l hx hA H hC n v4 (x3 + 1) σ4 (some (y.1 + 1 - 1, nd 11 0 y.2.1 t.1 nl, y.2.2.1 || !(clo t.1 (bd σ2)), t.2)) (by omega) (by omega) g4 S4 (z4.trans zz) (fun y' hy => by
            cases hy
            refine ⟨by dsimp only; omega, ?_⟩
            dsimp only
            rw [hu, bd_of (z2.trans z1), clo_nd]
            simp [clo_nl])
          refine ⟨v5, σ5, K_Rd_application_8 ⟨by omega, by omega⟩ g2 ⟨by omega, by omega⟩ ?_, E5⟩
          unfold B_Rd_application_8
          rw [if_neg (by omega)]
          refine ⟨_, σ2, r2, _, σ2, A2, ?_⟩
          rw [if_neg (by decide)]
          exact ⟨w, σ3, r3, v4, σ4, r4, ⟨by omega, by omega⟩, L5⟩
    · rw [if_neg c] at A2
      refine ⟨x2, σ2, K_Rd_application_8 ⟨by omega, by omega⟩ g2 ⟨by omega, by omega⟩ ?_, S2.eo g2 (z2.trans z1) ?_ ?_⟩
      · unfold B_Rd_application_8
        rw [if_neg (by omega)]
        refine ⟨_, σ2, r2, _, σ2, A2, ?_⟩
        rw [if_pos rfl]
        exact ⟨rfl, rfl⟩
      · intro h _
        cases r with
        | none => rfl
        | some y => cases h
      · intro w hw
        cases r with
        | none => cases hw
        | some y =>
          cases hw
          obtain ⟨hc, hu⟩ := hr y rfl
          have c' : ¬ stb (nx (chr σ) y.2.2.2) = true := c
          refine ⟨hc, y.2.1, List.mem_cons_self, ?_, hu⟩
          show pAppL (chr σ) (Pf (chr σ)) (n + 1) y.2.1 y.2.2.2 = _
          rw [pAppL, if_neg c']
theorem s_application (hx : 0 ≤ x ∧ x ≤ 100) (hA : LSp yRd_atom (d + 6) x e Pf) : LSp yRd_application (d + 7) x e (fun ch p => (Pf ch p).bind fun t => pAppL ch (Pf ch) 60 t.1 t.2) := by
  intro σ H hC
  obtain ⟨v1, σ1, r1, E1⟩ := hA σ H hC
  have S1 := E1.st H
  have S1' : ST σ σ1 (((if σ 35 4 = 0 then Pf (chr σ) (σ 35 3) else none).map fun t => (1, t.1, !(clo t.1 (bd σ)), t.2)).map fun y => (y.1, [(y.2.1, v1)], y.2.2.1, y.2.2.2)) := by
    rw [Option.map_map]; exact S1
  obtain ⟨v2, σ2, L2, E2⟩ := app_l hx hA H hC 60 v1 0 σ1 _ (by omega) (by omega) E1.1 S1' E1.2.2.2.1 (fun y hy => by
    obtain ⟨t, -, rfl⟩ := Option.map_eq_some_iff.mp hy
    exact ⟨Nat.le_refl 1, rfl⟩)
  refine ⟨v2, σ2, M_Rd_application ⟨by omega, by omega⟩ ⟨v1, σ1, r1, L2⟩, E2.cg (fun hb => ?_)⟩
  rw [if_pos hb]
  show (Option.map _ (Pf (chr σ) (σ 35 3))).bind _ = (Pf (chr σ) (σ 35 3)).bind _
  cases Pf (chr σ) (σ 35 3) <;> rfl
theorem product_l (hx : 0 ≤ x ∧ x ≤ 100) (hA : LSp yRd_application (d + 6) x e Pf) (H : OK σ) (hC : CB e σ) : ∀ (n : Nat) (x2 x3 : Int) (σ1 : Mem) (r : Option (Nat × Tr × Bool × Int)), x3 + n = 60 → 0 ≤ x3 → rg x2 → ST σ σ1 (r.map fun y => (y.1, [(y.2.1, x2)], y.2.2.1, y.2.2.2)) → σ1 37 = σ 37 → (∀ y, r = some y → 1 ≤ y.1 ∧ y.2.2.1 = !(clo y.2.1 (bd σ))) →
    ∃ v σ2, Lb (d + 6) yRd_product 8 [(0, .ref 35), (1, vi x), (2, vi x2), (3, vi x3)] [] σ1 (some v) σ2 ∧ EO (r.bind fun y => pOpL (chr σ) (Pf (chr σ)) 42 47 n y.2.1 y.2.2.2) σ σ2 v
  | 0, x2, x3, σ1, r, hn, h0, g2, S, z1, hr => by
    refine ⟨-1, _, K_Rd_product_8 ⟨by omega, by omega⟩ g2 ⟨by omega, by omega⟩ ?_, S.brk.eo (rgk rfl) ((mup_obj (by decide)).trans z1) (fun _ _ => by cases r <;> rfl) (fun w hw => by cases hw)⟩
    unfold B_Rd_product_8
    rw [if_pos (by omega)]
    exact ⟨-1, _, s_breakOff (d := d + 2), rfl, rfl⟩
  | n + 1, x2, x3, σ1, r, hn, h0, g2, S, z1, hr => by
    obtain ⟨v, σ2, r2, gv, z2, -, k2⟩ := S.op (d := d + 1) (a := 42) (b := 47) (by decide) (by decide)
    rcases k2 with ⟨hv, y', q, hy, hp, S2⟩ | ⟨rfl, ny, S2⟩
    · cases r with
      | none => cases hy
      | some y =>
        cases hy
        obtain ⟨hc, hu⟩ := hr y rfl
        have hp' : pOp (chr σ) 42 47 y.2.2.2 = some (v, q) := hp
        obtain ⟨w, σ3, r3, gw, S3, z3⟩ := S2.sub hA (fun y a b => by rw [z2, z1]; exact hC y a b)
        have zz : σ3 37 = σ 37 := (z3.trans z2).trans z1
        have e1 : ((some y).bind fun y => pOpL (chr σ) (Pf (chr σ)) 42 47 (n + 1) y.2.1 y.2.2.2) = (Pf (chr σ) q).bind fun U => pOpL (chr σ) (Pf (chr σ)) 42 47 n (nd 9 v y.2.1 U.1 nl) U.2 := by
          show pOpL (chr σ) (Pf (chr σ)) 42 47 (n + 1) y.2.1 y.2.2.2 = _
          rw [pOpL, hp']
        rw [e1]
        cases hP : Pf (chr σ) q with
        | none =>
          dsimp only [Option.bind_some] at S3
          rw [hP] at S3
          obtain ⟨v4, σ4, r4, g4, z4, -, S4⟩ := S3.addS (d := d + 4) (k := 9) (ki := 9) (z := v) (a := x2) (b := w) (c := -1) (A := nl) (B := nl) (C := nl) rfl (rgk rfl) gv g2 gw (rgk rfl) (fun h => by cases h) (fun x hx => by cases hx)
          obtain ⟨v5, σ5, L5, E5⟩ := product_l hx hA H hC n v4 (x3 + 1) σ4 none (by omega) (by omega) g4 S4 (z4.trans zz) (fun y hy => by cases hy)
          refine ⟨v5, σ5, K_Rd_product_8 ⟨by omega, by omega⟩ g2 ⟨by omega, by omega⟩ ?_, E5⟩
          unfold B_Rd_product_8
          rw [if_neg (by omega)]
          refine ⟨v, σ2, r2, ?_⟩
          rw [if_pos hv]
          exact ⟨w, σ3, r3, v4, σ4, r4, ⟨by omega, by omega⟩, L5⟩
        | some t =>
          dsimp only [Option.bind_some] at S3
          rw [hP] at S3
          obtain ⟨v4, σ4, r4, g4, z4, -, S4⟩ := S3.addS (d := d + 4) (k := 9) (ki := 9) (z := v) (a := x2) (b := w) (c := -1) (A := y.2.1) (B := t.1) (C := nl) rfl (rgk rfl) gv g2 gw (rgk rfl) (fun h => by cases h) (fun x hx => by
            cases hx
            exact ⟨by dsimp only; omega, Or.inr (List.mem_cons_of_mem _ List.mem_cons_self), Or.inr List.mem_cons_self, Or.inl ⟨rfl, rfl⟩, df_2⟩)
          obtain ⟨v5, σ5, L5, E5⟩ := product_l hx hA H hC n v4 (x3 + 1) σ4 (some (y.1 + 2 + 1 - 1, nd 9 v y.2.1 t.1 nl, y.2.2.1 || !(clo t.1 (bd σ2)), t.2)) (by omega) (by omega) g4 S4 (z4.trans zz) (fun y' hy => by
            cases hy
            refine ⟨by dsimp only; omega, ?_⟩
            dsimp only
            rw [hu, bd_of (z2.trans z1), clo_nd]
            simp [clo_nl])
          refine ⟨v5, σ5, K_Rd_product_8 ⟨by omega, by omega⟩ g2 ⟨by omega, by omega⟩ ?_, E5⟩
          unfold B_Rd_product_8
          rw [if_neg (by omega)]
          refine ⟨v, σ2, r2, ?_⟩
          rw [if_pos hv]
          exact ⟨w, σ3, r3, v4, σ4, r4, ⟨by omega, by omega⟩, L5⟩
    · refine ⟨x2, σ2, K_Rd_product_8 ⟨by omega, by omega⟩ g2 ⟨by omega, by omega⟩ ?_, S2.eo g2 (z2.trans z1) ?_ ?_⟩
      · unfold B_Rd_product_8
        rw [if_neg (by omega)]
        refine ⟨-1, σ2, r2, ?_⟩
        rw [if_neg (by decide)]
        exact ⟨rfl, rfl⟩
      · intro h _
        cases r with
        | none => rfl
        | some y => cases h
      · intro w hw
        cases r with
        | none => cases hw
        | some y =>
          cases hw
          obtain ⟨hc, hu⟩ := hr y rfl
          refine ⟨hc, y.2.1, List.mem_cons_self, ?_, hu⟩
          show pOpL (chr σ) (Pf (chr σ)) 42 47 (n + 1) y.2.1 y.2.2.2 = _
          rw [pOpL, ny _ rfl]
theorem s_product (hx : 0 ≤ x ∧ x ≤ 100) (hA : LSp yRd_application (d + 6) x e Pf) : LSp yRd_product (d + 7) x e (fun ch p => (Pf ch p).bind fun t => pOpL ch (Pf ch) 42 47 60 t.1 t.2) := by
  intro σ H hC
  obtain ⟨v1, σ1, r1, E1⟩ := hA σ H hC
  have S1 := E1.st H
  have S1' : ST σ σ1 (((if σ 35 4 = 0 then Pf (chr σ) (σ 35 3) else none).map fun t => (1, t.1, !(clo t.1 (bd σ)), t.2)).map fun y => (y.1, [(y.2.1, v1)], y.2.2.1, y.2.2.2)) := by
    rw [Option.map_map]; exact S1
  obtain ⟨v2, σ2, L2, E2⟩ := product_l hx hA H hC 60 v1 0 σ1 _ (by omega) (by omega) E1.1 S1' E1.2.2.2.1 (fun y hy => by
    obtain ⟨t, -, rfl⟩ := Option.map_eq_some_iff.mp hy
    exact ⟨Nat.le_refl 1, rfl⟩)
  refine ⟨v2, σ2, M_Rd_product ⟨by omega, by omega⟩ ⟨v1, σ1, r1, L2⟩, E2.cg (fun hb => ?_)⟩
  rw [if_pos hb]
  show (Option.map _ (Pf (chr σ) (σ 35 3))).bind _ = (Pf (chr σ) (σ 35 3)).bind _
  cases Pf (chr σ) (σ 35 3) <;> rfl
theorem sum_l (hx : 0 ≤ x ∧ x ≤ 100) (hA : LSp yRd_product (d + 6) x e Pf) (H : OK σ) (hC : CB e σ) : ∀ (n : Nat) (x2 x3 : Int) (σ1 : Mem) (r : Option (Nat × Tr × Bool × Int)), x3 + n = 60 → 0 ≤ x3 → rg x2 → ST σ σ1 (r.map fun y => (y.1, [(y.2.1, x2)], y.2.2.1, y.2.2.2)) → σ1 37 = σ 37 → (∀ y, r = some y → 1 ≤ y.1 ∧ y.2.2.1 = !(clo y.2.1 (bd σ))) →
    ∃ v σ2, Lb (d + 6) yRd_sum 8 [(0, .ref 35), (1, vi x), (2, vi x2), (3, vi x3)] [] σ1 (some v) σ2 ∧ EO (r.bind fun y => pOpL (chr σ) (Pf (chr σ)) 43 45 n y.2.1 y.2.2.2) σ σ2 v
  | 0, x2, x3, σ1, r, hn, h0, g2, S, z1, hr => by
    refine ⟨-1, _, K_Rd_sum_8 ⟨by omega, by omega⟩ g2 ⟨by omega, by omega⟩ ?_, S.brk.eo (rgk rfl) ((mup_obj (by decide)).trans z1) (fun _ _ => by cases r <;> rfl) (fun w hw => by cases hw)⟩
    unfold B_Rd_sum_8
    rw [if_pos (by omega)]
    exact ⟨-1, _, s_breakOff (d := d + 2), rfl, rfl⟩
  | n + 1, x2, x3, σ1, r, hn, h0, g2, S, z1, hr => by
    obtain ⟨v, σ2, r2, gv, z2, -, k2⟩ := S.op (d := d + 1) (a := 43) (b := 45) (by decide) (by decide)
    rcases k2 with ⟨hv, y', q, hy, hp, S2⟩ | ⟨rfl, ny, S2⟩
    · cases r with
      | none => cases hy
      | some y =>
        cases hy
        obtain ⟨hc, hu⟩ := hr y rfl
        have hp' : pOp (chr σ) 43 45 y.2.2.2 = some (v, q) := hp
        obtain ⟨w, σ3, r3, gw, S3, z3⟩ := S2.sub hA (fun y a b => by rw [z2, z1]; exact hC y a b)
        have zz : σ3 37 = σ 37 := (z3.trans z2).trans z1
        have e1 : ((some y).bind fun y => pOpL (chr σ) (Pf (chr σ)) 43 45 (n + 1) y.2.1 y.2.2.2) = (Pf (chr σ) q).bind fun U => pOpL (chr σ) (Pf (chr σ)) 43 45 n (nd 9 v y.2.1 U.1 nl) U.2 := by
          show pOpL (chr σ) (Pf (chr σ)) 43 45 (n + 1) y.2.1 y.2.2.2 = _
          rw [pOpL, hp']
        rw [e1]
        cases hP : Pf (chr σ) q with
        | none =>
          dsimp only [Option.bind_some] at S3
          rw [hP] at S3
          obtain ⟨v4, σ4, r4, g4, z4, -, S4⟩ := S3.addS (d := d + 4) (k := 9) (ki := 9) (z := v) (a := x2) (b := w) (c := -1) (A := nl) (B := nl) (C := nl) rfl (rgk rfl) gv g2 gw (rgk rfl) (fun h => by cases h) (fun x hx => by cases hx)
          obtain ⟨v5, σ5, L5, E5⟩ := sum_l hx hA H hC n v4 (x3 + 1) σ4 none (by omega) (by omega) g4 S4 (z4.trans zz) (fun y hy => by cases hy)
          refine ⟨v5, σ5, K_Rd_sum_8 ⟨by omega, by omega⟩ g2 ⟨by omega, by omega⟩ ?_, E5⟩
          unfold B_Rd_sum_8
          rw [if_neg (by omega)]
          refine ⟨v, σ2, r2, ?_⟩
          rw [if_pos hv]
          exact ⟨w, σ3, r3, v4, σ4, r4, ⟨by omega, by omega⟩, L5⟩
        | some t =>
          dsimp only [Option.bind_some] at S3
          rw [hP] at S3
          obtain ⟨v4, σ4, r4, g4, z4, -, S4⟩ := S3.addS (d := d + 4) (k := 9) (ki := 9) (z := v) (a := x2) (b := w) (c := -1) (A := y.2.1) (B := t.1) (C := nl) rfl (rgk rfl) gv g2 gw (rgk rfl) (fun h => by cases h) (fun x hx => by
            cases hx
            exact ⟨by dsimp only; omega, Or.inr (List.mem_cons_of_mem _ List.mem_cons_self), Or.inr List.mem_cons_self, Or.inl ⟨rfl, rfl⟩, df_2⟩)
          obtain ⟨v5, σ5, L5, E5⟩ := sum_l hx hA H hC n v4 (x3 + 1) σ4 (some (y.1 + 2 + 1 - 1, nd 9 v y.2.1 t.1 nl, y.2.2.1 || !(clo t.1 (bd σ2)), t.2)) (by omega) (by omega) g4 S4 (z4.trans zz) (fun y' hy => by
            cases hy
            refine ⟨by dsimp only; omega, ?_⟩
            dsimp only
            rw [hu, bd_of (z2.trans z1), clo_nd]
            simp [clo_nl])
          refine ⟨v5, σ5, K_Rd_sum_8 ⟨by omega, by omega⟩ g2 ⟨by omega, by omega⟩ ?_, E5⟩
          unfold B_Rd_sum_8
          rw [if_neg (by omega)]
          refine ⟨v, σ2, r2, ?_⟩
          rw [if_pos hv]
          exact ⟨w, σ3, r3, v4, σ4, r4, ⟨by omega, by omega⟩, L5⟩
    · refine ⟨x2, σ2, K_Rd_sum_8 ⟨by omega, by omega⟩ g2 ⟨by omega, by omega⟩ ?_, S2.eo g2 (z2.trans z1) ?_ ?_⟩
      · unfold B_Rd_sum_8
        rw [if_neg (by omega)]
        refine ⟨-1, σ2, r2, ?_⟩
        rw [if_neg (by decide)]
        exact ⟨rfl, rfl⟩
      · intro h _
        cases r with
        | none => rfl
        | some y => cases h
      · intro w hw
        cases r with
        | none => cases hw
        | some y =>
          cases hw
          obtain ⟨hc, hu⟩ := hr y rfl
          refine ⟨hc, y.2.1, List.mem_cons_self, ?_, hu⟩
          show pOpL (chr σ) (Pf (chr σ)) 43 45 (n + 1) y.2.1 y.2.2.2 = _
          rw [pOpL, ny _ rfl]
theorem s_sum (hx : 0 ≤ x ∧ x ≤ 100) (hA : LSp yRd_product (d + 6) x e Pf) : LSp yRd_sum (d + 7) x e (fun ch p => (Pf ch p).bind fun t => pOpL ch (Pf ch) 43 45 60 t.1 t.2) := by
  intro σ H hC
  obtain ⟨v1, σ1, r1, E1⟩ := hA σ H hC
  have S1 := E1.st H
  have S1' : ST σ σ1 (((if σ 35 4 = 0 then Pf (chr σ) (σ 35 3) else none).map fun t => (1, t.1, !(clo t.1 (bd σ)), t.2)).map fun y => (y.1, [(y.2.1, v1)], y.2.2.1, y.2.2.2)) := by
    rw [Option.map_map]; exact S1
  obtain ⟨v2, σ2, L2, E2⟩ := sum_l hx hA H hC 60 v1 0 σ1 _ (by omega) (by omega) E1.1 S1' E1.2.2.2.1 (fun y hy => by
    obtain ⟨t, -, rfl⟩ := Option.map_eq_some_iff.mp hy
    exact ⟨Nat.le_refl 1, rfl⟩)
  refine ⟨v2, σ2, M_Rd_sum ⟨by omega, by omega⟩ ⟨v1, σ1, r1, L2⟩, E2.cg (fun hb => ?_)⟩
  rw [if_pos hb]
  show (Option.map _ (Pf (chr σ) (σ 35 3))).bind _ = (Pf (chr σ) (σ 35 3)).bind _
  cases Pf (chr σ) (σ 35 3) <;> rfl
theorem s_comparison (hx : 0 ≤ x ∧ x ≤ 100) (hA : LSp yRd_sum (d + 6) x e (fun ch p => pSum ch (E ch) p)) : LSp yRd_comparison (d + 7) x e (fun ch p => pCmp ch (E ch) p) := by
  intro σ H hC
  have rx : rg x := ⟨by omega, by omega⟩
  obtain ⟨v1, σ1, r1, E1⟩ := hA σ H hC
  have S1 := E1.st H
  have z1 : σ1 37 = σ 37 := E1.2.2.2.1
  obtain ⟨v2, σ2, r2, z2, -, k2⟩ := S1.takes (d := d + 1) (t := 61) (rgk rfl) (by decide)
  -- a sign was read: the other side
  have side : ∀ {m : Mem} {s q : Int} {t : Tr × Int}, σ 35 4 = 0 → pSum (chr σ) (E (chr σ)) (σ 35 3) = some t → ST σ m (some (3, [(t.1, v1)], !(clo t.1 (bd σ)), q)) → m 37 = σ 37 → s ≠ -1 → rg s →
      ∃ v σ', B_Rd_comparison_28 (d + 3) x v1 s m (some v) σ' ∧ EO ((pSum (chr σ) (E (chr σ)) q).map fun r => (nd 9 s t.1 r.1 nl, r.2)) σ σ' v := by
    intro m s q t hb ht S zm hs gs
    obtain ⟨w, σ3, r3, gw, S3, z3⟩ := S.sub hA (fun y a b => by rw [zm]; exact hC y a b)
    have S3' : ST σ σ3 ((pSum (chr σ) (E (chr σ)) q).map fun r => (3 + 1, (r.1, w) :: [(t.1, v1)], !(clo t.1 (bd σ)) || !(clo r.1 (bd m)), r.2)) := S3
    cases hP : pSum (chr σ) (E (chr σ)) q with
    | none =>
      rw [hP] at S3'
      obtain ⟨v4, σ4, r4, E4⟩ := S3'.add (d := d + 4) (k := 9) (ki := 9) (z := s) (a := v1) (b := w) (c := -1) (P := none) (z3.trans zm) rfl (rgk rfl) gs E1.1 gw (rgk rfl) (fun h => by cases h) (fun _ _ => rfl) (fun x hx => by cases hx)
      refine ⟨v4, σ4, ?_, E4⟩
      unfold B_Rd_comparison_28
      rw [if_pos hs]
      exact ⟨w, σ3, r3, v4, σ4, r4, rfl, rfl⟩
    | some r =>
      rw [hP] at S3'
      obtain ⟨v4, σ4, r4, E4⟩ := S3'.add (d := d + 4) (k := 9) (ki := 9) (z := s) (a := v1) (b := w) (c := -1) (P := some (nd 9 s t.1 r.1 nl, r.2)) (z3.trans zm) rfl (rgk rfl) gs E1.1 gw (rgk rfl) (fun h => by cases h) (fun h => by cases h) (fun y hy => by
        cases hy
        refine ⟨show 2 ≤ 3 + 1 by decide, t.1, r.1, nl, Or.inr (List.mem_cons_of_mem _ List.mem_cons_self), Or.inr List.mem_cons_self, ⟨Or.inl ⟨rfl, rfl⟩, df_2⟩, rfl, ?_⟩
        dsimp only
        rw [bd_of zm, clo_nd]
        simp [clo_nl])
      refine ⟨v4, σ4, ?_, E4⟩
      unfold B_Rd_comparison_28
      rw [if_pos hs]
      exact ⟨w, σ3, r3, v4, σ4, r4, rfl, rfl⟩
  have some_of : ∀ {y}, ((if σ 35 4 = 0 then pSum (chr σ) (E (chr σ)) (σ 35 3) else none).map fun t => ((1 : Nat), [(t.1, v1)], !(clo t.1 (bd σ)), t.2)) = some y → ∃ t, σ 35 4 = 0 ∧ pSum (chr σ) (E (chr σ)) (σ 35 3) = some t ∧ y = (1, [(t.1, v1)], !(clo t.1 (bd σ)), t.2) := by
    intro y hy
    obtain ⟨t, h1, rfl⟩ := Option.map_eq_some_iff.mp hy
    by_cases hb : σ 35 4 = 0
    · rw [if_pos hb] at h1; exact ⟨t, hb, h1, rfl⟩
    · rw [if_neg hb] at h1; cases h1
  rcases k2 with ⟨rfl, y, hy, ny, S2⟩ | ⟨rfl, ny, S2⟩
  · obtain ⟨t, hb, ht, rfl⟩ := some_of hy
    obtain ⟨v, σ', B, E2⟩ := side (s := 61) hb ht S2 (z2.trans z1) (by decide) (rgk rfl)
    refine ⟨v, σ', M_Rd_comparison rx ⟨v1, σ1, r1, 1, σ2, r2, ?_⟩, ?_⟩
    · rw [if_neg (by decide)]; exact B
    · have e : pCmp (chr σ) (E (chr σ)) (σ 35 3) = (pSum (chr σ) (E (chr σ)) (sk (chr σ) t.2 + 1)).map fun r => (nd 9 61 t.1 r.1 nl, r.2) := by
        unfold pCmp; rw [ht]; dsimp only [Option.bind_some]; rw [if_pos ny]
      show EO (pCmp (chr σ) (E (chr σ)) (σ 35 3)) σ σ' v
      rw [e]; exact E2
  obtain ⟨v3, σ3, r3, g3, z3, -, k3⟩ := S2.op (d := d + 1) (a := 60) (b := 60) (by decide) (by decide)
  rcases k3 with ⟨hv, y, q, hy, hp, S3⟩ | ⟨rfl, no, S3⟩
  · obtain ⟨y0, hy0, rfl⟩ := Option.map_eq_some_iff.mp hy
    obtain ⟨t, hb, ht, rfl⟩ := some_of hy0
    have p0 : 0 ≤ t.2 := by rw [hy0] at S1; exact S1.pos
    rw [hy0] at ny
    have ny' : nx (chr σ) t.2 ≠ 61 := ny
    have hp' : pOp (chr σ) 60 60 t.2 = some (v3, q) := by rw [← pOp_sk H.1.1 p0]; exact hp
    obtain ⟨v, σ', B, E2⟩ := side (s := v3) hb ht S3 ((z3.trans z2).trans z1) hv g3
    refine ⟨v, σ', M_Rd_comparison rx ⟨v1, σ1, r1, 0, σ2, r2, ?_⟩, ?_⟩
    · rw [if_pos rfl]; exact ⟨v3, σ3, r3, B⟩
    · have e : pCmp (chr σ) (E (chr σ)) (σ 35 3) = (pSum (chr σ) (E (chr σ)) q).map fun r => (nd 9 v3 t.1 r.1 nl, r.2) := by
        unfold pCmp; rw [ht]; dsimp only [Option.bind_some]; rw [if_neg ny', hp']
      show EO (pCmp (chr σ) (E (chr σ)) (σ 35 3)) σ σ' v
      rw [e]; exact E2
  · refine ⟨v1, σ3, M_Rd_comparison rx ⟨v1, σ1, r1, 0, σ2, r2, ?_⟩, ?_⟩
    · rw [if_pos rfl]
      refine ⟨-1, σ3, r3, ?_⟩
      unfold B_Rd_comparison_28
      rw [if_neg (by decide)]
      exact ⟨rfl, rfl⟩
    · have zz : σ3 37 = σ 37 := (z3.trans z2).trans z1
      refine S3.eo E1.1 zz (fun h hb => ?_) (fun w hw => ?_)
      · rw [if_pos hb] at h
        show pCmp (chr σ) (E (chr σ)) (σ 35 3) = none
        unfold pCmp
        cases hP : pSum (chr σ) (E (chr σ)) (σ 35 3) with
        | none => rfl
        | some t =>
          rw [show (fun ch p => pSum ch (E ch) p) (chr σ) (σ 35 3) = some t from hP] at h; cases h
      · obtain ⟨y1, hy1, rfl⟩ := Option.map_eq_some_iff.mp hw
        obtain ⟨y0, hy0, rfl⟩ := Option.map_eq_some_iff.mp hy1
        obtain ⟨t, hb, ht, rfl⟩ := some_of hy0
        have p0 : 0 ≤ t.2 := by rw [hy0] at S1; exact S1.pos
        rw [hy0] at ny
        have ny' : nx (chr σ) t.2 ≠ 61 := ny
        have no' : pOp (chr σ) 60 60 t.2 = none := by rw [← pOp_sk H.1.1 p0]; exact no _ hy1
        refine ⟨Nat.le_refl 1, t.1, List.mem_cons_self, ?_, rfl⟩
        show pCmp (chr σ) (E (chr σ)) (σ 35 3) = _
        unfold pCmp
        rw [ht]; dsimp only [Option.bind_some]
        rw [if_neg ny', no']
        show some (t.1, sk (chr σ) t.2) = some (t.1, sk (chr σ) (sk (chr σ) t.2))
        rw [H.1.1.sk_sk p0]
end PL
end OPS
