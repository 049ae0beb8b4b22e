/-! The class's reader: functions, lets, recursions, conditions. -/
section BI
variable {d : Nat} {σ σ1 : Mem} {R : PRG}
theorem pEx_sk {c q : Int} (L : LI σ) (h : 0 ≤ q) : pEx (chr σ) c (sk (chr σ) q) = pEx (chr σ) c q := by
  unfold pEx; rw [L.nx_sk h, L.sk_sk h]
def bnd1 (σ : Mem) (z t : Int) : Int → Int := (rows 26 σ 37 (z - 97) (rowv 26 σ 37 (z - 97) + t)) 37
theorem bnd1_of {σ' : Mem} {z t : Int} (h : σ' 37 = σ 37) : bnd1 σ' z t = bnd1 σ z t := by
  funext x
  unfold bnd1
  rw [rows_at, rows_at]
  unfold rowv
  rw [h]
theorem bnd1_back {σa : Mem} {z : Int} (h : σa 37 = bnd1 σ z 1) : bnd1 σa z (-1) = σ 37 := by
  have ha : ∀ x, σa 37 x = if x = z - 97 ∧ 0 ≤ z - 97 ∧ z - 97 < ((26 : Nat) : Int) then rowv 26 σ 37 (z - 97) + 1 else σ 37 x := fun x => by
    rw [h]; unfold bnd1; rw [rows_at]
  funext x
  unfold bnd1
  rw [rows_at]
  by_cases q : x = z - 97 ∧ 0 ≤ z - 97 ∧ z - 97 < ((26 : Nat) : Int)
  · rw [if_pos q]
    obtain ⟨q1, q2, q3⟩ := q
    unfold rowv
    rw [if_pos ⟨q2, q3⟩, ha, if_pos ⟨rfl, q2, q3⟩]
    unfold rowv
    rw [if_pos ⟨q2, q3⟩, q1]; omega
  · rw [if_neg q, ha, if_neg q]
theorem CB.b1 {e z : Int} {σa : Mem} (hC : CB e σ) (h : σa 37 = bnd1 σ z 1) : CB (e + 1) σa := fun x a b => by
  rw [h]; unfold bnd1; rw [rows_at]
  have := hC x a b
  split
  · next q =>
    unfold rowv
    rw [if_pos q.2, ← q.1]; omega
  · omega
theorem bd_b1 {e z : Int} {σa : Mem} (hC : CB e σ) (hz : 97 ≤ z ∧ z ≤ 122) (h : σa 37 = bnd1 σ z 1) : bd σa = adde (bd σ) z := by
  funext c
  unfold bd adde
  rw [h]; unfold bnd1; rw [rows_at]
  by_cases q : c = z
  · rw [if_pos ⟨by omega, by omega, by omega⟩]
    unfold rowv
    rw [if_pos ⟨by omega, by omega⟩]
    have := hC (z - 97) (by omega) (by omega)
    rw [decide_eq_true q, decide_eq_true (show 1 ≤ σ 37 (z - 97) + 1 by omega)]; rfl
  · rw [if_neg (fun w => q (by omega)), decide_eq_false q]; rfl
section PL
variable {x e : Int} {E : (Int → Int) → Int → Option (Tr × Int)}
theorem s_function (hx : 0 ≤ x ∧ x ≤ 100) (he : 0 ≤ e ∧ e ≤ 500) (hE : LSp yRd_expression (d + 6) (x + 1) (e + 1) E) : LSp yRd_function (d + 7) x e (fun ch p => pFn ch (E ch) p) := by
  intro σ H hC
  have rx : rg x := ⟨by omega, by omega⟩
  obtain ⟨σ1, r1, S1, z1, -⟩ := (ST.init H).expect (d := d) (t := 92) (rgk rfl) (by decide)
  obtain ⟨v, σ2, r2, S2, z2, -, hv, e2⟩ := S1.name (d := d + 1)
  have rv : rg v := ⟨by omega, by omega⟩
  obtain ⟨σ3, r3, S3, z3, -⟩ := S2.expect (d := d) (t := 46) (rgk rfl) (by decide)
  have y3 : σ3 37 = σ 37 := (z3.trans z2).trans z1
  have C3 : CB e σ3 := fun y a b => by rw [y3]; exact hC y a b
  obtain ⟨σ4, r4, S4, z4, -⟩ := S3.bind (d := d + 2) (z := v) (t := 1) C3 (by omega) hv (Or.inl rfl)
  have z4' : σ4 37 = bnd1 σ v 1 := z4.trans (bnd1_of y3)
  obtain ⟨v5, σ5, r5, g5, S5, z5⟩ := S4.sub hE (hC.b1 z4')
  obtain ⟨σ6, r6, S6, z6, -⟩ := S5.bind (d := d + 2) (z := v) (t := -1) (e := e + 1) (fun y a b => by rw [z5]; exact hC.b1 z4' y a b) (by omega) hv (Or.inr rfl)
  have y6 : σ6 37 = σ 37 := z6.trans (bnd1_back (z5.trans z4'))
  obtain ⟨v7, σ7, r7, E7⟩ := S6.add (d := d + 4) (k := 12) (ki := 12) (z := v) (a := v5) (b := -1) (c := -1) (P := pFn (chr σ) (E (chr σ)) (σ 35 3)) y6 rfl (rgk rfl) rv g5 (rgk rfl) (rgk rfl) (fun h => by cases h) (fun hN hb => by
    cases hP : pFn (chr σ) (E (chr σ)) (σ 35 3) with
    | none => rfl
    | some y =>
      exfalso
      unfold pFn at hP
      obtain ⟨a, h1, hP⟩ := Option.bind_eq_some_iff.mp hP
      obtain ⟨n, h2, hP⟩ := Option.bind_eq_some_iff.mp hP
      obtain ⟨b, h3, hP⟩ := Option.bind_eq_some_iff.mp hP
      obtain ⟨t, h4, hP⟩ := Option.map_eq_some_iff.mp hP
      simp only [stR, if_pos hb, Option.bind_some, h1, h2, h3, h4, Option.map_some] at hN
      cases hN) (fun w hw => by
    obtain ⟨w4, q4, hw⟩ := Option.bind_eq_some_iff.mp hw
    obtain ⟨t, h4, rfl⟩ := Option.map_eq_some_iff.mp hw
    obtain ⟨w3, q3, hw⟩ := Option.bind_eq_some_iff.mp q4
    obtain ⟨b, h3, rfl⟩ := Option.map_eq_some_iff.mp hw
    obtain ⟨w2, q2, hw⟩ := Option.bind_eq_some_iff.mp q3
    obtain ⟨n, h2, rfl⟩ := Option.map_eq_some_iff.mp hw
    obtain ⟨w1, q1, hw⟩ := Option.bind_eq_some_iff.mp q2
    obtain ⟨a, h1, rfl⟩ := Option.map_eq_some_iff.mp hw
    have ev := e2 _ _ q2 h2
    have hb : σ 35 4 = 0 := by
      by_cases hb : σ 35 4 = 0
      · exact hb
      · rw [stR, if_neg hb] at q1; cases q1
    rw [stR, if_pos hb] at q1
    cases q1
    dsimp only at h1 h2 h3 h4 ⊢
    refine ⟨by omega, t.1, nl, nl, Or.inr List.mem_cons_self, Or.inl ⟨rfl, rfl⟩, ⟨Or.inl ⟨rfl, rfl⟩, fun _ => df_1⟩, ?_, ?_⟩
    · unfold pFn
      rw [h1]; dsimp only [Option.bind_some]
      rw [h2]; dsimp only [Option.bind_some]
      rw [h3]; dsimp only [Option.bind_some]
      rw [h4, ev]; rfl
    · have hl : 97 ≤ v ∧ v ≤ 122 := by
        rcases hv with q | q
        · unfold pNm at h2
          split at h2
          · next s => cases h2; rw [ev]; exact s
          · cases h2
        · exact q
      rw [bd_b1 hC hl z4', clo_nd]
      simp)
  exact ⟨v7, σ7, M_Rd_function (d := d + 3) rx ⟨σ1, r1, v, σ2, r2.deep (by omega), σ3, r3, σ4, r4, v5, σ5, r5, σ6, r6, v7, σ7, r7, rfl, rfl⟩, E7⟩
theorem s_let (hx : 0 ≤ x ∧ x ≤ 100) (he : 0 ≤ e ∧ e ≤ 500) (hE : LSp yRd_expression (d + 6) (x + 1) (e + 1) E) : LSp yRd_let (d + 7) x e (fun ch p => pLet ch (E ch) p) := by
  intro σ H hC
  have rx : rg x := ⟨by omega, by omega⟩
  obtain ⟨σ1, r1, S1, z1, -⟩ := (ST.init H).expect (d := d) (t := 33) (rgk rfl) (by decide)
  obtain ⟨v, σ2, r2, S2, z2, -, hv, e2⟩ := S1.name (d := d + 1)
  have rv : rg v := ⟨by omega, by omega⟩
  obtain ⟨σ3, r3, S3, z3, -⟩ := S2.expect (d := d) (t := 61) (rgk rfl) (by decide)
  have y3 : σ3 37 = σ 37 := (z3.trans z2).trans z1
  obtain ⟨va, σa, ra, ga, Sa, za⟩ := S3.sub hE (fun y a b => by rw [y3]; have := hC y a b; omega)
  obtain ⟨σc, rc, Sc, zc, -⟩ := Sa.expect (d := d) (t := 59) (rgk rfl) (by decide)
  have yc : σc 37 = σ 37 := (zc.trans za).trans y3
  have C3 : CB e σc := fun y a b => by rw [yc]; exact hC y a b
  obtain ⟨σ4, r4, S4, z4, -⟩ := Sc.bind (d := d + 2) (z := v) (t := 1) C3 (by omega) hv (Or.inl rfl)
  have z4' : σ4 37 = bnd1 σ v 1 := z4.trans (bnd1_of yc)
  obtain ⟨v5, σ5, r5, g5, S5, z5⟩ := S4.sub hE (hC.b1 z4')
  obtain ⟨σ6, r6, S6, z6, -⟩ := S5.bind (d := d + 2) (z := v) (t := -1) (e := e + 1) (fun y a b => by rw [z5]; exact hC.b1 z4' y a b) (by omega) hv (Or.inr rfl)
  have y6 : σ6 37 = σ 37 := z6.trans (bnd1_back (z5.trans z4'))
  obtain ⟨v7, σ7, r7, E7⟩ := S6.add (d := d + 4) (k := 13) (ki := 13) (z := v) (a := va) (b := v5) (c := -1) (P := pLet (chr σ) (E (chr σ)) (σ 35 3)) y6 rfl (rgk rfl) rv ga g5 (rgk rfl) (fun h => by cases h) (fun hN hb => by
    cases hP : pLet (chr σ) (E (chr σ)) (σ 35 3) with
    | none => rfl
    | some y =>
      exfalso
      unfold pLet at hP
      obtain ⟨a, h1, hP⟩ := Option.bind_eq_some_iff.mp hP
      obtain ⟨n, h2, hP⟩ := Option.bind_eq_some_iff.mp hP
      obtain ⟨b, h3, hP⟩ := Option.bind_eq_some_iff.mp hP
      obtain ⟨s, h5, hP⟩ := Option.bind_eq_some_iff.mp hP
      obtain ⟨c, h6, hP⟩ := Option.bind_eq_some_iff.mp hP
      obtain ⟨t, h4, hP⟩ := Option.map_eq_some_iff.mp hP
      simp only [stR, if_pos hb, Option.bind_some, h1, h2, h3, h4, h5, h6, Option.map_some] at hN
      cases hN) (fun w hw => by
    obtain ⟨w6, q6, hw⟩ := Option.bind_eq_some_iff.mp hw
    obtain ⟨t, h4, rfl⟩ := Option.map_eq_some_iff.mp hw
    obtain ⟨w5, q5, hw⟩ := Option.bind_eq_some_iff.mp q6
    obtain ⟨c, h6, rfl⟩ := Option.map_eq_some_iff.mp hw
    obtain ⟨w4, q4, hw⟩ := Option.bind_eq_some_iff.mp q5
    obtain ⟨s, h5, rfl⟩ := Option.map_eq_some_iff.mp hw
    obtain ⟨w3, q3, hw⟩ := Option.bind_eq_some_iff.mp q4
    obtain ⟨b, h3, rfl⟩ := Option.map_eq_some_iff.mp hw
    obtain ⟨w2, q2, hw⟩ := Option.bind_eq_some_iff.mp q3
    obtain ⟨n, h2, rfl⟩ := Option.map_eq_some_iff.mp hw
    obtain ⟨w1, q1, hw⟩ := Option.bind_eq_some_iff.mp q2
    obtain ⟨a, h1, rfl⟩ := Option.map_eq_some_iff.mp hw
    have ev := e2 _ _ q2 h2
    have hb : σ 35 4 = 0 := by
      by_cases hb : σ 35 4 = 0
      · exact hb
      · rw [stR, if_neg hb] at q1; cases q1
    rw [stR, if_pos hb] at q1
    cases q1
    dsimp only at h1 h2 h3 h4 h5 h6 ⊢
    refine ⟨by omega, s.1, t.1, nl, Or.inr (List.mem_cons_of_mem _ List.mem_cons_self), Or.inr List.mem_cons_self, ⟨Or.inl ⟨rfl, rfl⟩, df_2⟩, ?_, ?_⟩
    · unfold pLet
      rw [h1]; dsimp only [Option.bind_some]
      rw [h2]; dsimp only [Option.bind_some]
      rw [h3]; dsimp only [Option.bind_some]
      rw [h5]; dsimp only [Option.bind_some]
      rw [h6]; dsimp only [Option.bind_some]
      rw [h4, ev]; rfl
    · have hl : 97 ≤ v ∧ v ≤ 122 := by
        rcases hv with q | q
        · unfold pNm at h2
          split at h2
          · next s => cases h2; rw [ev]; exact s
          · cases h2
        · exact q
      rw [bd_b1 hC hl z4', bd_of y3, clo_nd]
      simp)
  exact ⟨v7, σ7, M_Rd_let (d := d + 3) rx ⟨σ1, r1, v, σ2, r2.deep (by omega), σ3, r3, va, σa, ra, σc, rc, σ4, r4, v5, σ5, r5, σ6, r6, v7, σ7, r7, rfl, rfl⟩, E7⟩
theorem s_condition (hx : 0 ≤ x ∧ x ≤ 100) (hE : LSp yRd_expression (d + 6) (x + 1) (e + 1) E) : LSp yRd_condition (d + 7) x e (fun ch p => pIf ch (E ch) p) := by
  intro σ H hC
  have rx : rg x := ⟨by omega, by omega⟩
  have up : ∀ {m : Mem}, m 37 = σ 37 → CB (e + 1) m := fun h y a b => by rw [h]; have := hC y a b; omega
  obtain ⟨σ1, r1, S1, z1, -⟩ := (ST.init H).expect (d := d) (t := 63) (rgk rfl) (by decide)
  obtain ⟨va, σa, ra, ga, Sa, za⟩ := S1.sub hE (up z1)
  have ya : σa 37 = σ 37 := za.trans z1
  obtain ⟨σ2, r2, S2, z2, -⟩ := Sa.expect (d := d) (t := 58) (rgk rfl) (by decide)
  have y2 : σ2 37 = σ 37 := z2.trans ya
  obtain ⟨vb, σb, rb, gb, Sb, zb⟩ := S2.sub hE (up y2)
  have yb : σb 37 = σ 37 := zb.trans y2
  obtain ⟨σ3, r3, S3, z3, -⟩ := Sb.expect (d := d) (t := 124) (rgk rfl) (by decide)
  have y3 : σ3 37 = σ 37 := z3.trans yb
  obtain ⟨vc, σc, rc, gc, Sc, zc⟩ := S3.sub hE (up y3)
  have yc : σc 37 = σ 37 := zc.trans y3
  obtain ⟨v7, σ7, r7, E7⟩ := Sc.add (d := d + 4) (k := 15) (ki := 15) (z := 0) (a := va) (b := vb) (c := vc) (P := pIf (chr σ) (E (chr σ)) (σ 35 3)) yc rfl (rgk rfl) (rgk rfl) ga gb gc (fun h => by cases h) (fun hN hb => by
    cases hP : pIf (chr σ) (E (chr σ)) (σ 35 3) with
    | none => rfl
    | some y =>
      exfalso
      unfold pIf at hP
      obtain ⟨a, h1, hP⟩ := Option.bind_eq_some_iff.mp hP
      obtain ⟨n, h2, hP⟩ := Option.bind_eq_some_iff.mp hP
      obtain ⟨b, h3, hP⟩ := Option.bind_eq_some_iff.mp hP
      obtain ⟨s, h5, hP⟩ := Option.bind_eq_some_iff.mp hP
      obtain ⟨c, h6, hP⟩ := Option.bind_eq_some_iff.mp hP
      obtain ⟨t, h4, hP⟩ := Option.map_eq_some_iff.mp hP
      simp only [stR, if_pos hb, Option.bind_some, h1, h2, h3, h4, h5, h6, Option.map_some] at hN
      cases hN) (fun w hw => by
    obtain ⟨w6, q6, hw⟩ := Option.bind_eq_some_iff.mp hw
    obtain ⟨t, h4, rfl⟩ := Option.map_eq_some_iff.mp hw
    obtain ⟨w5, q5, hw⟩ := Option.bind_eq_some_iff.mp q6
    obtain ⟨c, h6, rfl⟩ := Option.map_eq_some_iff.mp hw
    obtain ⟨w4, q4, hw⟩ := Option.bind_eq_some_iff.mp q5
    obtain ⟨s, h5, rfl⟩ := Option.map_eq_some_iff.mp hw
    obtain ⟨w3, q3, hw⟩ := Option.bind_eq_some_iff.mp q4
    obtain ⟨b, h3, rfl⟩ := Option.map_eq_some_iff.mp hw
    obtain ⟨w2, q2, hw⟩ := Option.bind_eq_some_iff.mp q3
    obtain ⟨n, h2, rfl⟩ := Option.map_eq_some_iff.mp hw
    obtain ⟨w1, q1, hw⟩ := Option.bind_eq_some_iff.mp q2
    obtain ⟨a, h1, rfl⟩ := Option.map_eq_some_iff.mp hw
    have hb : σ 35 4 = 0 := by
      by_cases hb : σ 35 4 = 0
      · exact hb
      · rw [stR, if_neg hb] at q1; cases q1
    rw [stR, if_pos hb] at q1
    cases q1
    dsimp only at h1 h2 h3 h4 h5 h6 ⊢
    refine ⟨by omega, n.1, s.1, t.1, Or.inr (List.mem_cons_of_mem _ (List.mem_cons_of_mem _ List.mem_cons_self)), Or.inr (List.mem_cons_of_mem _ List.mem_cons_self), ⟨Or.inr List.mem_cons_self, df_3⟩, ?_, ?_⟩
    · unfold pIf
      rw [h1]; dsimp only [Option.bind_some]
      rw [h2]; dsimp only [Option.bind_some]
      rw [h3]; dsimp only [Option.bind_some]
      rw [h5]; dsimp only [Option.bind_some]
      rw [h6]; dsimp only [Option.bind_some]
      rw [h4]; rfl
    · rw [bd_of y2, bd_of y3, bd_of z1, clo_nd]
      cases clo n.1 (bd σ) <;> cases clo s.1 (bd σ) <;> cases clo t.1 (bd σ) <;> rfl)
  exact ⟨v7, σ7, M_Rd_condition (d := d + 3) rx ⟨σ1, r1, va, σa, ra, σ2, r2, vb, σb, rb, σ3, r3, vc, σc, rc, v7, σ7, r7, rfl, rfl⟩, E7⟩
theorem s_recursion (hx : 0 ≤ x ∧ x ≤ 100) (he : 0 ≤ e ∧ e ≤ 500) (hE : LSp yRd_expression (d + 6) (x + 1) (e + 1) E) : LSp yRd_recursion (d + 7) x e (fun ch p => pRec ch (E ch) p) := by
  intro σ H hC
  have rx : rg x := ⟨by omega, by omega⟩
  obtain ⟨σ1, r1, S1, z1, -⟩ := (ST.init H).expect (d := d) (t := 64) (rgk rfl) (by decide)
  obtain ⟨v, σ2, r2, S2, z2, -, hv, e2⟩ := S1.name (d := d + 1)
  have rv : rg v := ⟨by omega, by omega⟩
  obtain ⟨σ3, r3, S3, z3, -⟩ := S2.expect (d := d) (t := 61) (rgk rfl) (by decide)
  have y3 : σ3 37 = σ 37 := (z3.trans z2).trans z1
  have C3 : CB e σ3 := fun y a b => by rw [y3]; exact hC y a b
  obtain ⟨σ4, r4, S4, z4, -⟩ := S3.bind (d := d + 2) (z := v) (t := 1) C3 (by omega) hv (Or.inl rfl)
  have z4' : σ4 37 = bnd1 σ v 1 := z4.trans (bnd1_of y3)
  obtain ⟨σ5, r5, S5, z5, -⟩ := S4.next (d := d + 2)
  generalize hR4 : ((((stR σ).bind fun x => (pEx (chr σ) 64 x.2.2.2).map fun r => (x.1 + 2, x.2.1, x.2.2.1, r)).bind fun x => (pNm (chr σ) x.2.2.2).map fun y => (x.1 + 2, x.2.1, x.2.2.1, y.2)).bind fun x => (pEx (chr σ) 61 x.2.2.2).map fun r => (x.1 + 2, x.2.1, x.2.2.1, r)) = R4 at S4 S5 r5
  have key : ∃ v8 σ8, ((prN (chr σ) R4 ≠ 92 ∧ v8 = -1 ∧ σ8 = mup σ5 35 4 1) ∨ (prN (chr σ) R4 = 92 ∧ Rn (d + 6) yRd_expression [.ref 35, vi (x + 1)] σ5 (some v8) σ8)) ∧ rg v8 ∧ σ8 37 = σ4 37 ∧ ST σ σ8 (R4.bind fun w => (if nx (chr σ) w.2.2.2 = 92 then E (chr σ) (sk (chr σ) w.2.2.2) else none).map fun t => (w.1 + 1, (t.1, v8) :: w.2.1, w.2.2.1 || !(clo t.1 (bd σ4)), t.2)) := by
    by_cases c : prN (chr σ) R4 = 92
    · obtain ⟨v8, σ8, r8, g8, S8, z8⟩ := S5.sub hE (by intro y a b; rw [z5]; exact hC.b1 z4' y a b)
      refine ⟨v8, σ8, Or.inr ⟨c, r8⟩, g8, z8.trans z5, ?_⟩
      cases R4 with
      | none => exact S8
      | some w =>
        show ST σ σ8 ((if nx (chr σ) w.2.2.2 = 92 then E (chr σ) (sk (chr σ) w.2.2.2) else none).map _)
        rw [if_pos (show nx (chr σ) w.2.2.2 = 92 from c), ← bd_of z5]
        exact S8
    · refine ⟨-1, mup σ5 35 4 1, Or.inl ⟨c, rfl, rfl⟩, rgk rfl, (mup_obj (by decide)).trans z5, ?_⟩
      cases R4 with
      | none => exact S5.brk
      | some w =>
        show ST σ _ ((if nx (chr σ) w.2.2.2 = 92 then E (chr σ) (sk (chr σ) w.2.2.2) else none).map _)
        rw [if_neg (show ¬ nx (chr σ) w.2.2.2 = 92 from c)]
        exact S5.brk
  obtain ⟨va, σa, ra, ga, za, Sa⟩ := key
  obtain ⟨σc, rc, Sc, zc, -⟩ := Sa.expect (d := d) (t := 59) (rgk rfl) (by decide)
  have yc : σc 37 = bnd1 σ v 1 := (zc.trans za).trans z4'
  obtain ⟨v5, σ6, r6, g5, S6, z6⟩ := Sc.sub hE (hC.b1 yc)
  obtain ⟨σ7, r7, S7, z7, -⟩ := S6.bind (d := d + 2) (z := v) (t := -1) (e := e + 1) (fun y a b => by rw [z6]; exact hC.b1 yc y a b) (by omega) hv (Or.inr rfl)
  have y7 : σ7 37 = σ 37 := z7.trans (bnd1_back (z6.trans yc))
  obtain ⟨v9, σ9, r9, E9⟩ := S7.add (d := d + 4) (k := 14) (ki := 14) (z := v) (a := va) (b := v5) (c := -1) (P := pRec (chr σ) (E (chr σ)) (σ 35 3)) y7 rfl (rgk rfl) rv ga g5 (rgk rfl) (fun h => by cases h) (fun hN hb => by
    subst hR4
    cases hP : pRec (chr σ) (E (chr σ)) (σ 35 3) with
    | none => rfl
    | some y =>
      exfalso
      unfold pRec at hP
      obtain ⟨a, h1, hP⟩ := Option.bind_eq_some_iff.mp hP
      obtain ⟨n, h2, hP⟩ := Option.bind_eq_some_iff.mp hP
      obtain ⟨b, h3, hP⟩ := Option.bind_eq_some_iff.mp hP
      obtain ⟨s, h5, hP⟩ := Option.bind_eq_some_iff.mp hP
      obtain ⟨c, h6, hP⟩ := Option.bind_eq_some_iff.mp hP
      obtain ⟨t, h4, hP⟩ := Option.map_eq_some_iff.mp hP
      simp only [stR, if_pos hb, Option.bind_some, h1, h2, h3, h4, h5, h6, Option.map_some] at hN
      cases hN) (fun w hw => by
    subst hR4
    obtain ⟨w6, q6, hw⟩ := Option.bind_eq_some_iff.mp hw
    obtain ⟨t, h4, rfl⟩ := Option.map_eq_some_iff.mp hw
    obtain ⟨w5, q5, hw⟩ := Option.bind_eq_some_iff.mp q6
    obtain ⟨c, h6, rfl⟩ := Option.map_eq_some_iff.mp hw
    obtain ⟨w4, q4, hw⟩ := Option.bind_eq_some_iff.mp q5
    obtain ⟨s, h5, rfl⟩ := Option.map_eq_some_iff.mp hw
    obtain ⟨w3, q3, hw⟩ := Option.bind_eq_some_iff.mp q4
    obtain ⟨b, h3, rfl⟩ := Option.map_eq_some_iff.mp hw
    obtain ⟨w2, q2, hw⟩ := Option.bind_eq_some_iff.mp q3
    obtain ⟨n, h2, rfl⟩ := Option.map_eq_some_iff.mp hw
    obtain ⟨w1, q1, hw⟩ := Option.bind_eq_some_iff.mp q2
    obtain ⟨a, h1, rfl⟩ := Option.map_eq_some_iff.mp hw
    have ev := e2 _ _ q2 h2
    have hb : σ 35 4 = 0 := by
      by_cases hb : σ 35 4 = 0
      · exact hb
      · rw [stR, if_neg hb] at q1; cases q1
    rw [stR, if_pos hb] at q1
    cases q1
    dsimp only at h1 h2 h3 h4 h5 h6 ⊢
    refine ⟨by omega, s.1, t.1, nl, Or.inr (List.mem_cons_of_mem _ List.mem_cons_self), Or.inr List.mem_cons_self, ⟨Or.inl ⟨rfl, rfl⟩, df_2⟩, ?_, ?_⟩
    · unfold pRec
      rw [h1]; dsimp only [Option.bind_some]
      rw [h2]; dsimp only [Option.bind_some]
      rw [h3]; dsimp only [Option.bind_some]
      rw [h5]; dsimp only [Option.bind_some]
      rw [h6]; dsimp only [Option.bind_some]
      rw [h4, ev]; rfl
    · have hl : 97 ≤ v ∧ v ≤ 122 := by
        rcases hv with q | q
        · unfold pNm at h2
          split at h2
          · next s => cases h2; rw [ev]; exact s
          · cases h2
        · exact q
      rw [bd_b1 hC hl z4', bd_b1 hC hl yc, clo_nd]
      simp)
  refine ⟨v9, σ9, M_Rd_recursion (d := d + 3) rx ⟨σ1, r1, v, σ2, r2.deep (by omega), σ3, r3, σ4, r4, _, σ5, r5, ?_⟩, E9⟩
  rcases ra with ⟨c, rfl, rfl⟩ | ⟨c, ra⟩
  · rw [if_pos c]
    exact ⟨-1, _, s_breakOff (d := d + 2), σc, rc, v5, σ6, r6, σ7, r7, v9, σ9, r9, rfl, rfl⟩
  · rw [if_neg (fun w => w c)]
    exact ⟨va, σa, ra, σc, rc, v5, σ6, r6, σ7, r7, v9, σ9, r9, rfl, rfl⟩
end PL
end BI
