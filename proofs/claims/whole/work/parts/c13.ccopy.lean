/-! The class's types: a copy. -/
section CCO
variable {σ σ0 σ1 σ' : Mem} {d : Nat} {h : Int}
def Cp (σ0 σ' : Mem) (n r : Int) : Prop := ∀ ρ, VS (cS σ') (σ' 38 5) ρ → ∀ ρ2, VS (cS σ0) (σ0 38 5) ρ2 → (∀ i, 0 ≤ i → i < σ' 38 6 → ρ2 (σ' 46 i) = ρ (σ' 48 i)) → (∀ u, Op σ0 u → Oc (cS σ0) u n → σ0 44 u ≠ 1000 → ρ2 u = ρ u) → ρ r = ρ2 n
def Cv (σ0 : Mem) (h : Int) (σ' : Mem) (n r : Int) : Prop := ∀ u, Op σ' u → Oc (cS σ') u r → (σ0 38 5 ≤ u ∧ σ' 44 u = h) ∨ (Op σ0 u ∧ Oc (cS σ0) u n ∧ σ0 44 u ≠ 1000)
theorem VS_pre {s s' : Sto} {c c' : Int} {ρ : Int → GT} (V : VS s' c' ρ) (hc : c ≤ c') (e : ∀ n, 0 ≤ n → n < c → s' n = s n) : VS s c ρ := by
  intro n h0 h1
  have v := V n h0 (by omega)
  unfold nOk lkd at v ⊢
  rw [e n h0 h1] at v
  exact v
theorem rv_eq {s s' : Sto} {c : Int} (W : WS s c) (e : ∀ n, 0 ≤ n → n < c → s' n = s n) : ∀ (k : Nat) (n : Int), 0 ≤ n → n < c → rv s' k n = rv s k n
  | 0, _, _, _ => rfl
  | k + 1, n, h0, h1 => by
    unfold rv lkd
    rw [e n h0 h1]
    split
    · next q => exact rv_eq W e k _ q.2 ((W n h0 h1).2.1 q)
    · rfl
theorem GX.v (x : GX σ σ') {ρ : Int → GT} (V : VS (cS σ') (σ' 38 5) ρ) : VS (cS σ) (σ 38 5) ρ := VS_pre V x.2.2.1.1 (fun n a b => cS_e (x.2.2.2.1 n a b))
theorem Cp.up {n r : Int} (c : Cp σ0 σ n r) (x : GX σ σ') : Cp σ0 σ' n r := fun ρ V ρ2 V2 a b => c ρ (x.v V) ρ2 V2 (fun i p q => by
  have := x.2.2.2.2 i p q
  rw [← this.1, ← this.2]
  exact a i p (by have := x.2.2.1.2; omega)) b
theorem GX.oc (x : GX σ σ') (T : TI σ) {u n : Int} (h0 : 0 ≤ n) (h1 : n < σ 38 5) : Oc (cS σ') u n ↔ Oc (cS σ) u n := oc_same (S := tS σ) (S' := tS σ') T.1.1 (fun n a b => cS_e (x.2.2.2.1 n a b)) h0 h1
theorem Cv.up {n r : Int} (c : Cv σ0 h σ n r) (x : GX σ σ') (T : TI σ) (hr : 0 ≤ r ∧ r < σ 38 5) : Cv σ0 h σ' n r := fun u o oc => by
  have oc := (x.oc T hr.1 hr.2).mp oc
  have ur := oc.rg T.1.1 hr.1 hr.2
  have e := x.2.2.2.1 u ur.1 ur.2
  rw [e.2.2]
  exact c u ((Op_e e ur.2 o.1.2).mp o) oc
theorem GL.mk (G : GL σ0 h σ) (F : FT σ σ') (T' : TI σ') (m5 : σ' 38 5 = σ 38 5 + 1) (mr : ∀ n, n ≠ σ 38 5 → σ' 40 n = σ 40 n ∧ σ' 42 n = σ 42 n ∧ σ' 44 n = σ 44 n) : GL σ0 h σ' ∧ GX σ σ' ∧ σ' 38 6 = σ 38 6 := by
  obtain ⟨T, g1, g2, g3, g4, g5⟩ := G
  have m6 := F.2 6 (by decide)
  have m46 := F.1 46 (by decide) (by decide) (by decide) (by decide)
  have m48 := F.1 48 (by decide) (by decide) (by decide) (by decide)
  refine ⟨⟨T', by omega, fun n a b => ?_, by omega, fun i a b => ?_, fun i j a b q => ?_⟩, ⟨fun i p q r s _ _ => F.1 i p q r s, fun k p _ => F.2 k p, ⟨by omega, by omega⟩, fun n _ z => mr n (by omega), fun i _ _ => by rw [m46, m48]; exact ⟨rfl, rfl⟩⟩, m6⟩
  · have x := mr n (by omega)
    have y := g2 n a b
    exact ⟨x.1.trans y.1, x.2.1.trans y.2.1, x.2.2.trans y.2.2⟩
  · rw [m46, m48]
    obtain ⟨x1, x2, x3, x4⟩ := g4 i a (by omega)
    have y := mr (σ 48 i) (by have := x3.1.2; omega)
    exact ⟨x1, x2, (Op_e y x3.1.2 (by have := x3.1.2; omega)).mpr x3, y.2.2.trans x4⟩
  · rw [m46, m48] at q
    exact g5 i j (by omega) (by omega) q
theorem s_copy {ρ : Int → GT} (T0 : TI σ0) (M : MinV (cS σ0) (σ0 38 5) ρ) (hh : 0 ≤ h ∧ h ≤ 999) : ∀ (k : Nat) (n x : Int) (σ : Mem), GL σ0 h σ → (k : Int) + x = 41 → 0 ≤ x → 0 ≤ n → n < σ0 38 5 → gw (ρ n) + 2 * x ≤ 82 → 2 * σ 38 5 + gw (ρ n) + 1 ≤ 6000 → 4 * σ 38 6 + gw (ρ n) + 3 ≤ 83 → ∃ r σ', Rn (k + d + 8) yTy_copy [.ref 38, vi n, vi h, vi x] σ (some r) σ' ∧ GL σ0 h σ' ∧ GX σ σ' ∧ (2 * σ' 38 5 ≤ 2 * σ 38 5 + gw (ρ n) + 1 ∧ 4 * σ' 38 6 ≤ 4 * σ 38 6 + gw (ρ n) + 3) ∧ (0 ≤ r ∧ r < σ' 38 5) ∧ Cp σ0 σ' n r ∧ Cv σ0 h σ' n r := by
  intro k
  induction k with
  | zero =>
    intro n x σ G hk hx h0 h1 hw
    have g := gw_ge (t := ρ n)
    omega
  | succ k ih =>
    intro n x σ G hk hx h0 h1 hw hb hl
    have G' := G
    obtain ⟨T, g1, g2, g3, g4, g5⟩ := G'
    have H := T.1
    have H0 := T0.1
    have hc := H.2.1
    have R := s_resolve (d := k + d + 4) H h0 (by omega)
    have er0 : rC σ n = rC σ0 n := rv_eq H0.1 (fun n a b => cS_e (g2 n a b)) 3000 n h0 h1
    rw [er0] at R
    obtain ⟨hr, r0, r1⟩ := rC_root H0 h0 h1
    have ev : ∀ {ρ}, VS (cS σ0) (σ0 38 5) ρ → ρ (rC σ0 n) = ρ n := fun V => rC_val H0 V h0 h1
    have orv : ∀ u, Op σ0 u → (Oc (cS σ0) u (rC σ0 n) ↔ Oc (cS σ0) u n) := fun u hu => oc_rv hu.2.2 3000 n
    generalize rC σ0 n = r at *
    have g := gw_ge (t := ρ n)
    have V := M.1 r r0 r1
    have er := g2 r r0 r1
    have rr : r < 3000 := by omega
    have rh : rg h := ⟨by omega, by omega⟩
    have mm : ∀ {b : Int} {σ' : Mem}, (if σ 40 r = 62 then (∃ (v7 : Int) (m7 : Mem), Rn (k + d + 5 + 3) yTy_copy [.ref 38, vi (σ 42 r), vi h, vi (x + 1)] σ (some v7) m7 ∧ (∃ (v8 : Int) (m8 : Mem), Rn (k + d + 5 + 3) yTy_copy [.ref 38, vi (σ 44 r), vi h, vi (x + 1)] m7 (some v8) m8 ∧ (∃ (v9 : Int) (m9 : Mem), Rn (k + d + 5 + 3) yTy_resolve [.ref 38, vi (σ 42 r)] m8 (some v9) m9 ∧ (if v7 ≠ v9 then (B_Ty_copy_169 (k + d + 5) v7 v8 m9 (some b) σ') else (∃ (v11 : Int) (m11 : Mem), Rn (k + d + 5 + 3) yTy_resolve [.ref 38, vi (σ 44 r)] m9 (some v11) m11 ∧ (if v8 ≠ v11 then (B_Ty_copy_169 (k + d + 5) v7 v8 m11 (some b) σ') else (some b = some r ∧ σ' = m11))))))) else (if σ 40 r = 63 then (if σ 44 r ≠ 1000 then (some b = some r ∧ σ' = σ) else (∃ (v16 : Int) (m16 : Mem), Rn (k + d + 5 + 3) yTy_copyOf [.ref 38, vi r, vi h] σ (some v16) m16 ∧ (some b = some v16 ∧ σ' = m16))) else (if σ 40 r = 91 then (∃ (v18 : Int) (m18 : Mem), Rn (k + d + 5 + 3) yTy_copy [.ref 38, vi (σ 42 r), vi h, vi (x + 1)] σ (some v18) m18 ∧ (∃ (v19 : Int) (m19 : Mem), Rn (k + d + 5 + 3) yTy_resolve [.ref 38, vi (σ 42 r)] m18 (some v19) m19 ∧ (if v18 ≠ v19 then (∃ (v21 : Int) (m21 : Mem), Rn (k + d + 5 + 3) yTy_list [.ref 38, vi v18] m19 (some v21) m21 ∧ (some b = some v21 ∧ σ' = m21)) else (some b = some r ∧ σ' = m19)))) else (some b = some r ∧ σ' = σ)))) → Rn (k + 1 + d + 8) yTy_copy [.ref 38, vi n, vi h, vi x] σ (some b) σ' := by
      intro b σ' hq
      rw [show k + 1 + d + 8 = k + d + 5 + 4 by omega]
      refine M_Ty_copy ⟨by omega, by omega⟩ rh ⟨by omega, by omega⟩ ⟨_, _, R, ?_⟩
      rw [if_pos (by omega), rw_in r0 rr, rw_in r0 rr, rw_in r0 rr]
      exact hq
    rw [er.1, er.2.1, er.2.2] at mm
    have leaf : σ0 40 r ≠ 62 → σ0 40 r ≠ 63 → σ0 40 r ≠ 91 → kC (σ0 40 r) ≠ 4 → kC (σ0 40 r) ≠ 5 → (1 ≤ kC (σ0 40 r) ∧ kC (σ0 40 r) ≤ 3) → ∃ b σ', Rn (k + 1 + d + 8) yTy_copy [.ref 38, vi n, vi h, vi x] σ (some b) σ' ∧ GL σ0 h σ' ∧ GX σ σ' ∧ (2 * σ' 38 5 ≤ 2 * σ 38 5 + gw (ρ n) + 1 ∧ 4 * σ' 38 6 ≤ 4 * σ 38 6 + gw (ρ n) + 3) ∧ (0 ≤ b ∧ b < σ' 38 5) ∧ Cp σ0 σ' n b ∧ Cv σ0 h σ' n b := by
      intro a1 a2 a3 a4 a5 a6
      refine ⟨r, σ, mm ?_, G, GX.rf, ⟨by omega, by omega⟩, ⟨r0, by omega⟩, fun ρ1 V1 ρ2 V2 _ _ => ?_, fun u o oc => ?_⟩
      · rw [if_neg a1, if_neg a2, if_neg a3]; exact ⟨rfl, rfl⟩
      · rw [← ev V2, ((VS_pre V1 g1 (fun n a b => cS_e (g2 n a b))) r r0 r1).2.1 a6, (V2 r r0 r1).2.1 a6]
      · exfalso
        have eq := cS_e er
        have := (oc_leaf (s := cS σ) (by unfold lkd; rw [eq]; exact hr) (by rw [eq]; exact a4) (by rw [eq]; exact a5)).mp oc
        have z := o.2.1
        rw [← this, er.1] at z
        exact a2 z
    rcases root_k H0 r0 r1 hr with ⟨e, -⟩ | e | e | e | ⟨e, f0, f1⟩ | ⟨e, ⟨f0, f1⟩, y0, y1⟩
    · have opr : Op σ0 r := ⟨⟨r0, r1⟩, e, hr⟩
      have k4 : kC (σ0 40 r) ≠ 4 := by rw [e]; decide
      have k5 : kC (σ0 40 r) ≠ 5 := by rw [e]; decide
      by_cases q : σ0 44 r = 1000
      · obtain ⟨b, σ', C, G2, X, hbd, i, i0, i1, i2⟩ := s_copyOf (d := k + d) G hh ⟨opr, q⟩ (by omega) (by omega)
        have gi := G2.2.2.2.2.1 i i0.1 i0.2
        rw [i2] at gi
        refine ⟨b, σ', mm ?_, G2, X, ⟨by omega, by omega⟩, ⟨by have := gi.2.2.1.1; omega, gi.2.2.1.1.2⟩, fun ρ1 V1 ρ2 V2 a _ => ?_, fun u o oc => ?_⟩
        · rw [if_neg (by omega), if_pos e, if_neg (fun z => z q)]
          exact ⟨b, σ', C, rfl, rfl⟩
        · have := a i i0.1 i0.2
          rw [← ev V2, ← i2, ← this, i1]
        · have := oP_oc (S := tS σ') ((oP_Op G2.1.1).mpr gi.2.2.1) oc
          rw [this]
          exact Or.inl ⟨gi.2.1, gi.2.2.2⟩
      · refine ⟨r, σ, mm ?_, G, GX.rf, ⟨by omega, by omega⟩, ⟨r0, by omega⟩, fun ρ1 V1 ρ2 V2 _ a => ?_, fun u o oc => ?_⟩
        · rw [if_neg (by omega), if_pos e, if_pos q]; exact ⟨rfl, rfl⟩
        · rw [← ev V2]
          exact (a r opr ((orv r opr).mp Oc.self) q).symm
        · have := oP_oc (S := tS σ) ((oP_Op T.1).mpr ((Op_e er r1 (by omega)).mpr opr)) oc
          rw [this]
          exact Or.inr ⟨opr, (orv r opr).mp Oc.self, q⟩
    · exact leaf (by omega) (by omega) (by omega) (by rw [e]; decide) (by rw [e]; decide) (by rw [e]; decide)
    · exact leaf (by omega) (by omega) (by omega) (by rw [e]; decide) (by rw [e]; decide) (by rw [e]; decide)
    · exact leaf (by omega) (by omega) (by omega) (by rw [e]; decide) (by rw [e]; decide) (by rw [e]; decide)
    · have c4 : (cS σ0 r).1 = 4 := by show kC (σ0 40 r) = 4; rw [e]; decide
      have ew : gw (ρ n) = 2 + gw (ρ (σ0 42 r)) := by rw [← ev M.1, V.2.2.1 c4]; rfl
      have oc4 : ∀ u, Op σ0 u → Oc (cS σ0) u (σ0 42 r) → Oc (cS σ0) u n := fun u o oc => (orv u o).mp (oc.p4 c4)
      obtain ⟨a, σ1, C, G1, X1, ⟨b1, b2⟩, ⟨a0, a1⟩, cp, cv⟩ := ih (σ0 42 r) (x + 1) σ G (by omega) (by omega) f0 f1 (by omega) (by omega) (by omega)
      have gg := G1.2.1
      have R2 := s_resolve (d := k + d + 4) G1.1.1 f0 (by omega)
      have eq1 := cS_e (G1.2.2.1 r r0 r1)
      have mm2 : ∀ {b : Int} {σ' : Mem}, (if a ≠ rC σ1 (σ0 42 r) then (∃ (v21 : Int) (m21 : Mem), Rn (k + d + 5 + 3) yTy_list [.ref 38, vi a] σ1 (some v21) m21 ∧ (some b = some v21 ∧ σ' = m21)) else (some b = some r ∧ σ' = σ1)) → Rn (k + 1 + d + 8) yTy_copy [.ref 38, vi n, vi h, vi x] σ (some b) σ' := fun {b σ'} z => mm (b := b) (σ' := σ') (by
        rw [if_neg (by omega), if_neg (by omega), if_pos e]
        exact ⟨a, σ1, C, rC σ1 (σ0 42 r), σ1, R2, z⟩)
      by_cases q : a = rC σ1 (σ0 42 r)
      · refine ⟨r, σ1, mm2 ?_, G1, X1, ⟨by omega, by omega⟩, ⟨r0, by omega⟩, fun ρ1 V1 ρ2 V2 l ag => ?_, fun u o oc => ?_⟩
        · rw [if_neg (fun z => z q)]; exact ⟨rfl, rfl⟩
        · have e1 := (V1 r r0 (by omega)).2.2.1 (by rw [eq1]; exact c4)
          rw [eq1] at e1
          have e2 := cp ρ1 V1 ρ2 V2 l (fun u o oc lv => ag u o (oc4 u o oc) lv)
          rw [q, rC_val G1.1.1 V1 f0 (by omega)] at e2
          rw [← ev V2, (V2 r r0 r1).2.2.1 c4, e1]
          exact congrArg gL e2
        · have key : Oc (cS σ1) u (σ0 42 r) := by
            have z := oc.cs
            rw [eq1] at z
            unfold lkd at z
            rw [eq1] at z
            rcases z with z | ⟨z, _⟩ | ⟨_, z⟩ | ⟨z, _⟩
            · have := o.2.1
              rw [← z, (G1.2.2.1 r r0 r1).1] at this; omega
            · exact absurd z hr
            · exact z
            · omega
          rcases cv u o (by rw [q]; exact (oc_rv o.2.2 3000 _).mpr key) with z | ⟨z1, z2, z3⟩
          · exact Or.inl z
          · exact Or.inr ⟨z1, oc4 u z1 z2, z3⟩
      · obtain ⟨m, Rm, F, Tm, em, mr, mc0, mc2, mc4⟩ := c_make (d := k + d + 3) G1.1 (by omega) (k := 91) (a := a) (b := -1) ⟨by decide, by decide⟩ ⟨by omega, by omega⟩ ⟨by decide, by decide⟩ (Or.inr (Or.inl ⟨rfl, a0, a1⟩))
        have m5 : m 38 5 = σ1 38 5 + 1 := congrArg (fun S : TS => S.2.1) em
        obtain ⟨G2, X2, l6⟩ := G1.mk F Tm m5 mr
        refine ⟨σ1 38 5, m, mm2 ?_, G2, X1.tr X2, ⟨by omega, by omega⟩, ⟨by omega, by omega⟩, fun ρ1 V1 ρ2 V2 l ag => ?_, fun u o oc => ?_⟩
        · rw [if_pos q]
          exact ⟨_, m, M_Ty_list (d := k + d + 4) ⟨by omega, by omega⟩ ⟨_, m, Rm, rfl, rfl⟩, rfl, rfl⟩
        · have e1 := (V1 (σ1 38 5) (by omega) (by omega)).2.2.1 (by show kC (m 40 (σ1 38 5)) = 4; rw [mc0]; decide)
          rw [show (cS m (σ1 38 5)).2.1 = a from mc2] at e1
          rw [e1, ← ev V2, (V2 r r0 r1).2.2.1 c4]
          exact congrArg gL (cp.up X2 ρ1 V1 ρ2 V2 l (fun u o oc lv => ag u o (oc4 u o oc) lv))
        · have k4 : (cS m (σ1 38 5)).1 = 4 := by show kC (m 40 (σ1 38 5)) = 4; rw [mc0]; decide
          have key : Oc (cS m) u a := by
            rcases oc.cs with z | ⟨z, _⟩ | ⟨_, z⟩ | ⟨z, _⟩
            · have := o.2.1
              rw [← z, mc0] at this; omega
            · have := z.1; omega
            · rw [show (cS m (σ1 38 5)).2.1 = a from mc2] at z; exact z
            · omega
          rcases cv.up X2 G1.1 ⟨a0, a1⟩ u o key with z | ⟨z1, z2, z3⟩
          · exact Or.inl z
          · exact Or.inr ⟨z1, oc4 u z1 z2, z3⟩
    · have c5 : (cS σ0 r).1 = 5 := by show kC (σ0 40 r) = 5; rw [e]; decide
      have e22 : (cS σ0 r).2.2 = σ0 44 r := if_pos e
      have ew : gw (ρ n) = 3 + gw (ρ (σ0 42 r)) + gw (ρ (σ0 44 r)) := by rw [← ev M.1, V.2.2.2 c5, e22]; rfl
      have ga := gw_ge (t := ρ (σ0 42 r))
      have gb := gw_ge (t := ρ (σ0 44 r))
      have oc5 : ∀ u, Op σ0 u → (Oc (cS σ0) u (σ0 42 r) ∨ Oc (cS σ0) u (σ0 44 r)) → Oc (cS σ0) u n := fun u o oc => (orv u o).mp (Oc.p5 c5 (by rw [e22]; exact oc))
      obtain ⟨a, σ1, C1, G1, X1, ⟨b1, b2⟩, ⟨a0, a1⟩, cp1, cv1⟩ := ih (σ0 42 r) (x + 1) σ G (by omega) (by omega) f0 f1 (by omega) (by omega) (by omega)
      obtain ⟨b, σ2, C2, G2, X2, ⟨b3, b4⟩, ⟨p0, p1⟩, cp2, cv2⟩ := ih (σ0 44 r) (x + 1) σ1 G1 (by omega) (by omega) y0 y1 (by omega) (by omega) (by omega)
      have gg := G2.2.1
      have xx := X2.2.2.1.1
      have R2 := s_resolve (d := k + d + 4) G2.1.1 f0 (by omega)
      have R3 := s_resolve (d := k + d + 4) G2.1.1 y0 (by omega)
      have eq1 := cS_e (G2.2.2.1 r r0 r1)
      have cpa := cp1.up X2
      have cva := cv1.up X2 G1.1 ⟨a0, a1⟩
      have mm2 : ∀ {b' : Int} {σ' : Mem}, (if a ≠ rC σ2 (σ0 42 r) then (B_Ty_copy_169 (k + d + 5) a b σ2 (some b') σ') else (∃ (v11 : Int) (m11 : Mem), Rn (k + d + 5 + 3) yTy_resolve [.ref 38, vi (σ0 44 r)] σ2 (some v11) m11 ∧ (if b ≠ v11 then (B_Ty_copy_169 (k + d + 5) a b m11 (some b') σ') else (some b' = some r ∧ σ' = m11)))) → Rn (k + 1 + d + 8) yTy_copy [.ref 38, vi n, vi h, vi x] σ (some b') σ' := fun {b' σ'} z => mm (b := b') (σ' := σ') (by
        rw [if_pos e]
        exact ⟨a, σ1, C1, b, σ2, C2, rC σ2 (σ0 42 r), σ2, R2, z⟩)
      by_cases q : a = rC σ2 (σ0 42 r) ∧ b = rC σ2 (σ0 44 r)
      · obtain ⟨q1, q2⟩ := q
        refine ⟨r, σ2, mm2 ?_, G2, X1.tr X2, ⟨by omega, by omega⟩, ⟨r0, by omega⟩, fun ρ1 V1 ρ2 V2 l ag => ?_, fun u o oc => ?_⟩
        · rw [if_neg (fun z => z q1)]
          refine ⟨_, _, R3, ?_⟩
          rw [if_neg (fun z => z q2)]; exact ⟨rfl, rfl⟩
        · have e1 := (V1 r r0 (by omega)).2.2.2 (by rw [eq1]; exact c5)
          rw [eq1, e22] at e1
          have e2 := cpa ρ1 V1 ρ2 V2 l (fun u o oc lv => ag u o (oc5 u o (Or.inl oc)) lv)
          rw [q1, rC_val G2.1.1 V1 f0 (by omega)] at e2
          have e3 := cp2 ρ1 V1 ρ2 V2 l (fun u o oc lv => ag u o (oc5 u o (Or.inr oc)) lv)
          rw [q2, rC_val G2.1.1 V1 y0 (by omega)] at e3
          rw [← ev V2, (V2 r r0 r1).2.2.2 c5, e22, e1, ← e3]
          exact gA_inj.mpr ⟨e2, rfl⟩
        · have z := oc.cs
          rw [eq1] at z
          unfold lkd at z
          rw [eq1, e22] at z
          rcases z with z | ⟨z, _⟩ | ⟨z, _⟩ | ⟨_, z | z⟩
          · have := o.2.1
            rw [← z, (G2.2.2.1 r r0 r1).1] at this; omega
          · exact absurd z hr
          · omega
          · rcases cva u o (by rw [q1]; exact (oc_rv o.2.2 3000 _).mpr z) with z | ⟨z1, z2, z3⟩
            · exact Or.inl z
            · exact Or.inr ⟨z1, oc5 u z1 (Or.inl z2), z3⟩
          · rcases cv2 u o (by rw [q2]; exact (oc_rv o.2.2 3000 _).mpr z) with z | ⟨z1, z2, z3⟩
            · exact Or.inl z
            · exact Or.inr ⟨z1, oc5 u z1 (Or.inr z2), z3⟩
      · obtain ⟨m, Rm, F, Tm, em, mr, mc0, mc2, mc4⟩ := c_make (d := k + d + 3) G2.1 (by omega) (k := 62) (a := a) (b := b) ⟨by decide, by decide⟩ ⟨by omega, by omega⟩ ⟨by omega, by omega⟩ (Or.inr (Or.inr ⟨rfl, ⟨a0, by omega⟩, p0, p1⟩))
        have m5 : m 38 5 = σ2 38 5 + 1 := congrArg (fun S : TS => S.2.1) em
        obtain ⟨G3, X3, l6⟩ := G2.mk F Tm m5 mr
        have ar : B_Ty_copy_169 (k + d + 5) a b σ2 (some (σ2 38 5)) m := ⟨_, m, M_Ty_arrow (d := k + d + 4) ⟨by omega, by omega⟩ ⟨by omega, by omega⟩ ⟨_, m, Rm, rfl, rfl⟩, rfl, rfl⟩
        have k5 : (cS m (σ2 38 5)).1 = 5 := by show kC (m 40 (σ2 38 5)) = 5; rw [mc0]; decide
        have k2 : (cS m (σ2 38 5)).2.1 = a := mc2
        have k3 : (cS m (σ2 38 5)).2.2 = b := by show (if m 40 (σ2 38 5) = 62 then m 44 (σ2 38 5) else 0) = b; rw [mc0, if_pos rfl]; exact mc4
        refine ⟨σ2 38 5, m, mm2 ?_, G3, (X1.tr X2).tr X3, ⟨by omega, by omega⟩, ⟨by omega, by omega⟩, fun ρ1 V1 ρ2 V2 l ag => ?_, fun u o oc => ?_⟩
        · by_cases q1 : a = rC σ2 (σ0 42 r)
          · rw [if_neg (fun z => z q1)]
            refine ⟨_, _, R3, ?_⟩
            rw [if_pos (fun z => q ⟨q1, z⟩)]
            exact ar
          · rw [if_pos q1]
            exact ar
        · have e1 := (V1 (σ2 38 5) (by omega) (by omega)).2.2.2 k5
          rw [k2, k3] at e1
          rw [e1, ← ev V2, (V2 r r0 r1).2.2.2 c5, e22]
          exact gA_inj.mpr ⟨cpa.up X3 ρ1 V1 ρ2 V2 l (fun u o oc lv => ag u o (oc5 u o (Or.inl oc)) lv), cp2.up X3 ρ1 V1 ρ2 V2 l (fun u o oc lv => ag u o (oc5 u o (Or.inr oc)) lv)⟩
        · have z := oc.cs
          rw [k2, k3] at z
          rcases z with z | ⟨z, _⟩ | ⟨z, _⟩ | ⟨_, z | z⟩
          · have := o.2.1
            rw [← z, mc0] at this; omega
          · have := z.1; omega
          · omega
          · rcases cva.up X3 G2.1 ⟨a0, by omega⟩ u o z with z | ⟨z1, z2, z3⟩
            · exact Or.inl z
            · exact Or.inr ⟨z1, oc5 u z1 (Or.inl z2), z3⟩
          · rcases cv2.up X3 G2.1 ⟨p0, p1⟩ u o z with z | ⟨z1, z2, z3⟩
            · exact Or.inl z
            · exact Or.inr ⟨z1, oc5 u z1 (Or.inr z2), z3⟩
end CCO
