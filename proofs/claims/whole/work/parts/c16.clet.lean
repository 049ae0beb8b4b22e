/-! What a LET's name may be. -/
section CLE
variable {S S1 : TS} {M : Int → Prop} {h : Int} {ρ : Int → GT} {E : List (Int × Int)} {σ : Mem} {d : Nat}
theorem InM_lo {h1 : Int} (I : EnvI S h E M) (x : XE S S1 M h1) {u : Int} (o : oP S1 u) (q : InM S1 M u) : S1.2.2 u ≤ h := by
  obtain ⟨m, a, b⟩ := q
  exact x.2.2.2.2.1 h m (I.1 m a).1 (I.1 m a).2 (I.2.1 m a) u o b
theorem let_den {h1 : Int} {F : Bool → Gm → GT → Prop} {P : Int → Prop} {t : Int} (I : EnvI S h E M) (hh : h ≤ 999) (W : SO S) (R : TRP S S1 E M h1 F P t) {lev : Int → Int} (g1 : ∀ u, gv S1 M t u → lev u = 1000) (g2 : ∀ u, oP S1 u → ¬ gv S1 M t u → lev u = S1.2.2 u) (V : VS S1.1 S1.2.1 ρ) (s : GT) : Den (S1.1, S1.2.1, lev) t ρ s ↔ F false (Gam S ρ E) s := by
  obtain ⟨⟨W1, x, VV⟩, r, -, so, co⟩ := R
  have xl := x.1
  have mr : ∀ m, M m → 0 ≤ m ∧ m < S1.2.1 := fun m a => ⟨(I.1 m a).1, by have := (I.1 m a).2; omega⟩
  constructor
  · intro ⟨ρ1, V1, ag, e⟩
    obtain ⟨α, a1, a2⟩ := mixV (gv S1 M t) ρ1 ρ
    obtain ⟨ρ2, V2, e2⟩ := ev_o W1 V α
    have et : ρ2 t = s := by
      rw [← e]
      refine val_o W1 V2 V1 r.1.1 r.1.2 (fun v o oc => ?_)
      rw [e2 v o]
      by_cases q : gv S1 M t v
      · exact a1 v q
      · have im : InM S1 M v := Classical.byContradiction (fun z => q ⟨o, oc, z⟩)
        have lw := InM_lo I x o im
        rw [a2 v q]
        exact (ag v o oc (by show lev v ≠ 1000; rw [g2 v o q]; omega)).symm
    have eg : Gam S ρ2 E = Gam S ρ E := Gam_cg I W (VV _ V) (VV _ V2) (fun m a => val_o W1 V2 V (mr m a).1 (mr m a).2 (fun v o oc => by
      rw [e2 v o]
      exact a2 v (fun z => z.2.2 ⟨m, a, oc⟩)))
    have z := (so ρ2 V2).1
    rw [eg, et] at z
    exact z
  · intro z
    obtain ⟨ρ1, V1, old, e, -⟩ := co false ρ s (VV _ V) z
    refine ⟨ρ1, V1, fun u o oc lv => ?_, e⟩
    have ng : ¬ gv S1 M t u := fun q => lv (g1 u q)
    have im : InM S1 M u := Classical.byContradiction (fun z => ng ⟨o, oc, z⟩)
    obtain ⟨m, a, b⟩ := im
    exact val_i W1 V1 V (mr m a).1 (mr m a).2 (old m (I.1 m a).1 (I.1 m a).2) b
theorem c_generalise (T : TI σ) (hh : 0 ≤ h ∧ h ≤ 998) {n : Int} (h0 : 0 ≤ n) (h1 : n < σ 38 5) (hl : ∀ m, M m → lO (tS σ) h m) (hg : gO (tS σ) (h + 1) M n) {μ : Int → GT} (Mi : MinV (cS σ) (σ 38 5) μ) (hw : gw (μ n) ≤ 80) : ∃ σ', Rn (d + 46) yTy_generalise [.ref 38, vi n, vi h, vi 0] σ none σ' ∧ FT σ σ' ∧ TI σ' ∧ tS σ' = ((tS σ).1, (tS σ).2.1, fun u => σ' 44 u) ∧ (∀ u, gv (tS σ) M n u → σ' 44 u = 1000) ∧ ∀ u, oP (tS σ) u → ¬ gv (tS σ) M n u → σ' 44 u = (tS σ).2.2 u := by
  obtain ⟨σ', R, tl, lg, q⟩ := s_generalise (d := d) (lv := h) ⟨hh.1, by omega⟩ 41 n 0 σ T.1 Mi T.2.1 rfl (by decide) h0 h1 (by omega)
  have ecs := tl.cS
  have e38 := tl.c
  have e40 := tl.1 40 (by decide)
  have G1 : ∀ u, gv (tS σ) M n u → σ' 44 u = 1000 := fun u ⟨a, b, c⟩ => (q u ((oP_Op T.1).mp a)).1 ⟨b, Classical.byContradiction (fun z => c (hg u a b (by show σ 44 u < h + 1; omega)))⟩
  have G2 : ∀ u, oP (tS σ) u → ¬ gv (tS σ) M n u → σ' 44 u = (tS σ).2.2 u := fun u o z => (q u ((oP_Op T.1).mp o)).2 (fun ⟨a, b⟩ => by
    have im : InM (tS σ) M u := Classical.byContradiction (fun y => z ⟨o, a, y⟩)
    obtain ⟨m, m1, m2⟩ := im
    have : σ 44 u ≤ h := hl m m1 u o m2
    omega)
  refine ⟨σ', by rw [show d + 46 = 41 + d + 5 by omega]; exact R, ⟨fun i _ _ _ p => tl.1 i p, fun k _ => by rw [e38]⟩, ⟨tl.ci T.1, lg, fun u o => ?_⟩, ?_, G1, G2⟩
  · have o' : Op σ u := by
      obtain ⟨a, b, c⟩ := o
      rw [e38] at a
      rw [e40] at b
      rw [ecs] at c
      exact ⟨a, b, c⟩
    by_cases z : gv (tS σ) M n u
    · rw [G1 u z]; exact Int.le_refl _
    · rw [G2 u ((oP_Op T.1).mpr o') z]; exact T.2.2 u o'
  · unfold tS
    rw [ecs, e38]
end CLE
