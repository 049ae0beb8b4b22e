/-! The class's checker: the second part of LET and REC. -/
section CBD
variable {σ σ' σ1 σ2 σ3 : Mem} {d : Nat} {h n x r t : Int} {E : List (Int × Int)} {M : Int → Prop} {A B C : Tr} {k : Nat} {z : Int}
/-- what inferBound leaves behind: the types are wrong (the first part's type is too long, or the second part has none), or the second part's types stand -/
def BdO (σ σ1 σ' : Mem) (E : List (Int × Int)) (M : Int → Prop) (h : Int) (z : Int) (B : Tr) (t m r : Int) : Prop := (CkX σ σ' ∧ ((∀ ρ, VS (tS σ1).1 (tS σ1).2.1 ρ → ¬ gw (ρ t) ≤ 80) ∨ ∃ lev : Int → Int, (∀ u, gv (tS σ1) M t u → lev u = 1000) ∧ (∀ u, oP (tS σ1) u → ¬ gv (tS σ1) M t u → lev u = (tS σ1).2.2 u) ∧ ∀ ρ s, VS (tS σ1).1 (tS σ1).2.1 ρ → ¬ tyE B true (Gam ((tS σ1).1, (tS σ1).2.1, lev) ρ ((z, t) :: E)) s)) ∨ (frCk σ σ' ∧ TI σ' ∧ envC σ' E ∧ σ' 49 4 = E.length ∧ σ' 49 5 = h ∧ σ' 49 6 = 0 ∧ (∀ x, ¬ iT σ B m x → σ' 19 x = σ1 19 x) ∧ σ' 38 5 ≤ σ1 38 5 + 44 * rwl B - 4 ∧ ∃ lev : Int → Int, (∀ u, gv (tS σ1) M t u → lev u = 1000) ∧ (∀ u, oP (tS σ1) u → ¬ gv (tS σ1) M t u → lev u = (tS σ1).2.2 u) ∧ TRes ((tS σ1).1, (tS σ1).2.1, lev) (tS σ') ((z, t) :: E) M h B (tyN σ σ' B m) r)
theorem s_bound {F : Bool → Gm → GT → Prop} {P : Int → Prop} {kk : Nat} (hB : isE B) (pB : PE B) (hw : 1 + rwl B ≤ kk) (hn : 0 ≤ n ∧ n < σ 5 7) (hc : σ 5 7 ≤ 128) (G : PP σ) (e9 : σ 9 n = z) (rz : rg z) (tB : isT σ 5 0 (σ 5 7) B (σ 13 n)) (I : CkI σ E M h) (f : frCk σ σ1) (T1 : TI σ1) (ec : envC σ1 E) (h4 : σ1 49 4 = E.length) (h5 : σ1 49 5 = h) (h6 : σ1 49 6 = 0) (RA : TRP (tS σ) (tS σ1) E M (h + 1) F P t) (hcl : clo B (adde (inE E) z) = true) (b1 : σ1 38 5 + 44 * rwl B ≤ 3000) (b2 : E.length + rwl B + 1 ≤ 64) (b3 : 0 ≤ h ∧ h + rwl B ≤ 64) (b4 : 0 ≤ x ∧ x + 1 + rwl B ≤ 64) : ∃ r σ', Rn (4 * kk + d + 97) yCk_inferBound [.ref 49, vi n, vi t, vi x] σ1 (some r) σ' ∧ rg r ∧ BdO σ σ1 σ' E M h z B t (σ 13 n) r := by
  have wB := rwl_0 (T := B)
  have so := I.1.so
  have rt : 0 ≤ t ∧ t < σ1 38 5 := RA.2.1.1
  have c1 := T1.1.2.1
  have gn : rg n := ⟨by omega, by omega⟩
  have gt : rg t := ⟨by omega, by omega⟩
  have gx : rg x := ⟨by omega, by omega⟩
  obtain ⟨μ, Mi⟩ := min_ex T1.1
  obtain ⟨L, st, S, -⟩ := T1.1.2.2.1
  have R1 := s_tooLong (d := 4 * kk + d + 46) T1.1 Mi rt.1 rt.2
  have X1 : CkX σ (mup σ1 49 6 1) := ⟨f.tr (frCk.mu rfl), by rw [mup_eq]; decide, by rw [mup_nk (by decide), h4]; exact I.2.2.2.1.symm, by rw [mup_nk (by decide), h5]; exact I.2.2.2.2.1.symm, by rw [mup_ne (by decide)]; omega, by rw [mup_ne (by decide)]; omega⟩
  by_cases w : gw (μ t) ≤ 80
  rotate_left
  · rw [if_neg w] at R1
    refine ⟨-1, mup σ1 49 6 1, M_Ck_inferBound (d := 4 * kk + d + 93) gn gt gx ?_, rgk rfl, Or.inl ⟨X1, Or.inl (fun ρ V q => ?_)⟩⟩
    · unfold B_Ck_inferBound B_Ck_inferBound_18
      rw [if_neg (fun q => q h6)]
      refine ⟨1, σ1, R1.deep (by omega), ?_⟩
      rw [if_neg (by decide)]; exact ⟨rfl, rfl⟩
    · have := wid_le T1.1.1 Mi.1 V S Mi.2 t rt.1 rt.2; omega
  rw [if_pos w] at R1
  have x1 : TSt (tS σ) (tS σ1) M h := ⟨RA.1.1, RA.1.2.1.le (by omega), RA.1.2.2⟩
  have I1 := I.2.1.up (by omega) so x1.2.1
  have hg : gO (tS σ1) (h + 1) M t := RA.2.1.2.2.1 (h + 1) M (Int.le_refl _) I.2.1.1 (fun m a u o oc _ => ⟨m, a, oc⟩)
  obtain ⟨σ2, R2, F2, T2, e2, g1, g2⟩ := c_generalise (d := 4 * kk + d + 47) T1 (h := h) ⟨b3.1, by omega⟩ rt.1 rt.2 I1.2.1 hg Mi w
  obtain ⟨p1, p2, p3, p4⟩ := F2.oo
  obtain ⟨gs, gO2⟩ := gen_S I.2.1 so x1 RA.2.1.2.1 g1 g2
  have c2 : σ2 38 5 = σ1 38 5 := congrArg (fun S : TS => S.2.1) e2
  rw [← e2] at gs gO2
  have I2 := (I.2.1.up (by omega) so gs.2.1).lt (z := z) (n := t) (by show 0 ≤ t ∧ t < σ2 38 5; omega) gO2
  obtain ⟨σ3, R3, f3, I3, e19, es, c3, oo⟩ := c_enter (d := 4 * kk + d + 92) I T2 (f.tr F2.fk) (ec.mv (fun i => ⟨by rw [p2], by rw [p3]⟩)) (by rw [p1]; exact h4) (by rw [p1]; exact h5) (by rw [p1]; exact h6) rz gt (by omega) I2
  have el : (((z, t) :: E).length : Int) = E.length + 1 := by rw [List.length_cons]; omega
  obtain ⟨b, σ4, R4, gb, O⟩ := pB (kk - 1) d (σ 13 n) (x + 1) h σ3 ((z, t) :: E) M (by omega) (f3.is tB) (by rw [f3.tre.1]; exact hc) (f3.pp G) I3 (by rw [inE_c]; exact hcl) ⟨by omega, by omega, by omega, by omega, by omega⟩
  have R4 : Rn (4 * kk + d + 96) yCk_infer [.ref 49, vi (σ 13 n), vi (x + 1)] σ3 (some b) σ4 := R4.deep (by omega)
  have i4 : σ3 49 4 = E.length + 1 := by rw [I3.2.2.2.1]; exact el
  have i5 : σ3 49 5 = h := I3.2.2.2.2.1
  have run : σ4 49 4 = E.length + 1 → Rn (4 * kk + d + 97) yCk_inferBound [.ref 49, vi n, vi t, vi x] σ1 (some b) (mup σ4 49 4 E.length) := fun q => by
    refine M_Ck_inferBound (d := 4 * kk + d + 93) gn gt gx ?_
    unfold B_Ck_inferBound
    rw [if_neg (fun q => q h6)]
    refine ⟨0, σ1, R1.deep (by omega), ?_⟩
    rw [if_pos rfl]
    refine ⟨σ2, by rw [h5]; exact R2.deep (by omega), σ3, ?_, b, σ4, ?_, ⟨by omega, by omega⟩, rfl, ?_⟩
    · rw [(f.tr F2.fk).row (i := 9) rfl, row_at hn hc, e9]; exact R3
    · rw [f3.row (i := 13) rfl, row_at hn hc]; exact R4
    · rw [show σ4 49 4 - 1 = (E.length : Int) by omega]
  have om : ∀ {i : Nat}, i ≠ 49 → (mup σ4 49 4 E.length) i = σ4 i := fun hi => mup_obj hi
  rcases O with ⟨X, no⟩ | ⟨Gd, cb, RB⟩
  · obtain ⟨g, a6, a4, a5, ca⟩ := X
    refine ⟨b, _, run (a4.trans i4), gb, Or.inl ⟨⟨(f3.tr g).tr (frCk.mu rfl), by rw [mup_nk (by decide)]; exact a6, by rw [mup_eq]; exact I.2.2.2.1.symm, by rw [mup_nk (by decide), a5, i5]; exact I.2.2.2.2.1.symm, by rw [om (by decide)]; exact ca.1, by rw [om (by decide)]; exact ca.2⟩, Or.inr ⟨fun u => σ2 44 u, g1, g2, fun ρ s V y => ?_⟩⟩⟩
    unfold noT at no
    rw [es, e2] at no
    exact no ρ s V y
  · obtain ⟨g, T4, ec4, a4, a5, a6, o19⟩ := Gd
    obtain ⟨T4', e4'⟩ := T4.cg (σ' := mup σ4 49 4 E.length) (om (by decide)) (om (by decide)) (om (by decide)) (by rw [om (by decide)])
    rw [es, e2] at RB
    refine ⟨b, _, run (a4.trans i4), gb, Or.inr ⟨(f3.tr g).tr (frCk.mu rfl), T4', ec4.2.2.mv (fun i => ⟨by rw [om (by decide)], by rw [om (by decide)]⟩), mup_eq, by rw [mup_nk (by decide), a5]; exact i5, by rw [mup_nk (by decide)]; exact a6, fun x q => ?_, by rw [om (by decide)]; omega, fun u => σ2 44 u, g1, g2, ?_⟩⟩
    · rw [om (by decide), o19 x (by rw [f3.it]; exact q), e19, p4]
    · rw [e4', show tyN σ (mup σ4 49 4 E.length) B (σ 13 n) = tyN σ3 σ4 B (σ 13 n) by
        rw [tyN_fr f3]
        exact (tyN_cg (fun x _ => by rw [om (by decide)])).symm]
      exact RB
end CBD
