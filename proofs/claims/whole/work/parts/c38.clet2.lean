/-! The class's checker: LET and REC. -/
section CLR
variable {σ σ' σ1 σ2 σ3 : Mem} {d : Nat} {h n x r t : Int} {E : List (Int × Int)} {M : Int → Prop} {A B C : Tr} {k : Nat} {z : Int}
/-- one level further in -/
theorem CkI.lvl (I : CkI σ E M h) : CkI (mup σ 49 5 (h + 1)) E M (h + 1) ∧ tS (mup σ 49 5 (h + 1)) = tS σ := by
  have om : ∀ {i : Nat}, i ≠ 49 → (mup σ 49 5 (h + 1)) i = σ i := fun hi => mup_obj hi
  obtain ⟨T, e⟩ := I.1.cg (σ' := mup σ 49 5 (h + 1)) (om (by decide)) (om (by decide)) (om (by decide)) (by rw [om (by decide)])
  exact ⟨⟨T, by rw [e]; exact I.2.1.up1, I.2.2.1.mv (fun i => ⟨by rw [om (by decide)], by rw [om (by decide)]⟩), by rw [mup_nk (by decide)]; exact I.2.2.2.1, mup_eq, by rw [mup_nk (by decide)]; exact I.2.2.2.2.2⟩, e⟩
theorem bound_ill {kk : Nat} (hn : rg n) (ht : rg t) (hx : rg x) (hi : σ1 49 6 ≠ 0) : Rn (4 * kk + d + 97) yCk_inferBound [.ref 49, vi n, vi t, vi x] σ1 (some (-1)) (mup σ1 49 6 1) := by
  refine M_Ck_inferBound (d := 4 * kk + d + 93) hn ht hx ?_
  unfold B_Ck_inferBound B_Ck_inferBound_18
  rw [if_pos hi]; exact ⟨rfl, rfl⟩
/-- what a LET or a REC comes to, once its first part has a type -/
theorem bd_end {F : Bool → Gm → GT → Prop} {P : Int → Prop} (hk : k = 13 ∨ k = 14) (tt : isT σ 5 0 (σ 5 7) (nd k z A B nl) n) (G : PP σ) (hh : h ≤ 998) (I : CkI σ E M h) (RA : TRP (tS σ) (tS σ1) E M (h + 1) F P t) (hF : ∀ G s, F true G s → gw s ≤ 80) (hy : ∀ G s, tyE (nd k z A B nl) true G s → ∃ a, F true G a) (hno : ∀ {lev : Int → Int}, (∀ u, gv (tS σ1) M t u → lev u = 1000) → (∀ u, oP (tS σ1) u → ¬ gv (tS σ1) M t u → lev u = (tS σ1).2.2 u) → (∀ ρ s, VS (tS σ1).1 (tS σ1).2.1 ρ → ¬ tyE B true (Gam ((tS σ1).1, (tS σ1).2.1, lev) ρ ((z, t) :: E)) s) → noT σ E (nd k z A B nl)) (hyes : ∀ {lev : Int → Int} {σ' : Mem} {P2 : Int → Prop} {r : Int}, (∀ u, gv (tS σ1) M t u → lev u = 1000) → (∀ u, oP (tS σ1) u → ¬ gv (tS σ1) M t u → lev u = (tS σ1).2.2 u) → TRes ((tS σ1).1, (tS σ1).2.1, lev) (tS σ') ((z, t) :: E) M h B P2 r → TRes (tS σ) (tS σ') E M h (nd k z A B nl) (fun p => (P p ∨ P2 p) ∨ p = r) r) (hP : P = tyN σ σ1 A (σ 11 n)) (o1 : ∀ x, ¬ iT σ A (σ 11 n) x → σ1 19 x = σ 19 x) (cA : σ1 38 5 + 44 * rwl B - 4 ≤ σ 38 5 + 44 * rwl (nd k z A B nl) - 4) (O : BdO σ σ1 σ' E M h z B t (σ 13 n) r) : CkC σ σ' E M h (nd k z A B nl) n r (ptN σ σ' A B nl n) := by
  rcases O with ⟨X, no⟩ | ⟨f, T', ec, a4, a5, a6, o19, c, lev, g1, g2, RB⟩
  · refine X.c ?_
    rcases no with no | ⟨lev, g1, g2, no⟩
    · intro ρ s V y
      obtain ⟨a, y2⟩ := hy _ _ y
      obtain ⟨ρ1, V1, -, e1, -⟩ := RA.2.2.2.2 true ρ a V y2
      exact no ρ1 V1 (by rw [e1]; exact hF _ _ y2)
    · exact hno g1 g2 no
  · obtain ⟨s1, -, -⟩ := iT_sep G tt
    refine Or.inr ⟨⟨f, T', ec, by rw [a4]; exact I.2.2.2.1.symm, by rw [a5]; exact I.2.2.2.2.1.symm, a6, fun x q => ?_⟩, by omega, TRP.P (hyes g1 g2 RB) (fun p => ?_)⟩
    · rw [o19 x (fun w => q (Or.inr (Or.inr (Or.inl w)))), o1 x (fun w => q (Or.inr (Or.inl w)))]
    · refine or_congr ?_ Iff.rfl
      rw [hP, tyN_cg (σ2 := σ') (fun x a => o19 x (s1 x a))]
      exact or_3 tyN_nl
theorem PE_let (hz : ltZ z) (hA : isE A) (hB : isE B) (pA : PE A) (pB : PE B) : PE (nd 13 z A B nl) := by
  have w0 : rwl (nd 13 z A B nl) = 4 + rwl A + rwl B := rfl
  have wA := rwl_0 (T := A)
  have wB := rwl_0 (T := B)
  refine PE.whole hA (by decide) (by omega) (fun kk d n x h σ E M hkk t hc G I hcl b => ?_)
  obtain ⟨b1, b2, b3, b4⟩ := b
  have n0 := t.1
  have tA : isT σ 5 0 (σ 5 7) A (σ 11 n) := t.2.2.2.1
  have tB : isT σ 5 0 (σ 5 7) B (σ 13 n) := t.2.2.2.2.1
  have e7 : rowv 128 σ 7 n = 13 := (row_at n0 hc).trans t.2.1
  have e9 : σ 9 n = z := t.2.2.1
  have e11 : rowv 128 σ 11 n = σ 11 n := row_at n0 hc
  have rn : rg n := ⟨by omega, by omega⟩
  have rx : rg x := ⟨by omega, by omega⟩
  have rz : rg z := by unfold ltZ at hz; exact ⟨by omega, by omega⟩
  have so := I.1.so
  have h5 : σ 49 5 = h := I.2.2.2.2.1
  have hcl2 : clo A (inE E) = true ∧ clo B (adde (inE E) z) = true := by
    rw [clo_nd] at hcl
    simpa using hcl
  obtain ⟨I0, e0⟩ := I.lvl
  have f0 : frCk σ (mup σ 49 5 (h + 1)) := frCk.mu rfl
  have om0 : ∀ {i : Nat}, i ≠ 49 → (mup σ 49 5 (h + 1)) i = σ i := fun hi => mup_obj hi
  obtain ⟨a, σ1, R1, ga, O⟩ := pA (kk - 1) d (σ 11 n) (x + 1) (h + 1) (mup σ 49 5 (h + 1)) E M (by omega) (f0.is tA) (by rw [f0.tre.1]; exact hc) (f0.pp G) I0 hcl2.1 ⟨by rw [om0 (by decide)]; omega, by omega, by omega, by omega, by omega⟩
  have mk : ∀ {r : Int} {σ' : Mem}, σ1 49 5 = h + 1 → Rn (4 * kk + d + 97) yCk_inferBound [.ref 49, vi n, vi a, vi x] (mup σ1 49 5 h) (some r) σ' → Rn (4 * kk + d + 99) yCk_inferWhole [.ref 49, vi n, vi x] σ (some r) σ' := fun {r σ'} q R2 => by
    refine M_Ck_inferWhole (d := 4 * kk + d + 95) rn rx ?_
    unfold B_Ck_inferWhole
    rw [e7, if_neg (by decide), if_neg (by decide), if_neg (by decide), if_neg (by decide), if_neg (by decide), if_pos rfl]
    refine ⟨r, σ', M_Ck_inferLet (d := 4 * kk + d + 94) rn rx ?_, rfl, rfl⟩
    unfold B_Ck_inferLet
    rw [h5]
    refine ⟨⟨by omega, by omega⟩, a, σ1, ?_, ⟨by omega, by omega⟩, r, σ', ?_, rfl, rfl⟩
    · rw [f0.row (i := 11) rfl, e11]; exact R1.deep (by omega)
    · rw [show σ1 49 5 - 1 = h by omega]; exact R2
  have om : ∀ {i : Nat}, i ≠ 49 → (mup σ1 49 5 h) i = σ1 i := fun hi => mup_obj hi
  have i05 : (mup σ 49 5 (h + 1)) 49 5 = h + 1 := mup_eq
  have i04 : (mup σ 49 5 (h + 1)) 49 4 = σ 49 4 := mup_nk (by decide)
  rcases O with ⟨⟨g, a6, a4, a5, ca⟩, no⟩ | ⟨⟨g, T1, ec1, a4, a5, a6, o19⟩, cb, RA⟩
  · have hi : (mup σ1 49 5 h) 49 6 ≠ 0 := by rw [mup_nk (by decide)]; exact a6
    refine ⟨-1, _, mk (a5.trans i05) (bound_ill rn ga rx hi), rgk rfl, CkX.c ⟨((f0.tr g).tr (frCk.mu rfl)).tr (frCk.mu rfl), by rw [mup_eq]; decide, ?_, ?_, ?_⟩ (fun ρ s V y => ?_)⟩
    · rw [mup_nk (by decide), mup_nk (by decide), a4, i04]
    · rw [mup_nk (by decide), mup_eq]; exact h5.symm
    · rw [mup_ne (by decide), om (by decide)]; exact ca
    · obtain ⟨-, ⟨a', y2⟩, -⟩ := y
      unfold noT at no
      rw [e0] at no
      exact no ρ a' V y2
  · rw [e0] at RA
    obtain ⟨T1', e1'⟩ := T1.cg (σ' := mup σ1 49 5 h) (om (by decide)) (om (by decide)) (om (by decide)) (by rw [om (by decide)])
    have c1 : (mup σ1 49 5 h) 38 5 = σ1 38 5 := by rw [om (by decide)]
    have c0 : (mup σ 49 5 (h + 1)) 38 5 = σ 38 5 := by rw [om0 (by decide)]
    rw [c0] at cb
    have RA' : TRP (tS σ) (tS (mup σ1 49 5 h)) E M (h + 1) (tyE A) (tyN σ (mup σ1 49 5 h) A (σ 11 n)) a := by
      rw [e1', show tyN σ (mup σ1 49 5 h) A (σ 11 n) = tyN (mup σ 49 5 (h + 1)) σ1 A (σ 11 n) by
        rw [tyN_fr f0]
        exact (tyN_cg (fun x _ => by rw [om (by decide)])).symm]
      exact RA
    obtain ⟨r, σ', R2, gr, O⟩ := s_bound (d := d) (kk := kk) (x := x) (z := z) (B := B) hB pB (by omega) n0 hc G e9 rz tB I ((f0.tr g).tr (frCk.mu rfl)) T1' (ec1.mv (fun i => ⟨by rw [om (by decide)], by rw [om (by decide)]⟩)) (by rw [mup_nk (by decide), a4, i04]; exact I.2.2.2.1) mup_eq (by rw [mup_nk (by decide)]; exact a6) RA' hcl2.2 (by rw [c1]; omega) (by omega) ⟨by omega, by omega⟩ ⟨by omega, by omega⟩
    refine ⟨r, σ', mk (a5.trans i05) R2, gr, bd_end (Or.inl rfl) t G (by omega) I RA' (fun G s y => tyE_w hA y) (fun G s y => y.2.1) (fun g1 g2 no ρ s V => TR_let_no I.2.1 (by omega) (by omega) so RA' g1 g2 rfl no s V) (fun g1 g2 RB => TR_let I.2.1 (by omega) (by omega) so RA' g1 g2 rfl RB) rfl (fun x q => ?_) (by rw [c1, w0]; omega) O⟩
    rw [om (by decide), o19 x (by rw [f0.it]; exact q), om0 (by decide)]
theorem TR_fix_no {S S1 S2 : TS} {P : Int → Prop} {a t s : Int} {ρ : Int → GT} {s0 : GT} (I : EnvI S h E M) (hh : h ≤ 999) (W : SO S) (c0 : 0 ≤ S.2.1) (e1 : S1 = adT S (0, -1, t) h) (hA : isE A) (RA : TRes S1 S2 ((z, S.2.1) :: E) (fun m => M m ∨ m = S.2.1) h A P a) (no : ∀ ρ, VS S2.1 S2.2.1 ρ → ρ S.2.1 = ρ a → ¬ gw (ρ S.2.1) ≤ 80) (V : VS S.1 S.2.1 ρ) : ¬ fxE z A true (Gam S ρ E) s0 := by
  intro y
  have y : tyE A true ((z, is1 s0) :: Gam S ρ E) s0 := y
  obtain ⟨ρ1, V1, o1, ep, eg⟩ := TR_fun_no (z := z) I hh W c0 e1 s0 V
  obtain ⟨ρ2, V2, o2, e2, -⟩ := RA.2.2.2.2 true ρ1 s0 V1 (by rw [eg]; exact y)
  have c1 : S1.2.1 = S.2.1 + 1 := by rw [e1]; rfl
  have e3 : ρ2 S.2.1 = s0 := (o2 _ c0 (by omega)).trans ep
  exact no ρ2 V2 (e3.trans e2.symm) (by rw [e3]; exact tyE_w hA y)
theorem PE_rec (hz : ltZ z) (hA : isE A) (hB : isE B) (pA : PE A) (pB : PE B) : PE (nd 14 z A B nl) := by
  have w0 : rwl (nd 14 z A B nl) = 4 + rwl A + rwl B := rfl
  have wA := rwl_0 (T := A)
  have wB := rwl_0 (T := B)
  refine PE.whole hA (by decide) (by omega) (fun kk d n x h σ E M hkk t hc G I hcl b => ?_)
  obtain ⟨b1, b2, b3, b4⟩ := b
  have n0 := t.1
  have tA : isT σ 5 0 (σ 5 7) A (σ 11 n) := t.2.2.2.1
  have tB : isT σ 5 0 (σ 5 7) B (σ 13 n) := t.2.2.2.2.1
  have e7 : rowv 128 σ 7 n = 14 := (row_at n0 hc).trans t.2.1
  have e9 : σ 9 n = z := t.2.2.1
  have e9' : rowv 128 σ 9 n = z := (row_at n0 hc).trans e9
  have e11 : rowv 128 σ 11 n = σ 11 n := row_at n0 hc
  have rn : rg n := ⟨by omega, by omega⟩
  have rx : rg x := ⟨by omega, by omega⟩
  have rz : rg z := by unfold ltZ at hz; exact ⟨by omega, by omega⟩
  have so := I.1.so
  have h5 : σ 49 5 = h := I.2.2.2.2.1
  have cc := I.1.1.2.1
  have c0 : 0 ≤ (tS σ).2.1 := by show 0 ≤ σ 38 5; omega
  have hcl2 : clo A (adde (inE E) z) = true ∧ clo B (adde (inE E) z) = true := by
    rw [clo_nd] at hcl
    simpa using hcl
  obtain ⟨I0, e0⟩ := I.lvl
  have f0 : frCk σ (mup σ 49 5 (h + 1)) := frCk.mu rfl
  have om0 : ∀ {i : Nat}, i ≠ 49 → (mup σ 49 5 (h + 1)) i = σ i := fun hi => mup_obj hi
  have c00 : (mup σ 49 5 (h + 1)) 38 5 = σ 38 5 := by rw [om0 (by decide)]
  obtain ⟨σ1, R1, F1, T1, e1, c1⟩ := c_fresh (d := 4 * kk + d + 92) I0.1 (by rw [c00]; omega) (h := h + 1) ⟨by omega, by omega⟩
  rw [c00] at c1 R1
  rw [e0] at e1
  have G1 := demG I0 F1 T1
  obtain ⟨ρ0, V0⟩ := T1.1.2.2.2.2.2
  have IS := I.2.1.up1
  obtain ⟨⟨s1, lp, -⟩, -⟩ := gam_fn (z := z) IS (by omega) so c0 e1 V0
  have I1 := IS.up (by omega) so s1.2.1
  have gp : rg (σ 38 5) := ⟨by omega, by omega⟩
  have en := I1.fn (z := z) (p := σ 38 5) ⟨by omega, by show σ 38 5 < σ1 38 5; omega⟩ lp
  obtain ⟨σ2, R2, f2, I2, e19, es, c2, oo⟩ := c_enter (d := 4 * kk + d + 93) I0 T1 G1.1 G1.2.2.1 (G1.2.2.2.1.trans I0.2.2.2.1) (G1.2.2.2.2.1.trans I0.2.2.2.2.1) G1.2.2.2.2.2.1 rz gp (by omega) en
  have f02 := f0.tr f2
  have el : (((z, σ 38 5) :: E).length : Int) = E.length + 1 := by rw [List.length_cons]; omega
  obtain ⟨a, σ3, R3, ga, O⟩ := pA (kk - 1) d (σ 11 n) (x + 1) (h + 1) σ2 ((z, σ 38 5) :: E) _ (by omega) (f02.is tA) (by rw [f02.tre.1]; exact hc) (f02.pp G) I2 (by rw [inE_c]; exact hcl2.1) ⟨by omega, by omega, by omega, by omega, by omega⟩
  have i24 : σ2 49 4 = E.length + 1 := by rw [I2.2.2.2.1]; exact el
  have i25 : σ2 49 5 = h + 1 := I2.2.2.2.2.1
  have mk : ∀ {r : Int} {σ4 σ' : Mem}, Rn (4 * kk + d + 97) yCk_demand [.ref 49, vi (σ 38 5), vi a] σ3 none σ4 → σ4 49 4 = E.length + 1 → σ4 49 5 = h + 1 → Rn (4 * kk + d + 97) yCk_inferBound [.ref 49, vi n, vi a, vi x] (mup (mup σ4 49 4 E.length) 49 5 h) (some r) σ' → Rn (4 * kk + d + 99) yCk_inferWhole [.ref 49, vi n, vi x] σ (some r) σ' := fun {r σ4 σ'} R4 q4 q5 R5 => by
    refine M_Ck_inferWhole (d := 4 * kk + d + 95) rn rx ?_
    unfold B_Ck_inferWhole
    rw [e7, if_neg (by decide), if_neg (by decide), if_neg (by decide), if_neg (by decide), if_neg (by decide), if_neg (by decide), if_pos rfl]
    refine ⟨r, σ', M_Ck_inferRecursion (d := 4 * kk + d + 94) rn rx ?_, rfl, rfl⟩
    unfold B_Ck_inferRecursion
    rw [h5]
    refine ⟨⟨by omega, by omega⟩, σ 38 5, σ1, R1, σ2, ?_, a, σ3, ?_, σ4, R4, ⟨by omega, by omega⟩, ⟨by omega, by omega⟩, r, σ', ?_, rfl, rfl⟩
    · rw [(f0.tr F1.fk).row (i := 9) rfl, e9']; exact R2
    · rw [f02.row (i := 11) rfl, e11]; exact R3.deep (by omega)
    · rw [show σ4 49 4 - 1 = (E.length : Int) by omega, show σ4 49 5 - 1 = h by omega]; exact R5
  -- wrong types, up to inferBound
  have ill : ∀ {σ4 : Mem}, CkX σ2 σ4 → Rn (4 * kk + d + 97) yCk_demand [.ref 49, vi (σ 38 5), vi a] σ3 none σ4 → noT σ E (nd 14 z A B nl) → ∃ r σ', Rn (4 * kk + d + 99) yCk_inferWhole [.ref 49, vi n, vi x] σ (some r) σ' ∧ rg r ∧ CkC σ σ' E M h (nd 14 z A B nl) n r (ptN σ σ' A B nl n) := fun {σ4} X R4 no => by
    obtain ⟨g, a6, a4, a5, ca⟩ := X
    have hi : (mup (mup σ4 49 4 E.length) 49 5 h) 49 6 ≠ 0 := by rw [mup_nk (by decide), mup_nk (by decide)]; exact a6
    refine ⟨-1, _, mk R4 (a4.trans i24) (a5.trans i25) (bound_ill rn ga rx hi), rgk rfl, CkX.c ⟨(((f02.tr g).tr (frCk.mu rfl)).tr (frCk.mu rfl)).tr (frCk.mu rfl), by rw [mup_eq]; decide, ?_, ?_, ?_⟩ no⟩
    · rw [mup_nk (by decide), mup_nk (by decide), mup_eq]; exact I.2.2.2.1.symm
    · rw [mup_nk (by decide), mup_eq]; exact h5.symm
    · rw [mup_ne (by decide), mup_ne (by decide), mup_ne (by decide)]; exact ca
  rcases O with ⟨X, no⟩ | ⟨Gd, cb, RA⟩
  · refine ill X (s_demand_ill (d := 4 * kk + d + 93) X.2.1 gp ga) (fun ρ s V y => ?_)
    obtain ⟨-, ⟨s0, y2⟩, -⟩ := y
    obtain ⟨ρ1, V1, -, -, eg⟩ := TR_fun_no (z := z) IS (by omega) so c0 e1 s0 V
    unfold noT at no
    rw [es] at no
    refine no ρ1 s0 V1 ?_
    have eg : Gam (tS σ1) ρ1 ((z, σ 38 5) :: E) = _ := eg
    rw [eg]; exact y2
  have I3 := CkG.next (P := fun _ => True) I2 (by omega) Gd RA.1
  have l3 := RA.1.2.1.1
  rw [es] at l3
  have l3 : σ1 38 5 ≤ σ3 38 5 := l3
  have ra : 0 ≤ a ∧ a < σ3 38 5 := RA.2.1.1
  obtain ⟨σ4, R4, D⟩ := s_dem (d := 4 * kk + d + 4) I3.1 I3.2.2.2.2.2 (a := σ 38 5) (b := a) ⟨by omega, by omega⟩ ra
  have R4 : Rn (4 * kk + d + 97) yCk_demand [.ref 49, vi (σ 38 5), vi a] σ3 none σ4 := R4
  rw [es] at RA
  rcases D with ⟨F4, T4, u4, c54, uV4⟩ | ⟨X, no⟩
  rotate_left
  · refine ill (Gd.bad X) R4 (fun ρ s V y => ?_)
    obtain ⟨-, ⟨s0, y2⟩, -⟩ := y
    exact TR_fix_no (s := 0) IS (by omega) so c0 e1 hA RA no V y2
  obtain ⟨p1, p2, p3, p4⟩ := F4.oo
  have om : ∀ {i : Nat}, i ≠ 49 → (mup (mup σ4 49 4 E.length) 49 5 h) i = σ4 i := fun hi => (mup_obj hi).trans (mup_obj hi)
  obtain ⟨T4', e4'⟩ := T4.cg (σ' := mup (mup σ4 49 4 E.length) 49 5 h) (om (by decide)) (om (by decide)) (om (by decide)) (by rw [om (by decide)])
  have c4 : (mup (mup σ4 49 4 E.length) 49 5 h) 38 5 = σ4 38 5 := by rw [om (by decide)]
  obtain ⟨g, T3, ec3, a4, a5, a6, o19⟩ := Gd
  have RF := TR_fix IS (by omega) so c0 e1 RA (u4 (h + 1)) uV4
  have RF' : TRP (tS σ) (tS (mup (mup σ4 49 4 E.length) 49 5 h)) E M (h + 1) (fxE z A) (tyN σ (mup (mup σ4 49 4 E.length) 49 5 h) A (σ 11 n)) a := by
    rw [e4', show tyN σ (mup (mup σ4 49 4 E.length) 49 5 h) A (σ 11 n) = tyN σ2 σ3 A (σ 11 n) by
      rw [tyN_fr f02]
      exact (tyN_cg (fun x _ => by rw [om (by decide), p4])).symm]
    exact RF
  obtain ⟨r, σ', R5, gr, O⟩ := s_bound (d := d) (kk := kk) (x := x) (z := z) (B := B) hB pB (by omega) n0 hc G e9 rz tB I ((((f02.tr g).tr F4.fk).tr (frCk.mu rfl)).tr (frCk.mu rfl)) T4' (ec3.2.2.mv (fun i => ⟨by rw [om (by decide), p2], by rw [om (by decide), p3]⟩)) (by rw [mup_nk (by decide), mup_eq]) mup_eq (by rw [mup_nk (by decide), mup_nk (by decide), p1]; exact a6) RF' hcl2.2 (by rw [c4]; omega) (by omega) ⟨by omega, by omega⟩ ⟨by omega, by omega⟩
  refine ⟨r, σ', mk R4 (by rw [p1]; exact a4.trans i24) (by rw [p1]; exact a5.trans i25) R5, gr, bd_end (Or.inr rfl) t G (by omega) I RF' (fun G s y => tyE_w hA y) (fun G s y => y.2.1) (fun g1 g2 no ρ s V => TR_rec_no I.2.1 (by omega) (by omega) so RF' g1 g2 rfl no s V) (fun g1 g2 RB => TR_rec I.2.1 (by omega) (by omega) so RF' g1 g2 rfl RB) rfl (fun x q => ?_) (by rw [c4, w0]; omega) O⟩
  rw [om (by decide), p4, o19 x (by rw [f02.it]; exact q), e19, F1.oo.2.2.2, om0 (by decide)]
end CLR
