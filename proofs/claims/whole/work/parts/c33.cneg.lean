/-! The class's checker: nodes with parts; ~ and operations. -/
section CNE
variable {σ σ' σ1 σ2 σ3 : Mem} {d : Nat} {h n x r : Int} {E : List (Int × Int)} {M : Int → Prop} {A B C : Tr} {k : Nat} {z : Int}
theorem isE_n {A : Tr} {m : Int} (hA : isE A) (t : isT σ 5 0 (σ 5 7) A m) : 0 ≤ m ∧ m < σ 5 7 := by
  unfold isT at t
  split at t
  · exact t.1
  · exact hA.elim
  · exact t.elim
theorem PE.whole (hA : isE A) (hk : 8 ≤ k ∧ k ≤ 16) (hw : 1 ≤ rwl (nd k z A B C)) (H : ∀ (kk d : Nat) (n x h : Int) (σ : Mem) (E : List (Int × Int)) (M : Int → Prop), rwl (nd k z A B C) ≤ kk → isT σ 5 0 (σ 5 7) (nd k z A B C) n → σ 5 7 ≤ 128 → PP σ → CkI σ E M h → clo (nd k z A B C) (inE E) = true → CkB σ E h x (rwl (nd k z A B C)) → ∃ r σ1, Rn (4 * kk + d + 99) yCk_inferWhole [.ref 49, vi n, vi x] σ (some r) σ1 ∧ rg r ∧ CkC σ σ1 E M h (nd k z A B C) n r (ptN σ σ1 A B C n)) : PE (nd k z A B C) := by
  intro kk d n x h σ E M hkk t hc G I hcl b
  obtain ⟨r, σ1, R, gr, O⟩ := H kk d n x h σ E M hkk t hc G I hcl b
  have n0 := t.1
  have b4 := b.2.2.2
  refine ⟨r, endI σ1 n r, infer_run (d := 4 * kk + d + 96) ⟨by omega, by omega⟩ ⟨b4.1, by omega⟩ I.2.2.2.2.2 gr (Or.inl ⟨?_, R⟩), gr, CkC.end t (by omega) hc O⟩
  rw [row_at n0 hc]
  have := isE_n hA t.2.2.2.1
  have this : 0 ≤ σ 11 n ∧ _ := this
  omega
/-- on from a part that has a type -/
theorem CkG.next {X : Int → Prop} {P : Int → Prop} (I : CkI σ E M h) (hh : h ≤ 999) (Gd : CkG σ σ1 E X) (x : TSt (tS σ) (tS σ1) M h) : CkI σ1 E M h := by
  obtain ⟨f, T1, ec, a4, a5, a6, o⟩ := Gd
  exact ⟨T1, I.2.1.up hh I.1.so x.2.1, ec, a4.trans I.2.2.2.1, a5.trans I.2.2.2.2.1, a6⟩
theorem CkG.tr {X Y Z : Int → Prop} (a : CkG σ σ1 E X) (b : CkG σ1 σ2 E Y) (hX : ∀ x, X x → Z x) (hY : ∀ x, Y x → Z x) : CkG σ σ2 E Z := by
  obtain ⟨f, T1, ec, a4, a5, a6, o⟩ := a
  obtain ⟨g, T2, ec2, b4, b5, b6, p⟩ := b
  exact ⟨f.tr g, T2, ec2, b4.trans a4, b5.trans a5, b6, fun x hx => (p x (fun q => hx (hY x q))).trans (o x (fun q => hx (hX x q)))⟩
theorem CkG.bad {X : Int → Prop} (a : CkG σ σ1 E X) (b : CkX σ1 σ2) : CkX σ σ2 := by
  obtain ⟨f, T1, ec, a4, a5, a6, o⟩ := a
  obtain ⟨g, b6, b4, b5, c⟩ := b
  exact ⟨f.tr g, b6, b4.trans a4, b5.trans a5, c⟩
/-- what is made behind a wrong type -/
theorem CkX.ft (a : CkX σ σ1) (F : FT σ1 σ2) (c : 0 ≤ σ2 38 5 ∧ σ2 38 5 ≤ 3000) : CkX σ σ2 := by
  obtain ⟨g, b6, b4, b5, -⟩ := a
  have e := F.oo.1
  exact ⟨g.tr F.fk, by rw [e]; exact b6, by rw [e]; exact b4, by rw [e]; exact b5, c⟩
theorem CkX.c {T : Tr} {PS : Int → Prop} (a : CkX σ σ1) (no : noT σ E T) : CkC σ σ1 E M h T n r PS := by
  obtain ⟨g, b6, b4, b5, c⟩ := a
  exact Or.inl ⟨⟨g, Or.inl b6, b4, b5, c⟩, no⟩
/-- a demand that fails -/
theorem demX (T : TI σ) (q : ∃ σ1, FT σ σ1 ∧ σ1 38 5 = σ 38 5 ∧ σ' = mup σ1 49 6 1) : CkX σ σ' := by
  obtain ⟨σ1, F, c5, rfl⟩ := q
  have e := F.oo.1
  have c := T.1.2.1
  refine ⟨F.fk.tr (frCk.mu rfl), by rw [mup_eq]; decide, by rw [mup_nk (by decide), e], by rw [mup_nk (by decide), e], ?_, ?_⟩
  · rw [mup_ne (by decide)]; omega
  · rw [mup_ne (by decide)]; omega
/-- one that holds -/
theorem demG (I : CkI σ E M h) (F : FT σ σ') (T : TI σ') : CkG σ σ' E (fun _ => False) := by
  obtain ⟨o1, o2, o3, o4⟩ := F.oo
  exact CkG.ft I F.fk T o1 o2 o3 o4
/-- the demand as a whole -/
theorem s_dem (T : TI σ) (hi : σ 49 6 = 0) {a b : Int} (ha : 0 ≤ a ∧ a < σ 38 5) (hb : 0 ≤ b ∧ b < σ 38 5) : ∃ σ', Rn (d + 93) yCk_demand [.ref 49, vi a, vi b] σ none σ' ∧ ((FT σ σ' ∧ TI σ' ∧ (∀ h, TSt (tS σ) (tS σ') (fun x => x = a ∨ x = b) h) ∧ σ' 38 5 = σ 38 5 ∧ ∀ ρ, VS (tS σ').1 (tS σ').2.1 ρ ↔ (VS (tS σ).1 (tS σ).2.1 ρ ∧ ρ a = ρ b)) ∨ (CkX σ σ' ∧ ∀ ρ, VS (tS σ).1 (tS σ).2.1 ρ → ρ a = ρ b → ¬ gw (ρ a) ≤ 80)) := by
  have c := T.1.2.1
  obtain ⟨b', σ1, R, u⟩ := s_unify (d := d) 41 a b 0 σ T.1 T.2.1 rfl (by decide) ha hb
  have mk : ∀ {σ' : Mem}, _ → Rn (d + 93) yCk_demand [.ref 49, vi a, vi b] σ none σ' := fun {σ'} z => M_Ck_demand (d := d + 89) (s' := σ') (o := none) ⟨by omega, by omega⟩ ⟨by omega, by omega⟩ z
  unfold B_Ck_demand at mk
  have R : Rn (d + 92) yTy_unify [.ref 38, vi a, vi b, vi 0] σ (some b') σ1 := by rw [show d + 92 = 41 + d + 51 by omega]; exact R
  rcases u with ⟨rfl, u2, u3, u4⟩ | ⟨rfl, u2, u3⟩
  · have hk := u3.k
    have T1 : TI σ1 := ⟨u2, u3.2.2.2.2.2.1, fun v o => Int.le_trans (u3.2.2.2.2.1 v o) (T.2.2 v (u3.op o))⟩
    refine ⟨σ1, mk ?_, Or.inl ⟨⟨fun i _ _ a b => u3.1 i a b, fun k _ => by rw [hk.2]⟩, T1, fun h => ⟨TI.so T1, u3.xe T.1 u2, fun ρ V => ?_⟩, by rw [hk.2], fun ρ => ?_⟩⟩
    · rw [if_neg (fun q => q hi)]
      refine ⟨1, σ1, R, ?_⟩
      rw [if_pos (by decide)]; exact ⟨rfl, rfl⟩
    · have V : VS (cS σ1) (σ1 38 5) ρ := V
      rw [hk.2] at V
      exact ((u4 ρ).mp V).1
    · show VS (cS σ1) (σ1 38 5) ρ ↔ _
      rw [hk.2]; exact u4 ρ
  · refine ⟨mup σ1 49 6 1, mk ?_, Or.inr ⟨demX T ⟨σ1, ⟨fun i _ _ a b => u2 i a b, fun k _ => by rw [u2 38 (by decide) (by decide)]⟩, by rw [u2 38 (by decide) (by decide)], rfl⟩, fun ρ V e w => u3 ρ V e (by omega)⟩⟩
    rw [if_neg (fun q => q hi)]
    refine ⟨0, σ1, R, ?_⟩
    rw [if_neg (by decide)]; exact ⟨rfl, rfl⟩
/-- parts of which the second has no type -/
theorem TRP.no {S S1 : TS} {F : Bool → Gm → GT → Prop} {PA : Int → Prop} {a : Int} {sa sb : GT} {ρ : Int → GT} (I : EnvI S h E M) (hh : h ≤ 999) (W : SO S) (RA : TRP S S1 E M h F PA a) (no : ∀ ρ s, VS S1.1 S1.2.1 ρ → ¬ tyE B true (Gam S1 ρ E) s) (V : VS S.1 S.2.1 ρ) (y : F true (Gam S ρ E) sa) (y2 : tyE B true (Gam S ρ E) sb) : False := by
  obtain ⟨ρ1, V1, o1, -, -⟩ := RA.2.2.2.2 true ρ _ V y
  refine no ρ1 sb V1 ?_
  rw [TRes.gam2 I hh W RA.1 V V1 o1]; exact y2
theorem DRes.no {S S1 : TS} {PA : Int → Prop} {s0 sb : GT} {ρ : Int → GT} (I : EnvI S h E M) (hh : h ≤ 999) (W : SO S) (DA : DRes S S1 E M h A PA s0) (no : ∀ ρ, VS S1.1 S1.2.1 ρ → ¬ tyE B true (Gam S1 ρ E) sb) (V : VS S.1 S.2.1 ρ) (y : tyE A true (Gam S ρ E) s0) (y2 : tyE B true (Gam S ρ E) sb) : False := by
  obtain ⟨ρ1, V1, o1, -⟩ := DA.2.2.2 true ρ V y
  refine no ρ1 V1 ?_
  rw [TRes.gam2 I hh W DA.1 V V1 o1]; exact y2
/-- the types of a part's nodes later -/
theorem tyN_cg {T : Tr} {m : Int} (e : ∀ x, iT σ T m x → σ2 19 x = σ1 19 x) : tyN σ σ1 T m = tyN σ σ2 T m := by
  funext p
  exact propext ⟨fun ⟨x, a, b, c⟩ => ⟨x, a, b, (e x a).trans c⟩, fun ⟨x, a, b, c⟩ => ⟨x, a, b, (e x a).symm.trans c⟩⟩
theorem tyN_fr {T : Tr} {m : Int} (f : frCk σ σ1) : tyN σ1 σ2 T m = tyN σ σ2 T m := by
  unfold tyN
  rw [f.it, f.1 7 rfl]
theorem PE_neg (hA : isE A) (pA : PE A) : PE (nd 8 0 A nl nl) := by
  have w0 : rwl A + 1 ≤ rwl (nd 8 0 A nl nl) := by
    have := (up_ge (l := 6) (T := A) (r := rwl A)).1
    show rwl A + 1 ≤ 1 + up 6 A (rwl A)
    omega
  have wA := rwl_0 (T := A)
  refine PE.whole hA (by decide) (by omega) (fun kk d n x h σ E M hkk t hc G I hcl b => ?_)
  obtain ⟨b1, b2, b3, b4⟩ := b
  have n0 := t.1
  have tA := t.2.2.2.1
  have tA : isT σ 5 0 (σ 5 7) A (σ 11 n) := tA
  have e7 : rowv 128 σ 7 n = 8 := (row_at n0 hc).trans t.2.1
  have e11 : rowv 128 σ 11 n = σ 11 n := row_at n0 hc
  have rn : rg n := ⟨by omega, by omega⟩
  have rx : rg x := ⟨by omega, by omega⟩
  have hcA : clo A (inE E) = true := by
    rw [clo_nd] at hcl
    simpa [clo_nl] using hcl
  obtain ⟨a, σ1, R1, ga, O⟩ := pA (kk - 1) d (σ 11 n) (x + 1) h σ E M (by omega) tA hc G I hcA ⟨by omega, by omega, by omega, by omega, by omega⟩
  have so := I.1.so
  have mk : ∀ {σ2 : Mem}, Rn (4 * kk + d + 98) yCk_demand [.ref 49, vi a, vi 2] σ1 none σ2 → Rn (4 * kk + d + 99) yCk_inferWhole [.ref 49, vi n, vi x] σ (some 2) σ2 := fun {σ2} R2 => by
    refine M_Ck_inferWhole (d := 4 * kk + d + 95) rn rx ?_
    unfold B_Ck_inferWhole
    rw [e7, if_pos rfl, e11]
    exact ⟨a, σ1, R1.deep (by omega), σ2, R2, rfl, rfl⟩
  rcases O with ⟨X, no⟩ | ⟨Gd, cb, RA⟩
  · refine ⟨2, σ1, mk ((s_demand_ill (d := 4 * kk + d + 94) X.2.1 ga (rgk rfl))), rgk rfl, X.c (fun ρ s V y => no ρ _ V y.2.1)⟩
  · have I1 := CkG.next (P := fun _ => True) I (by omega) Gd RA.1
    have b2' := I1.1.bs.2.2
    obtain ⟨σ2, R2, D⟩ := s_dem (d := 4 * kk + d + 5) I1.1 I1.2.2.2.2.2 (a := a) (b := 2) RA.2.1.1 b2'.1
    refine ⟨2, σ2, mk (R2.deep (by omega)), rgk rfl, ?_⟩
    rcases D with ⟨F, T2, u, c5, uV⟩ | ⟨X, no⟩
    · have DA := TR_dem I.2.1 RA b2' (u h) uV
      refine Or.inr ⟨Gd.tr (demG I1 F T2) (fun x q => Or.inr (Or.inl q)) (fun x q => q.elim), by omega, TRP.P (DR_neg DA I.1.bs.2.2) (fun p => ?_)⟩
      rw [tyN_cg (σ2 := σ2) (fun x _ => by rw [F.oo.2.2.2])]
      unfold ptN
      exact or_congr ⟨fun q => Or.inl q, fun q => by rcases q with q | q | q; exact q; exact (tyN_nl q).elim; exact (tyN_nl q).elim⟩ Iff.rfl
    · exact (Gd.bad X).c (fun ρ s V y => TR_dem_no RA b2' no V y.2.1)
end CNE
