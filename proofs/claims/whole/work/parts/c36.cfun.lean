/-! The class's checker: functions; a name with its types. -/
section CFU
variable {σ σ' σ1 σ2 σ3 : Mem} {d : Nat} {h n x r : Int} {E : List (Int × Int)} {M : Int → Prop} {A B C : Tr} {k : Nat} {z : Int}
theorem inE_c {m : Int} : inE ((z, m) :: E) = adde (inE E) z := by
  funext c
  show (decide (z = c) || E.any (fun e => decide (e.1 = c))) = (decide (c = z) || E.any (fun e => decide (e.1 = c)))
  rw [decide_eq_decide.mpr (eq_comm (a := z) (b := c))]
theorem gam_fn {S S1 : TS} {t : Int} (I : EnvI S h E M) (hh : h ≤ 999) (W : SO S) (c0 : 0 ≤ S.2.1) (e1 : S1 = adT S (0, -1, t) h) {ρ : Int → GT} (V : VS S1.1 S1.2.1 ρ) : (TSt S S1 M h ∧ lO S1 h S.2.1 ∧ S1.2.1 = S.2.1 + 1) ∧ Gam S1 ρ ((z, S.2.1) :: E) = (z, is1 (ρ S.2.1)) :: Gam S ρ E := by
  have s1 : TSt S S1 M h := by rw [e1]; exact ad_S W c0 nw_fr (fun _ => by omega)
  have c1 : S1.2.1 = S.2.1 + 1 := by rw [e1]; rfl
  have rp : Res S M h S1 S.2.1 := by rw [e1]; exact fresh_r (S1 := S) XE.rf c0
  have lp := rp.2.2.2 I.2.1
  refine ⟨⟨s1, lp, c1⟩, ?_⟩
  show (z, fun s => Den S1 S.2.1 ρ s) :: Gam S1 ρ E = _
  rw [TRes.gam I hh W s1 V]
  refine congrArg (fun D : GT → Prop => (z, D) :: Gam S ρ E) ?_
  funext s
  exact propext (den_1 s1.1 V c0 (by omega) (lO_mono lp hh) s)
theorem TR_fun_no {S S1 : TS} {t : Int} {ρ : Int → GT} (I : EnvI S h E M) (hh : h ≤ 999) (W : SO S) (c0 : 0 ≤ S.2.1) (e1 : S1 = adT S (0, -1, t) h) (a : GT) (V : VS S.1 S.2.1 ρ) : ∃ ρ', VS S1.1 S1.2.1 ρ' ∧ (∀ n, 0 ≤ n → n < S.2.1 → ρ' n = ρ n) ∧ ρ' S.2.1 = a ∧ Gam S1 ρ' ((z, S.2.1) :: E) = (z, is1 a) :: Gam S ρ E := by
  obtain ⟨ρ1, V1, o1, ep⟩ := ad_x (lv := h) W c0 (nw_fr (t := t)) V a (Or.inl ⟨rfl, by show (-1 : Int) < 0; decide⟩)
  rw [← e1] at V1
  obtain ⟨⟨s1, -, -⟩, g⟩ := gam_fn (z := z) I hh W c0 e1 V1
  refine ⟨ρ1, V1, o1, ep, ?_⟩
  rw [g, ep, Gam_cg I W V (s1.2.2 _ V1) (fun m q => o1 m (I.1 m q).1 (I.1 m q).2)]
/-- a name is entered -/
theorem c_enter (I : CkI σ E M h) (T1 : TI σ1) (f : frCk σ σ1) (ec : envC σ1 E) (h4 : σ1 49 4 = E.length) (h5 : σ1 49 5 = h) (h6 : σ1 49 6 = 0) {z m : Int} {M' : Int → Prop} (hz : rg z) (hm : rg m) (hl : E.length < 64) (I' : EnvI (tS σ1) h ((z, m) :: E) M') : ∃ σ2, Rn (d + 4) yCk_enter [.ref 49, vi z, vi m] σ1 none σ2 ∧ frCk σ σ2 ∧ CkI σ2 ((z, m) :: E) M' h ∧ σ2 19 = σ1 19 ∧ tS σ2 = tS σ1 ∧ σ2 38 5 = σ1 38 5 ∧ ∀ i, i ≠ 49 → i ≠ 51 → i ≠ 53 → σ2 i = σ1 i := by
  obtain ⟨σ2, R, ec2, c4, k4, o, -⟩ := s_enter (d := d) hz hm ec h4 hl
  have oo : ∀ i, i ≠ 49 → i ≠ 51 → i ≠ 53 → σ2 i = σ1 i := fun i a b c => o i a b c
  obtain ⟨T2, e2⟩ := T1.cg (σ' := σ2) (oo 40 (by decide) (by decide) (by decide)) (oo 42 (by decide) (by decide) (by decide)) (oo 44 (by decide) (by decide) (by decide)) (by rw [oo 38 (by decide) (by decide) (by decide)])
  refine ⟨σ2, R, f.tr ⟨fun i hi => ?_, fun x _ => by rw [oo 19 (by decide) (by decide) (by decide)]⟩, ⟨T2, by rw [e2]; exact I', ec2, by rw [c4, List.length_cons]; omega, by rw [k4 5 (by decide)]; exact h5, by rw [k4 6 (by decide)]; exact h6⟩, oo 19 (by decide) (by decide) (by decide), e2, by rw [oo 38 (by decide) (by decide) (by decide)], oo⟩
  obtain ⟨-, -, -, -, -, -, -, a, b, c⟩ := ckP_no hi
  exact oo i a b c
theorem PE_fun (hz : ltZ z) (hA : isE A) (pA : PE A) : PE (nd 12 z A nl nl) := by
  have w0 : rwl (nd 12 z A nl nl) = 3 + rwl A := rfl
  have wA := rwl_0 (T := A)
  refine PE.whole hA (by decide) (by omega) (fun kk d n x h σ E M hkk t hc G I hcl b => ?_)
  obtain ⟨b1, b2, b3, b4⟩ := b
  have n0 := t.1
  have tA : isT σ 5 0 (σ 5 7) A (σ 11 n) := t.2.2.2.1
  have e7 : rowv 128 σ 7 n = 12 := (row_at n0 hc).trans t.2.1
  have e9 : rowv 128 σ 9 n = z := (row_at n0 hc).trans t.2.2.1
  have e11 : rowv 128 σ 11 n = σ 11 n := row_at n0 hc
  have rn : rg n := ⟨by omega, by omega⟩
  have rx : rg x := ⟨by omega, by omega⟩
  have rz : rg z := by unfold ltZ at hz; exact ⟨by omega, by omega⟩
  have so := I.1.so
  have c0' := I.1.1.2.1
  have c0 : 0 ≤ (tS σ).2.1 := by show 0 ≤ σ 38 5; omega
  obtain ⟨σ1, R1, F1, T1, e1, c1⟩ := c_fresh (d := 4 * kk + d + 93) I.1 (by omega) (h := h) ⟨by omega, by omega⟩
  have G1 := demG I F1 T1
  obtain ⟨ρ0, V0⟩ := T1.1.2.2.2.2.2
  obtain ⟨⟨s1, lp, -⟩, -⟩ := gam_fn (z := z) I.2.1 (by omega) so c0 e1 V0
  have I1 := I.2.1.up (by omega) so s1.2.1
  have gp : rg (σ 38 5) := ⟨by omega, by omega⟩
  have en := I1.fn (z := z) (p := σ 38 5) ⟨by omega, by show σ 38 5 < σ1 38 5; omega⟩ lp
  obtain ⟨σ2, R2, f2, I2, e19, es, c2, oo⟩ := c_enter (d := 4 * kk + d + 94) I T1 G1.1 G1.2.2.1 (G1.2.2.2.1.trans I.2.2.2.1) (G1.2.2.2.2.1.trans I.2.2.2.2.1) G1.2.2.2.2.2.1 rz gp (by omega) en
  have hcA : clo A (inE ((z, σ 38 5) :: E)) = true := by
    rw [clo_nd] at hcl
    rw [inE_c]
    simpa using hcl
  have el : (((z, σ 38 5) :: E).length : Int) = E.length + 1 := by rw [List.length_cons]; omega
  obtain ⟨b, σ3, R3, gb, O⟩ := pA (kk - 1) d (σ 11 n) (x + 1) h σ2 ((z, σ 38 5) :: E) _ (by omega) (f2.is tA) (by rw [f2.tre.1]; exact hc) (f2.pp G) I2 hcA ⟨by omega, by omega, by omega, by omega, by omega⟩
  have R3 : Rn (4 * kk + d + 98) yCk_infer [.ref 49, vi (σ 11 n), vi (x + 1)] σ2 (some b) σ3 := R3.deep (by omega)
  have mk : ∀ {l : Int} {σ4 : Mem}, σ3 49 4 = E.length + 1 → Rn (4 * kk + d + 98) yTy_arrow [.ref 38, vi (σ 38 5), vi b] (mup σ3 49 4 E.length) (some l) σ4 → Rn (4 * kk + d + 99) yCk_inferWhole [.ref 49, vi n, vi x] σ (some l) σ4 := fun {l σ4} h4 R4 => by
    refine M_Ck_inferWhole (d := 4 * kk + d + 95) rn rx ?_
    unfold B_Ck_inferWhole
    rw [e7, if_neg (by decide), if_neg (by decide), if_neg (by decide), if_neg (by decide), if_pos rfl]
    refine ⟨_, σ1, by rw [I.2.2.2.2.1]; exact R1, σ2, by rw [G1.1.row (i := 9) rfl, e9]; exact R2, b, σ3, by rw [f2.row (i := 11) rfl, e11]; exact R3, ⟨by omega, by omega⟩, l, σ4, ?_, rfl, rfl⟩
    rw [show σ3 49 4 - 1 = (E.length : Int) by omega]
    exact R4
  have i4 : σ2 49 4 = E.length + 1 := by rw [I2.2.2.2.1]; exact el
  rcases O with ⟨X, no⟩ | ⟨Gd, cb, RA⟩
  · obtain ⟨f, a6, a4, a5, ca⟩ := X
    obtain ⟨l, σ4, R4, gl, F4, c4⟩ := arrow_any (d := 4 * kk + d + 93) (σ := mup σ3 49 4 E.length) gp gb (by rw [mup_ne (by decide)]; exact ca)
    have X3 : CkX σ (mup σ3 49 4 E.length) := ⟨(f2.tr f).tr (frCk.mu rfl), by rw [mup_nk (by decide)]; exact a6, by rw [mup_eq]; exact I.2.2.2.1.symm, by rw [mup_nk (by decide), a5, I2.2.2.2.2.1]; exact I.2.2.2.2.1.symm, by rw [mup_ne (by decide)]; exact ca⟩
    refine ⟨l, σ4, mk (a4.trans i4) R4, gl, (X3.ft F4 c4).c (fun ρ s V y => ?_)⟩
    obtain ⟨-, a, b', -, y3⟩ := y
    obtain ⟨ρ1, V1, -, -, eg⟩ := TR_fun_no (z := z) I.2.1 (by omega) so c0 e1 a V
    unfold noT at no
    rw [es] at no
    refine no ρ1 b' V1 ?_
    have eg : Gam (tS σ1) ρ1 ((z, σ 38 5) :: E) = _ := eg
    rw [eg]; exact y3
  · obtain ⟨f, T3, ec3, a4, a5, a6, o19⟩ := Gd
    rw [es] at RA
    have rb : 0 ≤ b ∧ b < σ3 38 5 := RA.2.1.1
    have l3 : σ1 38 5 ≤ σ3 38 5 := RA.1.2.1.1
    have om : ∀ {i : Nat}, i ≠ 49 → (mup σ3 49 4 E.length) i = σ3 i := fun hi => mup_obj hi
    obtain ⟨T3', e3'⟩ := T3.cg (σ' := mup σ3 49 4 E.length) (om (by decide)) (om (by decide)) (om (by decide)) (by rw [om (by decide)])
    have c35 : (mup σ3 49 4 E.length) 38 5 = σ3 38 5 := by rw [om (by decide)]
    obtain ⟨σ4, R4, F4, T4, e4, c4⟩ := c_arrow (d := 4 * kk + d + 93) T3' (by rw [c35]; omega) (a := σ 38 5) (b := b) (by rw [c35]; omega) (by rw [c35]; exact rb)
    rw [e3'] at e4
    rw [c35] at c4 R4
    obtain ⟨p1, p2, p3, p4⟩ := F4.oo
    have gl : rg (σ3 38 5) := ⟨by omega, by omega⟩
    have e194 : σ4 19 = σ3 19 := p4.trans (om (by decide))
    have o3 : ∀ x, ¬ iT σ A (σ 11 n) x → σ3 19 x = σ 19 x := fun x q => by
      rw [o19 x (by rw [f2.it]; exact q), e19, F1.oo.2.2.2]
    have G4 : CkG σ σ4 E (iT σ (nd 12 z A nl nl) n) := by
      refine ⟨((f2.tr f).tr (frCk.mu rfl)).tr F4.fk, T4, ec3.2.2.mv (fun i => ⟨by rw [p2, om (by decide)], by rw [p3, om (by decide)]⟩), ?_, ?_, ?_, fun x q => ?_⟩
      · rw [p1, mup_eq]; exact I.2.2.2.1.symm
      · rw [p1, mup_nk (by decide), a5, I2.2.2.2.2.1]; exact I.2.2.2.2.1.symm
      · rw [p1, mup_nk (by decide)]; exact a6
      · rw [e194]; exact o3 x (fun w => q (Or.inr (Or.inl w)))
    refine ⟨σ3 38 5, σ4, mk (a4.trans i4) R4, gl, Or.inr ⟨G4, by omega, TRP.P (TR_fun I.2.1 (by omega) so c0 e1 RA e4) (fun p => ?_)⟩⟩
    refine or_congr ?_ Iff.rfl
    rw [tyN_fr f2, tyN_cg (σ2 := σ4) (fun x _ => by rw [e194])]
    exact ⟨fun q => Or.inl q, fun q => by rcases q with q | q | q; exact q; exact (tyN_nl q).elim; exact (tyN_nl q).elim⟩
end CFU
