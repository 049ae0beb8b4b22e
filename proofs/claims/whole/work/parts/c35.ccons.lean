/-! The class's checker: list cells, applications. -/
section CCO
variable {σ σ' σ1 σ2 σ3 : Mem} {d : Nat} {h n x r : Int} {E : List (Int × Int)} {M : Int → Prop} {A B C : Tr} {k : Nat} {z : Int}
/-- a step that asks nothing of what was there -/
theorem TRP.ext {S S1 S2 : TS} {F : Bool → Gm → GT → Prop} {P : Int → Prop} {a : Int} (hM : inC S M) (R : TRP S S1 E M h F P a) (s : TSt S1 S2 M h) (cv : ∀ ρ, VS S1.1 S1.2.1 ρ → ∃ ρ', VS S2.1 S2.2.1 ρ' ∧ ∀ n, 0 ≤ n → n < S1.2.1 → ρ' n = ρ n) : TRP S S2 E M h F P a := by
  obtain ⟨xa, ra, ca, sa, ka⟩ := R
  have hR : ∀ m, M m → Res S M h S1 m := fun m q => Res.m xa.2.1 hM q
  have l := s.2.1.1
  have l1 := xa.2.1.1
  refine ⟨xa.tr s hR, ra.up s.2.1 xa.2.1.1 hR, fun p q => by have := ca p q; omega, fun ρ V => sa ρ (s.2.2 ρ V), fun w ρ t V y => ?_⟩
  obtain ⟨ρ1, V1, o1, e1, w1⟩ := ka w ρ t V y
  obtain ⟨ρ2, V2, o2⟩ := cv ρ1 V1
  exact ⟨ρ2, V2, fun n p q => (o2 n p (by omega)).trans (o1 n p q), (o2 a ra.1.1 ra.1.2).trans e1, fun e p q => by
    have := ca p q
    rw [o2 p this.1 this.2]; exact w1 e p q⟩
theorem PE_cons (hA : isE A) (hB : isE B) (pA : PE A) (pB : PE B) : PE (nd 10 0 A B nl) := by
  have w0 : rwl A + rwl B + 1 ≤ rwl (nd 10 0 A B nl) := by
    have := (up_ge (l := 2) (T := A) (r := rwl A)).1
    have := (up_ge (l := 1) (T := B) (r := rwl B)).1
    show rwl A + rwl B + 1 ≤ 1 + up 2 A (rwl A) + up 1 B (rwl B)
    omega
  have wA := rwl_0 (T := A)
  have wB := rwl_0 (T := B)
  refine PE.whole hA (by decide) (by omega) (fun kk d n x h σ E M hkk t hc G I hcl b => ?_)
  obtain ⟨b1, b2, b3, b4⟩ := b
  have n0 := t.1
  have tA : isT σ 5 0 (σ 5 7) A (σ 11 n) := t.2.2.2.1
  have tB : isT σ 5 0 (σ 5 7) B (σ 13 n) := t.2.2.2.2.1
  have e7 : rowv 128 σ 7 n = 10 := (row_at n0 hc).trans t.2.1
  have e11 : rowv 128 σ 11 n = σ 11 n := row_at n0 hc
  have e13 : rowv 128 σ 13 n = σ 13 n := row_at n0 hc
  have rn : rg n := ⟨by omega, by omega⟩
  have rx : rg x := ⟨by omega, by omega⟩
  have r13 : rg (σ 13 n) := by have := isE_n hB tB; exact ⟨by omega, by omega⟩
  have hcl2 : clo A (inE E) = true ∧ clo B (inE E) = true := by
    rw [clo_nd] at hcl
    simpa [clo_nl] using hcl
  have mk : ∀ {a l b : Int} {σ1 σ2 σ3 σ4 : Mem}, Rn (4 * kk + d + 98) yCk_infer [.ref 49, vi (σ 11 n), vi (x + 1)] σ (some a) σ1 → Rn (4 * kk + d + 98) yTy_list [.ref 38, vi a] σ1 (some l) σ2 → frCk σ σ2 → Rn (4 * kk + d + 98) yCk_infer [.ref 49, vi (σ 13 n), vi (x + 1)] σ2 (some b) σ3 → Rn (4 * kk + d + 98) yCk_demand [.ref 49, vi b, vi l] σ3 none σ4 → Rn (4 * kk + d + 99) yCk_inferWhole [.ref 49, vi n, vi x] σ (some l) σ4 := fun {a l b σ1 σ2 σ3 σ4} R1 R2 f2 R3 R4 => by
    refine M_Ck_inferWhole (d := 4 * kk + d + 95) rn rx ?_
    unfold B_Ck_inferWhole
    rw [e7, if_neg (by decide), if_neg (by decide), if_pos rfl, e11]
    exact ⟨a, σ1, R1, l, σ2, R2, b, σ3, by rw [f2.row (i := 13) rfl, e13]; exact R3, σ4, R4, rfl, rfl⟩
  have dm : ∀ {σ : Mem} {a l : Int}, σ 49 6 ≠ 0 → rg a → rg l → Rn (4 * kk + d + 98) yCk_demand [.ref 49, vi a, vi l] σ none σ := fun q g g' => s_demand_ill (d := 4 * kk + d + 94) q g g'
  have ni : ∀ {σ1 : Mem}, σ1 49 6 ≠ 0 → Rn (4 * kk + d + 98) yCk_infer [.ref 49, vi (σ 13 n), vi (x + 1)] σ1 (some (-1)) σ1 := fun q => infer_ill (d := 4 * kk + d + 94) r13 ⟨by omega, by omega⟩ q
  obtain ⟨a, σ1, R1, ga, O⟩ := pA (kk - 1) d (σ 11 n) (x + 1) h σ E M (by omega) tA hc G I hcl2.1 ⟨by omega, by omega, by omega, by omega, by omega⟩
  have R1 : Rn (4 * kk + d + 98) yCk_infer [.ref 49, vi (σ 11 n), vi (x + 1)] σ (some a) σ1 := R1.deep (by omega)
  have so := I.1.so
  rcases O with ⟨X, no⟩ | ⟨Gd, cb, RA⟩
  · obtain ⟨l, σ2, R2, gl, F, c⟩ := list_any (d := 4 * kk + d + 93) (σ := σ1) ga X.2.2.2.2
    have X2 := X.ft F c
    exact ⟨l, σ2, mk R1 R2 X2.1 (ni X2.2.1) (dm X2.2.1 (rgk rfl) gl), gl, X2.c (fun ρ s V y => by obtain ⟨-, a', y2, -⟩ := y; exact no ρ _ V y2)⟩
  have I1 := CkG.next (P := fun _ => True) I (by omega) Gd RA.1
  have ra : 0 ≤ a ∧ a < σ1 38 5 := RA.2.1.1
  have c01 := I1.1.1.2.1
  obtain ⟨σ2, R2, F, T2, e2, c5⟩ := c_list (d := 4 * kk + d + 93) I1.1 (by omega) ra
  have n2 : nwT (tS σ1) (4, a, 0) := Or.inr (Or.inl ⟨rfl, ra⟩)
  have c1 : 0 ≤ (tS σ1).2.1 := by show 0 ≤ σ1 38 5; omega
  have s2 : TSt (tS σ1) (tS σ2) M h := by rw [e2]; exact ad_S I1.1.so c1 n2 (fun q => absurd q (by show ¬ (4 : Int) = 0; decide))
  have RA2 := RA.ext I.2.1.1 s2 (fun ρ V => by
    obtain ⟨ρ', V', o, -⟩ := ad_x (lv := -1) I1.1.so c1 n2 V _ (Or.inr (Or.inl ⟨rfl, rfl⟩))
    rw [← e2] at V'
    exact ⟨ρ', V', o⟩)
  have G2 : CkG σ σ2 E (iT σ A (σ 11 n)) := Gd.tr (demG I1 F T2) (fun x q => q) (fun x q => q.elim)
  have I2 := CkG.next (P := fun _ => True) I (by omega) G2 RA2.1
  have f2 := G2.1
  obtain ⟨b, σ3, R3, gb, O⟩ := pB (kk - 1) d (σ 13 n) (x + 1) h σ2 E M (by omega) (f2.is tB) (by rw [f2.tre.1]; exact hc) (f2.pp G) I2 hcl2.2 ⟨by omega, by omega, by omega, by omega, by omega⟩
  have R3 : Rn (4 * kk + d + 98) yCk_infer [.ref 49, vi (σ 13 n), vi (x + 1)] σ2 (some b) σ3 := R3.deep (by omega)
  have gl : rg (σ1 38 5) := ⟨by omega, by omega⟩
  rcases O with ⟨X, no⟩ | ⟨Gd3, cb3, RB⟩
  · have X' := G2.bad X
    exact ⟨_, σ3, mk R1 R2 f2 R3 (dm X.2.1 gb gl), gl, X'.c (fun ρ s V y => by
      obtain ⟨-, a', y2, -, y4⟩ := y
      exact TRP.no I.2.1 (by omega) so RA2 no V y2 y4)⟩
  have I3 := CkG.next (P := fun _ => True) I2 (by omega) Gd3 RB.1
  have l3 := RB.1.2.1.1
  have l3 : σ2 38 5 ≤ σ3 38 5 := l3
  obtain ⟨σ4, R4, D⟩ := s_dem (d := 4 * kk + d + 5) I3.1 I3.2.2.2.2.2 (a := b) (b := σ1 38 5) RB.2.1.1 ⟨by omega, by omega⟩
  have R4 : Rn (4 * kk + d + 98) yCk_demand [.ref 49, vi b, vi (σ1 38 5)] σ3 none σ4 := R4
  rcases D with ⟨F4, T4, u4, c54, uV4⟩ | ⟨X, no⟩
  rotate_left
  · have X' := G2.bad (Gd3.bad X)
    exact ⟨_, σ4, mk R1 R2 f2 R3 R4, gl, X'.c (fun ρ s V y => TR_cons_no I.2.1 (by omega) so hB RA (by show 0 ≤ σ 38 5; have := I.1.1.2.1; omega) e2 RB no s V y)⟩
  have G4 := (G2.tr Gd3 (Z := iT σ (nd 10 0 A B nl) n) (fun x q => Or.inr (Or.inl q)) (fun x q => Or.inr (Or.inr (Or.inl (by rw [f2.it] at q; exact q))))).tr (demG I3 F4 T4) (Z := iT σ (nd 10 0 A B nl) n) (fun x q => q) (fun x q => q.elim)
  have e19 := F4.oo.2.2.2
  have o3 := Gd3.2.2.2.2.2.2
  rw [f2.it] at o3
  refine ⟨σ1 38 5, σ4, mk R1 R2 f2 R3 R4, gl, Or.inr ⟨G4, by omega, TRP.P (TR_cons I.2.1 (by omega) so RA (by show 0 ≤ σ 38 5; have := I.1.1.2.1; omega) e2 RB (u4 h) uV4) (fun p => ?_)⟩⟩
  refine ptN_2 (σ1 := σ1) (σ2 := σ2) (σ3 := σ3) (σ' := σ4) (P := fun p => p = σ1 38 5) t G f2 (fun x q => ?_) (fun x _ => by rw [e19]) (fun x _ => by rw [e19]) p
  rw [o3 x q, F.oo.2.2.2]
theorem PE_app (hA : isE A) (hB : isE B) (hw : 1 ≤ rwl A ∧ 1 ≤ rwl B) (pA : PE A) (pB : PE B) : PE (nd 11 0 A B nl) := by
  have w0 : rwl A + rwl B ≤ rwl (nd 11 0 A B nl) := by
    have := (up_ge (l := 5) (T := A) (r := rwl A)).1
    have := (up_ge (l := 6) (T := B) (r := rwl B)).1
    show rwl A + rwl B ≤ up 5 A (rwl A) + up 6 B (rwl B)
    omega
  refine PE.whole hA (by decide) (by omega) (fun kk d n x h σ E M hkk t hc G I hcl b => ?_)
  obtain ⟨b1, b2, b3, b4⟩ := b
  have n0 := t.1
  have tA : isT σ 5 0 (σ 5 7) A (σ 11 n) := t.2.2.2.1
  have tB : isT σ 5 0 (σ 5 7) B (σ 13 n) := t.2.2.2.2.1
  have e7 : rowv 128 σ 7 n = 11 := (row_at n0 hc).trans t.2.1
  have e11 : rowv 128 σ 11 n = σ 11 n := row_at n0 hc
  have e13 : rowv 128 σ 13 n = σ 13 n := row_at n0 hc
  have rn : rg n := ⟨by omega, by omega⟩
  have rx : rg x := ⟨by omega, by omega⟩
  have r13 : rg (σ 13 n) := by have := isE_n hB tB; exact ⟨by omega, by omega⟩
  have hcl2 : clo A (inE E) = true ∧ clo B (inE E) = true := by
    rw [clo_nd] at hcl
    simpa [clo_nl] using hcl
  have mk : ∀ {a b v l lv : Int} {σ1 σ2 σ3 σ4 σ5 : Mem}, Rn (4 * kk + d + 98) yCk_infer [.ref 49, vi (σ 11 n), vi (x + 1)] σ (some a) σ1 → frCk σ σ1 → Rn (4 * kk + d + 98) yCk_infer [.ref 49, vi (σ 13 n), vi (x + 1)] σ1 (some b) σ2 → σ2 49 5 = lv → Rn (4 * kk + d + 98) yTy_fresh [.ref 38, vi lv] σ2 (some v) σ3 → Rn (4 * kk + d + 98) yTy_arrow [.ref 38, vi b, vi v] σ3 (some l) σ4 → Rn (4 * kk + d + 98) yCk_demand [.ref 49, vi a, vi l] σ4 none σ5 → Rn (4 * kk + d + 99) yCk_inferWhole [.ref 49, vi n, vi x] σ (some v) σ5 := fun {a b v l lv σ1 σ2 σ3 σ4 σ5} R1 f1 R2 hl R3 R4 R5 => by
    refine M_Ck_inferWhole (d := 4 * kk + d + 95) rn rx ?_
    unfold B_Ck_inferWhole
    rw [e7, if_neg (by decide), if_neg (by decide), if_neg (by decide), if_pos rfl, e11]
    exact ⟨a, σ1, R1, b, σ2, by rw [f1.row (i := 13) rfl, e13]; exact R2, v, σ3, by rw [hl]; exact R3, l, σ4, R4, σ5, R5, rfl, rfl⟩
  have dm : ∀ {σ : Mem} {a l : Int}, σ 49 6 ≠ 0 → rg a → rg l → Rn (4 * kk + d + 98) yCk_demand [.ref 49, vi a, vi l] σ none σ := fun q g g' => s_demand_ill (d := 4 * kk + d + 94) q g g'
  have ni : ∀ {σ1 : Mem}, σ1 49 6 ≠ 0 → Rn (4 * kk + d + 98) yCk_infer [.ref 49, vi (σ 13 n), vi (x + 1)] σ1 (some (-1)) σ1 := fun q => infer_ill (d := 4 * kk + d + 94) r13 ⟨by omega, by omega⟩ q
  have rh : rg h := ⟨by omega, by omega⟩
  have h5 : σ 49 5 = h := I.2.2.2.2.1
  -- what is made behind a wrong type
  have tail : ∀ {σ2 : Mem} {a b : Int}, CkX σ σ2 → rg a → rg b → ∃ v l σ3 σ4, Rn (4 * kk + d + 98) yTy_fresh [.ref 38, vi h] σ2 (some v) σ3 ∧ Rn (4 * kk + d + 98) yTy_arrow [.ref 38, vi b, vi v] σ3 (some l) σ4 ∧ Rn (4 * kk + d + 98) yCk_demand [.ref 49, vi a, vi l] σ4 none σ4 ∧ rg v ∧ CkX σ σ4 := fun {σ2 a b} X ga gb => by
    obtain ⟨v, σ3, R3, gv, F, c⟩ := fresh_any (d := 4 * kk + d + 93) (σ := σ2) rh X.2.2.2.2
    have X3 := X.ft F c
    obtain ⟨l, σ4, R4, gl, F4, c4⟩ := arrow_any (d := 4 * kk + d + 93) (σ := σ3) gb gv X3.2.2.2.2
    have X4 := X3.ft F4 c4
    exact ⟨v, l, σ3, σ4, R3, R4, dm X4.2.1 ga gl, gv, X4⟩
  obtain ⟨a, σ1, R1, ga, O⟩ := pA (kk - 1) d (σ 11 n) (x + 1) h σ E M (by omega) tA hc G I hcl2.1 ⟨by omega, by omega, by omega, by omega, by omega⟩
  have R1 : Rn (4 * kk + d + 98) yCk_infer [.ref 49, vi (σ 11 n), vi (x + 1)] σ (some a) σ1 := R1.deep (by omega)
  have so := I.1.so
  have c0 : 0 ≤ (tS σ).2.1 := by show 0 ≤ σ 38 5; have := I.1.1.2.1; omega
  rcases O with ⟨X, no⟩ | ⟨Gd, cb, RA⟩
  · obtain ⟨v, l, σ3, σ4, R3, R4, R5, gv, X4⟩ := tail (a := a) (b := -1) X ga (rgk rfl)
    exact ⟨v, σ4, mk R1 X.1 (ni X.2.1) (X.2.2.2.1.trans h5) R3 R4 R5, gv, X4.c (fun ρ s V y => by obtain ⟨-, a', y2, -⟩ := y; exact no ρ _ V y2)⟩
  have I1 := CkG.next (P := fun _ => True) I (by omega) Gd RA.1
  have f1 := Gd.1
  obtain ⟨b, σ2, R2, gb, O⟩ := pB (kk - 1) d (σ 13 n) (x + 1) h σ1 E M (by omega) (f1.is tB) (by rw [f1.tre.1]; exact hc) (f1.pp G) I1 hcl2.2 ⟨by omega, by omega, by omega, by omega, by omega⟩
  have R2 : Rn (4 * kk + d + 98) yCk_infer [.ref 49, vi (σ 13 n), vi (x + 1)] σ1 (some b) σ2 := R2.deep (by omega)
  rcases O with ⟨X, no⟩ | ⟨Gd2, cb2, RB⟩
  · have X' := Gd.bad X
    obtain ⟨v, l, σ3, σ4, R3, R4, R5, gv, X4⟩ := tail (a := a) (b := b) X' ga gb
    exact ⟨v, σ4, mk R1 f1 R2 (X'.2.2.2.1.trans h5) R3 R4 R5, gv, X4.c (fun ρ s V y => by
      obtain ⟨-, a', y2, y3⟩ := y
      exact TRP.no I.2.1 (by omega) so RA no V y2 y3)⟩
  have I2 := CkG.next (P := fun _ => True) I1 (by omega) Gd2 RB.1
  have G2 := Gd.tr Gd2 (Z := iT σ (nd 11 0 A B nl) n) (fun x q => Or.inr (Or.inl q)) (fun x q => Or.inr (Or.inr (Or.inl (by rw [f1.it] at q; exact q))))
  have ra : 0 ≤ a ∧ a < σ1 38 5 := RA.2.1.1
  have rb : 0 ≤ b ∧ b < σ2 38 5 := RB.2.1.1
  have l2 : σ1 38 5 ≤ σ2 38 5 := RB.1.2.1.1
  have c02 := I2.1.1.2.1
  obtain ⟨σ3, R3, F3, T3, e3, c3⟩ := c_fresh (d := 4 * kk + d + 93) I2.1 (by omega) (h := h) ⟨by omega, by omega⟩
  obtain ⟨σ4, R4, F4, T4, e4, c4⟩ := c_arrow (d := 4 * kk + d + 93) T3 (by omega) (a := b) (b := σ2 38 5) ⟨by omega, by omega⟩ ⟨by omega, by omega⟩
  have i3 := F3.oo.1
  have i4 := F4.oo.1
  have G3 := G2.tr (demG I2 F3 T3) (Z := iT σ (nd 11 0 A B nl) n) (fun x q => q) (fun x q => q.elim)
  obtain ⟨σ5, R5, D⟩ := s_dem (d := 4 * kk + d + 5) T4 (by rw [i4, i3]; exact I2.2.2.2.2.2) (a := a) (b := σ3 38 5) ⟨by omega, by omega⟩ ⟨by omega, by omega⟩
  have R5 : Rn (4 * kk + d + 98) yCk_demand [.ref 49, vi a, vi (σ3 38 5)] σ4 none σ5 := R5
  have gv : rg (σ2 38 5) := ⟨by omega, by omega⟩
  have run := mk R1 f1 R2 I2.2.2.2.2.1 R3 R4 R5
  obtain ⟨p1, p2, p3, p4⟩ := F3.oo
  obtain ⟨q1, q2, q3, q4⟩ := F4.oo
  have G4 : CkG σ σ4 E (iT σ (nd 11 0 A B nl) n) := G2.tr (CkG.ft I2 (F3.fk.tr F4.fk) T4 (q1.trans p1) (q2.trans p2) (q3.trans p3) (q4.trans p4) (X := fun _ => False)) (fun x q => q) (fun x q => q.elim)
  rcases D with ⟨F5, T5, u5, c55, uV5⟩ | ⟨X, no⟩
  rotate_left
  · exact ⟨_, σ5, run, gv, (G4.bad X).c (fun ρ s V y => TR_app_no I.2.1 (by omega) so c0 hA RA RB e3 e4 no s V y)⟩
  obtain ⟨s1, s2, s3, s4⟩ := F5.oo
  have G5 : CkG σ σ5 E (iT σ (nd 11 0 A B nl) n) := G2.tr (CkG.ft I2 ((F3.fk.tr F4.fk).tr F5.fk) T5 (s1.trans (q1.trans p1)) (s2.trans (q2.trans p2)) (s3.trans (q3.trans p3)) (s4.trans (q4.trans p4)) (X := fun _ => False)) (fun x q => q) (fun x q => q.elim)
  have e19 : σ5 19 = σ2 19 := s4.trans (q4.trans p4)
  have o2 := Gd2.2.2.2.2.2.2
  rw [f1.it] at o2
  refine ⟨σ2 38 5, σ5, run, gv, Or.inr ⟨G5, by omega, TRP.P (TR_app I.2.1 (by omega) so c0 RA RB e3 e4 (u5 h) uV5) (fun p => ?_)⟩⟩
  exact ptN_2 (σ1 := σ1) (σ2 := σ1) (σ3 := σ2) (σ' := σ5) (P := fun p => p = σ2 38 5) t G f1 (fun x q => o2 x q) (fun x _ => by rw [e19]) (fun x _ => by rw [e19]) p
end CCO
