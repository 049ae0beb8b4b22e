/-! The class's checker: operations, list cells. -/
section COP
variable {σ σ' σ1 σ2 σ3 : Mem} {d : Nat} {h n x r : Int} {E : List (Int × Int)} {M : Int → Prop} {A B C : Tr} {k : Nat} {z : Int}
theorem frCk.row {i : Nat} (f : frCk σ σ') (hi : ckP i = false) : rowv 128 σ' i n = rowv 128 σ i n := by unfold rowv; rw [f.1 i hi]
theorem or_3 {p q r : Prop} (h : ¬ r) : (p ∨ q) ↔ (p ∨ q ∨ r) := ⟨fun a => by rcases a with a | a; exact Or.inl a; exact Or.inr (Or.inl a), fun a => by rcases a with a | a | a; exact Or.inl a; exact Or.inr a; exact (h a).elim⟩
/-- the types of two parts, as they stand at the end -/
theorem ptN_2 {P : Int → Prop} (t : isT σ 5 0 (σ 5 7) (nd k z A B nl) n) (G : PP σ) (f2 : frCk σ σ2) (eA : ∀ x, ¬ iT σ B (σ 13 n) x → σ3 19 x = σ1 19 x) (eB : ∀ x, iT σ B (σ 13 n) x → σ' 19 x = σ3 19 x) (eA' : ∀ x, iT σ A (σ 11 n) x → σ' 19 x = σ3 19 x) (p : Int) : ((tyN σ σ1 A (σ 11 n) p ∨ tyN σ2 σ3 B (σ 13 n) p) ∨ P p) ↔ (ptN σ σ' A B nl n p ∨ P p) := by
  obtain ⟨s1, -, -⟩ := iT_sep G t
  refine or_congr ?_ Iff.rfl
  rw [tyN_fr f2, tyN_cg (σ2 := σ') (fun x a => (eA' x a).trans (eA x (s1 x a))), tyN_cg (T := B) (σ2 := σ') (fun x a => eB x a)]
  exact or_3 tyN_nl
theorem PE_op (hz : opZ z) (hA : isE A) (hB : isE B) (pA : PE A) (pB : PE B) : PE (nd 9 z A B nl) := by
  have w0 : rwl A + rwl B + 1 ≤ rwl (nd 9 z A B nl) := by
    have := (up_ge (l := lf9 z) (T := A) (r := rwl A)).1
    have := (up_ge (l := rt9 z) (T := B) (r := rwl B)).1
    show rwl A + rwl B + 1 ≤ 1 + up (lf9 z) A (rwl A) + up (rt9 z) B (rwl B)
    omega
  have wA := rwl_0 (T := A)
  have wB := rwl_0 (T := B)
  refine PE.whole hA (by decide) (by omega) (fun kk d n x h σ E M hkk t hc G I hcl b => ?_)
  obtain ⟨b1, b2, b3, b4⟩ := b
  have n0 := t.1
  have tA : isT σ 5 0 (σ 5 7) A (σ 11 n) := t.2.2.2.1
  have tB : isT σ 5 0 (σ 5 7) B (σ 13 n) := t.2.2.2.2.1
  have e7 : rowv 128 σ 7 n = 9 := (row_at n0 hc).trans t.2.1
  have e9 : rowv 128 σ 9 n = z := (row_at n0 hc).trans t.2.2.1
  have e11 : rowv 128 σ 11 n = σ 11 n := row_at n0 hc
  have e13 : rowv 128 σ 13 n = σ 13 n := row_at n0 hc
  have rn : rg n := ⟨by omega, by omega⟩
  have rx : rg x := ⟨by omega, by omega⟩
  have rz : rg z := by unfold opZ at hz; exact ⟨by omega, by omega⟩
  have r13 : rg (σ 13 n) := by have := isE_n hB tB; exact ⟨by omega, by omega⟩
  have hcl2 : clo A (inE E) = true ∧ clo B (inE E) = true := by
    rw [clo_nd] at hcl
    simpa [clo_nl] using hcl
  -- what is demanded, what comes out
  obtain ⟨v, jo, hv, gv, bv, ho⟩ : ∃ v jo : Int, (if z < 128 then v = 0 else v = 2) ∧ rg v ∧ (∀ {σ : Mem}, TI σ → bsN (tS σ) v jo) ∧ opdT z = gK jo := by
    by_cases q : z < 128
    · exact ⟨0, 1, by rw [if_pos q], rgk rfl, fun T => T.bs.1, by unfold opdT; rw [if_neg (by omega)]⟩
    · exact ⟨2, 3, by rw [if_neg q], rgk rfl, fun T => T.bs.2.2, by unfold opdT; rw [if_pos (by omega)]⟩
  obtain ⟨u, w, jr, hw, huw, gw, bw, hr⟩ : ∃ u w jr : Int, (∀ (d : Nat) (σ : Mem), Rn (d + 4) yCk_compares [vi z] σ (some u) σ) ∧ ((u = 0 ∧ w = v) ∨ (u = 1 ∧ w = 1)) ∧ rg w ∧ (∀ {σ : Mem}, TI σ → bsN (tS σ) w jr) ∧ opT z = gK jr := by
    by_cases q : z = 61 ∨ z = 60 ∨ z = 188
    · refine ⟨1, 1, 2, fun d σ => M_Ck_compares rz ?_, Or.inr ⟨rfl, rfl⟩, rgk rfl, fun T => T.bs.2.1, by unfold opT; rw [if_pos q]⟩
      unfold B_Ck_compares B_Ck_compares_19
      by_cases q1 : z = 61
      · rw [if_pos q1]; exact ⟨rfl, rfl⟩
      by_cases q2 : z = 60
      · rw [if_neg q1, if_pos q2]; exact ⟨rfl, rfl⟩
      · rw [if_neg q1, if_neg q2, if_neg (by omega)]; exact ⟨rfl, rfl⟩
    · refine ⟨0, v, jo, fun d σ => M_Ck_compares rz ?_, Or.inl ⟨rfl, rfl⟩, gv, bv, by unfold opT; rw [if_neg q]; exact ho⟩
      unfold B_Ck_compares B_Ck_compares_19
      rw [if_neg (by omega), if_neg (by omega), if_pos (by omega)]; exact ⟨rfl, rfl⟩
  have rv : ∀ (d : Nat) (σ : Mem), Rn (d + 4) yCk_operandOf [vi z] σ (some v) σ := fun d σ => M_Ck_operandOf rz (by
    unfold B_Ck_operandOf
    by_cases q : z < 128
    · rw [if_pos q] at hv ⊢; rw [hv]; exact ⟨rfl, rfl⟩
    · rw [if_neg q] at hv ⊢; rw [hv]; exact ⟨rfl, rfl⟩)
  have mk : ∀ {a b : Int} {σ1 σ2 σ3 σ4 : Mem}, Rn (4 * kk + d + 98) yCk_infer [.ref 49, vi (σ 11 n), vi (x + 1)] σ (some a) σ1 → Rn (4 * kk + d + 98) yCk_demand [.ref 49, vi a, vi v] σ1 none σ2 → frCk σ σ2 → Rn (4 * kk + d + 98) yCk_infer [.ref 49, vi (σ 13 n), vi (x + 1)] σ2 (some b) σ3 → Rn (4 * kk + d + 98) yCk_demand [.ref 49, vi b, vi v] σ3 none σ4 → frCk σ σ4 → Rn (4 * kk + d + 99) yCk_inferWhole [.ref 49, vi n, vi x] σ (some w) σ4 := fun {a b σ1 σ2 σ3 σ4} R1 R2 f2 R3 R4 f4 => by
    refine M_Ck_inferWhole (d := 4 * kk + d + 95) rn rx ?_
    unfold B_Ck_inferWhole
    rw [e7, if_neg (by decide), if_pos rfl, e9]
    refine ⟨v, σ, (rv (4 * kk + d + 94) σ), a, σ1, by rw [e11]; exact R1, σ2, R2, b, σ3, by rw [f2.row (i := 13) rfl, e13]; exact R3, σ4, R4, u, σ4, by rw [f4.row (i := 9) rfl, e9]; exact hw (4 * kk + d + 94) σ4, ?_⟩
    rcases huw with ⟨rfl, rfl⟩ | ⟨rfl, rfl⟩
    · rw [if_pos rfl]; exact ⟨rfl, rfl⟩
    · rw [if_neg (by decide)]; exact ⟨rfl, rfl⟩
  have dm : ∀ {σ : Mem} {a : Int}, σ 49 6 ≠ 0 → rg a → Rn (4 * kk + d + 98) yCk_demand [.ref 49, vi a, vi v] σ none σ := fun q g => s_demand_ill (d := 4 * kk + d + 94) q g gv
  have ni : ∀ {σ1 : Mem}, σ1 49 6 ≠ 0 → Rn (4 * kk + d + 98) yCk_infer [.ref 49, vi (σ 13 n), vi (x + 1)] σ1 (some (-1)) σ1 := fun q => infer_ill (d := 4 * kk + d + 94) r13 ⟨by omega, by omega⟩ q
  obtain ⟨a, σ1, R1, ga, O⟩ := pA (kk - 1) d (σ 11 n) (x + 1) h σ E M (by omega) tA hc G I hcl2.1 ⟨by omega, by omega, by omega, by omega, by omega⟩
  have R1 : Rn (4 * kk + d + 98) yCk_infer [.ref 49, vi (σ 11 n), vi (x + 1)] σ (some a) σ1 := R1.deep (by omega)
  have so := I.1.so
  rcases O with ⟨X, no⟩ | ⟨Gd, cb, RA⟩
  · exact ⟨w, σ1, mk R1 (dm X.2.1 ga) X.1 (ni X.2.1) (dm X.2.1 (rgk rfl)) X.1, gw, X.c (fun ρ s V y => no ρ _ V y.2.1)⟩
  have I1 := CkG.next (P := fun _ => True) I (by omega) Gd RA.1
  obtain ⟨σ2, R2, D⟩ := s_dem (d := 4 * kk + d + 5) I1.1 I1.2.2.2.2.2 (a := a) (b := v) RA.2.1.1 (bv I1.1).1
  have R2 : Rn (4 * kk + d + 98) yCk_demand [.ref 49, vi a, vi v] σ1 none σ2 := R2
  rcases D with ⟨F, T2, u1, c5, uV⟩ | ⟨X, no⟩
  rotate_left
  · have X := Gd.bad X
    exact ⟨w, σ2, mk R1 R2 X.1 (ni X.2.1) (dm X.2.1 (rgk rfl)) X.1, gw, X.c (fun ρ s V y => TR_dem_no RA (bv I1.1) no V (by rw [← ho]; exact y.2.1))⟩
  have DA := TR_dem I.2.1 RA (bv I1.1) (u1 h) uV
  have G2 : CkG σ σ2 E (iT σ A (σ 11 n)) := Gd.tr (demG I1 F T2) (fun x q => q) (fun x q => q.elim)
  have I2 := CkG.next (P := fun _ => True) I (by omega) G2 DA.1
  have f2 := G2.1
  obtain ⟨b, σ3, R3, gb, O⟩ := pB (kk - 1) d (σ 13 n) (x + 1) h σ2 E M (by omega) (f2.is tB) (by rw [f2.tre.1]; exact hc) (f2.pp G) I2 hcl2.2 ⟨by omega, by omega, by omega, by omega, by omega⟩
  have R3 : Rn (4 * kk + d + 98) yCk_infer [.ref 49, vi (σ 13 n), vi (x + 1)] σ2 (some b) σ3 := R3.deep (by omega)
  rcases O with ⟨X, no⟩ | ⟨Gd3, cb3, RB⟩
  · have X' := G2.bad X
    exact ⟨w, σ3, mk R1 R2 f2 R3 (dm X.2.1 gb) X'.1, gw, X'.c (fun ρ s V y => DRes.no I.2.1 (by omega) so DA (fun ρ V => no ρ _ V) V (by rw [← ho]; exact y.2.1) y.2.2.1)⟩
  have I3 := CkG.next (P := fun _ => True) I2 (by omega) Gd3 RB.1
  obtain ⟨σ4, R4, D⟩ := s_dem (d := 4 * kk + d + 5) I3.1 I3.2.2.2.2.2 (a := b) (b := v) RB.2.1.1 (bv I3.1).1
  have R4 : Rn (4 * kk + d + 98) yCk_demand [.ref 49, vi b, vi v] σ3 none σ4 := R4
  rcases D with ⟨F4, T4, u4, c54, uV4⟩ | ⟨X, no⟩
  rotate_left
  · have X' := G2.bad (Gd3.bad X)
    exact ⟨w, σ4, mk R1 R2 f2 R3 R4 X'.1, gw, X'.c (fun ρ s V y => DRes.no (B := B) (sb := gK jo) I.2.1 (by omega) so DA (fun ρ V => TR_dem_no RB (bv I3.1) no V) V (by rw [← ho]; exact y.2.1) (by rw [← ho]; exact y.2.2.1))⟩
  have DB := TR_dem I2.2.1 RB (bv I3.1) (u4 h) uV4
  have G4 := (G2.tr Gd3 (Z := iT σ (nd 9 z A B nl) n) (fun x q => Or.inr (Or.inl q)) (fun x q => Or.inr (Or.inr (Or.inl (by rw [f2.it] at q; exact q))))).tr (demG I3 F4 T4) (Z := iT σ (nd 9 z A B nl) n) (fun x q => q) (fun x q => q.elim)
  have e19 := F4.oo.2.2.2
  have o3 := Gd3.2.2.2.2.2.2
  rw [f2.it] at o3
  refine ⟨w, σ4, mk R1 R2 f2 R3 R4 G4.1, gw, Or.inr ⟨G4, by omega, TRP.P (DR_op I.2.1 (by omega) so ho hr DA DB (bw I.1)) (fun p => ?_)⟩⟩
  refine ptN_2 (σ1 := σ1) (σ2 := σ2) (σ3 := σ3) (σ' := σ4) (P := fun p => p = w) t G f2 (fun x q => ?_) (fun x _ => by rw [e19]) (fun x _ => by rw [e19]) p
  rw [o3 x q, F.oo.2.2.2]
end COP
