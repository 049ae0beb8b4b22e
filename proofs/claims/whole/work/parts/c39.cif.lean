/-! The class's checker: conditions. -/
section CIF
variable {σ σ' σ1 σ2 σ3 : Mem} {d : Nat} {h n x r t : Int} {E : List (Int × Int)} {M : Int → Prop} {A B C : Tr} {k : Nat} {z : Int}
theorem PE_if (hA : isE A) (hB : isE B) (hC : isE C) (pA : PE A) (pB : PE B) (pC : PE C) : PE (nd 15 0 A B C) := by
  have w0 : rwl (nd 15 0 A B C) = 3 + rwl A + rwl B + rwl C := rfl
  have wA := rwl_0 (T := A)
  have wB := rwl_0 (T := B)
  have wC := rwl_0 (T := C)
  refine PE.whole hA (by decide) (by omega) (fun kk d n x h σ E M hkk t hc G I hcl b => ?_)
  obtain ⟨b1, b2, b3, b4⟩ := b
  have n0 := t.1
  have tA : isT σ 5 0 (σ 5 7) A (σ 11 n) := t.2.2.2.1
  have tB : isT σ 5 0 (σ 5 7) B (σ 13 n) := t.2.2.2.2.1
  have tC : isT σ 5 0 (σ 5 7) C (σ 15 n) := t.2.2.2.2.2
  have e7 : rowv 128 σ 7 n = 15 := (row_at n0 hc).trans t.2.1
  have e11 : rowv 128 σ 11 n = σ 11 n := row_at n0 hc
  have e13 : rowv 128 σ 13 n = σ 13 n := row_at n0 hc
  have e15 : rowv 128 σ 15 n = σ 15 n := row_at n0 hc
  have rn : rg n := ⟨by omega, by omega⟩
  have rx : rg x := ⟨by omega, by omega⟩
  have r13 : rg (σ 13 n) := by have := isE_n hB tB; exact ⟨by omega, by omega⟩
  have r15 : rg (σ 15 n) := by have := isE_n hC tC; exact ⟨by omega, by omega⟩
  have so := I.1.so
  have hcl2 : clo A (inE E) = true ∧ clo B (inE E) = true ∧ clo C (inE E) = true := by
    rw [clo_nd] at hcl
    simpa using hcl
  have mk : ∀ {a b c : Int} {σ1 σ2 σ3 σ4 σ5 : Mem}, Rn (4 * kk + d + 97) yCk_infer [.ref 49, vi (σ 11 n), vi (x + 1)] σ (some a) σ1 → Rn (4 * kk + d + 97) yCk_demand [.ref 49, vi a, vi 1] σ1 none σ2 → frCk σ σ2 → Rn (4 * kk + d + 97) yCk_infer [.ref 49, vi (σ 13 n), vi (x + 1)] σ2 (some b) σ3 → frCk σ σ3 → Rn (4 * kk + d + 97) yCk_infer [.ref 49, vi (σ 15 n), vi (x + 1)] σ3 (some c) σ4 → Rn (4 * kk + d + 97) yCk_demand [.ref 49, vi c, vi b] σ4 none σ5 → Rn (4 * kk + d + 99) yCk_inferWhole [.ref 49, vi n, vi x] σ (some b) σ5 := fun {a b c σ1 σ2 σ3 σ4 σ5} R1 R2 f2 R3 f3 R4 R5 => by
    refine M_Ck_inferWhole (d := 4 * kk + d + 95) rn rx ?_
    unfold B_Ck_inferWhole
    rw [e7, if_neg (by decide), if_neg (by decide), if_neg (by decide), if_neg (by decide), if_neg (by decide), if_neg (by decide), if_neg (by decide), if_pos rfl]
    refine ⟨b, σ5, M_Ck_inferCondition (d := 4 * kk + d + 94) rn rx ?_, rfl, rfl⟩
    unfold B_Ck_inferCondition
    refine ⟨a, σ1, by rw [e11]; exact R1, σ2, R2, b, σ3, by rw [f2.row (i := 13) rfl, e13]; exact R3, c, σ4, by rw [f3.row (i := 15) rfl, e15]; exact R4, σ5, R5, rfl, rfl⟩
  have dm : ∀ {σ : Mem} {a l : Int}, σ 49 6 ≠ 0 → rg a → rg l → Rn (4 * kk + d + 97) yCk_demand [.ref 49, vi a, vi l] σ none σ := fun q g g' => s_demand_ill (d := 4 * kk + d + 93) q g g'
  have ni : ∀ {m : Int} {σ1 : Mem}, rg m → σ1 49 6 ≠ 0 → Rn (4 * kk + d + 97) yCk_infer [.ref 49, vi m, vi (x + 1)] σ1 (some (-1)) σ1 := fun g q => infer_ill (d := 4 * kk + d + 93) g ⟨by omega, by omega⟩ q
  obtain ⟨a, σ1, R1, ga, O⟩ := pA (kk - 1) d (σ 11 n) (x + 1) h σ E M (by omega) tA hc G I hcl2.1 ⟨by omega, by omega, by omega, by omega, by omega⟩
  have R1 : Rn (4 * kk + d + 97) yCk_infer [.ref 49, vi (σ 11 n), vi (x + 1)] σ (some a) σ1 := R1.deep (by omega)
  rcases O with ⟨X, no⟩ | ⟨Gd, cb, RA⟩
  · exact ⟨-1, σ1, mk R1 (dm X.2.1 ga (rgk rfl)) X.1 (ni r13 X.2.1) X.1 (ni r15 X.2.1) (dm X.2.1 (rgk rfl) (rgk rfl)), rgk rfl, X.c (fun ρ s V y => no ρ _ V y.2.1)⟩
  have I1 := CkG.next (P := fun _ => True) I (by omega) Gd RA.1
  have b2' := I1.1.bs.2.1
  obtain ⟨σ2, R2, D⟩ := s_dem (d := 4 * kk + d + 4) I1.1 I1.2.2.2.2.2 (a := a) (b := 1) RA.2.1.1 b2'.1
  have R2 : Rn (4 * kk + d + 97) yCk_demand [.ref 49, vi a, vi 1] σ1 none σ2 := R2
  rcases D with ⟨F, T2, u1, c5, uV⟩ | ⟨X, no⟩
  rotate_left
  · have X := Gd.bad X
    exact ⟨-1, σ2, mk R1 R2 X.1 (ni r13 X.2.1) X.1 (ni r15 X.2.1) (dm X.2.1 (rgk rfl) (rgk rfl)), rgk rfl, X.c (fun ρ s V y => TR_dem_no RA b2' no V y.2.1)⟩
  have DA := TR_dem I.2.1 RA b2' (u1 h) uV
  have G2 : CkG σ σ2 E (iT σ A (σ 11 n)) := Gd.tr (demG I1 F T2) (fun x q => q) (fun x q => q.elim)
  have I2 := CkG.next (P := fun _ => True) I (by omega) G2 DA.1
  have f2 := G2.1
  obtain ⟨b, σ3, R3, gb, O⟩ := pB (kk - 1) d (σ 13 n) (x + 1) h σ2 E M (by omega) (f2.is tB) (by rw [f2.tre.1]; exact hc) (f2.pp G) I2 hcl2.2.1 ⟨by omega, by omega, by omega, by omega, by omega⟩
  have R3 : Rn (4 * kk + d + 97) yCk_infer [.ref 49, vi (σ 13 n), vi (x + 1)] σ2 (some b) σ3 := R3.deep (by omega)
  rcases O with ⟨X, no⟩ | ⟨Gd3, cb3, RB⟩
  · have X' := G2.bad X
    exact ⟨b, σ3, mk R1 R2 f2 R3 X'.1 (ni r15 X.2.1) (dm X.2.1 (rgk rfl) gb), gb, X'.c (fun ρ s V y => DRes.no I.2.1 (by omega) so DA (fun ρ V => no ρ _ V) V y.2.1 y.2.2.1)⟩
  have I3 := CkG.next (P := fun _ => True) I2 (by omega) Gd3 RB.1
  have G3 := G2.tr Gd3 (Z := iT σ (nd 15 0 A B C) n) (fun x q => Or.inr (Or.inl q)) (fun x q => Or.inr (Or.inr (Or.inl (by rw [f2.it] at q; exact q))))
  have f3 := G3.1
  obtain ⟨c, σ4, R4, gc, O⟩ := pC (kk - 1) d (σ 15 n) (x + 1) h σ3 E M (by omega) (f3.is tC) (by rw [f3.tre.1]; exact hc) (f3.pp G) I3 hcl2.2.2 ⟨by omega, by omega, by omega, by omega, by omega⟩
  have R4 : Rn (4 * kk + d + 97) yCk_infer [.ref 49, vi (σ 15 n), vi (x + 1)] σ3 (some c) σ4 := R4.deep (by omega)
  rcases O with ⟨X, no⟩ | ⟨Gd4, cb4, RC⟩
  · have X' := G3.bad X
    refine ⟨b, σ4, mk R1 R2 f2 R3 f3 R4 (dm X.2.1 gc gb), gb, X'.c (fun ρ s V y => ?_)⟩
    obtain ⟨-, y2, y3, y4⟩ := y
    obtain ⟨ρ1, V1, o1, -⟩ := DA.2.2.2 true ρ V y2
    have eg := TRes.gam2 I.2.1 (by omega) so DA.1 V V1 o1
    exact TRP.no I2.2.1 (by omega) I2.1.so RB no V1 (by rw [eg]; exact y3) (by rw [eg]; exact y4)
  have I4 := CkG.next (P := fun _ => True) I3 (by omega) Gd4 RC.1
  have G4 := G3.tr Gd4 (Z := iT σ (nd 15 0 A B C) n) (fun x q => q) (fun x q => Or.inr (Or.inr (Or.inr (by rw [f3.it] at q; exact q))))
  have rb : 0 ≤ b ∧ b < σ3 38 5 := RB.2.1.1
  have l4 : σ3 38 5 ≤ σ4 38 5 := RC.1.2.1.1
  obtain ⟨σ5, R5, D⟩ := s_dem (d := 4 * kk + d + 4) I4.1 I4.2.2.2.2.2 (a := c) (b := b) RC.2.1.1 ⟨by omega, by omega⟩
  have R5 : Rn (4 * kk + d + 97) yCk_demand [.ref 49, vi c, vi b] σ4 none σ5 := R5
  rcases D with ⟨F5, T5, u5, c55, uV5⟩ | ⟨X, no⟩
  rotate_left
  · have X' := G4.bad X
    exact ⟨b, σ5, mk R1 R2 f2 R3 f3 R4 R5, gb, X'.c (fun ρ s V y => TR_if_no I.2.1 (by omega) so hC DA RB RC no s V y)⟩
  have G5 := G4.tr (demG I4 F5 T5) (Z := iT σ (nd 15 0 A B C) n) (fun x q => q) (fun x q => q.elim)
  obtain ⟨s1, s2, s3⟩ := iT_sep G t
  have o3 := Gd3.2.2.2.2.2.2
  have o4 := Gd4.2.2.2.2.2.2
  rw [f2.it] at o3
  rw [f3.it] at o4
  have e5 := F5.oo.2.2.2
  refine ⟨b, σ5, mk R1 R2 f2 R3 f3 R4 R5, gb, Or.inr ⟨G5, by omega, TRP.P (TR_if I.2.1 (by omega) so DA RB RC (u5 h) uV5) (fun p => ?_)⟩⟩
  refine or_congr ?_ Iff.rfl
  rw [tyN_fr f2, tyN_fr f3, tyN_cg (σ2 := σ5) (fun x a => by rw [e5, o4 x (s2 x a), o3 x (s1 x a), F.oo.2.2.2]), tyN_cg (T := B) (σ2 := σ5) (fun x a => by rw [e5, o4 x (s3 x a)]), tyN_cg (T := C) (σ2 := σ5) (fun x _ => by rw [e5])]
  exact Iff.rfl
end CIF
