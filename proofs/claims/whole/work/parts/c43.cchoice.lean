/-! The class's checker: choices. -/
section CCH
variable {σ σ' σ1 σ2 σ3 : Mem} {d : Nat} {h n x r t l : Int} {E : List (Int × Int)} {M : Int → Prop} {A B C : Tr} {k : Nat} {z : Int}
/-- the branches are left where the types are wrong, or none comes -/
theorem loop_end {kk : Nat} {i m : Int} (hx : rg x) (hl : rg l) (hr : rg r) (hm : rg m) (hi : rg i) (q : m = -1 ∨ σ 49 6 ≠ 0) : Lb (4 * kk + d + 97) yCk_inferChoice 42 [(0, .ref 49), (2, vi x), (3, vi l), (4, vi r), (5, vi m), (6, vi i)] [] σ (some r) σ := by
  refine K_Ck_inferChoice_42 (d := 4 * kk + d + 94) hx hl hr hm hi ?_
  unfold B_Ck_inferChoice_42
  by_cases c : i ≥ 5
  · rw [if_pos c]; exact ⟨rfl, rfl⟩
  rw [if_neg c]
  by_cases c2 : m = -1
  · rw [if_pos c2]; exact ⟨rfl, rfl⟩
  rw [if_neg c2]
  rcases q with q | q
  · exact absurd q c2
  · rw [if_pos q]; exact ⟨rfl, rfl⟩
def noB (σ : Mem) (E : List (Int × Int)) (C : Tr) (l r : Int) : Prop := ∀ ρ, VS (tS σ).1 (tS σ).2.1 ρ → ¬ tyE C true (Gam (tS σ) ρ E) (gA (ρ l) (ρ r))
def BrO (σ σ' : Mem) (E : List (Int × Int)) (M : Int → Prop) (h : Int) (C : Tr) (n l r : Int) : Prop := (CkX σ σ' ∧ noB σ E C l r) ∨ (CkG σ σ' E (iT σ C n) ∧ σ' 38 5 ≤ σ 38 5 + 44 * rwl C ∧ BRes (tS σ) (tS σ') E M h (fun w G a b => tyE C w G (gA a b)) (tyN σ σ' C n) l r)
def PB (C : Tr) : Prop := ∀ (kk d : Nat) (n x h i l r : Int) (σ : Mem) (E : List (Int × Int)) (M : Int → Prop), rwl C ≤ kk → isT σ 5 0 (σ 5 7) C n → σ 5 7 ≤ 128 → PP σ → CkI σ E M h → M l → M r → clo C (inE E) = true → CkB σ E h x (rwl C) → 0 ≤ i → i + nbr C ≤ 5 → ∃ σ', Lb (4 * kk + d + 97) yCk_inferChoice 42 [(0, .ref 49), (2, vi x), (3, vi l), (4, vi r), (5, vi n), (6, vi i)] [] σ (some r) σ' ∧ BrO σ σ' E M h C n l r
theorem inE_pn {nu : Int → Int} : inE (pnE A nu E) = addl (inE E) (bnd A) := by
  funext c
  unfold inE pnE addl
  rw [List.any_append]
  congr 1
  rw [Bool.eq_iff_iff, List.any_eq_true, List.contains_iff_mem]
  constructor
  · intro ⟨e, a, b⟩
    obtain ⟨z, m, rfl⟩ := List.mem_map.mp a
    have b : z = c := of_decide_eq_true b
    rw [← b]; exact List.mem_reverse.mp m
  · intro m
    exact ⟨(c, nu c), List.mem_map.mpr ⟨c, List.mem_reverse.mpr m, rfl⟩, decide_eq_true rfl⟩
theorem envC.drop {nu : Int → Int} (e : envC σ (pnE A nu E)) : envC σ E := by
  unfold pnE at e
  generalize (bnd A).reverse.map (fun z => (z, nu z)) = L at e
  induction L with
  | nil => exact e
  | cons q L ih => exact ih e.2.2
theorem PB_17 {nn : Int} (wA : wfP A) (hB : isE B) (hnd : (bnd A).Nodup) (pB : PE B) (hC : C = nl ∨ PB C) : PB (nd 17 nn A B C) := by
  intro kk d n x h i l r σ E M hkk t hc G I hl hr hcl ⟨b1, b2, b3, b4⟩ hi hn5
  have w0 : rwl (nd 17 nn A B C) = rpl A + 2 + rwl B + rwl C := rfl
  obtain ⟨lA, uA⟩ := bnd_len wA
  have wB := rwl_0 (T := B)
  have wC := rwl_0 (T := C)
  have e5 : nbr (nd 17 nn A B C) = nbr C + 1 := rfl
  have n0 := t.1
  have tA : isT σ 5 0 (σ 5 7) A (σ 11 n) := t.2.2.2.1
  have tB : isT σ 5 0 (σ 5 7) B (σ 13 n) := t.2.2.2.2.1
  have tC : isT σ 5 0 (σ 5 7) C (σ 15 n) := t.2.2.2.2.2
  have e11 : rowv 128 σ 11 n = σ 11 n := row_at n0 hc
  have e13 : rowv 128 σ 13 n = σ 13 n := row_at n0 hc
  have e15 : rowv 128 σ 15 n = σ 15 n := row_at n0 hc
  have rn : rg n := ⟨by omega, by omega⟩
  have rx : rg x := ⟨by omega, by omega⟩
  have ri : rg i := ⟨by omega, by omega⟩
  have r13 : rg (σ 13 n) := by have := isE_n hB tB; exact ⟨by omega, by omega⟩
  have jc := I.1.1.2.1
  have il : 0 ≤ l ∧ l < σ 38 5 := I.2.1.1 l hl
  have ir : 0 ≤ r ∧ r < σ 38 5 := I.2.1.1 r hr
  have gl : rg l := ⟨by omega, by omega⟩
  have gr : rg r := ⟨by omega, by omega⟩
  have so := I.1.so
  have h4 : σ 49 4 = E.length := I.2.2.2.1
  have hcl2 : clo B (addl (inE E) (bnd A)) = true ∧ clo C (inE E) = true := by
    rw [clo_nd] at hcl
    simpa using hcl
  have g15 : rg (σ 15 n) := by
    rcases G.1 n n0.1 n0.2 15 (Or.inr (Or.inr rfl)) with q | q
    · rw [q]; exact rgk rfl
    · exact ⟨by omega, by omega⟩
  have mk : ∀ {a b : Int} {σ1 σ2 σ3 σ4 σ' : Mem}, Rn (4 * kk + d + 97) yCk_infer [.ref 49, vi (σ 11 n), vi (x + 1)] σ (some a) σ1 → Rn (4 * kk + d + 97) yCk_demand [.ref 49, vi a, vi l] σ1 none σ2 → frCk σ σ2 → Rn (4 * kk + d + 97) yCk_infer [.ref 49, vi (σ 13 n), vi (x + 1)] σ2 (some b) σ3 → Rn (4 * kk + d + 97) yCk_demand [.ref 49, vi b, vi r] σ3 none σ4 → frCk σ σ4 → Lb (4 * kk + d + 97) yCk_inferChoice 42 [(0, .ref 49), (2, vi x), (3, vi l), (4, vi r), (5, vi (σ 15 n)), (6, vi (i + 1))] [] (mup σ4 49 4 E.length) (some r) σ' → Lb (4 * kk + d + 97) yCk_inferChoice 42 [(0, .ref 49), (2, vi x), (3, vi l), (4, vi r), (5, vi n), (6, vi i)] [] σ (some r) σ' := fun {a b σ1 σ2 σ3 σ4 σ'} R1 R2 f2 R3 R4 f4 L => by
    refine K_Ck_inferChoice_42 (d := 4 * kk + d + 94) rx gl gr rn ri ?_
    unfold B_Ck_inferChoice_42
    rw [if_neg (by omega), if_neg (by omega), if_neg (fun w => w I.2.2.2.2.2), h4]
    refine ⟨a, σ1, by rw [e11]; exact R1, σ2, R2, b, σ3, by rw [f2.row (i := 13) rfl, e13]; exact R3, σ4, R4, ⟨by omega, by omega⟩, ?_⟩
    rw [(f4.tr (frCk.mu (i := 49) (k := 4) (z := E.length) rfl)).row (i := 15) rfl, e15]
    exact L
  have dm : ∀ {σ : Mem} {a l : Int}, σ 49 6 ≠ 0 → rg a → rg l → Rn (4 * kk + d + 97) yCk_demand [.ref 49, vi a, vi l] σ none σ := fun q g g' => s_demand_ill (d := 4 * kk + d + 93) q g g'
  have ni : ∀ {m : Int} {σ1 : Mem}, rg m → σ1 49 6 ≠ 0 → Rn (4 * kk + d + 97) yCk_infer [.ref 49, vi m, vi (x + 1)] σ1 (some (-1)) σ1 := fun g q => infer_ill (d := 4 * kk + d + 93) g ⟨by omega, by omega⟩ q
  have ni1 : rg (i + 1) := ⟨by omega, by omega⟩
  -- the branches are left
  have ill : ∀ {a b : Int} {σ1 σ2 σ3 σ4 : Mem}, Rn (4 * kk + d + 97) yCk_infer [.ref 49, vi (σ 11 n), vi (x + 1)] σ (some a) σ1 → Rn (4 * kk + d + 97) yCk_demand [.ref 49, vi a, vi l] σ1 none σ2 → frCk σ σ2 → Rn (4 * kk + d + 97) yCk_infer [.ref 49, vi (σ 13 n), vi (x + 1)] σ2 (some b) σ3 → Rn (4 * kk + d + 97) yCk_demand [.ref 49, vi b, vi r] σ3 none σ4 → PtX σ σ4 → (∀ ρ, VS (tS σ).1 (tS σ).2.1 ρ → ¬ brT true (Gam (tS σ) ρ E) A B (ρ l) (ρ r)) → ∃ σ', Lb (4 * kk + d + 97) yCk_inferChoice 42 [(0, .ref 49), (2, vi x), (3, vi l), (4, vi r), (5, vi n), (6, vi i)] [] σ (some r) σ' ∧ BrO σ σ' E M h (nd 17 nn A B C) n l r := fun {a b σ1 σ2 σ3 σ4} R1 R2 f2 R3 R4 X no => by
    obtain ⟨f, a6, a5, c⟩ := X
    refine ⟨_, mk R1 R2 f2 R3 R4 f (loop_end rx gl gr g15 ni1 (Or.inr (by rw [mup_nk (by decide)]; exact a6))), Or.inl ⟨⟨f.tr (frCk.mu rfl), by rw [mup_nk (by decide)]; exact a6, by rw [mup_eq]; exact h4.symm, by rw [mup_nk (by decide)]; exact a5, by rw [mup_ne (by decide)]; exact c.1, by rw [mup_ne (by decide)]; exact c.2⟩, fun ρ V y => no ρ V (tyE_17.mp y).1⟩⟩
  -- the pattern
  obtain ⟨a, σ1, nu, R1, ga, O⟩ := ppt_all A wA (kk - 1) d (σ 11 n) (x + 1) h σ E (by omega) tA hc G ⟨I.1, I.2.2⟩ hnd ⟨by omega, by omega, by omega, by omega, by omega⟩
  have R1 : Rn (4 * kk + d + 97) yCk_infer [.ref 49, vi (σ 11 n), vi (x + 1)] σ (some a) σ1 := R1.deep (by omega)
  rcases O with ⟨X, no⟩ | ⟨f1, J1, o1, cb, QA⟩
  · exact ill R1 (dm X.2.1 ga gl) X.1 (ni r13 X.2.1) (dm X.2.1 (rgk rfl) gr) X (fun ρ V ⟨α, y1, _⟩ => no α _ y1)
  have QA := QA M I.2.1.1
  have l1 : σ 38 5 ≤ σ1 38 5 := QA.1.2.1.1
  obtain ⟨σ2, R2, D⟩ := s_dem (d := 4 * kk + d + 4) J1.1 J1.2.2.2.2 (a := a) (b := l) QA.2.1.1 ⟨by omega, by omega⟩
  have R2 : Rn (4 * kk + d + 97) yCk_demand [.ref 49, vi a, vi l] σ1 none σ2 := R2
  have h15 : σ1 49 5 = σ 49 5 := J1.2.2.2.1.trans I.2.2.2.2.1.symm
  rcases D with ⟨F2, T2, u2, c52, uV2⟩ | ⟨X, no⟩
  rotate_left
  · have X' := CkX.pt f1 h15 X
    exact ill R1 R2 X'.1 (ni r13 X.2.1) (dm X.2.1 (rgk rfl) gr) X' (fun ρ V => BR_no1 I.2.1 hl QA no V)
  have J2 := J1.ft F2 T2
  have f2 := f1.tr F2.fk
  have hU1 : ∀ m, (m = a ∨ m = l) → Res (tS σ) M h (tS σ1) m := fun m q => by
    rcases q with q | q
    · rw [q]; exact QA.2.1
    · rw [q]; exact Res.m QA.1.2.1 I.2.1.1 hl
  have x2 := QA.1.tr (u2 h) hU1
  have q2 : ∀ z ∈ bnd A, Res (tS σ) M h (tS σ2) (nu z) := fun z m => (QA.2.2.2.1 z m).up (u2 h).2.1 QA.1.2.1.1 hU1
  have EI := (I.2.1.up (by omega) so x2.2.1).pn (A := A) (nu := nu) (fun z m => ⟨(q2 z m).1, (q2 z m).2.2.2 I.2.1.2.1⟩)
  have I2 : CkI σ2 (pnE A nu E) (pnM A nu M) h := ⟨T2, EI, J2.2⟩
  obtain ⟨b, σ3, R3, gb, O⟩ := pB (kk - 1) d (σ 13 n) (x + 1) h σ2 (pnE A nu E) (pnM A nu M) (by omega) (f2.is tB) (by rw [f2.tre.1]; exact hc) (f2.pp G) I2 (by rw [inE_pn]; exact hcl2.1) ⟨by omega, by rw [pnE_len]; omega, by omega, by omega, by omega⟩
  have R3 : Rn (4 * kk + d + 97) yCk_infer [.ref 49, vi (σ 13 n), vi (x + 1)] σ2 (some b) σ3 := R3.deep (by omega)
  have h25 : σ2 49 5 = σ 49 5 := J2.2.2.2.1.trans I.2.2.2.2.1.symm
  rcases O with ⟨X, no⟩ | ⟨Gd3, cb3, RB⟩
  · have X' := CkX.pt f2 h25 X
    refine ill R1 R2 f2 R3 (dm X.2.1 gb gr) X' (fun ρ V y => ?_)
    obtain ⟨ρ1, V1, -, y1⟩ := BR_to I.2.1 (by omega) so hl QA (u2 h) uV2 V y
    exact no ρ1 _ V1 y1
  have I3 := CkG.next (P := fun _ => True) I2 (by omega) Gd3 RB.1
  have l3 : σ2 38 5 ≤ σ3 38 5 := RB.1.2.1.1
  obtain ⟨σ4, R4, D⟩ := s_dem (d := 4 * kk + d + 4) I3.1 I3.2.2.2.2.2 (a := b) (b := r) RB.2.1.1 ⟨by omega, by omega⟩
  have R4 : Rn (4 * kk + d + 97) yCk_demand [.ref 49, vi b, vi r] σ3 none σ4 := R4
  have f3 := f2.tr Gd3.1
  rcases D with ⟨F4, T4, u4, c54, uV4⟩ | ⟨X, no⟩
  rotate_left
  · have X' := CkX.pt f3 (Gd3.2.2.2.2.1.trans h25) X
    exact ill R1 R2 f2 R3 R4 X' (fun ρ V => BR_no3 I.2.1 (by omega) so hB hl hr QA (u2 h) uV2 RB no V)
  have f4 := f3.tr F4.fk
  have B1 := BR_1 I.2.1 (by omega) so hl hr QA (u2 h) uV2 RB (u4 h) uV4
  have om : ∀ {i : Nat}, i ≠ 49 → (mup σ4 49 4 E.length) i = σ4 i := fun hi => mup_obj hi
  obtain ⟨T5, e5'⟩ := T4.cg (σ' := mup σ4 49 4 E.length) (om (by decide)) (om (by decide)) (om (by decide)) (by rw [om (by decide)])
  obtain ⟨p1, p2, p3, p4⟩ := F4.oo
  obtain ⟨g3, T3, ec3, a34, a35, a36, o3⟩ := Gd3
  rw [f2.it] at o3
  have f5 := f4.tr (frCk.mu (i := 49) (k := 4) (z := E.length) rfl)
  have G5 : CkG σ (mup σ4 49 4 E.length) E (fun y => iT σ A (σ 11 n) y ∨ iT σ B (σ 13 n) y) := by
    refine ⟨f5, T5, (ec3.drop).mv (fun i => ⟨by rw [om (by decide), p2], by rw [om (by decide), p3]⟩), by rw [mup_eq]; exact h4.symm, ?_, ?_, fun y q => ?_⟩
    · rw [mup_nk (by decide), p1, a35]; exact h25
    · rw [mup_nk (by decide), p1]; exact a36
    · rw [om (by decide), p4, o3 y (fun w => q (Or.inr w)), F2.oo.2.2.2, o1 y (fun w => q (Or.inl w))]
  have B1' : BRes (tS σ) (tS (mup σ4 49 4 E.length)) E M h (fun w G sl sr => brT w G A B sl sr) (fun p => tyN σ σ1 A (σ 11 n) p ∨ tyN σ2 σ3 B (σ 13 n) p) l r := by rw [e5']; exact B1
  have I5 := CkG.next (P := fun _ => True) I (by omega) G5 B1'.1
  have c5' : (mup σ4 49 4 E.length) 38 5 = σ4 38 5 := by rw [om (by decide)]
  obtain ⟨sAB, sAC, sBC⟩ := iT_sep G t
  have k17 : σ 7 n = 17 := t.2.1
  -- the types of the branch's own parts, at the end
  have types : ∀ {σ' : Mem}, (∀ y, ¬ iT σ C (σ 15 n) y → σ' 19 y = (mup σ4 49 4 E.length) 19 y) → ∀ p, ((tyN σ σ1 A (σ 11 n) p ∨ tyN σ2 σ3 B (σ 13 n) p) ∨ tyN σ σ' C (σ 15 n) p) ↔ tyN σ σ' (nd 17 nn A B C) n p := fun {σ'} o p => by
    have eA : ∀ y, iT σ A (σ 11 n) y → σ' 19 y = σ1 19 y := fun y q => by rw [o y (sAC y q), om (by decide), p4, o3 y (sAB y q), F2.oo.2.2.2]
    have eB : ∀ y, iT σ B (σ 13 n) y → σ' 19 y = σ3 19 y := fun y q => by rw [o y (sBC y q), om (by decide), p4]
    rw [tyN_fr f2, tyN_cg eA, tyN_cg (T := B) eB]
    constructor
    · intro q
      rcases q with (⟨y, a, b, c⟩ | ⟨y, a, b, c⟩) | ⟨y, a, b, c⟩
      · exact ⟨y, Or.inr (Or.inl a), b, c⟩
      · exact ⟨y, Or.inr (Or.inr (Or.inl a)), b, c⟩
      · exact ⟨y, Or.inr (Or.inr (Or.inr a)), b, c⟩
    · intro ⟨y, a, b, c⟩
      rcases a with a | a | a | a
      · rw [a] at b; exact absurd k17 b
      · exact Or.inl (Or.inl ⟨y, a, b, c⟩)
      · exact Or.inl (Or.inr ⟨y, a, b, c⟩)
      · exact Or.inr ⟨y, a, b, c⟩
  rcases hC with rfl | pC
  · have m15 : σ 15 n = -1 := tC
    refine ⟨_, mk R1 R2 f2 R3 R4 f4 (loop_end rx gl gr g15 ni1 (Or.inl m15)), Or.inr ⟨G5.tr (CkG.ft I5 frCk.rf T5 rfl rfl rfl rfl (X := fun _ => False)) (fun y q => by rcases q with q | q; exact Or.inr (Or.inl q); exact Or.inr (Or.inr (Or.inl q))) (fun y q => q.elim), by rw [c5', w0]; omega, BRes.F B1' (fun w G a b => ?_) (fun p => ?_)⟩⟩
    · exact ⟨fun q => tyE_17.mpr ⟨q, Or.inl rfl⟩, fun q => (tyE_17.mp q).1⟩
    · have := types (σ' := mup σ4 49 4 E.length) (fun y _ => rfl) p
      rw [← this]
      exact ⟨fun q => Or.inl q, fun q => q.elim id (fun w => (tyN_nl w).elim)⟩
  · have iC : C ≠ nl ∨ C = nl := by by_cases q : C = nl; exact Or.inr q; exact Or.inl q
    rcases iC with cn | rfl
    rotate_left
    · have m15 : σ 15 n = -1 := tC
      refine ⟨_, mk R1 R2 f2 R3 R4 f4 (loop_end rx gl gr g15 ni1 (Or.inl m15)), Or.inr ⟨G5.tr (CkG.ft I5 frCk.rf T5 rfl rfl rfl rfl (X := fun _ => False)) (fun y q => by rcases q with q | q; exact Or.inr (Or.inl q); exact Or.inr (Or.inr (Or.inl q))) (fun y q => q.elim), by rw [c5', w0]; omega, BRes.F B1' (fun w G a b => ?_) (fun p => ?_)⟩⟩
      · exact ⟨fun q => tyE_17.mpr ⟨q, Or.inl rfl⟩, fun q => (tyE_17.mp q).1⟩
      · have := types (σ' := mup σ4 49 4 E.length) (fun y _ => rfl) p
        rw [← this]
        exact ⟨fun q => Or.inl q, fun q => q.elim id (fun w => (tyN_nl w).elim)⟩
    · obtain ⟨σ', L, O⟩ := pC kk d (σ 15 n) x h (i + 1) l r (mup σ4 49 4 E.length) E M (by omega) (f5.is tC) (by rw [f5.tre.1]; exact hc) (f5.pp G) I5 hl hr hcl2.2 ⟨by rw [c5']; omega, by omega, by omega, by omega, by omega⟩ (by omega) (by omega)
      refine ⟨σ', mk R1 R2 f2 R3 R4 f4 L, ?_⟩
      rcases O with ⟨X, no⟩ | ⟨G6, cb6, B2⟩
      · refine Or.inl ⟨G5.bad X, fun ρ V y => ?_⟩
        obtain ⟨y1, y2⟩ := tyE_17.mp y
        exact BR_no4 (F2 := fun w G a b => tyE C w G (gA a b)) I.2.1 (by omega) so hl hr B1' no V ⟨y1, y2.resolve_left cn⟩
      · have o6 := G6.2.2.2.2.2.2
        rw [f5.it] at o6
        refine Or.inr ⟨G5.tr G6 (fun y q => by rcases q with q | q; exact Or.inr (Or.inl q); exact Or.inr (Or.inr (Or.inl q))) (fun y q => Or.inr (Or.inr (Or.inr (by rw [f5.it] at q; exact q)))), by rw [w0]; omega, BRes.F (BR_2 I.2.1 (by omega) so hl hr B1' B2) (fun w G a b => ?_) (fun p => ?_)⟩
        · exact ⟨fun q => tyE_17.mpr ⟨q.1, Or.inr q.2⟩, fun q => ⟨(tyE_17.mp q).1, (tyE_17.mp q).2.resolve_left cn⟩⟩
        · rw [← types (σ' := σ') (fun y q => o6 y q) p, tyN_fr f5]
theorem PE_case (hA : isE A) (hC : C ≠ nl) (h5 : nbr C ≤ 5) (pA : PE A) (pC : PB C) : PE (nd 16 0 A C nl) := by
  have w0 : rwl (nd 16 0 A C nl) = 2 + rwl A + rwl C := rfl
  have wA := rwl_0 (T := A)
  have wC := rwl_0 (T := C)
  refine PE.whole hA (by decide) (by omega) (fun kk d n x h σ E M hkk t hc G I hcl b => ?_)
  obtain ⟨b1, b2, b3, b4⟩ := b
  have n0 := t.1
  have tA : isT σ 5 0 (σ 5 7) A (σ 11 n) := t.2.2.2.1
  have tC : isT σ 5 0 (σ 5 7) C (σ 13 n) := t.2.2.2.2.1
  have e7 : rowv 128 σ 7 n = 16 := (row_at n0 hc).trans t.2.1
  have e11 : rowv 128 σ 11 n = σ 11 n := row_at n0 hc
  have e13 : rowv 128 σ 13 n = σ 13 n := row_at n0 hc
  have rn : rg n := ⟨by omega, by omega⟩
  have rx : rg x := ⟨by omega, by omega⟩
  have hcl2 : clo A (inE E) = true ∧ clo C (inE E) = true := by
    rw [clo_nd] at hcl
    simpa [clo_nl] using hcl
  have r13 : rg (σ 13 n) := by
    rcases G.1 n n0.1 n0.2 13 (Or.inr (Or.inl rfl)) with q | q
    · rw [q]; exact rgk rfl
    · exact ⟨by omega, by omega⟩
  have h5' : σ 49 5 = h := I.2.2.2.2.1
  have rh : rg h := ⟨by omega, by omega⟩
  have mk : ∀ {a v : Int} {σ1 σ2 σ' : Mem}, Rn (4 * kk + d + 97) yCk_infer [.ref 49, vi (σ 11 n), vi (x + 1)] σ (some a) σ1 → σ1 49 5 = h → Rn (4 * kk + d + 97) yTy_fresh [.ref 38, vi h] σ1 (some v) σ2 → frCk σ σ2 → Lb (4 * kk + d + 97) yCk_inferChoice 42 [(0, .ref 49), (2, vi x), (3, vi a), (4, vi v), (5, vi (σ 13 n)), (6, vi 0)] [] σ2 (some v) σ' → Rn (4 * kk + d + 99) yCk_inferWhole [.ref 49, vi n, vi x] σ (some v) σ' := fun {a v σ1 σ2 σ'} R1 q R2 f2 L => by
    refine M_Ck_inferWhole (d := 4 * kk + d + 95) rn rx ?_
    unfold B_Ck_inferWhole
    rw [e7, if_neg (by decide), if_neg (by decide), if_neg (by decide), if_neg (by decide), if_neg (by decide), if_neg (by decide), if_neg (by decide), if_neg (by decide)]
    refine ⟨v, σ', M_Ck_inferChoice (d := 4 * kk + d + 94) rn rx ?_, rfl, rfl⟩
    unfold B_Ck_inferChoice
    refine ⟨a, σ1, by rw [e11]; exact R1, v, σ2, by rw [q]; exact R2, ?_⟩
    rw [f2.row (i := 13) rfl, e13]; exact L
  obtain ⟨a, σ1, R1, ga, O⟩ := pA (kk - 1) d (σ 11 n) (x + 1) h σ E M (by omega) tA hc G I hcl2.1 ⟨by omega, by omega, by omega, by omega, by omega⟩
  have R1 : Rn (4 * kk + d + 97) yCk_infer [.ref 49, vi (σ 11 n), vi (x + 1)] σ (some a) σ1 := R1.deep (by omega)
  have so := I.1.so
  have jc := I.1.1.2.1
  have c0 : 0 ≤ (tS σ).2.1 := by show 0 ≤ σ 38 5; omega
  rcases O with ⟨X, no⟩ | ⟨Gd, cb, RA⟩
  · obtain ⟨v, σ2, R2, gv, F, c⟩ := fresh_any (d := 4 * kk + d + 92) (σ := σ1) rh X.2.2.2.2
    have X2 := X.ft F c
    exact ⟨v, σ2, mk R1 (X.2.2.2.1.trans h5') R2 X2.1 (loop_end rx ga gv r13 (rgk rfl) (Or.inr X2.2.1)), gv, X2.c (fun ρ s V y => by obtain ⟨-, a', y2, -⟩ := y; exact no ρ _ V y2)⟩
  have I1 := CkG.next (P := fun _ => True) I (by omega) Gd RA.1
  have ra : 0 ≤ a ∧ a < σ1 38 5 := RA.2.1.1
  have c01 := I1.1.1.2.1
  obtain ⟨σ2, R2, F, T2, e2, c5⟩ := c_fresh (d := 4 * kk + d + 92) I1.1 (by omega) (h := h) ⟨by omega, by omega⟩
  have G2 : CkG σ σ2 E (iT σ A (σ 11 n)) := Gd.tr (demG I1 F T2) (fun x q => q) (fun x q => q.elim)
  have f2 := G2.1
  have s2 : TSt (tS σ1) (tS σ2) M h := by rw [e2]; exact ad_S I1.1.so (by show 0 ≤ σ1 38 5; omega) nw_fr (fun _ => by omega)
  have hR1 : ∀ m, M m → Res (tS σ) M h (tS σ1) m := fun m q => Res.m RA.1.2.1 I.2.1.1 q
  have x2 := RA.1.tr s2 hR1
  have I2 := CkG.next (P := fun _ => True) I (by omega) G2 x2
  have la := (RA.2.1.up s2.2.1 RA.1.2.1.1 hR1).2.2.2 I.2.1.2.1
  have rr : Res (tS σ) M h (tS σ2) (σ1 38 5) := by rw [e2]; exact fresh_r RA.1.2.1 c0
  have lr := rr.2.2.2 I.2.1.2.1
  have EI := (I2.2.1.mo1 (m0 := a) (by show 0 ≤ a ∧ a < σ2 38 5; omega) la).mo1 (m0 := σ1 38 5) (by show 0 ≤ σ1 38 5 ∧ σ1 38 5 < σ2 38 5; omega) lr
  have I2' : CkI σ2 E _ h := ⟨I2.1, EI, I2.2.2⟩
  have gv : rg (σ1 38 5) := ⟨by omega, by omega⟩
  obtain ⟨σ', L, O⟩ := pC kk d (σ 13 n) x h 0 a (σ1 38 5) σ2 E _ (by omega) (f2.is tC) (by rw [f2.tre.1]; exact hc) (f2.pp G) I2' (Or.inl (Or.inr rfl)) (Or.inr rfl) hcl2.2 ⟨by omega, by omega, by omega, by omega, by omega⟩ (by decide) (by omega)
  refine ⟨σ1 38 5, σ', mk R1 I1.2.2.2.2.1 R2 f2 L, gv, ?_⟩
  rcases O with ⟨X, no⟩ | ⟨G3, cb3, BC⟩
  · exact (G2.bad X).c (fun ρ s V y => TR_case_no I.2.1 (by omega) so c0 RA e2 no V y)
  · obtain ⟨s1, -, -⟩ := iT_sep G t
    have o3 := G3.2.2.2.2.2.2
    rw [f2.it] at o3
    refine Or.inr ⟨G2.tr G3 (fun y q => Or.inr (Or.inl q)) (fun y q => Or.inr (Or.inr (Or.inl (by rw [f2.it] at q; exact q)))), by omega, TRP.P (TR_case I.2.1 (by omega) so c0 RA e2 BC) (fun p => ?_)⟩
    refine ptN_2 (σ1 := σ1) (σ2 := σ2) (σ3 := σ') (σ' := σ') (P := fun p => p = σ1 38 5) t G f2 (fun y q => ?_) (fun _ _ => rfl) (fun _ _ => rfl) p
    rw [o3 y q, F.oo.2.2.2]
end CCH
