/-! The model's load against the grammar and the types. -/
/-- the program's rows, seen as the draft's -/
def prM (σ : Mem) : Mem := fun i => if i = 60 then σ 63 else if i = 61 then σ 64 else if i = 62 then σ 65 else if i = 74 then σ 75 else if i = 66 then σ 68 else if i = 67 then σ 69 else σ i
def PGp (σ : Mem) (T : Tr) : Prop := isC (prM σ) T 0 0 ∧ isN (prM σ) T 0 [] ∧ σ 58 11 = ln T ∧ ln T ≤ 124 ∧ sn T ≤ 80
def mlP (i : Nat) : Bool := moP i || tP i
def mlK (k : Int) : Prop := mfP k ∨ tK k = true ∨ k = 0
/-- what a load that is refused may write -/
def frML (σ σ' : Mem) : Prop := (∀ i, mlP i = false → σ' i = σ i) ∧ ∀ k, ¬ mlK k → σ' 58 k = σ 58 k
def mdL (σ σ' : Mem) (T : Tr) (cs : List Int) : Prop := (∀ i, mlP i = false → i ≠ 63 → i ≠ 64 → i ≠ 65 → i ≠ 75 → i ≠ 68 → i ≠ 69 → i ≠ 88 → σ' i = σ i) ∧ (∀ k, ¬ mlK k → k ≠ 2 → k ≠ 11 → k ≠ 49 → k ≠ 51 → k ≠ 54 → k ≠ 57 → k ≠ 58 → k ≠ 61 → k ≠ 63 → k ≠ 64 → k ≠ 65 → k ≠ 66 → k ≠ 67 → σ' 58 k = σ 58 k) ∧ PGp σ' T ∧ TYP T cs ∧ (1 ≤ cs.length ∧ cs.length ≤ 80) ∧ (σ' 58 49 = cs.length ∧ ∀ i : Nat, i < cs.length → σ' 88 i = cs.getD i 0) ∧ σ' 58 2 = 0 ∧ σ' 58 51 = 0 ∧ σ' 58 54 = 0 ∧ σ' 58 57 = 0 ∧ σ' 58 58 = 0 ∧ σ' 58 61 = 0 ∧ σ' 58 63 = 0 ∧ σ' 58 64 = 0 ∧ σ' 58 65 = 1 ∧ σ' 58 66 = 0 ∧ σ' 58 67 = 0
/-- the count of types never comes to its end (D1) -/
def roomT : Prop := ∀ T, wf T → isE T → clo T (fun _ => false) = true → rwl T ≤ 60 → ∀ S0, bsS S0 → rmC T 0 0 S0 [] []
theorem mch_N {σ : Mem} : endN (mch σ) (σ 58 2) := fun z hz => by unfold mch; exact if_neg (by omega)
section MLD
variable {d : Nat} {σ : Mem}
theorem m_load (D1 : roomT) (H : MI σ) : ∃ v σ', Rn (d + 25) yMo_load [.ref 58] σ (some v) σ' ∧ match pLine (mch σ) with
    | none => σ' 58 0 = 1 ∧ frML σ σ'
    | some T => (clo T (fun _ => false) = false ∧ σ' 58 0 = 2 ∧ frML σ σ') ∨ (clo T (fun _ => false) = true ∧ (∀ s, ¬ tyE T true [] s) ∧ σ' 58 0 = 3 ∧ frML σ σ') ∨ (clo T (fun _ => false) = true ∧ (∃ s, tyE T true [] s) ∧ σ' 58 0 = 0 ∧ ∃ cs : List Int, v = cs.length ∧ mdL σ σ' T cs) := by
  obtain ⟨v1, σ1, R1, f1, ok⟩ := s_moreads H
  have R1 : Rn (d + 24) yMo_reads [.ref 58] σ (some v1) σ1 := R1.deep (by omega)
  have go : ∀ {o s'}, B_Mo_load (d + 21) σ (some o) s' → Rn (d + 25) yMo_load [.ref 58] σ (some o) s' := fun h => M_Mo_load (d := d + 21) h
  have F1 : frML σ σ1 := ⟨fun i hi => f1.1 i (by unfold mlP at hi; rw [Bool.or_eq_false_iff] at hi; exact hi.1), fun k hk => f1.2 k (fun q => hk (Or.inl q))⟩
  have th : ∀ {τ : Mem} {t : Int}, frML σ τ → frML σ (mup τ 58 0 t) := fun {τ t} F => ⟨fun i hi => (mup_obj (fun e => by rw [e] at hi; cases hi)).trans (F.1 i hi), fun k hk => (mup_nk (fun e => hk (Or.inr (Or.inr e)))).trans (F.2 k hk)⟩
  cases hp : pLine (mch σ) with
  | none =>
    rw [hp] at ok
    cases (show v1 = 0 from ok)
    refine ⟨0, mup σ1 58 0 1, go ?_, mup_eq, th F1⟩
    unfold B_Mo_load B_Mo_load_35
    refine ⟨0, σ1, R1, ?_⟩
    rw [if_neg (by decide), if_neg (by decide)]
    exact ⟨rfl, rfl⟩
  | some T =>
    rw [hp] at ok
    obtain ⟨rfl, h7, h14, hC⟩ := (show v1 = 1 ∧ σ1 58 7 = ln T ∧ σ1 58 14 = sn T ∧ isC σ1 T 0 0 from ok)
    obtain ⟨he, hw, -, hl, l1, l2⟩ := pLine_all mch_N H.1 H.2.1 hp
    obtain ⟨v3, σ3, R3, f3, r3⟩ := s_namesFound hw hC ⟨h7, l1⟩ l2 hl
    have R3 : Rn (d + 24) yMo_namesFound [.ref 58] σ1 (some v3) σ3 := R3.deep (by omega)
    have F3 : frML σ σ3 := by
      refine ⟨fun i hi => (f3.1 i ?_ ?_ ?_ ?_ ?_).trans (F1.1 i hi), fun k hk => (f3.2 k (fun e => hk (Or.inr (Or.inl (by rw [e]; rfl))))).trans (F1.2 k hk)⟩
      all_goals exact fun e => by rw [e] at hi; cases hi
    rcases r3 with ⟨rfl, hc, hC3, hN3⟩ | ⟨rfl, hc⟩
    · have k7 : σ3 58 7 = ln T := (f3.2 7 (by decide)).trans h7
      have k14 : σ3 58 14 = sn T := (f3.2 14 (by decide)).trans h14
      obtain ⟨v5, σ5, R5, f5, r5⟩ := s_typesFound hC3 hN3 hw he hc hl ⟨k7, l1⟩ l2 (fun S0 b => D1 T hw he hc hl S0 b)
      have R5 : Rn (d + 24) yMo_typesFound [.ref 58] σ3 (some v5) σ5 := R5.deep (by omega)
      have F5 : frML σ σ5 := ⟨fun i hi => (f5.1 i (by unfold mlP at hi; rw [Bool.or_eq_false_iff] at hi; exact hi.2)).trans (F3.1 i hi), fun k hk => (f5.2 k (by
        cases q : tK k
        · rfl
        · exact (hk (Or.inr (Or.inl q))).elim)).trans (F3.2 k hk)⟩
      rcases r5 with ⟨rfl, no⟩ | ⟨rfl, T5, rt, ex, iff, sm⟩
      · refine ⟨0, mup σ5 58 0 3, go ?_, Or.inr (Or.inl ⟨hc, no, mup_eq, th F5⟩)⟩
        unfold B_Mo_load B_Mo_load_35
        refine ⟨1, σ1, R1, ?_⟩
        rw [if_pos (by decide)]
        refine ⟨1, σ3, R3, ?_⟩
        rw [if_pos (by decide)]
        refine ⟨0, σ5, R5, ?_⟩
        rw [if_neg (by decide), if_neg (by decide)]
        exact ⟨rfl, rfl⟩
      · have e58 : ∀ k, k ≠ 0 → (mup σ5 58 0 0) 58 k = σ5 58 k := fun k hk => mup_nk hk
        have eo : ∀ i, i ≠ 58 → (mup σ5 58 0 0) i = σ5 i := fun i hi => mup_obj hi
        obtain ⟨T6, e6⟩ := T5.cg (σ' := mup σ5 58 0 0) (eo 79 (by decide)) (eo 80 (by decide)) (eo 81 (by decide)) (eo 82 (by decide)) (e58 35 (by decide))
        have q7 : (mup σ5 58 0 0) 58 7 = ln T := by rw [e58 7 (by decide), f5.2 7 rfl]; exact k7
        have q14 : (mup σ5 58 0 0) 58 14 = sn T := by rw [e58 14 (by decide), f5.2 14 rfl]; exact k14
        have q83 : (mup σ5 58 0 0) 83 0 = σ5 83 0 := by rw [eo 83 (by decide)]
        have g0 := ln_ge (T := T)
        have g1 := sn_ge (T := T)
        obtain ⟨σ6, cs, R6, tx, lc, tc, g6, g7, p1, p2, s2, s51, s54, s57, s58, s61, s63, s64, s65, s66, s67⟩ := s_start (d := d + 15) T6 (by rw [q83, e58 35 (by decide)]; exact rt) (by rw [e6, q83]; exact sm) (by rw [q7]; omega) (by rw [q14]; omega)
        rw [e6, q83] at tx
        rw [q7] at p1
        rw [q14] at p2
        refine ⟨cs.length, σ6, go ?_, Or.inr (Or.inr ⟨hc, ex, ?_, cs, rfl, ?_⟩)⟩
        · unfold B_Mo_load B_Mo_load_35
          refine ⟨1, σ1, R1, ?_⟩
          rw [if_pos (by decide)]
          refine ⟨1, σ3, R3, ?_⟩
          rw [if_pos (by decide)]
          refine ⟨1, σ5, R5, ?_⟩
          rw [if_pos (by decide), if_pos (by decide)]
          exact ⟨σ6, R6, by rw [tc.1], rfl⟩
        · rw [g7 0 (by decide) (by decide) (by decide) (by decide) (by decide) (by decide) (by decide) (by decide) (by decide) (by decide) (by decide) (by decide) (by decide)]
          exact mup_eq
        · have F6 := th (t := 0) F5
          refine ⟨fun i hi a1 a2 a3 a4 a5 a6 a7 => ?_, fun k hk a1 a2 a3 a4 a5 a6 a7 a8 a9 b1 b2 b3 b4 => ?_, ?_, ?_, lc, tc, s2, s51, s54, s57, s58, s61, s63, s64, s65, s66, s67⟩
          · have q : ∀ j, mlP j = true → i ≠ j := fun j hj e => by rw [e, hj] at hi; cases hi
            rw [g6 i (q 58 rfl) a1 a2 a3 a4 a5 a6 (q 82 rfl) (q 86 rfl) a7]
            exact F6.1 i hi
          · rw [g7 k a1 a2 a3 a4 a5 a6 a7 a8 a9 b1 b2 b3 b4]
            exact F6.2 k hk
          · have c5 : ∀ i, i = 60 ∨ i = 61 ∨ i = 62 ∨ i = 74 ∨ i = 66 ∨ i = 67 → (mup σ5 58 0 0) i = σ3 i := fun i hi => by
              rw [eo i (by omega)]
              refine f5.1 i ?_
              rcases hi with rfl | rfl | rfl | rfl | rfl | rfl <;> rfl
            refine ⟨?_, ?_, p1.1, l1, l2⟩
            · refine isC.mv (fun x x0 x1 => ?_) (fun x x0 x1 => ?_) hC3
              · obtain ⟨y1, y2, y3, y4⟩ := p1.2 x x0 (by omega)
                rw [c5 60 (by decide)] at y1
                rw [c5 61 (by decide)] at y2
                rw [c5 62 (by decide)] at y3
                rw [c5 74 (by decide)] at y4
                exact ⟨y1, fun _ => y2, y3, y4⟩
              · obtain ⟨y1, y2⟩ := p2 x x0 (by omega)
                rw [c5 66 (by decide)] at y1
                rw [c5 67 (by decide)] at y2
                exact ⟨y1, y2⟩
            · refine isN.mv (fun x x0 x1 => ?_) hN3
              obtain ⟨y1, y2, y3, y4⟩ := p1.2 x x0 (by omega)
              rw [c5 61 (by decide)] at y2
              exact y2
          · exact ⟨mS σ5, _, T5.1, T5.2.2.2.2.2.2, rt, iff, tx⟩
    · refine ⟨0, mup σ3 58 0 2, go ?_, Or.inl ⟨hc, mup_eq, th F3⟩⟩
      unfold B_Mo_load B_Mo_load_35
      refine ⟨1, σ1, R1, ?_⟩
      rw [if_pos (by decide)]
      refine ⟨0, σ3, R3, ?_⟩
      rw [if_neg (by decide), if_neg (by decide)]
      exact ⟨rfl, rfl⟩
end MLD
