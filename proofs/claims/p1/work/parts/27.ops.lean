/-! The law on a script of at most two ints. -/
def scr (h : mHp) (w : Int32) : Prop := 0 < h.1 ∧ hTag h 0 = 106 ∧ hLen h 0 = 2 ∧ hAt h 0 1 = .int w
theorem scr.set {h : mHp} {w : Int32} {j q : Nat} {v : Value} (hs : scr h w) (hj : 0 ≠ j) : scr (hSet h j q v) w := ⟨hs.1, tag_set.trans hs.2.1, len_set.trans hs.2.2.1, (at_ne hj _).trans hs.2.2.2⟩
theorem scr.new {h : mHp} {w : Int32} {t m : Nat} {f : Nat → Value} (hs : scr h w) : scr (hNew h t m f) w := ⟨Nat.succ_pos _, (tag_new hs.1).trans hs.2.1, (len_new hs.1).trans hs.2.2.1, (at_new hs.1 _).trans hs.2.2.2⟩
theorem cnd_rr {x : Int32} : mCnd x x .eq = true := decide_eq_true rfl
section OP
variable {call : Nat → List Value → mHp → Option (mRes × mHp)} {y k pc n a b w : Nat} {lv : List (Nat × Value)} {st : List Value} {h : mHp} {i : Instr} {r : Option (mRes × mHp)}
theorem sx_s1 {v : Int32} (hc : mcd y pc = some (.iaload, n, a, b, w)) (hs : scr h v) (K : mGo call true y k (pc + n, lv, .int v :: st, h) = r) : mGo call true y (k + 1) (pc, lv, .int (0 + Int32.ofInt 1) :: .ref 0 :: st, h) = r := by
  refine sx_sc hc rfl ?_ K
  simp only [mScr]
  rw [if_pos ⟨hs.2.1, by rw [hs.2.2.1]; decide⟩, show (0 + Int32.ofInt 1 : Int32).toNatClampNeg = 1 from by decide, hs.2.2.2]
theorem sx_s0 {x v : Int32} (hc : mcd y pc = some (.iaload, n, a, b, w)) (ht : hTag h 0 = 106) (hb : vp_in x (hLen h 0)) (hv : hAt h 0 x.toNatClampNeg = .int v) (K : mGo call true y k (pc + n, lv, .int v :: st, h) = r) : mGo call true y (k + 1) (pc, lv, .int x :: .ref 0 :: st, h) = r := by
  refine sx_sc hc rfl ?_ K
  simp only [mScr]
  rw [if_pos ⟨ht, hb⟩, hv]
theorem sx_sl {L : Nat} (hc : mcd y pc = some (.arraylength, n, a, b, w)) (ht : hTag h 0 = 106) (hl : hLen h 0 = L) (K : mGo call true y k (pc + n, lv, .int (Int32.ofNat L) :: st, h) = r) : mGo call true y (k + 1) (pc, lv, .ref 0 :: st, h) = r := by
  refine sx_sc hc rfl ?_ K
  simp only [mScr]
  rw [if_pos ht, hl]
theorem lookup_filter {p : Nat × Value → Bool} {j : Nat} (hp : ∀ v, p (j, v) = true) : ∀ (l : List (Nat × Value)), (l.filter p).lookup j = l.lookup j
  | [] => rfl
  | (x, v) :: l => by
    by_cases e : p (x, v) = true
    · rw [List.filter_cons_of_pos e, List.lookup_cons, List.lookup_cons, lookup_filter hp l]
    · rw [List.filter_cons_of_neg e, lookup_filter hp l, List.lookup_cons]
      have : (j == x) = false := by
        rw [beq_eq_false_iff_ne]
        intro q
        subst q
        exact e (hp v)
      rw [this]
theorem fin2 (ht : hTag h 0 = 106) (hl : hLen h 0 = 2) (h5 : lv.lookup 5 = some (.int 0)) (h0 : lv.lookup 0 = some (.ref 0)) : mGo call true 229 (k + 20) (438, lv, [], h) = some (.inl (some (.int 1)), h) := by
  refine sx_l rfl rfl (lv' := mSto1 lv 5 (.int (0 + Int32.ofInt 2))) (st' := []) ?_ ?_
  · simp only [mLoc, h5]; rfl
  refine sx_b rfl rfl rfl rfl ?_
  refine sx_l rfl rfl rfl ?_
  refine sx_l rfl rfl (lv' := mSto1 lv 5 (.int (0 + Int32.ofInt 2))) (st' := .ref 0 :: [.int (0 + Int32.ofInt 2)]) ?_ ?_
  · show mLd (mSto1 lv 5 (.int (0 + Int32.ofInt 2))) _ 0 isA = _
    unfold mLd
    rw [show (mSto1 lv 5 (.int (0 + Int32.ofInt 2))).lookup 0 = some (.ref 0) from (lookup_filter (fun v => rfl) lv).trans h0]
    rfl
  refine sx_sl rfl ht hl ?_
  refine sx_p rfl rfl rfl ?_
  refine sx_p rfl rfl rfl ?_
  refine sx_c rfl (by decide) (show mCnd _ _ _ = true by decide) rfl ?_
  refine sx_p rfl rfl rfl ?_
  exact sx_r rfl rfl rfl
end OP
/-- what is known of a heap that the script v w stands in, and the two fresh objects -/
def frK (h : mHp) (w : Int32) : Prop := scr h w ∧ 59 < h.1 ∧ h.1 ≤ 1000 ∧ h.2.1 ≤ 100000 ∧ (∀ i, i ≠ 0 → ∀ x, hAt h i x = hAt frH i x) ∧ (∀ i, hTag h i = hTag frH i) ∧ (∀ i, i ≠ 0 → hLen h i = hLen frH i)
def frG (h h' : mHp) : Prop := h'.1 ≤ h.1 + 1 ∧ h'.2.1 ≤ h.2.1 + 6

theorem op3 {k : Nat} {h : mHp} {w : Int32} (H : frK h w) : ∃ h2, mGo frC true 229 (k + 60) (182, frL, [], h) = some (.inl (some (.int 1)), h2) ∧ frG h h2 := by
  obtain ⟨hs, hn, -, -, hA, hT, hL⟩ := H
  have c1 : hTag h 1 = 0 := (hT 1).trans frH_c.1.1
  have c2 : hAt h 1 0 = .ref 2 := (hA 1 (by decide) 0).trans frH_c.1.2.1
  have c3 : hAt h 1 6 = .ref 54 := (hA 1 (by decide) 6).trans frH_c.1.2.2.1
  have c4 : hAt h 1 8 = .int 0 := (hA 1 (by decide) 8).trans frH_c.1.2.2.2.1
  have c5 : hAt h 1 9 = .null := (hA 1 (by decide) 9).trans frH_c.1.2.2.2.2
  have l1 : hTag h 2 = 1 := (hT 2).trans frH_c.2.1.1
  have l2 : hAt h 2 0 = .ref 3 := (hA 2 (by decide) 0).trans frH_c.2.1.2.1
  have l3 : hAt h 2 1 = .int 0 := (hA 2 (by decide) 1).trans frH_c.2.1.2.2
  have l4 : hTag h 3 = 2 := (hT 3).trans frH_c.2.2.1.1
  have l5 : hAt h 3 0 = .ref 4 := (hA 3 (by decide) 0).trans frH_c.2.2.1.2.1
  have l6 : hTag h 4 = 100 := (hT 4).trans frH_c.2.2.1.2.2.1
  have l7 : hLen h 4 = 60 := (hL 4 (by decide)).trans frH_c.2.2.1.2.2.2
  have m1 : hTag h 54 = 7 := (hT 54).trans frH_c.2.2.2.1
  have m2 : hAt h 54 7 = .int 0 := (hA 54 (by decide) 7).trans frH_c.2.2.2.2.1
  have m3 : hAt h 54 8 = .int 0 := (hA 54 (by decide) 8).trans frH_c.2.2.2.2.2.1
  have m4 : hAt h 54 9 = .int 0 := (hA 54 (by decide) 9).trans frH_c.2.2.2.2.2.2.1
  have m5 : hAt h 54 10 = .int 0 := (hA 54 (by decide) 10).trans frH_c.2.2.2.2.2.2.2
  have r1 : hTag h 58 = 11 := (hT 58).trans frH_m.1
  have r2 : hAt h 58 1 = .ref 59 := (hA 58 (by decide) 1).trans frH_m.2.1
  have r3 : hTag h 59 = 101 := (hT 59).trans frH_m.2.2.1
  have r4 : hLen h 59 = 60 := (hL 59 (by decide)).trans frH_m.2.2.2.1
  have r5 : hAt h 58 2 = .int 0 := (hA 58 (by decide) 2).trans frH_m.2.2.2.2.1
  have r6 : hAt h 58 49 = .int 0 := (hA 58 (by decide) 49).trans frH_m.2.2.2.2.2.1
  have r7 : hAt h 58 65 = .int 0 := (hA 58 (by decide) 65).trans frH_m.2.2.2.2.2.2.1
  have r8 : hAt h 58 66 = .int 0 := (hA 58 (by decide) 66).trans frH_m.2.2.2.2.2.2.2.1
  have r9 : hAt h 58 67 = .int 0 := (hA 58 (by decide) 67).trans frH_m.2.2.2.2.2.2.2.2.1
  have r0 : hAt h 58 68 = .int 0 := (hA 58 (by decide) 68).trans frH_m.2.2.2.2.2.2.2.2.2
  apply Exists.intro
  apply And.intro
  · refine sx_l rfl rfl rfl ?_
    refine sx_l rfl rfl rfl ?_
    refine sx_l rfl rfl rfl ?_
    refine sx_p rfl rfl rfl ?_
    refine sx_p rfl rfl rfl ?_
    refine sx_s1 rfl hs ?_
    refine sx_iv rfl rfl rfl c1 (by decide) rfl (shown_c c1 c4) ?_
    refine sx_l rfl rfl rfl ?_
    refine sx_l rfl rfl rfl ?_
    refine sx_l rfl rfl rfl ?_
    refine sx_p rfl rfl rfl ?_
    refine sx_p rfl rfl rfl ?_
    refine sx_s1 rfl hs ?_
    refine sx_iv rfl rfl rfl r1 (by decide) rfl (shown_m r1 r6) ?_
    refine sx_c rfl (by decide) cnd_rr rfl ?_
    exact fin2 (hs.set (by decide)).2.1 (hs.set (by decide)).2.2.1 rfl rfl
  · constructor <;> simp only [hSet, hNew] <;> omega
theorem op4 {k : Nat} {h : mHp} {w : Int32} (H : frK h w) : ∃ h2, mGo frC true 229 (k + 60) (207, frL, [], h) = some (.inl (some (.int 1)), h2) ∧ frG h h2 := by
  obtain ⟨hs, hn, -, -, hA, hT, hL⟩ := H
  have c1 : hTag h 1 = 0 := (hT 1).trans frH_c.1.1
  have c2 : hAt h 1 0 = .ref 2 := (hA 1 (by decide) 0).trans frH_c.1.2.1
  have c3 : hAt h 1 6 = .ref 54 := (hA 1 (by decide) 6).trans frH_c.1.2.2.1
  have c4 : hAt h 1 8 = .int 0 := (hA 1 (by decide) 8).trans frH_c.1.2.2.2.1
  have c5 : hAt h 1 9 = .null := (hA 1 (by decide) 9).trans frH_c.1.2.2.2.2
  have l1 : hTag h 2 = 1 := (hT 2).trans frH_c.2.1.1
  have l2 : hAt h 2 0 = .ref 3 := (hA 2 (by decide) 0).trans frH_c.2.1.2.1
  have l3 : hAt h 2 1 = .int 0 := (hA 2 (by decide) 1).trans frH_c.2.1.2.2
  have l4 : hTag h 3 = 2 := (hT 3).trans frH_c.2.2.1.1
  have l5 : hAt h 3 0 = .ref 4 := (hA 3 (by decide) 0).trans frH_c.2.2.1.2.1
  have l6 : hTag h 4 = 100 := (hT 4).trans frH_c.2.2.1.2.2.1
  have l7 : hLen h 4 = 60 := (hL 4 (by decide)).trans frH_c.2.2.1.2.2.2
  have m1 : hTag h 54 = 7 := (hT 54).trans frH_c.2.2.2.1
  have m2 : hAt h 54 7 = .int 0 := (hA 54 (by decide) 7).trans frH_c.2.2.2.2.1
  have m3 : hAt h 54 8 = .int 0 := (hA 54 (by decide) 8).trans frH_c.2.2.2.2.2.1
  have m4 : hAt h 54 9 = .int 0 := (hA 54 (by decide) 9).trans frH_c.2.2.2.2.2.2.1
  have m5 : hAt h 54 10 = .int 0 := (hA 54 (by decide) 10).trans frH_c.2.2.2.2.2.2.2
  have r1 : hTag h 58 = 11 := (hT 58).trans frH_m.1
  have r2 : hAt h 58 1 = .ref 59 := (hA 58 (by decide) 1).trans frH_m.2.1
  have r3 : hTag h 59 = 101 := (hT 59).trans frH_m.2.2.1
  have r4 : hLen h 59 = 60 := (hL 59 (by decide)).trans frH_m.2.2.2.1
  have r5 : hAt h 58 2 = .int 0 := (hA 58 (by decide) 2).trans frH_m.2.2.2.2.1
  have r6 : hAt h 58 49 = .int 0 := (hA 58 (by decide) 49).trans frH_m.2.2.2.2.2.1
  have r7 : hAt h 58 65 = .int 0 := (hA 58 (by decide) 65).trans frH_m.2.2.2.2.2.2.1
  have r8 : hAt h 58 66 = .int 0 := (hA 58 (by decide) 66).trans frH_m.2.2.2.2.2.2.2.1
  have r9 : hAt h 58 67 = .int 0 := (hA 58 (by decide) 67).trans frH_m.2.2.2.2.2.2.2.2.1
  have r0 : hAt h 58 68 = .int 0 := (hA 58 (by decide) 68).trans frH_m.2.2.2.2.2.2.2.2.2
  apply Exists.intro
  apply And.intro
  · refine sx_l rfl rfl rfl ?_
    refine sx_l rfl rfl rfl ?_
    refine sx_l rfl rfl rfl ?_
    refine sx_p rfl rfl rfl ?_
    refine sx_p rfl rfl rfl ?_
    refine sx_s1 rfl hs ?_
    refine sx_iv rfl rfl rfl c1 (by decide) rfl (run_c c1 c3 m1 m2) ?_
    refine sx_l rfl rfl rfl ?_
    refine sx_l rfl rfl rfl ?_
    refine sx_l rfl rfl rfl ?_
    refine sx_p rfl rfl rfl ?_
    refine sx_p rfl rfl rfl ?_
    refine sx_s1 rfl hs ?_
    refine sx_iv rfl rfl rfl r1 (by decide) rfl (run_m r1 r7) ?_
    refine sx_c rfl (by decide) cnd_rr rfl ?_
    exact fin2 (hs.set (by decide)).2.1 (hs.set (by decide)).2.2.1 rfl rfl
  · constructor <;> simp only [hSet, hNew] <;> omega
theorem op5_0 {k : Nat} {h : mHp} (H : frK h 0) : ∃ h2, mGo frC true 229 (k + 60) (232, frL, [], h) = some (.inl (some (.int 1)), h2) ∧ frG h h2 := by
  obtain ⟨hs, hn, -, -, hA, hT, hL⟩ := H
  have c1 : hTag h 1 = 0 := (hT 1).trans frH_c.1.1
  have c2 : hAt h 1 0 = .ref 2 := (hA 1 (by decide) 0).trans frH_c.1.2.1
  have c3 : hAt h 1 6 = .ref 54 := (hA 1 (by decide) 6).trans frH_c.1.2.2.1
  have c4 : hAt h 1 8 = .int 0 := (hA 1 (by decide) 8).trans frH_c.1.2.2.2.1
  have c5 : hAt h 1 9 = .null := (hA 1 (by decide) 9).trans frH_c.1.2.2.2.2
  have l1 : hTag h 2 = 1 := (hT 2).trans frH_c.2.1.1
  have l2 : hAt h 2 0 = .ref 3 := (hA 2 (by decide) 0).trans frH_c.2.1.2.1
  have l3 : hAt h 2 1 = .int 0 := (hA 2 (by decide) 1).trans frH_c.2.1.2.2
  have l4 : hTag h 3 = 2 := (hT 3).trans frH_c.2.2.1.1
  have l5 : hAt h 3 0 = .ref 4 := (hA 3 (by decide) 0).trans frH_c.2.2.1.2.1
  have l6 : hTag h 4 = 100 := (hT 4).trans frH_c.2.2.1.2.2.1
  have l7 : hLen h 4 = 60 := (hL 4 (by decide)).trans frH_c.2.2.1.2.2.2
  have m1 : hTag h 54 = 7 := (hT 54).trans frH_c.2.2.2.1
  have m2 : hAt h 54 7 = .int 0 := (hA 54 (by decide) 7).trans frH_c.2.2.2.2.1
  have m3 : hAt h 54 8 = .int 0 := (hA 54 (by decide) 8).trans frH_c.2.2.2.2.2.1
  have m4 : hAt h 54 9 = .int 0 := (hA 54 (by decide) 9).trans frH_c.2.2.2.2.2.2.1
  have m5 : hAt h 54 10 = .int 0 := (hA 54 (by decide) 10).trans frH_c.2.2.2.2.2.2.2
  have r1 : hTag h 58 = 11 := (hT 58).trans frH_m.1
  have r2 : hAt h 58 1 = .ref 59 := (hA 58 (by decide) 1).trans frH_m.2.1
  have r3 : hTag h 59 = 101 := (hT 59).trans frH_m.2.2.1
  have r4 : hLen h 59 = 60 := (hL 59 (by decide)).trans frH_m.2.2.2.1
  have r5 : hAt h 58 2 = .int 0 := (hA 58 (by decide) 2).trans frH_m.2.2.2.2.1
  have r6 : hAt h 58 49 = .int 0 := (hA 58 (by decide) 49).trans frH_m.2.2.2.2.2.1
  have r7 : hAt h 58 65 = .int 0 := (hA 58 (by decide) 65).trans frH_m.2.2.2.2.2.2.1
  have r8 : hAt h 58 66 = .int 0 := (hA 58 (by decide) 66).trans frH_m.2.2.2.2.2.2.2.1
  have r9 : hAt h 58 67 = .int 0 := (hA 58 (by decide) 67).trans frH_m.2.2.2.2.2.2.2.2.1
  have r0 : hAt h 58 68 = .int 0 := (hA 58 (by decide) 68).trans frH_m.2.2.2.2.2.2.2.2.2
  apply Exists.intro
  apply And.intro
  · refine sx_l rfl rfl rfl ?_
    refine sx_l rfl rfl rfl ?_
    refine sx_l rfl rfl rfl ?_
    refine sx_p rfl rfl rfl ?_
    refine sx_p rfl rfl rfl ?_
    refine sx_s1 rfl hs ?_
    refine sx_iv rfl rfl rfl c1 (by decide) rfl (state_c0 c1 c3 m1 m2 m3 m4 m5) ?_
    refine sx_l rfl rfl rfl ?_
    refine sx_l rfl rfl rfl ?_
    refine sx_l rfl rfl rfl ?_
    refine sx_p rfl rfl rfl ?_
    refine sx_p rfl rfl rfl ?_
    refine sx_s1 rfl hs ?_
    refine sx_iv rfl rfl rfl r1 (by decide) rfl (state_m0 r1 r7) ?_
    refine sx_c rfl (by decide) cnd_rr rfl ?_
    exact fin2 (hs.set (by decide)).2.1 (hs.set (by decide)).2.2.1 rfl rfl
  · constructor <;> simp only [hSet, hNew] <;> omega
theorem op5_1 {k : Nat} {h : mHp} (H : frK h 1) : ∃ h2, mGo frC true 229 (k + 60) (232, frL, [], h) = some (.inl (some (.int 1)), h2) ∧ frG h h2 := by
  obtain ⟨hs, hn, -, -, hA, hT, hL⟩ := H
  have c1 : hTag h 1 = 0 := (hT 1).trans frH_c.1.1
  have c2 : hAt h 1 0 = .ref 2 := (hA 1 (by decide) 0).trans frH_c.1.2.1
  have c3 : hAt h 1 6 = .ref 54 := (hA 1 (by decide) 6).trans frH_c.1.2.2.1
  have c4 : hAt h 1 8 = .int 0 := (hA 1 (by decide) 8).trans frH_c.1.2.2.2.1
  have c5 : hAt h 1 9 = .null := (hA 1 (by decide) 9).trans frH_c.1.2.2.2.2
  have l1 : hTag h 2 = 1 := (hT 2).trans frH_c.2.1.1
  have l2 : hAt h 2 0 = .ref 3 := (hA 2 (by decide) 0).trans frH_c.2.1.2.1
  have l3 : hAt h 2 1 = .int 0 := (hA 2 (by decide) 1).trans frH_c.2.1.2.2
  have l4 : hTag h 3 = 2 := (hT 3).trans frH_c.2.2.1.1
  have l5 : hAt h 3 0 = .ref 4 := (hA 3 (by decide) 0).trans frH_c.2.2.1.2.1
  have l6 : hTag h 4 = 100 := (hT 4).trans frH_c.2.2.1.2.2.1
  have l7 : hLen h 4 = 60 := (hL 4 (by decide)).trans frH_c.2.2.1.2.2.2
  have m1 : hTag h 54 = 7 := (hT 54).trans frH_c.2.2.2.1
  have m2 : hAt h 54 7 = .int 0 := (hA 54 (by decide) 7).trans frH_c.2.2.2.2.1
  have m3 : hAt h 54 8 = .int 0 := (hA 54 (by decide) 8).trans frH_c.2.2.2.2.2.1
  have m4 : hAt h 54 9 = .int 0 := (hA 54 (by decide) 9).trans frH_c.2.2.2.2.2.2.1
  have m5 : hAt h 54 10 = .int 0 := (hA 54 (by decide) 10).trans frH_c.2.2.2.2.2.2.2
  have r1 : hTag h 58 = 11 := (hT 58).trans frH_m.1
  have r2 : hAt h 58 1 = .ref 59 := (hA 58 (by decide) 1).trans frH_m.2.1
  have r3 : hTag h 59 = 101 := (hT 59).trans frH_m.2.2.1
  have r4 : hLen h 59 = 60 := (hL 59 (by decide)).trans frH_m.2.2.2.1
  have r5 : hAt h 58 2 = .int 0 := (hA 58 (by decide) 2).trans frH_m.2.2.2.2.1
  have r6 : hAt h 58 49 = .int 0 := (hA 58 (by decide) 49).trans frH_m.2.2.2.2.2.1
  have r7 : hAt h 58 65 = .int 0 := (hA 58 (by decide) 65).trans frH_m.2.2.2.2.2.2.1
  have r8 : hAt h 58 66 = .int 0 := (hA 58 (by decide) 66).trans frH_m.2.2.2.2.2.2.2.1
  have r9 : hAt h 58 67 = .int 0 := (hA 58 (by decide) 67).trans frH_m.2.2.2.2.2.2.2.2.1
  have r0 : hAt h 58 68 = .int 0 := (hA 58 (by decide) 68).trans frH_m.2.2.2.2.2.2.2.2.2
  apply Exists.intro
  apply And.intro
  · refine sx_l rfl rfl rfl ?_
    refine sx_l rfl rfl rfl ?_
    refine sx_l rfl rfl rfl ?_
    refine sx_p rfl rfl rfl ?_
    refine sx_p rfl rfl rfl ?_
    refine sx_s1 rfl hs ?_
    refine sx_iv rfl rfl rfl c1 (by decide) rfl (state_c1 c1 c3 m1 m2 m3 m4 m5) ?_
    refine sx_l rfl rfl rfl ?_
    refine sx_l rfl rfl rfl ?_
    refine sx_l rfl rfl rfl ?_
    refine sx_p rfl rfl rfl ?_
    refine sx_p rfl rfl rfl ?_
    refine sx_s1 rfl hs ?_
    refine sx_iv rfl rfl rfl r1 (by decide) rfl (state_m1 r1 r8) ?_
    refine sx_c rfl (by decide) cnd_rr rfl ?_
    exact fin2 (hs.set (by decide)).2.1 (hs.set (by decide)).2.2.1 rfl rfl
  · constructor <;> simp only [hSet, hNew] <;> omega
theorem op5_2 {k : Nat} {h : mHp} (H : frK h 2) : ∃ h2, mGo frC true 229 (k + 60) (232, frL, [], h) = some (.inl (some (.int 1)), h2) ∧ frG h h2 := by
  obtain ⟨hs, hn, -, -, hA, hT, hL⟩ := H
  have c1 : hTag h 1 = 0 := (hT 1).trans frH_c.1.1
  have c2 : hAt h 1 0 = .ref 2 := (hA 1 (by decide) 0).trans frH_c.1.2.1
  have c3 : hAt h 1 6 = .ref 54 := (hA 1 (by decide) 6).trans frH_c.1.2.2.1
  have c4 : hAt h 1 8 = .int 0 := (hA 1 (by decide) 8).trans frH_c.1.2.2.2.1
  have c5 : hAt h 1 9 = .null := (hA 1 (by decide) 9).trans frH_c.1.2.2.2.2
  have l1 : hTag h 2 = 1 := (hT 2).trans frH_c.2.1.1
  have l2 : hAt h 2 0 = .ref 3 := (hA 2 (by decide) 0).trans frH_c.2.1.2.1
  have l3 : hAt h 2 1 = .int 0 := (hA 2 (by decide) 1).trans frH_c.2.1.2.2
  have l4 : hTag h 3 = 2 := (hT 3).trans frH_c.2.2.1.1
  have l5 : hAt h 3 0 = .ref 4 := (hA 3 (by decide) 0).trans frH_c.2.2.1.2.1
  have l6 : hTag h 4 = 100 := (hT 4).trans frH_c.2.2.1.2.2.1
  have l7 : hLen h 4 = 60 := (hL 4 (by decide)).trans frH_c.2.2.1.2.2.2
  have m1 : hTag h 54 = 7 := (hT 54).trans frH_c.2.2.2.1
  have m2 : hAt h 54 7 = .int 0 := (hA 54 (by decide) 7).trans frH_c.2.2.2.2.1
  have m3 : hAt h 54 8 = .int 0 := (hA 54 (by decide) 8).trans frH_c.2.2.2.2.2.1
  have m4 : hAt h 54 9 = .int 0 := (hA 54 (by decide) 9).trans frH_c.2.2.2.2.2.2.1
  have m5 : hAt h 54 10 = .int 0 := (hA 54 (by decide) 10).trans frH_c.2.2.2.2.2.2.2
  have r1 : hTag h 58 = 11 := (hT 58).trans frH_m.1
  have r2 : hAt h 58 1 = .ref 59 := (hA 58 (by decide) 1).trans frH_m.2.1
  have r3 : hTag h 59 = 101 := (hT 59).trans frH_m.2.2.1
  have r4 : hLen h 59 = 60 := (hL 59 (by decide)).trans frH_m.2.2.2.1
  have r5 : hAt h 58 2 = .int 0 := (hA 58 (by decide) 2).trans frH_m.2.2.2.2.1
  have r6 : hAt h 58 49 = .int 0 := (hA 58 (by decide) 49).trans frH_m.2.2.2.2.2.1
  have r7 : hAt h 58 65 = .int 0 := (hA 58 (by decide) 65).trans frH_m.2.2.2.2.2.2.1
  have r8 : hAt h 58 66 = .int 0 := (hA 58 (by decide) 66).trans frH_m.2.2.2.2.2.2.2.1
  have r9 : hAt h 58 67 = .int 0 := (hA 58 (by decide) 67).trans frH_m.2.2.2.2.2.2.2.2.1
  have r0 : hAt h 58 68 = .int 0 := (hA 58 (by decide) 68).trans frH_m.2.2.2.2.2.2.2.2.2
  apply Exists.intro
  apply And.intro
  · refine sx_l rfl rfl rfl ?_
    refine sx_l rfl rfl rfl ?_
    refine sx_l rfl rfl rfl ?_
    refine sx_p rfl rfl rfl ?_
    refine sx_p rfl rfl rfl ?_
    refine sx_s1 rfl hs ?_
    refine sx_iv rfl rfl rfl c1 (by decide) rfl (state_c2 c1 c3 m1 m2 m3 m4 m5) ?_
    refine sx_l rfl rfl rfl ?_
    refine sx_l rfl rfl rfl ?_
    refine sx_l rfl rfl rfl ?_
    refine sx_p rfl rfl rfl ?_
    refine sx_p rfl rfl rfl ?_
    refine sx_s1 rfl hs ?_
    refine sx_iv rfl rfl rfl r1 (by decide) rfl (state_m2 r1 r9) ?_
    refine sx_c rfl (by decide) cnd_rr rfl ?_
    exact fin2 (hs.set (by decide)).2.1 (hs.set (by decide)).2.2.1 rfl rfl
  · constructor <;> simp only [hSet, hNew] <;> omega
theorem op5_3 {k : Nat} {h : mHp} (H : frK h 3) : ∃ h2, mGo frC true 229 (k + 60) (232, frL, [], h) = some (.inl (some (.int 1)), h2) ∧ frG h h2 := by
  obtain ⟨hs, hn, -, -, hA, hT, hL⟩ := H
  have c1 : hTag h 1 = 0 := (hT 1).trans frH_c.1.1
  have c2 : hAt h 1 0 = .ref 2 := (hA 1 (by decide) 0).trans frH_c.1.2.1
  have c3 : hAt h 1 6 = .ref 54 := (hA 1 (by decide) 6).trans frH_c.1.2.2.1
  have c4 : hAt h 1 8 = .int 0 := (hA 1 (by decide) 8).trans frH_c.1.2.2.2.1
  have c5 : hAt h 1 9 = .null := (hA 1 (by decide) 9).trans frH_c.1.2.2.2.2
  have l1 : hTag h 2 = 1 := (hT 2).trans frH_c.2.1.1
  have l2 : hAt h 2 0 = .ref 3 := (hA 2 (by decide) 0).trans frH_c.2.1.2.1
  have l3 : hAt h 2 1 = .int 0 := (hA 2 (by decide) 1).trans frH_c.2.1.2.2
  have l4 : hTag h 3 = 2 := (hT 3).trans frH_c.2.2.1.1
  have l5 : hAt h 3 0 = .ref 4 := (hA 3 (by decide) 0).trans frH_c.2.2.1.2.1
  have l6 : hTag h 4 = 100 := (hT 4).trans frH_c.2.2.1.2.2.1
  have l7 : hLen h 4 = 60 := (hL 4 (by decide)).trans frH_c.2.2.1.2.2.2
  have m1 : hTag h 54 = 7 := (hT 54).trans frH_c.2.2.2.1
  have m2 : hAt h 54 7 = .int 0 := (hA 54 (by decide) 7).trans frH_c.2.2.2.2.1
  have m3 : hAt h 54 8 = .int 0 := (hA 54 (by decide) 8).trans frH_c.2.2.2.2.2.1
  have m4 : hAt h 54 9 = .int 0 := (hA 54 (by decide) 9).trans frH_c.2.2.2.2.2.2.1
  have m5 : hAt h 54 10 = .int 0 := (hA 54 (by decide) 10).trans frH_c.2.2.2.2.2.2.2
  have r1 : hTag h 58 = 11 := (hT 58).trans frH_m.1
  have r2 : hAt h 58 1 = .ref 59 := (hA 58 (by decide) 1).trans frH_m.2.1
  have r3 : hTag h 59 = 101 := (hT 59).trans frH_m.2.2.1
  have r4 : hLen h 59 = 60 := (hL 59 (by decide)).trans frH_m.2.2.2.1
  have r5 : hAt h 58 2 = .int 0 := (hA 58 (by decide) 2).trans frH_m.2.2.2.2.1
  have r6 : hAt h 58 49 = .int 0 := (hA 58 (by decide) 49).trans frH_m.2.2.2.2.2.1
  have r7 : hAt h 58 65 = .int 0 := (hA 58 (by decide) 65).trans frH_m.2.2.2.2.2.2.1
  have r8 : hAt h 58 66 = .int 0 := (hA 58 (by decide) 66).trans frH_m.2.2.2.2.2.2.2.1
  have r9 : hAt h 58 67 = .int 0 := (hA 58 (by decide) 67).trans frH_m.2.2.2.2.2.2.2.2.1
  have r0 : hAt h 58 68 = .int 0 := (hA 58 (by decide) 68).trans frH_m.2.2.2.2.2.2.2.2.2
  apply Exists.intro
  apply And.intro
  · refine sx_l rfl rfl rfl ?_
    refine sx_l rfl rfl rfl ?_
    refine sx_l rfl rfl rfl ?_
    refine sx_p rfl rfl rfl ?_
    refine sx_p rfl rfl rfl ?_
    refine sx_s1 rfl hs ?_
    refine sx_iv rfl rfl rfl c1 (by decide) rfl (state_c3 c1 c3 m1 m2 m3 m4 m5) ?_
    refine sx_l rfl rfl rfl ?_
    refine sx_l rfl rfl rfl ?_
    refine sx_l rfl rfl rfl ?_
    refine sx_p rfl rfl rfl ?_
    refine sx_p rfl rfl rfl ?_
    refine sx_s1 rfl hs ?_
    refine sx_iv rfl rfl rfl r1 (by decide) rfl (state_m3 r1 r0) ?_
    refine sx_c rfl (by decide) cnd_rr rfl ?_
    exact fin2 (hs.set (by decide)).2.1 (hs.set (by decide)).2.2.1 rfl rfl
  · constructor <;> simp only [hSet, hNew] <;> omega
theorem op5_d {k : Nat} {h : mHp} {w : Int32} (q0 : w ≠ 0) (q1 : w ≠ 1) (q2 : w ≠ 2) (q3 : w ≠ 3) (H : frK h w) : ∃ h2, mGo frC true 229 (k + 60) (232, frL, [], h) = some (.inl (some (.int 1)), h2) ∧ frG h h2 := by
  obtain ⟨hs, hn, -, -, hA, hT, hL⟩ := H
  have c1 : hTag h 1 = 0 := (hT 1).trans frH_c.1.1
  have c2 : hAt h 1 0 = .ref 2 := (hA 1 (by decide) 0).trans frH_c.1.2.1
  have c3 : hAt h 1 6 = .ref 54 := (hA 1 (by decide) 6).trans frH_c.1.2.2.1
  have c4 : hAt h 1 8 = .int 0 := (hA 1 (by decide) 8).trans frH_c.1.2.2.2.1
  have c5 : hAt h 1 9 = .null := (hA 1 (by decide) 9).trans frH_c.1.2.2.2.2
  have l1 : hTag h 2 = 1 := (hT 2).trans frH_c.2.1.1
  have l2 : hAt h 2 0 = .ref 3 := (hA 2 (by decide) 0).trans frH_c.2.1.2.1
  have l3 : hAt h 2 1 = .int 0 := (hA 2 (by decide) 1).trans frH_c.2.1.2.2
  have l4 : hTag h 3 = 2 := (hT 3).trans frH_c.2.2.1.1
  have l5 : hAt h 3 0 = .ref 4 := (hA 3 (by decide) 0).trans frH_c.2.2.1.2.1
  have l6 : hTag h 4 = 100 := (hT 4).trans frH_c.2.2.1.2.2.1
  have l7 : hLen h 4 = 60 := (hL 4 (by decide)).trans frH_c.2.2.1.2.2.2
  have m1 : hTag h 54 = 7 := (hT 54).trans frH_c.2.2.2.1
  have m2 : hAt h 54 7 = .int 0 := (hA 54 (by decide) 7).trans frH_c.2.2.2.2.1
  have m3 : hAt h 54 8 = .int 0 := (hA 54 (by decide) 8).trans frH_c.2.2.2.2.2.1
  have m4 : hAt h 54 9 = .int 0 := (hA 54 (by decide) 9).trans frH_c.2.2.2.2.2.2.1
  have m5 : hAt h 54 10 = .int 0 := (hA 54 (by decide) 10).trans frH_c.2.2.2.2.2.2.2
  have r1 : hTag h 58 = 11 := (hT 58).trans frH_m.1
  have r2 : hAt h 58 1 = .ref 59 := (hA 58 (by decide) 1).trans frH_m.2.1
  have r3 : hTag h 59 = 101 := (hT 59).trans frH_m.2.2.1
  have r4 : hLen h 59 = 60 := (hL 59 (by decide)).trans frH_m.2.2.2.1
  have r5 : hAt h 58 2 = .int 0 := (hA 58 (by decide) 2).trans frH_m.2.2.2.2.1
  have r6 : hAt h 58 49 = .int 0 := (hA 58 (by decide) 49).trans frH_m.2.2.2.2.2.1
  have r7 : hAt h 58 65 = .int 0 := (hA 58 (by decide) 65).trans frH_m.2.2.2.2.2.2.1
  have r8 : hAt h 58 66 = .int 0 := (hA 58 (by decide) 66).trans frH_m.2.2.2.2.2.2.2.1
  have r9 : hAt h 58 67 = .int 0 := (hA 58 (by decide) 67).trans frH_m.2.2.2.2.2.2.2.2.1
  have r0 : hAt h 58 68 = .int 0 := (hA 58 (by decide) 68).trans frH_m.2.2.2.2.2.2.2.2.2
  apply Exists.intro
  apply And.intro
  · refine sx_l rfl rfl rfl ?_
    refine sx_l rfl rfl rfl ?_
    refine sx_l rfl rfl rfl ?_
    refine sx_p rfl rfl rfl ?_
    refine sx_p rfl rfl rfl ?_
    refine sx_s1 rfl hs ?_
    refine sx_iv rfl rfl rfl c1 (by decide) rfl (state_cd q0 q1 q2 q3) ?_
    refine sx_l rfl rfl rfl ?_
    refine sx_l rfl rfl rfl ?_
    refine sx_l rfl rfl rfl ?_
    refine sx_p rfl rfl rfl ?_
    refine sx_p rfl rfl rfl ?_
    refine sx_s1 rfl hs ?_
    refine sx_iv rfl rfl rfl r1 (by decide) rfl (state_md r1 q0 q1 q2 q3) ?_
    refine sx_c rfl (by decide) cnd_rr rfl ?_
    exact fin2 (hs.set (by decide)).2.1 (hs.set (by decide)).2.2.1 rfl rfl
  · constructor <;> simp only [hSet, hNew] <;> omega
theorem op6 {k : Nat} {h : mHp} {w : Int32} (H : frK h w) : ∃ h2, mGo frC true 229 (k + 60) (257, frL, [], h) = some (.inl (some (.int 1)), h2) ∧ frG h h2 := by
  obtain ⟨hs, hn, -, -, hA, hT, hL⟩ := H
  have c1 : hTag h 1 = 0 := (hT 1).trans frH_c.1.1
  have c2 : hAt h 1 0 = .ref 2 := (hA 1 (by decide) 0).trans frH_c.1.2.1
  have c3 : hAt h 1 6 = .ref 54 := (hA 1 (by decide) 6).trans frH_c.1.2.2.1
  have c4 : hAt h 1 8 = .int 0 := (hA 1 (by decide) 8).trans frH_c.1.2.2.2.1
  have c5 : hAt h 1 9 = .null := (hA 1 (by decide) 9).trans frH_c.1.2.2.2.2
  have l1 : hTag h 2 = 1 := (hT 2).trans frH_c.2.1.1
  have l2 : hAt h 2 0 = .ref 3 := (hA 2 (by decide) 0).trans frH_c.2.1.2.1
  have l3 : hAt h 2 1 = .int 0 := (hA 2 (by decide) 1).trans frH_c.2.1.2.2
  have l4 : hTag h 3 = 2 := (hT 3).trans frH_c.2.2.1.1
  have l5 : hAt h 3 0 = .ref 4 := (hA 3 (by decide) 0).trans frH_c.2.2.1.2.1
  have l6 : hTag h 4 = 100 := (hT 4).trans frH_c.2.2.1.2.2.1
  have l7 : hLen h 4 = 60 := (hL 4 (by decide)).trans frH_c.2.2.1.2.2.2
  have m1 : hTag h 54 = 7 := (hT 54).trans frH_c.2.2.2.1
  have m2 : hAt h 54 7 = .int 0 := (hA 54 (by decide) 7).trans frH_c.2.2.2.2.1
  have m3 : hAt h 54 8 = .int 0 := (hA 54 (by decide) 8).trans frH_c.2.2.2.2.2.1
  have m4 : hAt h 54 9 = .int 0 := (hA 54 (by decide) 9).trans frH_c.2.2.2.2.2.2.1
  have m5 : hAt h 54 10 = .int 0 := (hA 54 (by decide) 10).trans frH_c.2.2.2.2.2.2.2
  have r1 : hTag h 58 = 11 := (hT 58).trans frH_m.1
  have r2 : hAt h 58 1 = .ref 59 := (hA 58 (by decide) 1).trans frH_m.2.1
  have r3 : hTag h 59 = 101 := (hT 59).trans frH_m.2.2.1
  have r4 : hLen h 59 = 60 := (hL 59 (by decide)).trans frH_m.2.2.2.1
  have r5 : hAt h 58 2 = .int 0 := (hA 58 (by decide) 2).trans frH_m.2.2.2.2.1
  have r6 : hAt h 58 49 = .int 0 := (hA 58 (by decide) 49).trans frH_m.2.2.2.2.2.1
  have r7 : hAt h 58 65 = .int 0 := (hA 58 (by decide) 65).trans frH_m.2.2.2.2.2.2.1
  have r8 : hAt h 58 66 = .int 0 := (hA 58 (by decide) 66).trans frH_m.2.2.2.2.2.2.2.1
  have r9 : hAt h 58 67 = .int 0 := (hA 58 (by decide) 67).trans frH_m.2.2.2.2.2.2.2.2.1
  have r0 : hAt h 58 68 = .int 0 := (hA 58 (by decide) 68).trans frH_m.2.2.2.2.2.2.2.2.2
  have u1 : hTag (hNew h 200 6 (fun _ => .null)) 58 = 11 := (tag_new (by omega)).trans r1
  have u2 : hAt (hNew h 200 6 (fun _ => .null)) 58 65 = .int 0 := (at_new (by omega) _).trans r7
  apply Exists.intro
  apply And.intro
  · refine sx_l rfl rfl rfl ?_
    refine sx_l rfl rfl rfl ?_
    refine sx_l rfl rfl rfl ?_
    refine sx_p rfl rfl rfl ?_
    refine sx_p rfl rfl rfl ?_
    refine sx_s1 rfl hs ?_
    refine sx_l rfl rfl rfl ?_
    refine sx_is rfl (by decide) (Nat.le_of_ble_eq_true rfl) rfl rfl rfl (value_w c1 c5) ?_
    refine sx_l rfl rfl rfl ?_
    refine sx_l rfl rfl rfl ?_
    refine sx_l rfl rfl rfl ?_
    refine sx_l rfl rfl rfl ?_
    refine sx_p rfl rfl rfl ?_
    refine sx_p rfl rfl rfl ?_
    refine sx_s1 rfl hs.new ?_
    refine sx_iv rfl rfl rfl u1 (by decide) rfl (value_m u1 u2) ?_
    refine sx_l rfl rfl rfl ?_
    refine sx_l rfl rfl rfl ?_
    refine sx_iv rfl rfl rfl (tag_set.trans u1) (by decide) rfl (thrown_m (tag_set.trans u1) at_eq) ?_
    refine sx_l rfl rfl rfl ?_
    refine sx_c rfl (by decide) cnd_rr rfl ?_
    refine sx_l rfl rfl rfl ?_
    refine sx_z rfl (by decide) (show mCnd _ _ _ = true by decide) rfl ?_
    refine sx_b rfl rfl rfl rfl ?_
    exact fin2 (hs.new.set (by decide)).2.1 (hs.new.set (by decide)).2.2.1 rfl rfl
  · constructor <;> simp only [hSet, hNew] <;> omega
theorem op8 {k : Nat} {h : mHp} {w : Int32} (H : frK h w) : ∃ h2, mGo frC true 229 (k + 60) (378, frL, [], h) = some (.inl (some (.int 1)), h2) ∧ frG h h2 := by
  obtain ⟨hs, hn, -, -, hA, hT, hL⟩ := H
  have c1 : hTag h 1 = 0 := (hT 1).trans frH_c.1.1
  have c2 : hAt h 1 0 = .ref 2 := (hA 1 (by decide) 0).trans frH_c.1.2.1
  have c3 : hAt h 1 6 = .ref 54 := (hA 1 (by decide) 6).trans frH_c.1.2.2.1
  have c4 : hAt h 1 8 = .int 0 := (hA 1 (by decide) 8).trans frH_c.1.2.2.2.1
  have c5 : hAt h 1 9 = .null := (hA 1 (by decide) 9).trans frH_c.1.2.2.2.2
  have l1 : hTag h 2 = 1 := (hT 2).trans frH_c.2.1.1
  have l2 : hAt h 2 0 = .ref 3 := (hA 2 (by decide) 0).trans frH_c.2.1.2.1
  have l3 : hAt h 2 1 = .int 0 := (hA 2 (by decide) 1).trans frH_c.2.1.2.2
  have l4 : hTag h 3 = 2 := (hT 3).trans frH_c.2.2.1.1
  have l5 : hAt h 3 0 = .ref 4 := (hA 3 (by decide) 0).trans frH_c.2.2.1.2.1
  have l6 : hTag h 4 = 100 := (hT 4).trans frH_c.2.2.1.2.2.1
  have l7 : hLen h 4 = 60 := (hL 4 (by decide)).trans frH_c.2.2.1.2.2.2
  have m1 : hTag h 54 = 7 := (hT 54).trans frH_c.2.2.2.1
  have m2 : hAt h 54 7 = .int 0 := (hA 54 (by decide) 7).trans frH_c.2.2.2.2.1
  have m3 : hAt h 54 8 = .int 0 := (hA 54 (by decide) 8).trans frH_c.2.2.2.2.2.1
  have m4 : hAt h 54 9 = .int 0 := (hA 54 (by decide) 9).trans frH_c.2.2.2.2.2.2.1
  have m5 : hAt h 54 10 = .int 0 := (hA 54 (by decide) 10).trans frH_c.2.2.2.2.2.2.2
  have r1 : hTag h 58 = 11 := (hT 58).trans frH_m.1
  have r2 : hAt h 58 1 = .ref 59 := (hA 58 (by decide) 1).trans frH_m.2.1
  have r3 : hTag h 59 = 101 := (hT 59).trans frH_m.2.2.1
  have r4 : hLen h 59 = 60 := (hL 59 (by decide)).trans frH_m.2.2.2.1
  have r5 : hAt h 58 2 = .int 0 := (hA 58 (by decide) 2).trans frH_m.2.2.2.2.1
  have r6 : hAt h 58 49 = .int 0 := (hA 58 (by decide) 49).trans frH_m.2.2.2.2.2.1
  have r7 : hAt h 58 65 = .int 0 := (hA 58 (by decide) 65).trans frH_m.2.2.2.2.2.2.1
  have r8 : hAt h 58 66 = .int 0 := (hA 58 (by decide) 66).trans frH_m.2.2.2.2.2.2.2.1
  have r9 : hAt h 58 67 = .int 0 := (hA 58 (by decide) 67).trans frH_m.2.2.2.2.2.2.2.2.1
  have r0 : hAt h 58 68 = .int 0 := (hA 58 (by decide) 68).trans frH_m.2.2.2.2.2.2.2.2.2
  have u1 : hTag (hNew h 200 6 (fun _ => .null)) 58 = 11 := (tag_new (by omega)).trans r1
  have u2 : hAt (hNew h 200 6 (fun _ => .null)) 58 65 = .int 0 := (at_new (by omega) _).trans r7
  apply Exists.intro
  apply And.intro
  · refine sx_l rfl rfl rfl ?_
    refine sx_l rfl rfl rfl ?_
    refine sx_l rfl rfl rfl ?_
    refine sx_p rfl rfl rfl ?_
    refine sx_p rfl rfl rfl ?_
    refine sx_s1 rfl hs ?_
    refine sx_is rfl (by decide) (Nat.le_of_ble_eq_true rfl) rfl rfl rfl (item_w c1 c5) ?_
    refine sx_l rfl rfl rfl ?_
    refine sx_l rfl rfl rfl ?_
    refine sx_l rfl rfl rfl ?_
    refine sx_l rfl rfl rfl ?_
    refine sx_p rfl rfl rfl ?_
    refine sx_p rfl rfl rfl ?_
    refine sx_s1 rfl hs.new ?_
    refine sx_iv rfl rfl rfl u1 (by decide) rfl (item_m u1 u2) ?_
    refine sx_l rfl rfl rfl ?_
    refine sx_iv rfl rfl rfl (tag_set.trans u1) (by decide) rfl (thrown_m (tag_set.trans u1) at_eq) ?_
    refine sx_l rfl rfl rfl ?_
    refine sx_c rfl (by decide) cnd_rr rfl ?_
    refine sx_b rfl rfl rfl rfl ?_
    exact fin2 (hs.new.set (by decide)).2.1 (hs.new.set (by decide)).2.2.1 rfl rfl
  · constructor <;> simp only [hSet, hNew] <;> omega
theorem op0_t {k : Nat} {h : mHp} {w : Int32} (q : (w.toUInt32 % 65536).toInt32 < 32 ∨ (w.toUInt32 % 65536).toInt32 > 126) (H : frK h w) : ∃ h2, mGo frC true 229 (k + 60) (100, frL, [], h) = some (.inl (some (.int 1)), h2) ∧ frG h h2 := by
  obtain ⟨hs, hn, -, -, hA, hT, hL⟩ := H
  have c1 : hTag h 1 = 0 := (hT 1).trans frH_c.1.1
  have c2 : hAt h 1 0 = .ref 2 := (hA 1 (by decide) 0).trans frH_c.1.2.1
  have c3 : hAt h 1 6 = .ref 54 := (hA 1 (by decide) 6).trans frH_c.1.2.2.1
  have c4 : hAt h 1 8 = .int 0 := (hA 1 (by decide) 8).trans frH_c.1.2.2.2.1
  have c5 : hAt h 1 9 = .null := (hA 1 (by decide) 9).trans frH_c.1.2.2.2.2
  have l1 : hTag h 2 = 1 := (hT 2).trans frH_c.2.1.1
  have l2 : hAt h 2 0 = .ref 3 := (hA 2 (by decide) 0).trans frH_c.2.1.2.1
  have l3 : hAt h 2 1 = .int 0 := (hA 2 (by decide) 1).trans frH_c.2.1.2.2
  have l4 : hTag h 3 = 2 := (hT 3).trans frH_c.2.2.1.1
  have l5 : hAt h 3 0 = .ref 4 := (hA 3 (by decide) 0).trans frH_c.2.2.1.2.1
  have l6 : hTag h 4 = 100 := (hT 4).trans frH_c.2.2.1.2.2.1
  have l7 : hLen h 4 = 60 := (hL 4 (by decide)).trans frH_c.2.2.1.2.2.2
  have m1 : hTag h 54 = 7 := (hT 54).trans frH_c.2.2.2.1
  have m2 : hAt h 54 7 = .int 0 := (hA 54 (by decide) 7).trans frH_c.2.2.2.2.1
  have m3 : hAt h 54 8 = .int 0 := (hA 54 (by decide) 8).trans frH_c.2.2.2.2.2.1
  have m4 : hAt h 54 9 = .int 0 := (hA 54 (by decide) 9).trans frH_c.2.2.2.2.2.2.1
  have m5 : hAt h 54 10 = .int 0 := (hA 54 (by decide) 10).trans frH_c.2.2.2.2.2.2.2
  have r1 : hTag h 58 = 11 := (hT 58).trans frH_m.1
  have r2 : hAt h 58 1 = .ref 59 := (hA 58 (by decide) 1).trans frH_m.2.1
  have r3 : hTag h 59 = 101 := (hT 59).trans frH_m.2.2.1
  have r4 : hLen h 59 = 60 := (hL 59 (by decide)).trans frH_m.2.2.2.1
  have r5 : hAt h 58 2 = .int 0 := (hA 58 (by decide) 2).trans frH_m.2.2.2.2.1
  have r6 : hAt h 58 49 = .int 0 := (hA 58 (by decide) 49).trans frH_m.2.2.2.2.2.1
  have r7 : hAt h 58 65 = .int 0 := (hA 58 (by decide) 65).trans frH_m.2.2.2.2.2.2.1
  have r8 : hAt h 58 66 = .int 0 := (hA 58 (by decide) 66).trans frH_m.2.2.2.2.2.2.2.1
  have r9 : hAt h 58 67 = .int 0 := (hA 58 (by decide) 67).trans frH_m.2.2.2.2.2.2.2.2.1
  have r0 : hAt h 58 68 = .int 0 := (hA 58 (by decide) 68).trans frH_m.2.2.2.2.2.2.2.2.2
  have ha := type_c (F := 99940) (d := 397) (w := (w.toUInt32 % 65536).toInt32) c1 c2 l1 l2 l3 l4 l5 l6 l7
  simp only [if_pos q] at ha
  have hb := type_m (F := 99940) (d := 399) (w := (w.toUInt32 % 65536).toInt32) r1 r5 r2 r3 r4
  simp only [if_pos q] at hb
  apply Exists.intro
  apply And.intro
  · refine sx_l rfl rfl rfl ?_
    refine sx_l rfl rfl rfl ?_
    refine sx_l rfl rfl rfl ?_
    refine sx_p rfl rfl rfl ?_
    refine sx_p rfl rfl rfl ?_
    refine sx_s1 rfl hs ?_
    refine sx_p rfl rfl rfl ?_
    refine sx_iv rfl rfl rfl c1 (by decide) rfl ha ?_
    refine sx_l rfl rfl rfl ?_
    refine sx_l rfl rfl rfl ?_
    refine sx_l rfl rfl rfl ?_
    refine sx_p rfl rfl rfl ?_
    refine sx_p rfl rfl rfl ?_
    refine sx_s1 rfl hs ?_
    refine sx_p rfl rfl rfl ?_
    refine sx_iv rfl rfl rfl r1 (by decide) rfl hb ?_
    refine sx_c rfl (by decide) cnd_rr rfl ?_
    exact fin2 (hs.set (by decide)).2.1 (hs.set (by decide)).2.2.1 rfl rfl
  · constructor <;> simp only [hSet, hNew] <;> omega
theorem op0_f {k : Nat} {h : mHp} {w : Int32} (q : ¬ ((w.toUInt32 % 65536).toInt32 < 32 ∨ (w.toUInt32 % 65536).toInt32 > 126)) (H : frK h w) : ∃ h2, mGo frC true 229 (k + 60) (100, frL, [], h) = some (.inl (some (.int 1)), h2) ∧ frG h h2 := by
  obtain ⟨hs, hn, -, -, hA, hT, hL⟩ := H
  have c1 : hTag h 1 = 0 := (hT 1).trans frH_c.1.1
  have c2 : hAt h 1 0 = .ref 2 := (hA 1 (by decide) 0).trans frH_c.1.2.1
  have c3 : hAt h 1 6 = .ref 54 := (hA 1 (by decide) 6).trans frH_c.1.2.2.1
  have c4 : hAt h 1 8 = .int 0 := (hA 1 (by decide) 8).trans frH_c.1.2.2.2.1
  have c5 : hAt h 1 9 = .null := (hA 1 (by decide) 9).trans frH_c.1.2.2.2.2
  have l1 : hTag h 2 = 1 := (hT 2).trans frH_c.2.1.1
  have l2 : hAt h 2 0 = .ref 3 := (hA 2 (by decide) 0).trans frH_c.2.1.2.1
  have l3 : hAt h 2 1 = .int 0 := (hA 2 (by decide) 1).trans frH_c.2.1.2.2
  have l4 : hTag h 3 = 2 := (hT 3).trans frH_c.2.2.1.1
  have l5 : hAt h 3 0 = .ref 4 := (hA 3 (by decide) 0).trans frH_c.2.2.1.2.1
  have l6 : hTag h 4 = 100 := (hT 4).trans frH_c.2.2.1.2.2.1
  have l7 : hLen h 4 = 60 := (hL 4 (by decide)).trans frH_c.2.2.1.2.2.2
  have m1 : hTag h 54 = 7 := (hT 54).trans frH_c.2.2.2.1
  have m2 : hAt h 54 7 = .int 0 := (hA 54 (by decide) 7).trans frH_c.2.2.2.2.1
  have m3 : hAt h 54 8 = .int 0 := (hA 54 (by decide) 8).trans frH_c.2.2.2.2.2.1
  have m4 : hAt h 54 9 = .int 0 := (hA 54 (by decide) 9).trans frH_c.2.2.2.2.2.2.1
  have m5 : hAt h 54 10 = .int 0 := (hA 54 (by decide) 10).trans frH_c.2.2.2.2.2.2.2
  have r1 : hTag h 58 = 11 := (hT 58).trans frH_m.1
  have r2 : hAt h 58 1 = .ref 59 := (hA 58 (by decide) 1).trans frH_m.2.1
  have r3 : hTag h 59 = 101 := (hT 59).trans frH_m.2.2.1
  have r4 : hLen h 59 = 60 := (hL 59 (by decide)).trans frH_m.2.2.2.1
  have r5 : hAt h 58 2 = .int 0 := (hA 58 (by decide) 2).trans frH_m.2.2.2.2.1
  have r6 : hAt h 58 49 = .int 0 := (hA 58 (by decide) 49).trans frH_m.2.2.2.2.2.1
  have r7 : hAt h 58 65 = .int 0 := (hA 58 (by decide) 65).trans frH_m.2.2.2.2.2.2.1
  have r8 : hAt h 58 66 = .int 0 := (hA 58 (by decide) 66).trans frH_m.2.2.2.2.2.2.2.1
  have r9 : hAt h 58 67 = .int 0 := (hA 58 (by decide) 67).trans frH_m.2.2.2.2.2.2.2.2.1
  have r0 : hAt h 58 68 = .int 0 := (hA 58 (by decide) 68).trans frH_m.2.2.2.2.2.2.2.2.2
  have ha := type_c (F := 99940) (d := 397) (w := (w.toUInt32 % 65536).toInt32) c1 c2 l1 l2 l3 l4 l5 l6 l7
  simp only [if_neg q] at ha
  have v1 : ∀ {a b : Value}, hTag (hSet (hSet h 4 0 a) 2 1 b) 58 = 11 := tag_set.trans (tag_set.trans r1)
  have v2 : ∀ {a b : Value}, hAt (hSet (hSet h 4 0 a) 2 1 b) 58 2 = .int 0 := (at_ne (by decide) _).trans ((at_ne (by decide) _).trans r5)
  have v3 : ∀ {a b : Value}, hAt (hSet (hSet h 4 0 a) 2 1 b) 58 1 = .ref 59 := (at_ne (by decide) _).trans ((at_ne (by decide) _).trans r2)
  have v4 : ∀ {a b : Value}, hTag (hSet (hSet h 4 0 a) 2 1 b) 59 = 101 := tag_set.trans (tag_set.trans r3)
  have v5 : ∀ {a b : Value}, hLen (hSet (hSet h 4 0 a) 2 1 b) 59 = 60 := len_set.trans (len_set.trans r4)
  have hb := type_m (F := 99940) (d := 399) (h := hSet (hSet h 4 0 (.int (w.toUInt32 % 65536).toInt32)) 2 1 (.int 1)) (w := (w.toUInt32 % 65536).toInt32) v1 v2 v3 v4 v5
  simp only [if_neg q] at hb
  apply Exists.intro
  apply And.intro
  · refine sx_l rfl rfl rfl ?_
    refine sx_l rfl rfl rfl ?_
    refine sx_l rfl rfl rfl ?_
    refine sx_p rfl rfl rfl ?_
    refine sx_p rfl rfl rfl ?_
    refine sx_s1 rfl hs ?_
    refine sx_p rfl rfl rfl ?_
    refine sx_iv rfl rfl rfl c1 (by decide) rfl ha ?_
    refine sx_l rfl rfl rfl ?_
    refine sx_l rfl rfl rfl ?_
    refine sx_l rfl rfl rfl ?_
    refine sx_p rfl rfl rfl ?_
    refine sx_p rfl rfl rfl ?_
    refine sx_s1 rfl ((hs.set (by decide)).set (by decide)) ?_
    refine sx_p rfl rfl rfl ?_
    refine sx_iv rfl rfl rfl v1 (by decide) rfl hb ?_
    refine sx_c rfl (by decide) cnd_rr rfl ?_
    exact fin2 (((((hs.set (by decide)).set (by decide)).set (by decide)).set (by decide)).set (by decide)).2.1 (((((hs.set (by decide)).set (by decide)).set (by decide)).set (by decide)).set (by decide)).2.2.1 rfl rfl
  · constructor <;> simp only [hSet, hNew] <;> omega
