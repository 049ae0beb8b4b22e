/-! One call on a fresh object. -/
theorem shown_c {F d : Nat} {h : mHp} {w : Int32} (h1 : hTag h 1 = 0) (h2 : hAt h 1 8 = .int 0) : mEx (F+60) (d+1) 13 [.ref 1, .int w] h = some (.inl (some (.int (-1))), h) := by
  refine ex_go (Nat.le_of_ble_eq_true rfl) ?_
  by_cases q : w < 0
  · have q1 : mCnd w 0 .lt = true := decide_eq_true q
    refine sx_l rfl rfl rfl ?_
    refine sx_z rfl (by decide) q1 rfl ?_
    refine sx_p rfl rfl rfl ?_
    exact sx_r rfl rfl rfl
  · have q1 : mCnd w 0 .lt = false := decide_eq_false q
    have q2 : mCnd w 0 .ge = true := decide_eq_true (Int32.not_lt.mp q)
    refine sx_l rfl rfl rfl ?_
    refine sx_z rfl (by decide) q1 rfl ?_
    refine sx_l rfl rfl rfl ?_
    refine sx_l rfl rfl rfl ?_
    refine sx_gf rfl h1 (by decide) h2 ?_
    refine sx_c rfl (by decide) q2 rfl ?_
    refine sx_p rfl rfl rfl ?_
    exact sx_r rfl rfl rfl
theorem phase_c {F d : Nat} {h : mHp} (h3 : hTag h 54 = 7) (h4 : hAt h 54 7 = .int 0) : mEx (F+60) (d+1) 16 [.ref 54] h = some (.inl (some (.int 0)), h) := by
  refine ex_go (Nat.le_of_ble_eq_true rfl) ?_
  refine sx_l rfl rfl rfl ?_
  refine sx_gf rfl h3 (by decide) h4 ?_
  exact sx_r rfl rfl rfl
theorem fail_c {F d : Nat} {h : mHp} (h3 : hTag h 54 = 7) (h4 : hAt h 54 8 = .int 0) : mEx (F+60) (d+1) 51 [.ref 54] h = some (.inl (some (.int 0)), h) := by
  refine ex_go (Nat.le_of_ble_eq_true rfl) ?_
  refine sx_l rfl rfl rfl ?_
  refine sx_gf rfl h3 (by decide) h4 ?_
  exact sx_r rfl rfl rfl
theorem steps_c {F d : Nat} {h : mHp} (h3 : hTag h 54 = 7) (h4 : hAt h 54 9 = .int 0) : mEx (F+60) (d+1) 52 [.ref 54] h = some (.inl (some (.int 0)), h) := by
  refine ex_go (Nat.le_of_ble_eq_true rfl) ?_
  refine sx_l rfl rfl rfl ?_
  refine sx_gf rfl h3 (by decide) h4 ?_
  exact sx_r rfl rfl rfl
theorem all_c {F d : Nat} {h : mHp} (h3 : hTag h 54 = 7) (h4 : hAt h 54 10 = .int 0) : mEx (F+60) (d+1) 53 [.ref 54] h = some (.inl (some (.int 0)), h) := by
  refine ex_go (Nat.le_of_ble_eq_true rfl) ?_
  refine sx_l rfl rfl rfl ?_
  refine sx_gf rfl h3 (by decide) h4 ?_
  exact sx_r rfl rfl rfl
theorem run_c {F d : Nat} {h : mHp} {w : Int32} (h1 : hTag h 1 = 0) (h2 : hAt h 1 6 = .ref 54) (h3 : hTag h 54 = 7) (h4 : hAt h 54 7 = .int 0) : mEx (F+60) (d+2) 15 [.ref 1, .int w] h = some (.inl (some (.int (-1))), h) := by
  refine ex_go (Nat.le_of_ble_eq_true rfl) ?_
  by_cases q : w < 0
  · have q1 : mCnd w 0 .lt = true := decide_eq_true q
    refine sx_l rfl rfl rfl ?_
    refine sx_z rfl (by decide) q1 rfl ?_
    refine sx_p rfl rfl rfl ?_
    exact sx_r rfl rfl rfl
  · have q1 : mCnd w 0 .lt = false := decide_eq_false q
    by_cases q3 : w > 100
    · have q2 : mCnd w 100 .gt = true := decide_eq_true q3
      refine sx_l rfl rfl rfl ?_
      refine sx_z rfl (by decide) q1 rfl ?_
      refine sx_l rfl rfl rfl ?_
      refine sx_p rfl rfl rfl ?_
      refine sx_c rfl (by decide) q2 rfl ?_
      refine sx_p rfl rfl rfl ?_
      exact sx_r rfl rfl rfl
    · have q2 : mCnd w 100 .gt = false := decide_eq_false q3
      refine sx_l rfl rfl rfl ?_
      refine sx_z rfl (by decide) q1 rfl ?_
      refine sx_l rfl rfl rfl ?_
      refine sx_p rfl rfl rfl ?_
      refine sx_c rfl (by decide) q2 rfl ?_
      refine sx_l rfl rfl rfl ?_
      refine sx_gf rfl h1 (by decide) h2 ?_
      refine sx_iv rfl rfl rfl (as := []) h3 (by decide) rfl (phase_c h3 h4) ?_
      refine sx_p rfl rfl rfl ?_
      refine sx_c rfl (by decide) (show mCnd _ _ _ = false by decide) rfl ?_
      refine sx_p rfl rfl rfl ?_
      exact sx_r rfl rfl rfl
theorem state_c0 {F d : Nat} {h : mHp} (h1 : hTag h 1 = 0) (h2 : hAt h 1 6 = .ref 54) (h3 : hTag h 54 = 7) (h4 : hAt h 54 7 = .int 0) (h5 : hAt h 54 8 = .int 0) (h6 : hAt h 54 9 = .int 0) (h7 : hAt h 54 10 = .int 0) : mEx (F+60) (d+2) 50 [.ref 1, .int 0] h = some (.inl (some (.int 0)), h) := by
  refine ex_go (Nat.le_of_ble_eq_true rfl) ?_
  refine sx_l rfl rfl rfl ?_
  refine sx_b rfl rfl rfl rfl ?_
  refine sx_l rfl rfl rfl ?_
  refine sx_gf rfl h1 (by decide) h2 ?_
  refine sx_iv rfl rfl rfl (as := []) h3 (by decide) rfl (phase_c h3 h4) ?_
  exact sx_r rfl rfl rfl
theorem state_c1 {F d : Nat} {h : mHp} (h1 : hTag h 1 = 0) (h2 : hAt h 1 6 = .ref 54) (h3 : hTag h 54 = 7) (h4 : hAt h 54 7 = .int 0) (h5 : hAt h 54 8 = .int 0) (h6 : hAt h 54 9 = .int 0) (h7 : hAt h 54 10 = .int 0) : mEx (F+60) (d+2) 50 [.ref 1, .int 1] h = some (.inl (some (.int 0)), h) := by
  refine ex_go (Nat.le_of_ble_eq_true rfl) ?_
  refine sx_l rfl rfl rfl ?_
  refine sx_b rfl rfl rfl rfl ?_
  refine sx_l rfl rfl rfl ?_
  refine sx_gf rfl h1 (by decide) h2 ?_
  refine sx_iv rfl rfl rfl (as := []) h3 (by decide) rfl (fail_c h3 h5) ?_
  exact sx_r rfl rfl rfl
theorem state_c2 {F d : Nat} {h : mHp} (h1 : hTag h 1 = 0) (h2 : hAt h 1 6 = .ref 54) (h3 : hTag h 54 = 7) (h4 : hAt h 54 7 = .int 0) (h5 : hAt h 54 8 = .int 0) (h6 : hAt h 54 9 = .int 0) (h7 : hAt h 54 10 = .int 0) : mEx (F+60) (d+2) 50 [.ref 1, .int 2] h = some (.inl (some (.int 0)), h) := by
  refine ex_go (Nat.le_of_ble_eq_true rfl) ?_
  refine sx_l rfl rfl rfl ?_
  refine sx_b rfl rfl rfl rfl ?_
  refine sx_l rfl rfl rfl ?_
  refine sx_gf rfl h1 (by decide) h2 ?_
  refine sx_iv rfl rfl rfl (as := []) h3 (by decide) rfl (steps_c h3 h6) ?_
  exact sx_r rfl rfl rfl
theorem state_c3 {F d : Nat} {h : mHp} (h1 : hTag h 1 = 0) (h2 : hAt h 1 6 = .ref 54) (h3 : hTag h 54 = 7) (h4 : hAt h 54 7 = .int 0) (h5 : hAt h 54 8 = .int 0) (h6 : hAt h 54 9 = .int 0) (h7 : hAt h 54 10 = .int 0) : mEx (F+60) (d+2) 50 [.ref 1, .int 3] h = some (.inl (some (.int 0)), h) := by
  refine ex_go (Nat.le_of_ble_eq_true rfl) ?_
  refine sx_l rfl rfl rfl ?_
  refine sx_b rfl rfl rfl rfl ?_
  refine sx_l rfl rfl rfl ?_
  refine sx_gf rfl h1 (by decide) h2 ?_
  refine sx_iv rfl rfl rfl (as := []) h3 (by decide) rfl (all_c h3 h7) ?_
  exact sx_r rfl rfl rfl
theorem state_cd {F d : Nat} {h : mHp} {w : Int32} (q0 : w ≠ 0) (q1 : w ≠ 1) (q2 : w ≠ 2) (q3 : w ≠ 3) : mEx (F+60) (d+2) 50 [.ref 1, .int w] h = some (.inl (some (.int (-1))), h) := by
  refine ex_go (Nat.le_of_ble_eq_true rfl) ?_
  have q : w.toInt < 0 ∨ 3 < w.toInt := by
    apply Decidable.byContradiction
    intro hn
    have e : w.toInt = 0 ∨ w.toInt = 1 ∨ w.toInt = 2 ∨ w.toInt = 3 := by omega
    rcases e with e | e | e | e
    · exact q0 (Int32.toInt_inj.mp e)
    · exact q1 (Int32.toInt_inj.mp e)
    · exact q2 (Int32.toInt_inj.mp e)
    · exact q3 (Int32.toInt_inj.mp e)
  refine sx_l rfl rfl rfl ?_
  refine sx_b rfl rfl (show mBr _ _ _ = some (some _, _) from if_pos q) rfl ?_
  refine sx_p rfl rfl rfl ?_
  exact sx_r rfl rfl rfl
theorem value_c {F d : Nat} {h : mHp} {w : Int32} (h1 : hTag h 1 = 0) (h2 : hAt h 1 9 = .null) : mEx (F+60) (d+1) 137 [.ref 1, .int w] h = some (.inr 3, hNew h 200 6 (fun _ => .null)) := by
  refine ex_go (Nat.le_of_ble_eq_true rfl) ?_
  refine sx_l rfl rfl rfl ?_
  refine sx_gf rfl h1 (by decide) h2 ?_
  refine sx_l rfl rfl rfl ?_
  refine sx_l rfl rfl rfl ?_
  refine sx_b rfl rfl rfl rfl ?_
  exact sx_t (a := 103) rfl rfl (by decide) rfl
theorem item_c {F d : Nat} {h : mHp} {w : Int32} (h1 : hTag h 1 = 0) (h2 : hAt h 1 9 = .null) : mEx (F+60) (d+1) 139 [.ref 1, .int w] h = some (.inr 3, hNew h 200 6 (fun _ => .null)) := by
  refine ex_go (Nat.le_of_ble_eq_true rfl) ?_
  refine sx_l rfl rfl rfl ?_
  refine sx_gf rfl h1 (by decide) h2 ?_
  refine sx_l rfl rfl rfl ?_
  refine sx_l rfl rfl rfl ?_
  refine sx_b rfl rfl rfl rfl ?_
  exact sx_t (a := 103) rfl rfl (by decide) rfl
theorem value_w {F d : Nat} {h : mHp} {w : Int32} {o : Nat} (h1 : hTag h 1 = 0) (h2 : hAt h 1 9 = .null) : mEx (F+60) (d+2) 225 [.ref 1, .int w, .ref o] h = some (.inl (some (.int 1)), hNew h 200 6 (fun _ => .null)) := by
  refine ex_go (Nat.le_of_ble_eq_true rfl) ?_
  refine sx_l rfl rfl rfl ?_
  refine sx_p rfl rfl rfl ?_
  refine sx_l rfl rfl rfl ?_
  refine sx_l rfl rfl rfl ?_
  refine sx_ivx rfl rfl rfl h1 (by decide) rfl (value_c h1 h2) (t := 12) (by decide +kernel) ?_
  refine sx_l rfl rfl rfl ?_
  refine sx_p rfl rfl rfl ?_
  exact sx_r rfl rfl rfl
theorem item_w {F d : Nat} {h : mHp} {w : Int32} (h1 : hTag h 1 = 0) (h2 : hAt h 1 9 = .null) : mEx (F+60) (d+2) 227 [.ref 1, .int w] h = some (.inl (some (.int 1)), hNew h 200 6 (fun _ => .null)) := by
  refine ex_go (Nat.le_of_ble_eq_true rfl) ?_
  refine sx_l rfl rfl rfl ?_
  refine sx_l rfl rfl rfl ?_
  refine sx_ivx rfl rfl rfl h1 (by decide) rfl (item_c h1 h2) (t := 8) (by decide +kernel) ?_
  refine sx_l rfl rfl rfl ?_
  refine sx_p rfl rfl rfl ?_
  exact sx_r rfl rfl rfl
theorem set_c {F d : Nat} {h : mHp} {v : Int32} (h1 : hTag h 3 = 2) (h2 : hAt h 3 0 = .ref 4) (h3 : hTag h 4 = 100) (h4 : hLen h 4 = 60) : mEx (F+60) (d+1) 10 [.ref 3, .int 0, .int v] h = some (.inl none, hSet h 4 0 (.int v)) := by
  refine ex_go (Nat.le_of_ble_eq_true rfl) ?_
  refine sx_l rfl rfl rfl ?_
  refine sx_z rfl (by decide) (show mCnd _ _ _ = false by decide) rfl ?_
  refine sx_l rfl rfl rfl ?_
  refine sx_l rfl rfl rfl ?_
  refine sx_gf rfl h1 (by decide) h2 ?_
  refine sx_len rfl rfl (by rw [h3]; decide) (by rw [h3]; decide) ?_
  refine sx_c rfl (by decide) (show mCnd _ _ _ = false by rw [h4]; decide) rfl ?_
  refine sx_l rfl rfl rfl ?_
  refine sx_gf rfl h1 (by decide) h2 ?_
  refine sx_l rfl rfl rfl ?_
  refine sx_l rfl rfl rfl ?_
  refine sx_as rfl rfl rfl rfl h3 (by rw [h4]; exact (show ¬ ((0 : Int32) < 0 ∨ 60 ≤ (0 : Int32).toNatClampNeg) by decide)) rfl ?_
  exact sx_r rfl rfl rfl
theorem append_c {F d : Nat} {h : mHp} {w : Int32} (h1 : hTag h 2 = 1) (h2 : hAt h 2 0 = .ref 3) (h3 : hAt h 2 1 = .int 0) (h4 : hTag h 3 = 2) (h5 : hAt h 3 0 = .ref 4) (h6 : hTag h 4 = 100) (h7 : hLen h 4 = 60) : mEx (F+60) (d+2) 9 [.ref 2, .int w] h = some (.inl (some (.int (if w < 32 ∨ w > 126 then 0 else 1))), if w < 32 ∨ w > 126 then h else hSet (hSet h 4 0 (.int w)) 2 1 (.int 1)) := by
  refine ex_go (Nat.le_of_ble_eq_true rfl) ?_
  by_cases q : w < 32
  · have q1 : mCnd w 32 .lt = true := decide_eq_true q
    simp only [if_pos (Or.inl q : w < 32 ∨ w > 126)]
    refine sx_l rfl rfl rfl ?_
    refine sx_p rfl rfl rfl ?_
    refine sx_c rfl (by decide) q1 rfl ?_
    refine sx_p rfl rfl rfl ?_
    exact sx_r rfl rfl rfl
  · have q1 : mCnd w 32 .lt = false := decide_eq_false q
    by_cases q3 : w > 126
    · have q2 : mCnd w 126 .gt = true := decide_eq_true q3
      simp only [if_pos (Or.inr q3 : w < 32 ∨ w > 126)]
      refine sx_l rfl rfl rfl ?_
      refine sx_p rfl rfl rfl ?_
      refine sx_c rfl (by decide) q1 rfl ?_
      refine sx_l rfl rfl rfl ?_
      refine sx_p rfl rfl rfl ?_
      refine sx_c rfl (by decide) q2 rfl ?_
      refine sx_p rfl rfl rfl ?_
      exact sx_r rfl rfl rfl
    · have q2 : mCnd w 126 .gt = false := decide_eq_false q3
      simp only [if_neg (not_or.mpr ⟨q, q3⟩ : ¬ (w < 32 ∨ w > 126))]
      refine sx_l rfl rfl rfl ?_
      refine sx_p rfl rfl rfl ?_
      refine sx_c rfl (by decide) q1 rfl ?_
      refine sx_l rfl rfl rfl ?_
      refine sx_p rfl rfl rfl ?_
      refine sx_c rfl (by decide) q2 rfl ?_
      refine sx_l rfl rfl rfl ?_
      refine sx_gf rfl h1 (by decide) h3 ?_
      refine sx_p rfl rfl rfl ?_
      refine sx_c rfl (by decide) (show mCnd _ _ _ = true by decide) rfl ?_
      refine sx_l rfl rfl rfl ?_
      refine sx_gf rfl h1 (by decide) h2 ?_
      refine sx_l rfl rfl rfl ?_
      refine sx_gf rfl h1 (by decide) h3 ?_
      refine sx_l rfl rfl rfl ?_
      refine sx_iv rfl rfl rfl h4 (by decide) rfl (set_c h4 h5 h6 h7) ?_
      refine sx_l rfl rfl rfl ?_
      refine sx_p rfl rfl rfl ?_
      refine sx_gf rfl (tag_set.trans h1) (by decide) ((at_ne (by decide) _).trans h3) ?_
      refine sx_p rfl rfl rfl ?_
      refine sx_p rfl rfl rfl ?_
      refine sx_pf rfl (tag_set.trans h1) (by decide) rfl rfl rfl ?_
      refine sx_p rfl rfl rfl ?_
      exact sx_r rfl rfl rfl
theorem type_c {F d : Nat} {h : mHp} {w : Int32} (g1 : hTag h 1 = 0) (g2 : hAt h 1 0 = .ref 2) (h1 : hTag h 2 = 1) (h2 : hAt h 2 0 = .ref 3) (h3 : hAt h 2 1 = .int 0) (h4 : hTag h 3 = 2) (h5 : hAt h 3 0 = .ref 4) (h6 : hTag h 4 = 100) (h7 : hLen h 4 = 60) : mEx (F+60) (d+3) 8 [.ref 1, .int w] h = some (.inl (some (.int (if w < 32 ∨ w > 126 then 0 else 1))), if w < 32 ∨ w > 126 then h else hSet (hSet h 4 0 (.int w)) 2 1 (.int 1)) := by
  have ha := append_c (F := F) (d := d) (w := w) h1 h2 h3 h4 h5 h6 h7
  refine ex_go (Nat.le_of_ble_eq_true rfl) ?_
  by_cases q : w < 32 ∨ w > 126
  · simp only [if_pos q] at ha ⊢
    refine sx_l rfl rfl rfl ?_
    refine sx_gf rfl g1 (by decide) g2 ?_
    refine sx_l rfl rfl rfl ?_
    refine sx_iv rfl rfl rfl h1 (by decide) rfl ha ?_
    exact sx_r rfl rfl rfl
  · simp only [if_neg q] at ha ⊢
    refine sx_l rfl rfl rfl ?_
    refine sx_gf rfl g1 (by decide) g2 ?_
    refine sx_l rfl rfl rfl ?_
    refine sx_iv rfl rfl rfl h1 (by decide) rfl ha ?_
    exact sx_r rfl rfl rfl
theorem shown_m {F d : Nat} {h : mHp} {w : Int32} (h1 : hTag h 58 = 11) (h2 : hAt h 58 49 = .int 0) : mEx (F+60) (d+1) 197 [.ref 58, .int w] h = some (.inl (some (.int (-1))), hSet h 58 0 (.int 0)) := by
  refine ex_go (Nat.le_of_ble_eq_true rfl) ?_
  by_cases q : w < 0
  · have q1 : mCnd w 0 .lt = true := decide_eq_true q
    refine sx_l rfl rfl rfl ?_
    refine sx_p rfl rfl rfl ?_
    refine sx_pf rfl h1 (by decide) rfl rfl rfl ?_
    refine sx_l rfl rfl rfl ?_
    refine sx_z rfl (by decide) q1 rfl ?_
    refine sx_p rfl rfl rfl ?_
    refine sx_b rfl rfl rfl rfl ?_
    exact sx_r rfl rfl rfl
  · have q1 : mCnd w 0 .lt = false := decide_eq_false q
    refine sx_l rfl rfl rfl ?_
    refine sx_p rfl rfl rfl ?_
    refine sx_pf rfl h1 (by decide) rfl rfl rfl ?_
    refine sx_l rfl rfl rfl ?_
    refine sx_z rfl (by decide) q1 rfl ?_
    refine sx_l rfl rfl rfl ?_
    refine sx_l rfl rfl rfl ?_
    refine sx_gf rfl (tag_set.trans h1) (by decide) ((at_nk (by decide)).trans h2) ?_
    refine sx_c rfl (by decide) q1 rfl ?_
    refine sx_p rfl rfl rfl ?_
    refine sx_b rfl rfl rfl rfl ?_
    exact sx_r rfl rfl rfl
theorem run_m {F d : Nat} {h : mHp} {w : Int32} (h1 : hTag h 58 = 11) (h2 : hAt h 58 65 = .int 0) : mEx (F+60) (d+1) 198 [.ref 58, .int w] h = some (.inl (some (.int (-1))), hSet h 58 0 (.int 0)) := by
  refine ex_go (Nat.le_of_ble_eq_true rfl) ?_
  by_cases q : w < 0
  · have q1 : mCnd w 0 .lt = true := decide_eq_true q
    refine sx_l rfl rfl rfl ?_
    refine sx_p rfl rfl rfl ?_
    refine sx_pf rfl h1 (by decide) rfl rfl rfl ?_
    refine sx_l rfl rfl rfl ?_
    refine sx_z rfl (by decide) q1 rfl ?_
    refine sx_p rfl rfl rfl ?_
    exact sx_r rfl rfl rfl
  · have q1 : mCnd w 0 .lt = false := decide_eq_false q
    by_cases q3 : w > 100
    · have q2 : mCnd w 100 .gt = true := decide_eq_true q3
      refine sx_l rfl rfl rfl ?_
      refine sx_p rfl rfl rfl ?_
      refine sx_pf rfl h1 (by decide) rfl rfl rfl ?_
      refine sx_l rfl rfl rfl ?_
      refine sx_z rfl (by decide) q1 rfl ?_
      refine sx_l rfl rfl rfl ?_
      refine sx_p rfl rfl rfl ?_
      refine sx_c rfl (by decide) q2 rfl ?_
      refine sx_p rfl rfl rfl ?_
      exact sx_r rfl rfl rfl
    · have q2 : mCnd w 100 .gt = false := decide_eq_false q3
      refine sx_l rfl rfl rfl ?_
      refine sx_p rfl rfl rfl ?_
      refine sx_pf rfl h1 (by decide) rfl rfl rfl ?_
      refine sx_l rfl rfl rfl ?_
      refine sx_z rfl (by decide) q1 rfl ?_
      refine sx_l rfl rfl rfl ?_
      refine sx_p rfl rfl rfl ?_
      refine sx_c rfl (by decide) q2 rfl ?_
      refine sx_l rfl rfl rfl ?_
      refine sx_gf rfl (tag_set.trans h1) (by decide) ((at_nk (by decide)).trans h2) ?_
      refine sx_p rfl rfl rfl ?_
      refine sx_c rfl (by decide) (show mCnd _ _ _ = false by decide) rfl ?_
      refine sx_p rfl rfl rfl ?_
      exact sx_r rfl rfl rfl
theorem state_m0 {F d : Nat} {h : mHp} (h1 : hTag h 58 = 11) (h2 : hAt h 58 65 = .int 0) : mEx (F+60) (d+1) 218 [.ref 58, .int 0] h = some (.inl (some (.int 0)), hSet h 58 0 (.int 0)) := by
  refine ex_go (Nat.le_of_ble_eq_true rfl) ?_
  refine sx_l rfl rfl rfl ?_
  refine sx_p rfl rfl rfl ?_
  refine sx_pf rfl h1 (by decide) rfl rfl rfl ?_
  refine sx_l rfl rfl rfl ?_
  refine sx_z rfl (by decide) (show mCnd _ _ _ = false by decide) rfl ?_
  refine sx_l rfl rfl rfl ?_
  refine sx_gf rfl (tag_set.trans h1) (by decide) ((at_nk (by decide)).trans h2) ?_
  refine sx_b rfl rfl rfl rfl ?_
  exact sx_r rfl rfl rfl
theorem state_m1 {F d : Nat} {h : mHp} (h1 : hTag h 58 = 11) (h2 : hAt h 58 66 = .int 0) : mEx (F+60) (d+1) 218 [.ref 58, .int 1] h = some (.inl (some (.int 0)), hSet h 58 0 (.int 0)) := by
  refine ex_go (Nat.le_of_ble_eq_true rfl) ?_
  refine sx_l rfl rfl rfl ?_
  refine sx_p rfl rfl rfl ?_
  refine sx_pf rfl h1 (by decide) rfl rfl rfl ?_
  refine sx_l rfl rfl rfl ?_
  refine sx_z rfl (by decide) (show mCnd _ _ _ = true by decide) rfl ?_
  refine sx_l rfl rfl rfl ?_
  refine sx_p rfl rfl rfl ?_
  refine sx_c rfl (by decide) (show mCnd _ _ _ = false by decide) rfl ?_
  refine sx_l rfl rfl rfl ?_
  refine sx_gf rfl (tag_set.trans h1) (by decide) ((at_nk (by decide)).trans h2) ?_
  refine sx_b rfl rfl rfl rfl ?_
  exact sx_r rfl rfl rfl
theorem state_m2 {F d : Nat} {h : mHp} (h1 : hTag h 58 = 11) (h2 : hAt h 58 67 = .int 0) : mEx (F+60) (d+1) 218 [.ref 58, .int 2] h = some (.inl (some (.int 0)), hSet h 58 0 (.int 0)) := by
  refine ex_go (Nat.le_of_ble_eq_true rfl) ?_
  refine sx_l rfl rfl rfl ?_
  refine sx_p rfl rfl rfl ?_
  refine sx_pf rfl h1 (by decide) rfl rfl rfl ?_
  refine sx_l rfl rfl rfl ?_
  refine sx_z rfl (by decide) (show mCnd _ _ _ = true by decide) rfl ?_
  refine sx_l rfl rfl rfl ?_
  refine sx_p rfl rfl rfl ?_
  refine sx_c rfl (by decide) (show mCnd _ _ _ = true by decide) rfl ?_
  refine sx_l rfl rfl rfl ?_
  refine sx_p rfl rfl rfl ?_
  refine sx_c rfl (by decide) (show mCnd _ _ _ = false by decide) rfl ?_
  refine sx_l rfl rfl rfl ?_
  refine sx_gf rfl (tag_set.trans h1) (by decide) ((at_nk (by decide)).trans h2) ?_
  refine sx_b rfl rfl rfl rfl ?_
  exact sx_r rfl rfl rfl
theorem state_m3 {F d : Nat} {h : mHp} (h1 : hTag h 58 = 11) (h2 : hAt h 58 68 = .int 0) : mEx (F+60) (d+1) 218 [.ref 58, .int 3] h = some (.inl (some (.int 0)), hSet h 58 0 (.int 0)) := by
  refine ex_go (Nat.le_of_ble_eq_true rfl) ?_
  refine sx_l rfl rfl rfl ?_
  refine sx_p rfl rfl rfl ?_
  refine sx_pf rfl h1 (by decide) rfl rfl rfl ?_
  refine sx_l rfl rfl rfl ?_
  refine sx_z rfl (by decide) (show mCnd _ _ _ = true by decide) rfl ?_
  refine sx_l rfl rfl rfl ?_
  refine sx_p rfl rfl rfl ?_
  refine sx_c rfl (by decide) (show mCnd _ _ _ = true by decide) rfl ?_
  refine sx_l rfl rfl rfl ?_
  refine sx_p rfl rfl rfl ?_
  refine sx_c rfl (by decide) (show mCnd _ _ _ = true by decide) rfl ?_
  refine sx_l rfl rfl rfl ?_
  refine sx_p rfl rfl rfl ?_
  refine sx_c rfl (by decide) (show mCnd _ _ _ = false by decide) rfl ?_
  refine sx_l rfl rfl rfl ?_
  refine sx_gf rfl (tag_set.trans h1) (by decide) ((at_nk (by decide)).trans h2) ?_
  refine sx_b rfl rfl rfl rfl ?_
  exact sx_r rfl rfl rfl
theorem state_md {F d : Nat} {h : mHp} {w : Int32} (h1 : hTag h 58 = 11) (q0 : w ≠ 0) (q1 : w ≠ 1) (q2 : w ≠ 2) (q3 : w ≠ 3) : mEx (F+60) (d+1) 218 [.ref 58, .int w] h = some (.inl (some (.int (-1))), hSet h 58 0 (.int 0)) := by
  refine ex_go (Nat.le_of_ble_eq_true rfl) ?_
  refine sx_l rfl rfl rfl ?_
  refine sx_p rfl rfl rfl ?_
  refine sx_pf rfl h1 (by decide) rfl rfl rfl ?_
  refine sx_l rfl rfl rfl ?_
  refine sx_z rfl (by decide) (show mCnd w 0 .ne = true from decide_eq_true q0) rfl ?_
  refine sx_l rfl rfl rfl ?_
  refine sx_p rfl rfl rfl ?_
  refine sx_c rfl (by decide) (show mCnd w 1 .ne = true from decide_eq_true q1) rfl ?_
  refine sx_l rfl rfl rfl ?_
  refine sx_p rfl rfl rfl ?_
  refine sx_c rfl (by decide) (show mCnd w 2 .ne = true from decide_eq_true q2) rfl ?_
  refine sx_l rfl rfl rfl ?_
  refine sx_p rfl rfl rfl ?_
  refine sx_c rfl (by decide) (show mCnd w 3 .ne = true from decide_eq_true q3) rfl ?_
  refine sx_p rfl rfl rfl ?_
  exact sx_r rfl rfl rfl
theorem value_m {F d : Nat} {h : mHp} {w : Int32} (h1 : hTag h 58 = 11) (h2 : hAt h 58 65 = .int 0) : mEx (F+60) (d+1) 219 [.ref 58, .int w] h = some (.inl (some (.int 0)), hSet h 58 0 (.int 1)) := by
  refine ex_go (Nat.le_of_ble_eq_true rfl) ?_
  refine sx_l rfl rfl rfl ?_
  refine sx_l rfl rfl rfl ?_
  refine sx_gf rfl h1 (by decide) h2 ?_
  refine sx_p rfl rfl rfl ?_
  refine sx_c rfl (by decide) (show mCnd _ _ _ = false by decide) rfl ?_
  refine sx_p rfl rfl rfl ?_
  refine sx_b rfl rfl rfl rfl ?_
  refine sx_pf rfl h1 (by decide) rfl rfl rfl ?_
  refine sx_l rfl rfl rfl ?_
  refine sx_gf rfl (tag_set.trans h1) (by decide) at_eq ?_
  refine sx_z rfl (by decide) (show mCnd _ _ _ = false by decide) rfl ?_
  refine sx_p rfl rfl rfl ?_
  exact sx_r rfl rfl rfl
theorem item_m {F d : Nat} {h : mHp} {w : Int32} (h1 : hTag h 58 = 11) (h2 : hAt h 58 65 = .int 0) : mEx (F+60) (d+1) 222 [.ref 58, .int w] h = some (.inl none, hSet h 58 0 (.int 1)) := by
  refine ex_go (Nat.le_of_ble_eq_true rfl) ?_
  refine sx_l rfl rfl rfl ?_
  refine sx_l rfl rfl rfl ?_
  refine sx_gf rfl h1 (by decide) h2 ?_
  refine sx_p rfl rfl rfl ?_
  refine sx_c rfl (by decide) (show mCnd _ _ _ = false by decide) rfl ?_
  refine sx_p rfl rfl rfl ?_
  refine sx_b rfl rfl rfl rfl ?_
  refine sx_pf rfl h1 (by decide) rfl rfl rfl ?_
  refine sx_l rfl rfl rfl ?_
  refine sx_gf rfl (tag_set.trans h1) (by decide) at_eq ?_
  refine sx_z rfl (by decide) (show mCnd _ _ _ = false by decide) rfl ?_
  exact sx_r rfl rfl rfl
theorem thrown_m {F d : Nat} {h : mHp} {w : Int32} (h1 : hTag h 58 = 11) (h2 : hAt h 58 0 = .int w) : mEx (F+60) (d+1) 143 [.ref 58] h = some (.inl (some (.int w)), h) := by
  refine ex_go (Nat.le_of_ble_eq_true rfl) ?_
  refine sx_l rfl rfl rfl ?_
  refine sx_gf rfl h1 (by decide) h2 ?_
  exact sx_r rfl rfl rfl
theorem chr_fits {w : Int32} (q : ¬ w < 32) (q3 : ¬ w > 126) : fits .char (.int w) = true := by
  have a1 : (32 : Int32) ≤ w := Int32.not_lt.mp q
  have a2 : w ≤ 126 := Int32.not_lt.mp q3
  rw [Int32.le_iff_toInt_le] at a1 a2
  have b1 : (32 : Int32).toInt = 32 := rfl
  have b2 : (126 : Int32).toInt = 126 := rfl
  have b0 : (0 : Int32).toInt = 0 := rfl
  have b3 : (65535 : Int32).toInt = 65535 := rfl
  simp only [fits, Bool.and_eq_true, decide_eq_true_eq, Int32.le_iff_toInt_le]
  omega
theorem type_m {F d : Nat} {h : mHp} {w : Int32} (h1 : hTag h 58 = 11) (h2 : hAt h 58 2 = .int 0) (h3 : hAt h 58 1 = .ref 59) (h4 : hTag h 59 = 101) (h5 : hLen h 59 = 60) : mEx (F+60) (d+1) 144 [.ref 58, .int w] h = some (.inl (some (.int (if w < 32 ∨ w > 126 then 0 else 1))), if w < 32 ∨ w > 126 then hSet h 58 0 (.int 0) else hSet (hSet (hSet h 58 0 (.int 0)) 59 0 (.int w)) 58 2 (.int 1)) := by
  refine ex_go (Nat.le_of_ble_eq_true rfl) ?_
  by_cases q : w < 32
  · have q1 : mCnd w 32 .lt = true := decide_eq_true q
    simp only [if_pos (Or.inl q : w < 32 ∨ w > 126)]
    refine sx_l rfl rfl rfl ?_
    refine sx_p rfl rfl rfl ?_
    refine sx_pf rfl h1 (by decide) rfl rfl rfl ?_
    refine sx_l rfl rfl rfl ?_
    refine sx_p rfl rfl rfl ?_
    refine sx_c rfl (by decide) q1 rfl ?_
    refine sx_p rfl rfl rfl ?_
    exact sx_r rfl rfl rfl
  · have q1 : mCnd w 32 .lt = false := decide_eq_false q
    by_cases q3 : w > 126
    · have q2 : mCnd w 126 .gt = true := decide_eq_true q3
      simp only [if_pos (Or.inr q3 : w < 32 ∨ w > 126)]
      refine sx_l rfl rfl rfl ?_
      refine sx_p rfl rfl rfl ?_
      refine sx_pf rfl h1 (by decide) rfl rfl rfl ?_
      refine sx_l rfl rfl rfl ?_
      refine sx_p rfl rfl rfl ?_
      refine sx_c rfl (by decide) q1 rfl ?_
      refine sx_l rfl rfl rfl ?_
      refine sx_p rfl rfl rfl ?_
      refine sx_c rfl (by decide) q2 rfl ?_
      refine sx_p rfl rfl rfl ?_
      exact sx_r rfl rfl rfl
    · have q2 : mCnd w 126 .gt = false := decide_eq_false q3
      simp only [if_neg (not_or.mpr ⟨q, q3⟩ : ¬ (w < 32 ∨ w > 126))]
      refine sx_l rfl rfl rfl ?_
      refine sx_p rfl rfl rfl ?_
      refine sx_pf rfl h1 (by decide) rfl rfl rfl ?_
      refine sx_l rfl rfl rfl ?_
      refine sx_p rfl rfl rfl ?_
      refine sx_c rfl (by decide) q1 rfl ?_
      refine sx_l rfl rfl rfl ?_
      refine sx_p rfl rfl rfl ?_
      refine sx_c rfl (by decide) q2 rfl ?_
      refine sx_l rfl rfl rfl ?_
      refine sx_gf rfl (tag_set.trans h1) (by decide) ((at_nk (by decide)).trans h2) ?_
      refine sx_p rfl rfl rfl ?_
      refine sx_c rfl (by decide) (show mCnd _ _ _ = true by decide) rfl ?_
      refine sx_l rfl rfl rfl ?_
      refine sx_gf rfl (tag_set.trans h1) (by decide) ((at_nk (by decide)).trans h3) ?_
      refine sx_l rfl rfl rfl ?_
      refine sx_gf rfl (tag_set.trans h1) (by decide) ((at_nk (by decide)).trans h2) ?_
      refine sx_l rfl rfl rfl ?_
      refine sx_as (t := 101) (ok := fun v => fits .char v) rfl rfl rfl rfl (tag_set.trans h4) (by rw [len_set, h5]; exact (show ¬ ((0 : Int32) < 0 ∨ 60 ≤ (0 : Int32).toNatClampNeg) by decide)) (chr_fits q q3) ?_
      refine sx_l rfl rfl rfl ?_
      refine sx_p rfl rfl rfl ?_
      refine sx_gf rfl (tag_set.trans (tag_set.trans h1)) (by decide) ((at_ne (by decide) _).trans ((at_nk (by decide)).trans h2)) ?_
      refine sx_p rfl rfl rfl ?_
      refine sx_p rfl rfl rfl ?_
      refine sx_pf rfl (tag_set.trans (tag_set.trans h1)) (by decide) rfl rfl rfl ?_
      refine sx_p rfl rfl rfl ?_
      exact sx_r rfl rfl rfl
