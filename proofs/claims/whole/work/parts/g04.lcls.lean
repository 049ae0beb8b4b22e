/-! Lifted methods: the class works out. -/
def B_Va_init (d : Nat) (x0 : Nat) (x1 : Int) (x2 : Int) (h : mHp) (σ : Mem) (r : mRes) (h' : mHp) (σ' : Mem) : Prop := (100 ≤ x0) ∧ ((hTag h x0 = 8) ∧ (r = .inl none ∧ h' = hSet (hSet h x0 0 (vi x1)) x0 1 (vi x2) ∧ σ' = σ))
theorem M_Va_init {d : Nat} {x0 : Nat} {x1 : Int} {x2 : Int} {h h' : mHp} {σ σ' : Mem} {r : mRes} (hx1 : rg x1) (hx2 : rg x2) (H : B_Va_init d x0 x1 x2 h σ r h' σ') : Rh (d + 2) yVa_init [.ref x0, vi x1, vi x2] h σ r h' σ' := by
  refine q_m (Nat.le_of_ble_eq_true rfl) ?_
  unfold B_Va_init at H
  refine q_l rfl rfl rfl ?_
  refine q_s4 rfl rfl ?_
  refine q_l rfl rfl rfl ?_
  refine q_l rfl rfl rfl ?_
  obtain ⟨t1, H⟩ := H
  obtain ⟨t2, H⟩ := H
  refine q_pc rfl t1 t2 (by decide) rfl rfl (by decide) ?_
  refine q_l rfl rfl rfl ?_
  refine q_l rfl rfl rfl ?_
  refine q_pc rfl t1 (tag_set.trans t2) (by decide) rfl rfl (by decide) ?_
  obtain ⟨rfl, rfl, rfl⟩ := H
  exact q_r rfl rfl rfl
def B_Sc_init (d : Nat) (x0 : Nat) (x1 : Int) (x2 : Value) (x3 : Value) (h : mHp) (σ : Mem) (r : mRes) (h' : mHp) (σ' : Mem) : Prop := (100 ≤ x0) ∧ ((hTag h x0 = 10) ∧ (r = .inl none ∧ h' = hSet (hSet (hSet h x0 0 (vi x1)) x0 1 x2) x0 2 x3 ∧ σ' = σ))
theorem M_Sc_init {d : Nat} {x0 : Nat} {x1 : Int} {x2 : Value} {x3 : Value} {h h' : mHp} {σ σ' : Mem} {r : mRes} (hx1 : rg x1) (hx2 : isQ x2) (hx3 : isQ x3) (H : B_Sc_init d x0 x1 x2 x3 h σ r h' σ') : Rh (d + 2) ySc_init [.ref x0, vi x1, x2, x3] h σ r h' σ' := by
  refine q_mv (lv := [(0, .ref x0), (1, vi x1), (2, x2), (3, x3)]) (by rcases hx2 with rfl | ⟨_, rfl⟩ <;> rcases hx3 with rfl | ⟨_, rfl⟩ <;> exact Nat.le_of_ble_eq_true rfl) (by rcases hx2 with rfl | ⟨_, rfl⟩ <;> rcases hx3 with rfl | ⟨_, rfl⟩ <;> rfl) ?_
  unfold B_Sc_init at H
  refine q_lg (u := .ref x0) (ok := isA) rfl rfl (fun _ _ => rfl) (by rcases hx2 with rfl | ⟨_, rfl⟩ <;> rcases hx3 with rfl | ⟨_, rfl⟩ <;> rfl) rfl ?_
  refine q_s4 rfl (by rcases hx2 with rfl | ⟨_, rfl⟩ <;> rcases hx3 with rfl | ⟨_, rfl⟩ <;> rfl) ?_
  refine q_lg (u := .ref x0) (ok := isA) rfl rfl (fun _ _ => rfl) (by rcases hx2 with rfl | ⟨_, rfl⟩ <;> rcases hx3 with rfl | ⟨_, rfl⟩ <;> rfl) rfl ?_
  refine q_lg (u := vi x1) (ok := isI) rfl rfl (fun _ _ => rfl) (by rcases hx2 with rfl | ⟨_, rfl⟩ <;> rcases hx3 with rfl | ⟨_, rfl⟩ <;> rfl) rfl ?_
  obtain ⟨t1, H⟩ := H
  obtain ⟨t2, H⟩ := H
  refine q_pc rfl t1 t2 (by decide) rfl rfl (by decide) ?_
  refine q_lg (u := .ref x0) (ok := isA) rfl rfl (fun _ _ => rfl) (by rcases hx2 with rfl | ⟨_, rfl⟩ <;> rcases hx3 with rfl | ⟨_, rfl⟩ <;> rfl) rfl ?_
  refine q_lq (u := x2) rfl rfl (fun _ _ => rfl) (by rcases hx2 with rfl | ⟨_, rfl⟩ <;> rcases hx3 with rfl | ⟨_, rfl⟩ <;> rfl) hx2 ?_
  refine q_pc rfl t1 (tag_set.trans t2) (by decide) rfl (fits_q hx2) (by decide) ?_
  refine q_lg (u := .ref x0) (ok := isA) rfl rfl (fun _ _ => rfl) (by rcases hx2 with rfl | ⟨_, rfl⟩ <;> rcases hx3 with rfl | ⟨_, rfl⟩ <;> rfl) rfl ?_
  refine q_lq (u := x3) rfl rfl (fun _ _ => rfl) (by rcases hx2 with rfl | ⟨_, rfl⟩ <;> rcases hx3 with rfl | ⟨_, rfl⟩ <;> rfl) hx3 ?_
  refine q_pc rfl t1 (tag_set.trans (tag_set.trans t2)) (by decide) rfl (fits_q hx3) (by decide) ?_
  obtain ⟨rfl, rfl, rfl⟩ := H
  exact q_r rfl rfl rfl
def B_Fr_init (d : Nat) (x0 : Nat) (x1 : Int) (x2 : Value) (x3 : Value) (h : mHp) (σ : Mem) (r : mRes) (h' : mHp) (σ' : Mem) : Prop := (100 ≤ x0) ∧ ((hTag h x0 = 9) ∧ (r = .inl none ∧ h' = hSet (hSet (hSet h x0 0 (vi x1)) x0 1 x2) x0 2 x3 ∧ σ' = σ))
theorem M_Fr_init {d : Nat} {x0 : Nat} {x1 : Int} {x2 : Value} {x3 : Value} {h h' : mHp} {σ σ' : Mem} {r : mRes} (hx1 : rg x1) (hx2 : isQ x2) (hx3 : isQ x3) (H : B_Fr_init d x0 x1 x2 x3 h σ r h' σ') : Rh (d + 2) yFr_init [.ref x0, vi x1, x2, x3] h σ r h' σ' := by
  refine q_mv (lv := [(0, .ref x0), (1, vi x1), (2, x2), (3, x3)]) (by rcases hx2 with rfl | ⟨_, rfl⟩ <;> rcases hx3 with rfl | ⟨_, rfl⟩ <;> exact Nat.le_of_ble_eq_true rfl) (by rcases hx2 with rfl | ⟨_, rfl⟩ <;> rcases hx3 with rfl | ⟨_, rfl⟩ <;> rfl) ?_
  unfold B_Fr_init at H
  refine q_lg (u := .ref x0) (ok := isA) rfl rfl (fun _ _ => rfl) (by rcases hx2 with rfl | ⟨_, rfl⟩ <;> rcases hx3 with rfl | ⟨_, rfl⟩ <;> rfl) rfl ?_
  refine q_s4 rfl (by rcases hx2 with rfl | ⟨_, rfl⟩ <;> rcases hx3 with rfl | ⟨_, rfl⟩ <;> rfl) ?_
  refine q_lg (u := .ref x0) (ok := isA) rfl rfl (fun _ _ => rfl) (by rcases hx2 with rfl | ⟨_, rfl⟩ <;> rcases hx3 with rfl | ⟨_, rfl⟩ <;> rfl) rfl ?_
  refine q_lg (u := vi x1) (ok := isI) rfl rfl (fun _ _ => rfl) (by rcases hx2 with rfl | ⟨_, rfl⟩ <;> rcases hx3 with rfl | ⟨_, rfl⟩ <;> rfl) rfl ?_
  obtain ⟨t1, H⟩ := H
  obtain ⟨t2, H⟩ := H
  refine q_pc rfl t1 t2 (by decide) rfl rfl (by decide) ?_
  refine q_lg (u := .ref x0) (ok := isA) rfl rfl (fun _ _ => rfl) (by rcases hx2 with rfl | ⟨_, rfl⟩ <;> rcases hx3 with rfl | ⟨_, rfl⟩ <;> rfl) rfl ?_
  refine q_lq (u := x2) rfl rfl (fun _ _ => rfl) (by rcases hx2 with rfl | ⟨_, rfl⟩ <;> rcases hx3 with rfl | ⟨_, rfl⟩ <;> rfl) hx2 ?_
  refine q_pc rfl t1 (tag_set.trans t2) (by decide) rfl (fits_q hx2) (by decide) ?_
  refine q_lg (u := .ref x0) (ok := isA) rfl rfl (fun _ _ => rfl) (by rcases hx2 with rfl | ⟨_, rfl⟩ <;> rcases hx3 with rfl | ⟨_, rfl⟩ <;> rfl) rfl ?_
  refine q_lq (u := x3) rfl rfl (fun _ _ => rfl) (by rcases hx2 with rfl | ⟨_, rfl⟩ <;> rcases hx3 with rfl | ⟨_, rfl⟩ <;> rfl) hx3 ?_
  refine q_pc rfl t1 (tag_set.trans (tag_set.trans t2)) (by decide) rfl (fits_q hx3) (by decide) ?_
  obtain ⟨rfl, rfl, rfl⟩ := H
  exact q_r rfl rfl rfl
def B_Va_ofReal (d : Nat) (x0 : UInt64) (h : mHp) (σ : Mem) (r : mRes) (h' : mHp) (σ' : Mem) : Prop := (100 ≤ (h.1)) ∧ ((hTag (nwO h 8) (h.1) = 8) ∧ (∃ h3 m3, Rh (d + 2) yVa_init [.ref (h.1), vi 2, vi 0] (nwO h 8) σ (.inl none) h3 m3 ∧ ((100 ≤ (h.1)) ∧ ((hTag h3 (h.1) = 8) ∧ (r = .inl (some (.ref (h.1))) ∧ h' = hSet h3 (h.1) 2 (.double x0) ∧ σ' = m3)))))
theorem M_Va_ofReal {d : Nat} {x0 : UInt64} {h h' : mHp} {σ σ' : Mem} {r : mRes}  (H : B_Va_ofReal d x0 h σ r h' σ') : Rh (d + 3) yVa_ofReal [.double x0] h σ r h' σ' := by
  refine q_m (Nat.le_of_ble_eq_true rfl) ?_
  unfold B_Va_ofReal at H
  refine q_new rfl (by decide) ?_
  refine q_p rfl rfl rfl ?_
  refine q_p rfl rfl rfl ?_
  refine q_p rfl rfl rfl ?_
  obtain ⟨t1, H⟩ := H
  obtain ⟨t2, H⟩ := H
  obtain ⟨h3, m3, R3, H⟩ := H
  refine q_sp rfl (by decide) (by decide) rfl rfl (fun _ => t2) (by decide) rfl R3 ?_
  refine q_l rfl rfl rfl ?_
  refine q_l rfl rfl rfl ?_
  refine q_l rfl rfl rfl ?_
  obtain ⟨t4, H⟩ := H
  obtain ⟨t5, H⟩ := H
  refine q_pd rfl t4 t5 (by decide) rfl rfl rfl ?_
  refine q_l rfl rfl rfl ?_
  obtain ⟨rfl, rfl, rfl⟩ := H
  exact q_r rfl rfl rfl
def B_Va_ofList (d : Nat) (x0 : Value) (x1 : Value) (h : mHp) (σ : Mem) (r : mRes) (h' : mHp) (σ' : Mem) : Prop := ∃ j1, x1 = .ref j1 ∧ ((100 ≤ j1) ∧ ((hTag (nwO h 8) j1 = 8) ∧ (∃ z4, hAt (nwO h 8) j1 1 = vi z4 ∧ rg z4 ∧ ((100 ≤ (h.1)) ∧ ((hTag (nwO h 8) (h.1) = 8) ∧ (∃ h9 m9, Rh (d + 2) yVa_init [.ref (h.1), vi 3, vi (z4 + 1)] (nwO h 8) σ (.inl none) h9 m9 ∧ ((100 ≤ (h.1)) ∧ ((hTag h9 (h.1) = 8) ∧ (r = .inl (some (.ref (h.1))) ∧ h' = hSet (hSet h9 (h.1) 3 x0) (h.1) 4 (.ref j1) ∧ σ' = m9)))))))))
theorem M_Va_ofList {d : Nat} {x0 : Value} {x1 : Value} {h h' : mHp} {σ σ' : Mem} {r : mRes} (hx0 : isQ x0) (hx1 : isQ x1) (H : B_Va_ofList d x0 x1 h σ r h' σ') : Rh (d + 3) yVa_ofList [x0, x1] h σ r h' σ' := by
  refine q_mv (lv := [(0, x0), (1, x1)]) (by rcases hx0 with rfl | ⟨_, rfl⟩ <;> rcases hx1 with rfl | ⟨_, rfl⟩ <;> exact Nat.le_of_ble_eq_true rfl) (by rcases hx0 with rfl | ⟨_, rfl⟩ <;> rcases hx1 with rfl | ⟨_, rfl⟩ <;> rfl) ?_
  unfold B_Va_ofList at H
  refine q_new rfl (by decide) ?_
  refine q_p rfl rfl rfl ?_
  refine q_p rfl rfl rfl ?_
  refine q_lq (u := x1) rfl rfl (fun _ _ => rfl) (by rcases hx0 with rfl | ⟨_, rfl⟩ <;> rcases hx1 with rfl | ⟨_, rfl⟩ <;> rfl) hx1 ?_
  obtain ⟨j1, rfl, H⟩ := H
  obtain ⟨t2, H⟩ := H
  obtain ⟨t3, H⟩ := H
  obtain ⟨z4, e5, g6, H⟩ := H
  refine q_gd rfl t2 t3 (by decide) e5 ?_
  refine q_p rfl rfl rfl ?_
  refine q_add rfl ?_
  obtain ⟨t7, H⟩ := H
  obtain ⟨t8, H⟩ := H
  obtain ⟨h9, m9, R9, H⟩ := H
  refine q_sp rfl (by decide) (by decide) rfl rfl (fun _ => t8) (by decide) (by rcases hx0 with rfl | ⟨_, rfl⟩ <;> rfl) R9 ?_
  refine q_l rfl rfl rfl ?_
  refine q_lg (u := .ref (h.1)) (ok := isA) rfl rfl (fun _ _ => rfl) (by rcases hx0 with rfl | ⟨_, rfl⟩ <;> rfl) rfl ?_
  refine q_lq (u := x0) rfl rfl (fun _ _ => rfl) (by rcases hx0 with rfl | ⟨_, rfl⟩ <;> rfl) hx0 ?_
  obtain ⟨t10, H⟩ := H
  obtain ⟨t11, H⟩ := H
  refine q_pd rfl t10 t11 (by decide) rfl (fits_q hx0) rfl ?_
  refine q_lg (u := .ref (h.1)) (ok := isA) rfl rfl (fun _ _ => rfl) (by rcases hx0 with rfl | ⟨_, rfl⟩ <;> rfl) rfl ?_
  refine q_lg (u := .ref j1) (ok := isA) rfl rfl (fun _ _ => rfl) (by rcases hx0 with rfl | ⟨_, rfl⟩ <;> rfl) rfl ?_
  refine q_pd rfl t10 (tag_set.trans t11) (by decide) rfl rfl rfl ?_
  refine q_lg (u := .ref (h.1)) (ok := isA) rfl rfl (fun _ _ => rfl) (by rcases hx0 with rfl | ⟨_, rfl⟩ <;> rfl) rfl ?_
  obtain ⟨rfl, rfl, rfl⟩ := H
  exact q_r rfl rfl rfl
def B_Va_ofFunction (d : Nat) (x0 : Int) (x1 : Value) (h : mHp) (σ : Mem) (r : mRes) (h' : mHp) (σ' : Mem) : Prop := (100 ≤ (h.1)) ∧ ((hTag (nwO h 8) (h.1) = 8) ∧ (∃ h3 m3, Rh (d + 2) yVa_init [.ref (h.1), vi 4, vi x0] (nwO h 8) σ (.inl none) h3 m3 ∧ ((100 ≤ (h.1)) ∧ ((hTag h3 (h.1) = 8) ∧ (r = .inl (some (.ref (h.1))) ∧ h' = hSet h3 (h.1) 5 x1 ∧ σ' = m3)))))
theorem M_Va_ofFunction {d : Nat} {x0 : Int} {x1 : Value} {h h' : mHp} {σ σ' : Mem} {r : mRes} (hx0 : rg x0) (hx1 : isQ x1) (H : B_Va_ofFunction d x0 x1 h σ r h' σ') : Rh (d + 3) yVa_ofFunction [vi x0, x1] h σ r h' σ' := by
  refine q_mv (lv := [(0, vi x0), (1, x1)]) (by rcases hx1 with rfl | ⟨_, rfl⟩ <;> exact Nat.le_of_ble_eq_true rfl) (by rcases hx1 with rfl | ⟨_, rfl⟩ <;> rfl) ?_
  unfold B_Va_ofFunction at H
  refine q_new rfl (by decide) ?_
  refine q_p rfl rfl rfl ?_
  refine q_p rfl rfl rfl ?_
  refine q_lg (u := vi x0) (ok := isI) rfl rfl (fun _ _ => rfl) (by rcases hx1 with rfl | ⟨_, rfl⟩ <;> rfl) rfl ?_
  obtain ⟨t1, H⟩ := H
  obtain ⟨t2, H⟩ := H
  obtain ⟨h3, m3, R3, H⟩ := H
  refine q_sp rfl (by decide) (by decide) rfl rfl (fun _ => t2) (by decide) (by rcases hx1 with rfl | ⟨_, rfl⟩ <;> rfl) R3 ?_
  refine q_l rfl rfl rfl ?_
  refine q_lg (u := .ref (h.1)) (ok := isA) rfl rfl (fun _ _ => rfl) (by rcases hx1 with rfl | ⟨_, rfl⟩ <;> rfl) rfl ?_
  refine q_lq (u := x1) rfl rfl (fun _ _ => rfl) (by rcases hx1 with rfl | ⟨_, rfl⟩ <;> rfl) hx1 ?_
  obtain ⟨t4, H⟩ := H
  obtain ⟨t5, H⟩ := H
  refine q_pd rfl t4 t5 (by decide) rfl (fits_q hx1) rfl ?_
  refine q_lg (u := .ref (h.1)) (ok := isA) rfl rfl (fun _ _ => rfl) (by rcases hx1 with rfl | ⟨_, rfl⟩ <;> rfl) rfl ?_
  obtain ⟨rfl, rfl, rfl⟩ := H
  exact q_r rfl rfl rfl
def B_Va_itemAt_20 (d : Nat)  (h : mHp) (σ : Mem) (r : mRes) (h' : mHp) (σ' : Mem) : Prop := r = .inl (some (.null)) ∧ h' = h ∧ σ' = σ
theorem K_Va_itemAt_20 {d : Nat}  {h h' : mHp} {σ σ' : Mem} {r : mRes}  (H : B_Va_itemAt_20 d  h σ r h' σ') : Lh (d + 1) yVa_itemAt 20 [] [] h σ r h' σ' := by
  unfold B_Va_itemAt_20 at H
  refine q_p rfl rfl rfl ?_
  obtain ⟨rfl, rfl, rfl⟩ := H
  exact q_r rfl rfl rfl
def B_Va_itemAt (d : Nat) (x0 : Nat) (x1 : Int) (h : mHp) (σ : Mem) (r : mRes) (h' : mHp) (σ' : Mem) : Prop := (100 ≤ x0) ∧ ((hTag h x0 = 8) ∧ (∃ z3, hAt h x0 0 = vi z3 ∧ rg z3 ∧ (if z3 ≠ 3 then (B_Va_itemAt_20 d  h σ r h' σ') else (if x1 < 0 then (B_Va_itemAt_20 d  h σ r h' σ') else (∃ z8, hAt h x0 1 = vi z8 ∧ rg z8 ∧ (if x1 < z8 then (Lh (d + 1) yVa_itemAt 26 [(1, vi x1), (2, .ref x0), (3, vi 0)] [] h σ r h' σ') else (B_Va_itemAt_20 d  h σ r h' σ')))))))
theorem M_Va_itemAt {d : Nat} {x0 : Nat} {x1 : Int} {h h' : mHp} {σ σ' : Mem} {r : mRes} (hx1 : rg x1) (H : B_Va_itemAt d x0 x1 h σ r h' σ') : Rh (d + 2) yVa_itemAt [.ref x0, vi x1] h σ r h' σ' := by
  refine q_m (Nat.le_of_ble_eq_true rfl) ?_
  unfold B_Va_itemAt at H
  refine q_l rfl rfl rfl ?_
  obtain ⟨t1, H⟩ := H
  obtain ⟨t2, H⟩ := H
  obtain ⟨z3, e4, g5, H⟩ := H
  refine q_gd rfl t1 t2 (by decide) e4 ?_
  refine q_p rfl rfl rfl ?_
  by_cases c6 : z3 ≠ 3
  · rw [if_pos c6] at H
    refine q_c rfl (by decide) g5 (rgk rfl) (q := true) (decide_eq_true c6) rfl ?_
    exact q_lab (K_Va_itemAt_20  H) lvS_nil
  · rw [if_neg c6] at H
    refine q_c rfl (by decide) g5 (rgk rfl) (q := false) (decide_eq_false c6) rfl ?_
    refine q_l rfl rfl rfl ?_
    by_cases c7 : x1 < 0
    · rw [if_pos c7] at H
      refine q_z rfl (by decide) hx1 (q := true) (decide_eq_true c7) rfl ?_
      exact q_lab (K_Va_itemAt_20  H) lvS_nil
    · rw [if_neg c7] at H
      refine q_z rfl (by decide) hx1 (q := false) (decide_eq_false c7) rfl ?_
      refine q_l rfl rfl rfl ?_
      refine q_l rfl rfl rfl ?_
      obtain ⟨z8, e9, g10, H⟩ := H
      refine q_gd rfl t1 t2 (by decide) e9 ?_
      by_cases c11 : x1 < z8
      · rw [if_pos c11] at H
        refine q_c rfl (by decide) hx1 g10 (q := true) (decide_eq_true c11) rfl ?_
        refine q_l rfl rfl rfl ?_
        refine q_l rfl rfl rfl ?_
        refine q_p rfl rfl rfl ?_
        refine q_l rfl rfl rfl ?_
        exact q_lab H (lvS_cons rfl rfl (lvS_cons rfl rfl (lvS_cons rfl rfl lvS_nil)))
      · rw [if_neg c11] at H
        refine q_c rfl (by decide) hx1 g10 (q := false) (decide_eq_false c11) rfl ?_
        exact q_lab (K_Va_itemAt_20  H) lvS_nil
def B_Va_itemAt_46 (d : Nat) (x2 : Value) (h : mHp) (σ : Mem) (r : mRes) (h' : mHp) (σ' : Mem) : Prop := (x2 = .null ∧ r = .inl (some (.null)) ∧ h' = h ∧ σ' = σ) ∨ (∃ j1, x2 = .ref j1 ∧ (100 ≤ j1) ∧ ((hTag h j1 = 8) ∧ (∃ z4, hAt h j1 3 = z4 ∧ isQ z4 ∧ (r = .inl (some (z4)) ∧ h' = h ∧ σ' = σ))))
theorem K_Va_itemAt_46 {d : Nat} {x2 : Value} {h h' : mHp} {σ σ' : Mem} {r : mRes} (hx2 : isQ x2) (H : B_Va_itemAt_46 d x2 h σ r h' σ') : Lh (d + 1) yVa_itemAt 46 [(2, x2)] [] h σ r h' σ' := by
  unfold B_Va_itemAt_46 at H
  refine q_lq (u := x2) rfl rfl (fun _ _ => rfl) (by rcases hx2 with rfl | ⟨_, rfl⟩ <;> rfl) hx2 ?_
  rcases H with ⟨rfl, H⟩ | ⟨j1, rfl, H⟩
  · refine q_b rfl rfl rfl rfl ?_
    refine q_p rfl rfl rfl ?_
    refine q_b rfl rfl rfl rfl ?_
    obtain ⟨rfl, rfl, rfl⟩ := H
    exact q_r rfl rfl rfl
  · refine q_b rfl rfl rfl rfl ?_
    refine q_l rfl rfl rfl ?_
    obtain ⟨t2, H⟩ := H
    obtain ⟨t3, H⟩ := H
    obtain ⟨z4, e5, q6, H⟩ := H
    refine q_gd rfl t2 t3 (by decide) e5 ?_
    obtain ⟨rfl, rfl, rfl⟩ := H
    exact q_r rfl rfl (ret_q q6 rfl)
def B_Va_itemAt_26 (d : Nat) (x1 : Int) (x2 : Value) (x3 : Int) (h : mHp) (σ : Mem) (r : mRes) (h' : mHp) (σ' : Mem) : Prop := if x3 ≥ x1 then (B_Va_itemAt_46 d x2 h σ r h' σ') else ((x2 = .null ∧ B_Va_itemAt_46 d (.null) h σ r h' σ') ∨ (∃ j2, x2 = .ref j2 ∧ (100 ≤ j2) ∧ ((hTag h j2 = 8) ∧ (∃ z5, hAt h j2 4 = z5 ∧ isQ z5 ∧ ((rg (x3 + 1)) ∧ (Lh (d + 1) yVa_itemAt 26 [(1, vi x1), (2, z5), (3, vi (x3 + 1))] [] h σ r h' σ'))))))
theorem K_Va_itemAt_26 {d : Nat} {x1 : Int} {x2 : Value} {x3 : Int} {h h' : mHp} {σ σ' : Mem} {r : mRes} (hx1 : rg x1) (hx2 : isQ x2) (hx3 : rg x3) (H : B_Va_itemAt_26 d x1 x2 x3 h σ r h' σ') : Lh (d + 1) yVa_itemAt 26 [(1, vi x1), (2, x2), (3, vi x3)] [] h σ r h' σ' := by
  unfold B_Va_itemAt_26 at H
  refine q_lg (u := vi x3) (ok := isI) rfl rfl (fun _ _ => rfl) (by rcases hx2 with rfl | ⟨_, rfl⟩ <;> rfl) rfl ?_
  refine q_lg (u := vi x1) (ok := isI) rfl rfl (fun _ _ => rfl) (by rcases hx2 with rfl | ⟨_, rfl⟩ <;> rfl) rfl ?_
  by_cases c1 : x3 ≥ x1
  · rw [if_pos c1] at H
    refine q_c rfl (by decide) hx3 hx1 (q := true) (decide_eq_true c1) rfl ?_
    exact q_lab (K_Va_itemAt_46 hx2 H) (lvS_cons (by rcases hx2 with rfl | ⟨_, rfl⟩ <;> rfl) rfl lvS_nil)
  · rw [if_neg c1] at H
    refine q_c rfl (by decide) hx3 hx1 (q := false) (decide_eq_false c1) rfl ?_
    refine q_lq (u := x2) rfl rfl (fun _ _ => rfl) (by rcases hx2 with rfl | ⟨_, rfl⟩ <;> rfl) hx2 ?_
    rcases H with ⟨rfl, H⟩ | ⟨j2, rfl, H⟩
    · refine q_b rfl rfl rfl rfl ?_
      exact q_lab (K_Va_itemAt_46 isQ.n H) (lvS_cons rfl rfl lvS_nil)
    · refine q_b rfl rfl rfl rfl ?_
      refine q_l rfl rfl rfl ?_
      obtain ⟨t3, H⟩ := H
      obtain ⟨t4, H⟩ := H
      obtain ⟨z5, e6, q7, H⟩ := H
      refine q_gd rfl t3 t4 (by decide) e6 ?_
      refine q_sq rfl rfl (fun _ _ => rfl) q7 (by decide) ?_
      refine q_inc (z := x3) rfl (by rcases q7 with rfl | ⟨_, rfl⟩ <;> rfl) (by decide) ?_
      refine q_b rfl rfl rfl rfl ?_
      obtain ⟨g8, H⟩ := H
      exact q_lab H (lvS_cons (by rcases q7 with rfl | ⟨_, rfl⟩ <;> rfl) rfl (lvS_cons (by rcases q7 with rfl | ⟨_, rfl⟩ <;> rfl) rfl (lvS_cons (by rcases q7 with rfl | ⟨_, rfl⟩ <;> rfl) rfl lvS_nil)))
def B_Mc_fail (d : Nat) (x1 : Int) (h : mHp) (σ : Mem) (r : mRes) (h' : mHp) (σ' : Mem) : Prop := r = .inl none ∧ h' = h ∧ σ' = mup (mup σ 54 7 3) 54 8 x1
theorem M_Mc_fail {d : Nat} {x1 : Int} {h h' : mHp} {σ σ' : Mem} {r : mRes} (hx1 : rg x1) (H : B_Mc_fail d x1 h σ r h' σ') : Rh (d + 2) yMc_fail [.ref 54, vi x1] h σ r h' σ' := by
  refine q_m (Nat.le_of_ble_eq_true rfl) ?_
  unfold B_Mc_fail at H
  refine q_l rfl rfl rfl ?_
  refine q_p rfl rfl rfl ?_
  refine q_pi rfl rfl rfl (by decide) rfl rfl rfl rfl (rgk rfl) ?_
  refine q_l rfl rfl rfl ?_
  refine q_l rfl rfl rfl ?_
  refine q_pi rfl rfl rfl (by decide) rfl rfl rfl rfl hx1 ?_
  obtain ⟨rfl, rfl, rfl⟩ := H
  exact q_r rfl rfl rfl
def B_Mc_goInto (d : Nat) (x1 : Int) (h : mHp) (σ : Mem) (r : mRes) (h' : mHp) (σ' : Mem) : Prop := r = .inl none ∧ h' = h ∧ σ' = mup (mup σ 54 3 x1) 54 4 0
theorem M_Mc_goInto {d : Nat} {x1 : Int} {h h' : mHp} {σ σ' : Mem} {r : mRes} (hx1 : rg x1) (H : B_Mc_goInto d x1 h σ r h' σ') : Rh (d + 2) yMc_goInto [.ref 54, vi x1] h σ r h' σ' := by
  refine q_m (Nat.le_of_ble_eq_true rfl) ?_
  unfold B_Mc_goInto at H
  refine q_l rfl rfl rfl ?_
  refine q_l rfl rfl rfl ?_
  refine q_pi rfl rfl rfl (by decide) rfl rfl rfl rfl hx1 ?_
  refine q_l rfl rfl rfl ?_
  refine q_p rfl rfl rfl ?_
  refine q_pi rfl rfl rfl (by decide) rfl rfl rfl rfl (rgk rfl) ?_
  obtain ⟨rfl, rfl, rfl⟩ := H
  exact q_r rfl rfl rfl
def B_Mc_settle_19 (d : Nat)  (h : mHp) (σ : Mem) (r : mRes) (h' : mHp) (σ' : Mem) : Prop := ∃ h1 m1, Rh (d + 2) yMc_fail [.ref 54, vi 5] h σ (.inl none) h1 m1 ∧ (r = .inl none ∧ h' = h1 ∧ σ' = m1)
theorem K_Mc_settle_19 {d : Nat}  {h h' : mHp} {σ σ' : Mem} {r : mRes}  (H : B_Mc_settle_19 d  h σ r h' σ') : Lh (d + 2) yMc_settle 19 [(0, .ref 54)] [] h σ r h' σ' := by
  unfold B_Mc_settle_19 at H
  refine q_l rfl rfl rfl ?_
  refine q_p rfl rfl rfl ?_
  obtain ⟨h1, m1, R1, H⟩ := H
  refine q_iv rfl rfl rfl (fun S => S.t 54 rfl) (by decide) rfl R1 ?_
  obtain ⟨rfl, rfl, rfl⟩ := H
  exact q_r rfl rfl rfl
def B_Mc_settle (d : Nat) (x1 : Nat) (h : mHp) (σ : Mem) (r : mRes) (h' : mHp) (σ' : Mem) : Prop := (rg (σ 54 2)) ∧ (if σ 54 2 < 0 then (B_Mc_settle_19 d  h σ r h' σ') else (if σ 54 2 < 200 then (((0 : Int) ≤ σ 54 2 ∧ σ 54 2 < (200 : Int)) ∧ ((hTag h x1 = 8) ∧ ((rg ((σ 54 2) + 1)) ∧ (r = .inl none ∧ h' = hSet h 55 (σ 54 2 : Int).toNat (.ref x1) ∧ σ' = mup (mup σ 54 2 ((σ 54 2) + 1)) 54 4 1)))) else (B_Mc_settle_19 d  h σ r h' σ')))
theorem M_Mc_settle {d : Nat} {x1 : Nat} {h h' : mHp} {σ σ' : Mem} {r : mRes}  (H : B_Mc_settle d x1 h σ r h' σ') : Rh (d + 3) yMc_settle [.ref 54, .ref x1] h σ r h' σ' := by
  refine q_m (Nat.le_of_ble_eq_true rfl) ?_
  unfold B_Mc_settle at H
  refine q_l rfl rfl rfl ?_
  obtain ⟨g1, H⟩ := H
  refine q_gi rfl rfl rfl (by decide) rfl rfl ?_
  by_cases c2 : σ 54 2 < 0
  · rw [if_pos c2] at H
    refine q_z rfl (by decide) g1 (q := true) (decide_eq_true c2) rfl ?_
    exact q_lab (K_Mc_settle_19  H) (lvS_cons rfl rfl lvS_nil)
  · rw [if_neg c2] at H
    refine q_z rfl (by decide) g1 (q := false) (decide_eq_false c2) rfl ?_
    refine q_l rfl rfl rfl ?_
    refine q_gi rfl rfl rfl (by decide) rfl rfl ?_
    refine q_l rfl rfl rfl ?_
    refine q_gr (t := 55) rfl rfl rfl (by decide) rfl ?_
    refine q_len rfl rfl (by decide) (by decide) ?_
    rw [show (shL 55 : Int) = 200 from rfl]
    by_cases c3 : σ 54 2 < 200
    · rw [if_pos c3] at H
      refine q_c rfl (by decide) g1 (rgk rfl) (q := true) (decide_eq_true c3) rfl ?_
      refine q_l rfl rfl rfl ?_
      refine q_gr (t := 55) rfl rfl rfl (by decide) rfl ?_
      refine q_l rfl rfl rfl ?_
      refine q_gi rfl rfl rfl (by decide) rfl rfl ?_
      refine q_l rfl rfl rfl ?_
      obtain ⟨g4, H⟩ := H
      obtain ⟨t5, H⟩ := H
      refine q_sa rfl g4 t5 ?_
      refine q_l rfl rfl rfl ?_
      refine q_p rfl rfl rfl ?_
      refine q_gi rfl rfl rfl (by decide) rfl rfl ?_
      refine q_p rfl rfl rfl ?_
      refine q_add rfl ?_
      obtain ⟨g6, H⟩ := H
      refine q_pi rfl rfl rfl (by decide) rfl rfl rfl rfl g6 ?_
      refine q_l rfl rfl rfl ?_
      refine q_p rfl rfl rfl ?_
      refine q_pi rfl rfl rfl (by decide) rfl rfl rfl rfl (rgk rfl) ?_
      obtain ⟨rfl, rfl, rfl⟩ := H
      exact q_r rfl rfl rfl
    · rw [if_neg c3] at H
      refine q_c rfl (by decide) g1 (rgk rfl) (q := false) (decide_eq_false c3) rfl ?_
      exact q_lab (K_Mc_settle_19  H) (lvS_cons rfl rfl lvS_nil)
def B_Mc_take_45 (d : Nat)  (h : mHp) (σ : Mem) (r : mRes) (h' : mHp) (σ' : Mem) : Prop := (100 ≤ (h.1)) ∧ ((hTag (nwO h 8) (h.1) = 8) ∧ (∃ h3 m3, Rh (d + 2) yVa_init [.ref (h.1), vi 0, vi 0] (nwO h 8) σ (.inl none) h3 m3 ∧ (r = .inl (some (.ref (h.1))) ∧ h' = h3 ∧ σ' = m3)))
theorem K_Mc_take_45 {d : Nat}  {h h' : mHp} {σ σ' : Mem} {r : mRes}  (H : B_Mc_take_45 d  h σ r h' σ') : Lh (d + 2) yMc_take 45 [] [] h σ r h' σ' := by
  unfold B_Mc_take_45 at H
  refine q_new rfl (by decide) ?_
  refine q_p rfl rfl rfl ?_
  refine q_p rfl rfl rfl ?_
  refine q_p rfl rfl rfl ?_
  obtain ⟨t1, H⟩ := H
  obtain ⟨t2, H⟩ := H
  obtain ⟨h3, m3, R3, H⟩ := H
  refine q_sp rfl (by decide) (by decide) rfl rfl (fun _ => t2) (by decide) rfl R3 ?_
  obtain ⟨rfl, rfl, rfl⟩ := H
  exact q_r rfl rfl rfl
def B_Mc_take (d : Nat)  (h : mHp) (σ : Mem) (r : mRes) (h' : mHp) (σ' : Mem) : Prop := (rg (σ 54 2)) ∧ (if σ 54 2 ≤ 0 then (B_Mc_take_45 d  h σ r h' σ') else (if σ 54 2 > 200 then (B_Mc_take_45 d  h σ r h' σ') else ((rg ((σ 54 2) - 1)) ∧ ((rg ((mup σ 54 2 ((σ 54 2) - 1)) 54 2)) ∧ (((0 : Int) ≤ (mup σ 54 2 ((σ 54 2) - 1)) 54 2 ∧ (mup σ 54 2 ((σ 54 2) - 1)) 54 2 < (200 : Int)) ∧ (∃ z7, hAt h 55 ((mup σ 54 2 ((σ 54 2) - 1)) 54 2 : Int).toNat = z7 ∧ isQ z7 ∧ ((z7 = .null ∧ B_Mc_take_45 d  h (mup σ 54 2 ((σ 54 2) - 1)) r h' σ') ∨ (∃ j10, z7 = .ref j10 ∧ r = .inl (some (.ref j10)) ∧ h' = h ∧ σ' = mup σ 54 2 ((σ 54 2) - 1)))))))))
theorem M_Mc_take {d : Nat}  {h h' : mHp} {σ σ' : Mem} {r : mRes}  (H : B_Mc_take d  h σ r h' σ') : Rh (d + 3) yMc_take [.ref 54] h σ r h' σ' := by
  refine q_m (Nat.le_of_ble_eq_true rfl) ?_
  unfold B_Mc_take at H
  refine q_l rfl rfl rfl ?_
  obtain ⟨g1, H⟩ := H
  refine q_gi rfl rfl rfl (by decide) rfl rfl ?_
  by_cases c2 : σ 54 2 ≤ 0
  · rw [if_pos c2] at H
    refine q_z rfl (by decide) g1 (q := true) (decide_eq_true c2) rfl ?_
    exact q_lab (K_Mc_take_45  H) lvS_nil
  · rw [if_neg c2] at H
    refine q_z rfl (by decide) g1 (q := false) (decide_eq_false c2) rfl ?_
    refine q_l rfl rfl rfl ?_
    refine q_gi rfl rfl rfl (by decide) rfl rfl ?_
    refine q_l rfl rfl rfl ?_
    refine q_gr (t := 55) rfl rfl rfl (by decide) rfl ?_
    refine q_len rfl rfl (by decide) (by decide) ?_
    rw [show (shL 55 : Int) = 200 from rfl]
    by_cases c3 : σ 54 2 > 200
    · rw [if_pos c3] at H
      refine q_c rfl (by decide) g1 (rgk rfl) (q := true) (decide_eq_true c3) rfl ?_
      exact q_lab (K_Mc_take_45  H) lvS_nil
    · rw [if_neg c3] at H
      refine q_c rfl (by decide) g1 (rgk rfl) (q := false) (decide_eq_false c3) rfl ?_
      refine q_l rfl rfl rfl ?_
      refine q_p rfl rfl rfl ?_
      refine q_gi rfl rfl rfl (by decide) rfl rfl ?_
      refine q_p rfl rfl rfl ?_
      refine q_sub rfl ?_
      obtain ⟨g4, H⟩ := H
      refine q_pi rfl rfl rfl (by decide) rfl rfl rfl rfl g4 ?_
      refine q_l rfl rfl rfl ?_
      refine q_gr (t := 55) rfl rfl rfl (by decide) rfl ?_
      refine q_l rfl rfl rfl ?_
      obtain ⟨g5, H⟩ := H
      refine q_gi rfl rfl rfl (by decide) rfl rfl ?_
      obtain ⟨g6, H⟩ := H
      obtain ⟨z7, e8, q9, H⟩ := H
      refine q_av rfl rfl (fun _ => rfl) rfl rfl g6 (by decide) e8 ?_
      refine q_sq rfl rfl (fun _ _ => rfl) q9 (by decide) ?_
      refine q_lq (u := z7) rfl rfl (fun _ _ => rfl) (by rcases q9 with rfl | ⟨_, rfl⟩ <;> rfl) q9 ?_
      rcases H with ⟨rfl, H⟩ | ⟨j10, rfl, H⟩
      · refine q_b rfl rfl rfl rfl ?_
        exact q_lab (K_Mc_take_45  H) lvS_nil
      · refine q_b rfl rfl rfl rfl ?_
        refine q_l rfl rfl rfl ?_
        obtain ⟨rfl, rfl, rfl⟩ := H
        exact q_r rfl rfl rfl
def B_Mc_find (d : Nat) (x1 : Int) (h : mHp) (σ : Mem) (r : mRes) (h' : mHp) (σ' : Mem) : Prop := ∃ z1, hAt h 54 5 = z1 ∧ isQ z1 ∧ (Lh (d + 2) yMc_find 5 [(1, vi x1), (2, z1)] [] h σ r h' σ')
theorem M_Mc_find {d : Nat} {x1 : Int} {h h' : mHp} {σ σ' : Mem} {r : mRes} (hx1 : rg x1) (H : B_Mc_find d x1 h σ r h' σ') : Rh (d + 3) yMc_find [.ref 54, vi x1] h σ r h' σ' := by
  refine q_m (Nat.le_of_ble_eq_true rfl) ?_
  unfold B_Mc_find at H
  refine q_l rfl rfl rfl ?_
  obtain ⟨z1, e2, q3, H⟩ := H
  refine q_gv rfl rfl rfl (by decide) rfl e2 ?_
  refine q_sq rfl rfl (fun _ _ => rfl) q3 (by decide) ?_
  exact q_lab H (lvS_cons (by rcases q3 with rfl | ⟨_, rfl⟩ <;> rfl) rfl (lvS_cons (by rcases q3 with rfl | ⟨_, rfl⟩ <;> rfl) rfl lvS_nil))
def B_Mc_find_29 (d : Nat) (x1 : Int) (x2 : Value) (h : mHp) (σ : Mem) (r : mRes) (h' : mHp) (σ' : Mem) : Prop := ∃ j1, x2 = .ref j1 ∧ ((100 ≤ j1) ∧ ((hTag h j1 = 10) ∧ (∃ z4, hAt h j1 2 = z4 ∧ isQ z4 ∧ (Lh (d + 2) yMc_find 5 [(1, vi x1), (2, z4)] [] h σ r h' σ'))))
theorem K_Mc_find_29 {d : Nat} {x1 : Int} {x2 : Value} {h h' : mHp} {σ σ' : Mem} {r : mRes} (hx1 : rg x1) (hx2 : isQ x2) (H : B_Mc_find_29 d x1 x2 h σ r h' σ') : Lh (d + 2) yMc_find 29 [(1, vi x1), (2, x2)] [] h σ r h' σ' := by
  unfold B_Mc_find_29 at H
  refine q_lq (u := x2) rfl rfl (fun _ _ => rfl) (by rcases hx2 with rfl | ⟨_, rfl⟩ <;> rfl) hx2 ?_
  obtain ⟨j1, rfl, H⟩ := H
  obtain ⟨t2, H⟩ := H
  obtain ⟨t3, H⟩ := H
  obtain ⟨z4, e5, q6, H⟩ := H
  refine q_gd rfl t2 t3 (by decide) e5 ?_
  refine q_sq rfl rfl (fun _ _ => rfl) q6 (by decide) ?_
  refine q_b rfl rfl rfl rfl ?_
  exact q_lab H (lvS_cons (by rcases q6 with rfl | ⟨_, rfl⟩ <;> rfl) rfl (lvS_cons (by rcases q6 with rfl | ⟨_, rfl⟩ <;> rfl) rfl lvS_nil))
def B_Mc_find_5 (d : Nat) (x1 : Int) (x2 : Value) (h : mHp) (σ : Mem) (r : mRes) (h' : mHp) (σ' : Mem) : Prop := (x2 = .null ∧ (100 ≤ (h.1)) ∧ ((hTag (nwO h 8) (h.1) = 8) ∧ (∃ h3 m3, Rh (d + 2) yVa_init [.ref (h.1), vi 0, vi 0] (nwO h 8) σ (.inl none) h3 m3 ∧ (r = .inl (some (.ref (h.1))) ∧ h' = h3 ∧ σ' = m3)))) ∨ (∃ j4, x2 = .ref j4 ∧ (100 ≤ j4) ∧ ((hTag h j4 = 10) ∧ (∃ z7, hAt h j4 0 = vi z7 ∧ rg z7 ∧ (if z7 ≠ x1 then (B_Mc_find_29 d x1 (.ref j4) h σ r h' σ') else (∃ z11, hAt h j4 1 = z11 ∧ isQ z11 ∧ ((z11 = .null ∧ B_Mc_find_29 d x1 (.ref j4) h σ r h' σ') ∨ (∃ j14, z11 = .ref j14 ∧ ∃ z15, hAt h j4 1 = z15 ∧ isQ z15 ∧ (r = .inl (some (z15)) ∧ h' = h ∧ σ' = σ))))))))
theorem K_Mc_find_5 {d : Nat} {x1 : Int} {x2 : Value} {h h' : mHp} {σ σ' : Mem} {r : mRes} (hx1 : rg x1) (hx2 : isQ x2) (H : B_Mc_find_5 d x1 x2 h σ r h' σ') : Lh (d + 2) yMc_find 5 [(1, vi x1), (2, x2)] [] h σ r h' σ' := by
  unfold B_Mc_find_5 at H
  refine q_lq (u := x2) rfl rfl (fun _ _ => rfl) (by rcases hx2 with rfl | ⟨_, rfl⟩ <;> rfl) hx2 ?_
  rcases H with ⟨rfl, H⟩ | ⟨j4, rfl, H⟩
  · refine q_b rfl rfl rfl rfl ?_
    refine q_new rfl (by decide) ?_
    refine q_p rfl rfl rfl ?_
    refine q_p rfl rfl rfl ?_
    refine q_p rfl rfl rfl ?_
    obtain ⟨t1, H⟩ := H
    obtain ⟨t2, H⟩ := H
    obtain ⟨h3, m3, R3, H⟩ := H
    refine q_sp rfl (by decide) (by decide) rfl rfl (fun _ => t2) (by decide) rfl R3 ?_
    obtain ⟨rfl, rfl, rfl⟩ := H
    exact q_r rfl rfl rfl
  · refine q_b rfl rfl rfl rfl ?_
    refine q_l rfl rfl rfl ?_
    obtain ⟨t5, H⟩ := H
    obtain ⟨t6, H⟩ := H
    obtain ⟨z7, e8, g9, H⟩ := H
    refine q_gd rfl t5 t6 (by decide) e8 ?_
    refine q_l rfl rfl rfl ?_
    by_cases c10 : z7 ≠ x1
    · rw [if_pos c10] at H
      refine q_c rfl (by decide) g9 hx1 (q := true) (decide_eq_true c10) rfl ?_
      exact q_lab (K_Mc_find_29 hx1 isQ.j H) (lvS_cons rfl rfl (lvS_cons rfl rfl lvS_nil))
    · rw [if_neg c10] at H
      refine q_c rfl (by decide) g9 hx1 (q := false) (decide_eq_false c10) rfl ?_
      refine q_l rfl rfl rfl ?_
      obtain ⟨z11, e12, q13, H⟩ := H
      refine q_gd rfl t5 t6 (by decide) e12 ?_
      rcases H with ⟨rfl, H⟩ | ⟨j14, rfl, H⟩
      · refine q_b rfl rfl rfl rfl ?_
        exact q_lab (K_Mc_find_29 hx1 isQ.j H) (lvS_cons rfl rfl (lvS_cons rfl rfl lvS_nil))
      · refine q_b rfl rfl rfl rfl ?_
        refine q_l rfl rfl rfl ?_
        obtain ⟨z15, e16, q17, H⟩ := H
        refine q_gd rfl t5 t6 (by decide) e16 ?_
        obtain ⟨rfl, rfl, rfl⟩ := H
        exact q_r rfl rfl (ret_q q17 rfl)
def B_Mc_unbind (d : Nat) (x1 : Int) (h : mHp) (σ : Mem) (r : mRes) (h' : mHp) (σ' : Mem) : Prop := Lh (d + 1) yMc_unbind 2 [(0, .ref 54), (1, vi x1), (2, vi 0)] [] h σ r h' σ'
theorem M_Mc_unbind {d : Nat} {x1 : Int} {h h' : mHp} {σ σ' : Mem} {r : mRes} (hx1 : rg x1) (H : B_Mc_unbind d x1 h σ r h' σ') : Rh (d + 2) yMc_unbind [.ref 54, vi x1] h σ r h' σ' := by
  refine q_m (Nat.le_of_ble_eq_true rfl) ?_
  unfold B_Mc_unbind at H
  refine q_p rfl rfl rfl ?_
  refine q_l rfl rfl rfl ?_
  exact q_lab H (lvS_cons rfl rfl (lvS_cons rfl rfl (lvS_cons rfl rfl lvS_nil)))
def B_Mc_unbind_2 (d : Nat) (x1 : Int) (x2 : Int) (h : mHp) (σ : Mem) (r : mRes) (h' : mHp) (σ' : Mem) : Prop := if x2 ≥ x1 then (r = .inl none ∧ h' = h ∧ σ' = σ) else (∃ z2, hAt h 54 5 = z2 ∧ isQ z2 ∧ ((z2 = .null ∧ r = .inl none ∧ h' = h ∧ σ' = σ) ∨ (∃ j5, z2 = .ref j5 ∧ ∃ z6, hAt h 54 5 = z6 ∧ isQ z6 ∧ (∃ j9, z6 = .ref j9 ∧ ((100 ≤ j9) ∧ ((hTag h j9 = 10) ∧ (∃ z12, hAt h j9 2 = z12 ∧ isQ z12 ∧ ((rg (x2 + 1)) ∧ (Lh (d + 1) yMc_unbind 2 [(0, .ref 54), (1, vi x1), (2, vi (x2 + 1))] [] (hSet h 54 5 z12) σ r h' σ')))))))))
theorem K_Mc_unbind_2 {d : Nat} {x1 : Int} {x2 : Int} {h h' : mHp} {σ σ' : Mem} {r : mRes} (hx1 : rg x1) (hx2 : rg x2) (H : B_Mc_unbind_2 d x1 x2 h σ r h' σ') : Lh (d + 1) yMc_unbind 2 [(0, .ref 54), (1, vi x1), (2, vi x2)] [] h σ r h' σ' := by
  unfold B_Mc_unbind_2 at H
  refine q_l rfl rfl rfl ?_
  refine q_l rfl rfl rfl ?_
  by_cases c1 : x2 ≥ x1
  · rw [if_pos c1] at H
    refine q_c rfl (by decide) hx2 hx1 (q := true) (decide_eq_true c1) rfl ?_
    obtain ⟨rfl, rfl, rfl⟩ := H
    exact q_r rfl rfl rfl
  · rw [if_neg c1] at H
    refine q_c rfl (by decide) hx2 hx1 (q := false) (decide_eq_false c1) rfl ?_
    refine q_l rfl rfl rfl ?_
    obtain ⟨z2, e3, q4, H⟩ := H
    refine q_gv rfl rfl rfl (by decide) rfl e3 ?_
    rcases H with ⟨rfl, H⟩ | ⟨j5, rfl, H⟩
    · refine q_b rfl rfl rfl rfl ?_
      obtain ⟨rfl, rfl, rfl⟩ := H
      exact q_r rfl rfl rfl
    · refine q_b rfl rfl rfl rfl ?_
      refine q_l rfl rfl rfl ?_
      refine q_l rfl rfl rfl ?_
      obtain ⟨z6, e7, q8, H⟩ := H
      refine q_gv rfl rfl rfl (by decide) rfl e7 ?_
      obtain ⟨j9, rfl, H⟩ := H
      obtain ⟨t10, H⟩ := H
      obtain ⟨t11, H⟩ := H
      obtain ⟨z12, e13, q14, H⟩ := H
      refine q_gd rfl t10 t11 (by decide) e13 ?_
      refine q_pv rfl rfl rfl (by decide) rfl rfl rfl (fits_q q14) rfl ?_
      refine q_inc (z := x2) rfl rfl (by decide) ?_
      refine q_b rfl rfl rfl rfl ?_
      obtain ⟨g15, H⟩ := H
      exact q_lab H (lvS_cons rfl rfl (lvS_cons rfl rfl (lvS_cons rfl rfl lvS_nil)))
def B_Mc_finish (d : Nat)  (h : mHp) (σ : Mem) (r : mRes) (h' : mHp) (σ' : Mem) : Prop := ∃ v1 h1 m1, Rh (d + 3) yMc_take [.ref 54] h σ (.inl (some v1)) h1 m1 ∧ isQ v1 ∧ (r = .inl none ∧ h' = hSet h1 54 11 v1 ∧ σ' = mup m1 54 7 2)
theorem M_Mc_finish {d : Nat}  {h h' : mHp} {σ σ' : Mem} {r : mRes}  (H : B_Mc_finish d  h σ r h' σ') : Rh (d + 4) yMc_finish [.ref 54] h σ r h' σ' := by
  refine q_m (Nat.le_of_ble_eq_true rfl) ?_
  unfold B_Mc_finish at H
  refine q_l rfl rfl rfl ?_
  refine q_l rfl rfl rfl ?_
  obtain ⟨v1, h1, m1, R1, w1, H⟩ := H
  refine q_iv rfl rfl rfl (fun S => S.t 54 rfl) (by decide) rfl R1 ?_
  refine q_pv rfl rfl rfl (by decide) rfl rfl rfl (fits_q w1) rfl ?_
  refine q_l rfl rfl rfl ?_
  refine q_p rfl rfl rfl ?_
  refine q_pi rfl rfl rfl (by decide) rfl rfl rfl rfl (rgk rfl) ?_
  obtain ⟨rfl, rfl, rfl⟩ := H
  exact q_r rfl rfl rfl
def B_Mc_giveBack (d : Nat)  (h : mHp) (σ : Mem) (r : mRes) (h' : mHp) (σ' : Mem) : Prop := ∃ z1, hAt h 54 6 = z1 ∧ isQ z1 ∧ ((z1 = .null ∧ ∃ h4 m4, Rh (d + 4) yMc_finish [.ref 54] h σ (.inl none) h4 m4 ∧ (r = .inl none ∧ h' = h4 ∧ σ' = m4)) ∨ (∃ j5, z1 = .ref j5 ∧ (100 ≤ j5) ∧ ((hTag h j5 = 9) ∧ (∃ z8, hAt h j5 0 = vi z8 ∧ rg z8 ∧ (∃ z11, hAt h j5 1 = z11 ∧ isQ z11 ∧ ((100 ≤ j5) ∧ ((hTag (hSet h 54 5 z11) j5 = 9) ∧ (∃ z16, hAt (hSet h 54 5 z11) j5 2 = z16 ∧ isQ z16 ∧ (r = .inl none ∧ h' = hSet (hSet h 54 5 z11) 54 6 z16 ∧ σ' = mup σ 54 3 z8)))))))))
theorem M_Mc_giveBack {d : Nat}  {h h' : mHp} {σ σ' : Mem} {r : mRes}  (H : B_Mc_giveBack d  h σ r h' σ') : Rh (d + 5) yMc_giveBack [.ref 54] h σ r h' σ' := by
  refine q_m (Nat.le_of_ble_eq_true rfl) ?_
  unfold B_Mc_giveBack at H
  refine q_l rfl rfl rfl ?_
  obtain ⟨z1, e2, q3, H⟩ := H
  refine q_gv rfl rfl rfl (by decide) rfl e2 ?_
  refine q_sq rfl rfl (fun _ _ => rfl) q3 (by decide) ?_
  refine q_lq (u := z1) rfl rfl (fun _ _ => rfl) (by rcases q3 with rfl | ⟨_, rfl⟩ <;> rfl) q3 ?_
  rcases H with ⟨rfl, H⟩ | ⟨j5, rfl, H⟩
  · refine q_b rfl rfl rfl rfl ?_
    refine q_l rfl rfl rfl ?_
    obtain ⟨h4, m4, R4, H⟩ := H
    refine q_iv rfl rfl rfl (fun S => S.t 54 rfl) (by decide) rfl R4 ?_
    obtain ⟨rfl, rfl, rfl⟩ := H
    exact q_r rfl rfl rfl
  · refine q_b rfl rfl rfl rfl ?_
    refine q_l rfl rfl rfl ?_
    refine q_l rfl rfl rfl ?_
    obtain ⟨t6, H⟩ := H
    obtain ⟨t7, H⟩ := H
    obtain ⟨z8, e9, g10, H⟩ := H
    refine q_gd rfl t6 t7 (by decide) e9 ?_
    refine q_pi rfl rfl rfl (by decide) rfl rfl rfl rfl g10 ?_
    refine q_l rfl rfl rfl ?_
    refine q_l rfl rfl rfl ?_
    obtain ⟨z11, e12, q13, H⟩ := H
    refine q_gd rfl t6 t7 (by decide) e12 ?_
    refine q_pv rfl rfl rfl (by decide) rfl rfl rfl (fits_q q13) rfl ?_
    refine q_l rfl rfl rfl ?_
    refine q_l rfl rfl rfl ?_
    obtain ⟨t14, H⟩ := H
    obtain ⟨t15, H⟩ := H
    obtain ⟨z16, e17, q18, H⟩ := H
    refine q_gd rfl t14 t15 (by decide) e17 ?_
    refine q_pv rfl rfl rfl (by decide) rfl rfl rfl (fits_q q18) rfl ?_
    obtain ⟨rfl, rfl, rfl⟩ := H
    exact q_r rfl rfl rfl
def B_Mc_enter_192 (d : Nat)  (h : mHp) (σ : Mem) (r : mRes) (h' : mHp) (σ' : Mem) : Prop := (rg (σ 54 3)) ∧ (∃ z2, hAt h 54 5 = z2 ∧ isQ z2 ∧ (∃ v5 h5 m5, Rh (d + 5) yVa_ofFunction [vi (σ 54 3), z2] h σ (.inl (some v5)) h5 m5 ∧ isQ v5 ∧ (∃ h6 m6, Rh (d + 5) yMc_settle [.ref 54, v5] h5 m5 (.inl none) h6 m6 ∧ (r = .inl none ∧ h' = h6 ∧ σ' = m6))))
theorem K_Mc_enter_192 {d : Nat}  {h h' : mHp} {σ σ' : Mem} {r : mRes}  (H : B_Mc_enter_192 d  h σ r h' σ') : Lh (d + 5) yMc_enter 192 [(0, .ref 54)] [] h σ r h' σ' := by
  unfold B_Mc_enter_192 at H
  refine q_l rfl rfl rfl ?_
  refine q_l rfl rfl rfl ?_
  obtain ⟨g1, H⟩ := H
  refine q_gi rfl rfl rfl (by decide) rfl rfl ?_
  refine q_l rfl rfl rfl ?_
  obtain ⟨z2, e3, q4, H⟩ := H
  refine q_gv rfl rfl rfl (by decide) rfl e3 ?_
  obtain ⟨v5, h5, m5, R5, w5, H⟩ := H
  refine q_is rfl (by decide) (Nat.le_of_ble_eq_true rfl) rfl rfl rfl R5 ?_
  obtain ⟨h6, m6, R6, H⟩ := H
  refine q_iv rfl rfl rfl (fun S => S.t 54 rfl) (by decide) rfl R6 ?_
  refine q_b rfl rfl rfl rfl ?_
  obtain ⟨rfl, rfl, rfl⟩ := H
  exact q_r rfl rfl rfl
def B_Mc_enter_210 (d : Nat)  (h : mHp) (σ : Mem) (r : mRes) (h' : mHp) (σ' : Mem) : Prop := (rg (σ 54 3)) ∧ (∃ h3 m3, Rh (d + 5) yMc_goInto [.ref 54, vi (rowv 128 σ 26 (σ 54 3))] h σ (.inl none) h3 m3 ∧ (r = .inl none ∧ h' = h3 ∧ σ' = m3))
theorem K_Mc_enter_210 {d : Nat}  {h h' : mHp} {σ σ' : Mem} {r : mRes}  (H : B_Mc_enter_210 d  h σ r h' σ') : Lh (d + 5) yMc_enter 210 [(0, .ref 54)] [] h σ r h' σ' := by
  unfold B_Mc_enter_210 at H
  refine q_l rfl rfl rfl ?_
  refine q_l rfl rfl rfl ?_
  refine q_gr (t := 20) rfl rfl rfl (by decide) rfl ?_
  refine q_l rfl rfl rfl ?_
  obtain ⟨g1, H⟩ := H
  refine q_gi rfl rfl rfl (by decide) rfl rfl ?_
  refine q_rn (v := rowv 128 σ 26 (σ 54 3)) rfl rfl rfl rfl rfl (by decide) rfl (R_Tr_first20 g1) (fun q2 => ?_)
  obtain ⟨h3, m3, R3, H⟩ := H
  refine q_iv rfl rfl rfl (fun S => S.t 54 rfl) (by decide) rfl R3 ?_
  obtain ⟨rfl, rfl, rfl⟩ := H
  exact q_r rfl rfl rfl
def B_Mc_enter (d : Nat)  (h : mHp) (σ : Mem) (r : mRes) (h' : mHp) (σ' : Mem) : Prop := (rg (σ 54 3)) ∧ (if rowv 128 σ 22 (σ 54 3) = 0 then ((100 ≤ (h.1)) ∧ ((hTag (nwO h 8) (h.1) = 8) ∧ (∃ h7 m7, Rh (d + 5) yVa_init [.ref (h.1), vi 0, vi (rowv 128 σ 24 (σ 54 3))] (nwO h 8) σ (.inl none) h7 m7 ∧ (∃ h8 m8, Rh (d + 5) yMc_settle [.ref 54, .ref (h.1)] h7 m7 (.inl none) h8 m8 ∧ (r = .inl none ∧ h' = h8 ∧ σ' = m8))))) else (if rowv 128 σ 22 (σ 54 3) = 1 then ((nn (FP.ddiv (FP.i2d (Int32.ofInt (rowv 128 σ 24 (σ 54 3)))) ((UInt64.ofNat 4652007308841189376))) = true) ∧ (∃ v12 h12 m12, Rh (d + 5) yVa_ofReal [.double (FP.ddiv (FP.i2d (Int32.ofInt (rowv 128 σ 24 (σ 54 3)))) ((UInt64.ofNat 4652007308841189376)))] h σ (.inl (some v12)) h12 m12 ∧ isQ v12 ∧ (∃ h13 m13, Rh (d + 5) yMc_settle [.ref 54, v12] h12 m12 (.inl none) h13 m13 ∧ (r = .inl none ∧ h' = h13 ∧ σ' = m13)))) else (if rowv 128 σ 22 (σ 54 3) = 2 then ((100 ≤ (h.1)) ∧ ((hTag (nwO h 8) (h.1) = 8) ∧ (∃ h18 m18, Rh (d + 5) yVa_init [.ref (h.1), vi 1, vi (rowv 128 σ 24 (σ 54 3))] (nwO h 8) σ (.inl none) h18 m18 ∧ (∃ h19 m19, Rh (d + 5) yMc_settle [.ref 54, .ref (h.1)] h18 m18 (.inl none) h19 m19 ∧ (r = .inl none ∧ h' = h19 ∧ σ' = m19))))) else (if rowv 128 σ 22 (σ 54 3) = 3 then ((100 ≤ (h.1)) ∧ ((hTag (nwO h 8) (h.1) = 8) ∧ (∃ h23 m23, Rh (d + 5) yVa_init [.ref (h.1), vi 3, vi 0] (nwO h 8) σ (.inl none) h23 m23 ∧ (∃ h24 m24, Rh (d + 5) yMc_settle [.ref 54, .ref (h.1)] h23 m23 (.inl none) h24 m24 ∧ (r = .inl none ∧ h' = h24 ∧ σ' = m24))))) else (if rowv 128 σ 22 (σ 54 3) = 4 then (B_Mc_enter_192 d  h σ r h' σ') else (if rowv 128 σ 22 (σ 54 3) = 5 then (∃ v28 h28 m28, Rh (d + 5) yMc_find [.ref 54, vi (rowv 128 σ 24 (σ 54 3))] h σ (.inl (some v28)) h28 m28 ∧ isQ v28 ∧ (∃ h29 m29, Rh (d + 5) yMc_settle [.ref 54, v28] h28 m28 (.inl none) h29 m29 ∧ (r = .inl none ∧ h' = h29 ∧ σ' = m29))) else (if rowv 128 σ 22 (σ 54 3) = 6 then (B_Mc_enter_210 d  h σ r h' σ') else (if rowv 128 σ 22 (σ 54 3) = 7 then (B_Mc_enter_210 d  h σ r h' σ') else (if rowv 128 σ 22 (σ 54 3) = 8 then (B_Mc_enter_210 d  h σ r h' σ') else (if rowv 128 σ 22 (σ 54 3) = 9 then (B_Mc_enter_210 d  h σ r h' σ') else (if rowv 128 σ 22 (σ 54 3) = 10 then (B_Mc_enter_210 d  h σ r h' σ') else (if rowv 128 σ 22 (σ 54 3) = 11 then (B_Mc_enter_210 d  h σ r h' σ') else (if rowv 128 σ 22 (σ 54 3) = 12 then (B_Mc_enter_192 d  h σ r h' σ') else (B_Mc_enter_210 d  h σ r h' σ'))))))))))))))
theorem M_Mc_enter {d : Nat}  {h h' : mHp} {σ σ' : Mem} {r : mRes}  (H : B_Mc_enter d  h σ r h' σ') : Rh (d + 6) yMc_enter [.ref 54] h σ r h' σ' := by
  refine q_m (Nat.le_of_ble_eq_true rfl) ?_
  unfold B_Mc_enter at H
  refine q_l rfl rfl rfl ?_
  refine q_gr (t := 20) rfl rfl rfl (by decide) rfl ?_
  refine q_l rfl rfl rfl ?_
  obtain ⟨g1, H⟩ := H
  refine q_gi rfl rfl rfl (by decide) rfl rfl ?_
  refine q_rn (v := rowv 128 σ 22 (σ 54 3)) rfl rfl rfl rfl rfl (by decide) rfl (R_Tr_kind20 g1) (fun q2 => ?_)
  by_cases c3 : rowv 128 σ 22 (σ 54 3) = 0
  · rw [if_pos c3] at H
    refine q_sw rfl rfl c3 rfl rfl ?_
    refine q_l rfl rfl rfl ?_
    refine q_new rfl (by decide) ?_
    refine q_p rfl rfl rfl ?_
    refine q_p rfl rfl rfl ?_
    refine q_l rfl rfl rfl ?_
    refine q_gr (t := 20) rfl rfl rfl (by decide) rfl ?_
    refine q_l rfl rfl rfl ?_
    refine q_gi rfl rfl rfl (by decide) rfl rfl ?_
    refine q_rn (v := rowv 128 σ 24 (σ 54 3)) rfl rfl rfl rfl rfl (by decide) rfl (R_Tr_number20 g1) (fun q4 => ?_)
    obtain ⟨t5, H⟩ := H
    obtain ⟨t6, H⟩ := H
    obtain ⟨h7, m7, R7, H⟩ := H
    refine q_sp rfl (by decide) (by decide) rfl rfl (fun _ => t6) (by decide) rfl R7 ?_
    obtain ⟨h8, m8, R8, H⟩ := H
    refine q_iv rfl rfl rfl (fun S => S.t 54 rfl) (by decide) rfl R8 ?_
    refine q_b rfl rfl rfl rfl ?_
    obtain ⟨rfl, rfl, rfl⟩ := H
    exact q_r rfl rfl rfl
  rw [if_neg c3] at H
  by_cases c9 : rowv 128 σ 22 (σ 54 3) = 1
  · rw [if_pos c9] at H
    refine q_sw rfl rfl c9 rfl rfl ?_
    refine q_l rfl rfl rfl ?_
    refine q_l rfl rfl rfl ?_
    refine q_gr (t := 20) rfl rfl rfl (by decide) rfl ?_
    refine q_l rfl rfl rfl ?_
    refine q_gi rfl rfl rfl (by decide) rfl rfl ?_
    refine q_rn (v := rowv 128 σ 24 (σ 54 3)) rfl rfl rfl rfl rfl (by decide) rfl (R_Tr_number20 g1) (fun q10 => ?_)
    refine q_p rfl rfl rfl ?_
    refine q_p rfl rfl rfl ?_
    obtain ⟨g11, H⟩ := H
    refine q_dd rfl rfl rfl g11 ?_
    obtain ⟨v12, h12, m12, R12, w12, H⟩ := H
    refine q_is rfl (by decide) (Nat.le_of_ble_eq_true rfl) rfl rfl rfl R12 ?_
    obtain ⟨h13, m13, R13, H⟩ := H
    refine q_iv rfl rfl rfl (fun S => S.t 54 rfl) (by decide) rfl R13 ?_
    refine q_b rfl rfl rfl rfl ?_
    obtain ⟨rfl, rfl, rfl⟩ := H
    exact q_r rfl rfl rfl
  rw [if_neg c9] at H
  by_cases c14 : rowv 128 σ 22 (σ 54 3) = 2
  · rw [if_pos c14] at H
    refine q_sw rfl rfl c14 rfl rfl ?_
    refine q_l rfl rfl rfl ?_
    refine q_new rfl (by decide) ?_
    refine q_p rfl rfl rfl ?_
    refine q_p rfl rfl rfl ?_
    refine q_l rfl rfl rfl ?_
    refine q_gr (t := 20) rfl rfl rfl (by decide) rfl ?_
    refine q_l rfl rfl rfl ?_
    refine q_gi rfl rfl rfl (by decide) rfl rfl ?_
    refine q_rn (v := rowv 128 σ 24 (σ 54 3)) rfl rfl rfl rfl rfl (by decide) rfl (R_Tr_number20 g1) (fun q15 => ?_)
    obtain ⟨t16, H⟩ := H
    obtain ⟨t17, H⟩ := H
    obtain ⟨h18, m18, R18, H⟩ := H
    refine q_sp rfl (by decide) (by decide) rfl rfl (fun _ => t17) (by decide) rfl R18 ?_
    obtain ⟨h19, m19, R19, H⟩ := H
    refine q_iv rfl rfl rfl (fun S => S.t 54 rfl) (by decide) rfl R19 ?_
    refine q_b rfl rfl rfl rfl ?_
    obtain ⟨rfl, rfl, rfl⟩ := H
    exact q_r rfl rfl rfl
  rw [if_neg c14] at H
  by_cases c20 : rowv 128 σ 22 (σ 54 3) = 3
  · rw [if_pos c20] at H
    refine q_sw rfl rfl c20 rfl rfl ?_
    refine q_l rfl rfl rfl ?_
    refine q_new rfl (by decide) ?_
    refine q_p rfl rfl rfl ?_
    refine q_p rfl rfl rfl ?_
    refine q_p rfl rfl rfl ?_
    obtain ⟨t21, H⟩ := H
    obtain ⟨t22, H⟩ := H
    obtain ⟨h23, m23, R23, H⟩ := H
    refine q_sp rfl (by decide) (by decide) rfl rfl (fun _ => t22) (by decide) rfl R23 ?_
    obtain ⟨h24, m24, R24, H⟩ := H
    refine q_iv rfl rfl rfl (fun S => S.t 54 rfl) (by decide) rfl R24 ?_
    refine q_b rfl rfl rfl rfl ?_
    obtain ⟨rfl, rfl, rfl⟩ := H
    exact q_r rfl rfl rfl
  rw [if_neg c20] at H
  by_cases c25 : rowv 128 σ 22 (σ 54 3) = 4
  · rw [if_pos c25] at H
    refine q_sw rfl rfl c25 rfl rfl ?_
    exact q_lab (K_Mc_enter_192  H) (lvS_cons rfl rfl lvS_nil)
  rw [if_neg c25] at H
  by_cases c26 : rowv 128 σ 22 (σ 54 3) = 5
  · rw [if_pos c26] at H
    refine q_sw rfl rfl c26 rfl rfl ?_
    refine q_l rfl rfl rfl ?_
    refine q_l rfl rfl rfl ?_
    refine q_l rfl rfl rfl ?_
    refine q_gr (t := 20) rfl rfl rfl (by decide) rfl ?_
    refine q_l rfl rfl rfl ?_
    refine q_gi rfl rfl rfl (by decide) rfl rfl ?_
    refine q_rn (v := rowv 128 σ 24 (σ 54 3)) rfl rfl rfl rfl rfl (by decide) rfl (R_Tr_number20 g1) (fun q27 => ?_)
    obtain ⟨v28, h28, m28, R28, w28, H⟩ := H
    refine q_iv rfl rfl rfl (fun S => S.t 54 rfl) (by decide) rfl R28 ?_
    obtain ⟨h29, m29, R29, H⟩ := H
    refine q_iv rfl rfl rfl (fun S => S.t 54 rfl) (by decide) rfl R29 ?_
    refine q_b rfl rfl rfl rfl ?_
    obtain ⟨rfl, rfl, rfl⟩ := H
    exact q_r rfl rfl rfl
  rw [if_neg c26] at H
  by_cases c30 : rowv 128 σ 22 (σ 54 3) = 6
  · rw [if_pos c30] at H
    refine q_sw rfl rfl c30 rfl rfl ?_
    exact q_lab (K_Mc_enter_210  H) (lvS_cons rfl rfl lvS_nil)
  rw [if_neg c30] at H
  by_cases c31 : rowv 128 σ 22 (σ 54 3) = 7
  · rw [if_pos c31] at H
    refine q_sw rfl rfl c31 rfl rfl ?_
    exact q_lab (K_Mc_enter_210  H) (lvS_cons rfl rfl lvS_nil)
  rw [if_neg c31] at H
  by_cases c32 : rowv 128 σ 22 (σ 54 3) = 8
  · rw [if_pos c32] at H
    refine q_sw rfl rfl c32 rfl rfl ?_
    exact q_lab (K_Mc_enter_210  H) (lvS_cons rfl rfl lvS_nil)
  rw [if_neg c32] at H
  by_cases c33 : rowv 128 σ 22 (σ 54 3) = 9
  · rw [if_pos c33] at H
    refine q_sw rfl rfl c33 rfl rfl ?_
    exact q_lab (K_Mc_enter_210  H) (lvS_cons rfl rfl lvS_nil)
  rw [if_neg c33] at H
  by_cases c34 : rowv 128 σ 22 (σ 54 3) = 10
  · rw [if_pos c34] at H
    refine q_sw rfl rfl c34 rfl rfl ?_
    exact q_lab (K_Mc_enter_210  H) (lvS_cons rfl rfl lvS_nil)
  rw [if_neg c34] at H
  by_cases c35 : rowv 128 σ 22 (σ 54 3) = 11
  · rw [if_pos c35] at H
    refine q_sw rfl rfl c35 rfl rfl ?_
    exact q_lab (K_Mc_enter_210  H) (lvS_cons rfl rfl lvS_nil)
  rw [if_neg c35] at H
  by_cases c36 : rowv 128 σ 22 (σ 54 3) = 12
  · rw [if_pos c36] at H
    refine q_sw rfl rfl c36 rfl rfl ?_
    exact q_lab (K_Mc_enter_192  H) (lvS_cons rfl rfl lvS_nil)
  rw [if_neg c36] at H
  refine q_tsd rfl q2 (by omega) rfl ?_
  exact q_lab (K_Mc_enter_210  H) (lvS_cons rfl rfl lvS_nil)
def B_Mc_leave_84 (d : Nat) (x1 : Int) (h : mHp) (σ : Mem) (r : mRes) (h' : mHp) (σ' : Mem) : Prop := (rg (σ 54 3)) ∧ (if x1 ≠ rowv 128 σ 26 (σ 54 3) then (r = .inl none ∧ h' = h ∧ σ' = mup σ 54 4 2) else (∃ h5 m5, Rh (d + 5) yMc_goInto [.ref 54, vi (rowv 128 σ 28 (σ 54 3))] h σ (.inl none) h5 m5 ∧ (r = .inl none ∧ h' = h5 ∧ σ' = m5)))
theorem K_Mc_leave_84 {d : Nat} {x1 : Int} {h h' : mHp} {σ σ' : Mem} {r : mRes} (hx1 : rg x1) (H : B_Mc_leave_84 d x1 h σ r h' σ') : Lh (d + 5) yMc_leave 84 [(0, .ref 54), (1, vi x1)] [] h σ r h' σ' := by
  unfold B_Mc_leave_84 at H
  refine q_l rfl rfl rfl ?_
  refine q_l rfl rfl rfl ?_
  refine q_gr (t := 20) rfl rfl rfl (by decide) rfl ?_
  refine q_l rfl rfl rfl ?_
  obtain ⟨g1, H⟩ := H
  refine q_gi rfl rfl rfl (by decide) rfl rfl ?_
  refine q_rn (v := rowv 128 σ 26 (σ 54 3)) rfl rfl rfl rfl rfl (by decide) rfl (R_Tr_first20 g1) (fun q2 => ?_)
  by_cases c3 : x1 ≠ rowv 128 σ 26 (σ 54 3)
  · rw [if_pos c3] at H
    refine q_c rfl (by decide) hx1 q2 (q := true) (decide_eq_true c3) rfl ?_
    refine q_l rfl rfl rfl ?_
    refine q_p rfl rfl rfl ?_
    refine q_pi rfl rfl rfl (by decide) rfl rfl rfl rfl (rgk rfl) ?_
    refine q_b rfl rfl rfl rfl ?_
    obtain ⟨rfl, rfl, rfl⟩ := H
    exact q_r rfl rfl rfl
  · rw [if_neg c3] at H
    refine q_c rfl (by decide) hx1 q2 (q := false) (decide_eq_false c3) rfl ?_
    refine q_l rfl rfl rfl ?_
    refine q_l rfl rfl rfl ?_
    refine q_gr (t := 20) rfl rfl rfl (by decide) rfl ?_
    refine q_l rfl rfl rfl ?_
    refine q_gi rfl rfl rfl (by decide) rfl rfl ?_
    refine q_rn (v := rowv 128 σ 28 (σ 54 3)) rfl rfl rfl rfl rfl (by decide) rfl (R_Tr_second20 g1) (fun q4 => ?_)
    obtain ⟨h5, m5, R5, H⟩ := H
    refine q_iv rfl rfl rfl (fun S => S.t 54 rfl) (by decide) rfl R5 ?_
    refine q_b rfl rfl rfl rfl ?_
    obtain ⟨rfl, rfl, rfl⟩ := H
    exact q_r rfl rfl rfl
def B_Mc_leave_156 (d : Nat) (x1 : Int) (h : mHp) (σ : Mem) (r : mRes) (h' : mHp) (σ' : Mem) : Prop := (rg (σ 54 3)) ∧ (if x1 ≠ rowv 128 σ 26 (σ 54 3) then (∃ h4 m4, Rh (d + 5) yMc_unbind [.ref 54, vi 1] h σ (.inl none) h4 m4 ∧ (r = .inl none ∧ h' = h4 ∧ σ' = m4)) else (r = .inl none ∧ h' = h ∧ σ' = mup σ 54 4 2))
theorem K_Mc_leave_156 {d : Nat} {x1 : Int} {h h' : mHp} {σ σ' : Mem} {r : mRes} (hx1 : rg x1) (H : B_Mc_leave_156 d x1 h σ r h' σ') : Lh (d + 5) yMc_leave 156 [(0, .ref 54), (1, vi x1)] [] h σ r h' σ' := by
  unfold B_Mc_leave_156 at H
  refine q_l rfl rfl rfl ?_
  refine q_l rfl rfl rfl ?_
  refine q_gr (t := 20) rfl rfl rfl (by decide) rfl ?_
  refine q_l rfl rfl rfl ?_
  obtain ⟨g1, H⟩ := H
  refine q_gi rfl rfl rfl (by decide) rfl rfl ?_
  refine q_rn (v := rowv 128 σ 26 (σ 54 3)) rfl rfl rfl rfl rfl (by decide) rfl (R_Tr_first20 g1) (fun q2 => ?_)
  by_cases c3 : x1 ≠ rowv 128 σ 26 (σ 54 3)
  · rw [if_pos c3] at H
    refine q_c rfl (by decide) hx1 q2 (q := true) (decide_eq_true c3) rfl ?_
    refine q_l rfl rfl rfl ?_
    refine q_p rfl rfl rfl ?_
    obtain ⟨h4, m4, R4, H⟩ := H
    refine q_iv rfl rfl rfl (fun S => S.t 54 rfl) (by decide) rfl R4 ?_
    refine q_b rfl rfl rfl rfl ?_
    obtain ⟨rfl, rfl, rfl⟩ := H
    exact q_r rfl rfl rfl
  · rw [if_neg c3] at H
    refine q_c rfl (by decide) hx1 q2 (q := false) (decide_eq_false c3) rfl ?_
    refine q_l rfl rfl rfl ?_
    refine q_p rfl rfl rfl ?_
    refine q_pi rfl rfl rfl (by decide) rfl rfl rfl rfl (rgk rfl) ?_
    refine q_b rfl rfl rfl rfl ?_
    obtain ⟨rfl, rfl, rfl⟩ := H
    exact q_r rfl rfl rfl
def B_Mc_leave_133 (d : Nat) (x1 : Int) (h : mHp) (σ : Mem) (r : mRes) (h' : mHp) (σ' : Mem) : Prop := (rg (σ 54 3)) ∧ (if x1 ≠ rowv 128 σ 26 (σ 54 3) then (r = .inl none ∧ h' = h ∧ σ' = σ) else (r = .inl none ∧ h' = h ∧ σ' = mup σ 54 4 2))
theorem K_Mc_leave_133 {d : Nat} {x1 : Int} {h h' : mHp} {σ σ' : Mem} {r : mRes} (hx1 : rg x1) (H : B_Mc_leave_133 d x1 h σ r h' σ') : Lh (d + 5) yMc_leave 133 [(0, .ref 54), (1, vi x1)] [] h σ r h' σ' := by
  unfold B_Mc_leave_133 at H
  refine q_l rfl rfl rfl ?_
  refine q_l rfl rfl rfl ?_
  refine q_gr (t := 20) rfl rfl rfl (by decide) rfl ?_
  refine q_l rfl rfl rfl ?_
  obtain ⟨g1, H⟩ := H
  refine q_gi rfl rfl rfl (by decide) rfl rfl ?_
  refine q_rn (v := rowv 128 σ 26 (σ 54 3)) rfl rfl rfl rfl rfl (by decide) rfl (R_Tr_first20 g1) (fun q2 => ?_)
  by_cases c3 : x1 ≠ rowv 128 σ 26 (σ 54 3)
  · rw [if_pos c3] at H
    refine q_c rfl (by decide) hx1 q2 (q := true) (decide_eq_true c3) rfl ?_
    obtain ⟨rfl, rfl, rfl⟩ := H
    exact q_r rfl rfl rfl
  · rw [if_neg c3] at H
    refine q_c rfl (by decide) hx1 q2 (q := false) (decide_eq_false c3) rfl ?_
    refine q_l rfl rfl rfl ?_
    refine q_p rfl rfl rfl ?_
    refine q_pi rfl rfl rfl (by decide) rfl rfl rfl rfl (rgk rfl) ?_
    refine q_b rfl rfl rfl rfl ?_
    obtain ⟨rfl, rfl, rfl⟩ := H
    exact q_r rfl rfl rfl
def B_Mc_leave (d : Nat)  (h : mHp) (σ : Mem) (r : mRes) (h' : mHp) (σ' : Mem) : Prop := (rg (σ 54 3)) ∧ ((rg ((mup σ 54 3 (rowv 128 σ 32 (σ 54 3))) 54 3)) ∧ (if rowv 128 (mup σ 54 3 (rowv 128 σ 32 (σ 54 3))) 22 ((mup σ 54 3 (rowv 128 σ 32 (σ 54 3))) 54 3) = 8 then (r = .inl none ∧ h' = h ∧ σ' = mup (mup σ 54 3 (rowv 128 σ 32 (σ 54 3))) 54 4 2) else (if rowv 128 (mup σ 54 3 (rowv 128 σ 32 (σ 54 3))) 22 ((mup σ 54 3 (rowv 128 σ 32 (σ 54 3))) 54 3) = 9 then (B_Mc_leave_84 d (σ 54 3) h (mup σ 54 3 (rowv 128 σ 32 (σ 54 3))) r h' σ') else (if rowv 128 (mup σ 54 3 (rowv 128 σ 32 (σ 54 3))) 22 ((mup σ 54 3 (rowv 128 σ 32 (σ 54 3))) 54 3) = 10 then (B_Mc_leave_84 d (σ 54 3) h (mup σ 54 3 (rowv 128 σ 32 (σ 54 3))) r h' σ') else (if rowv 128 (mup σ 54 3 (rowv 128 σ 32 (σ 54 3))) 22 ((mup σ 54 3 (rowv 128 σ 32 (σ 54 3))) 54 3) = 11 then (B_Mc_leave_84 d (σ 54 3) h (mup σ 54 3 (rowv 128 σ 32 (σ 54 3))) r h' σ') else (if rowv 128 (mup σ 54 3 (rowv 128 σ 32 (σ 54 3))) 22 ((mup σ 54 3 (rowv 128 σ 32 (σ 54 3))) 54 3) = 12 then (∃ h10 m10, Rh (d + 5) yMc_giveBack [.ref 54] h (mup σ 54 3 (rowv 128 σ 32 (σ 54 3))) (.inl none) h10 m10 ∧ (r = .inl none ∧ h' = h10 ∧ σ' = m10)) else (if rowv 128 (mup σ 54 3 (rowv 128 σ 32 (σ 54 3))) 22 ((mup σ 54 3 (rowv 128 σ 32 (σ 54 3))) 54 3) = 13 then (B_Mc_leave_156 d (σ 54 3) h (mup σ 54 3 (rowv 128 σ 32 (σ 54 3))) r h' σ') else (if rowv 128 (mup σ 54 3 (rowv 128 σ 32 (σ 54 3))) 22 ((mup σ 54 3 (rowv 128 σ 32 (σ 54 3))) 54 3) = 14 then (B_Mc_leave_156 d (σ 54 3) h (mup σ 54 3 (rowv 128 σ 32 (σ 54 3))) r h' σ') else (if rowv 128 (mup σ 54 3 (rowv 128 σ 32 (σ 54 3))) 22 ((mup σ 54 3 (rowv 128 σ 32 (σ 54 3))) 54 3) = 15 then (B_Mc_leave_133 d (σ 54 3) h (mup σ 54 3 (rowv 128 σ 32 (σ 54 3))) r h' σ') else (if rowv 128 (mup σ 54 3 (rowv 128 σ 32 (σ 54 3))) 22 ((mup σ 54 3 (rowv 128 σ 32 (σ 54 3))) 54 3) = 16 then (B_Mc_leave_133 d (σ 54 3) h (mup σ 54 3 (rowv 128 σ 32 (σ 54 3))) r h' σ') else (if rowv 128 (mup σ 54 3 (rowv 128 σ 32 (σ 54 3))) 22 ((mup σ 54 3 (rowv 128 σ 32 (σ 54 3))) 54 3) = 17 then (∃ h17 m17, Rh (d + 5) yMc_unbind [.ref 54, vi (rowv 128 (mup σ 54 3 (rowv 128 σ 32 (σ 54 3))) 24 ((mup σ 54 3 (rowv 128 σ 32 (σ 54 3))) 54 3))] h (mup σ 54 3 (rowv 128 σ 32 (σ 54 3))) (.inl none) h17 m17 ∧ ((rg (m17 54 3)) ∧ (r = .inl none ∧ h' = h17 ∧ σ' = mup m17 54 3 (rowv 128 m17 32 (m17 54 3))))) else (∃ h20 m20, Rh (d + 5) yMc_finish [.ref 54] h (mup σ 54 3 (rowv 128 σ 32 (σ 54 3))) (.inl none) h20 m20 ∧ (r = .inl none ∧ h' = h20 ∧ σ' = m20)))))))))))))
theorem M_Mc_leave {d : Nat}  {h h' : mHp} {σ σ' : Mem} {r : mRes}  (H : B_Mc_leave d  h σ r h' σ') : Rh (d + 6) yMc_leave [.ref 54] h σ r h' σ' := by
  refine q_m (Nat.le_of_ble_eq_true rfl) ?_
  unfold B_Mc_leave at H
  refine q_l rfl rfl rfl ?_
  obtain ⟨g1, H⟩ := H
  refine q_gi rfl rfl rfl (by decide) rfl rfl ?_
  refine q_l rfl rfl rfl ?_
  refine q_l rfl rfl rfl ?_
  refine q_l rfl rfl rfl ?_
  refine q_gr (t := 20) rfl rfl rfl (by decide) rfl ?_
  refine q_l rfl rfl rfl ?_
  refine q_rn (v := rowv 128 σ 32 (σ 54 3)) rfl rfl rfl rfl rfl (by decide) rfl (R_Tr_parent20 g1) (fun q2 => ?_)
  refine q_pi rfl rfl rfl (by decide) rfl rfl rfl rfl q2 ?_
  refine q_l rfl rfl rfl ?_
  refine q_gr (t := 20) rfl rfl rfl (by decide) rfl ?_
  refine q_l rfl rfl rfl ?_
  obtain ⟨g3, H⟩ := H
  refine q_gi rfl rfl rfl (by decide) rfl rfl ?_
  refine q_rn (v := rowv 128 (mup σ 54 3 (rowv 128 σ 32 (σ 54 3))) 22 ((mup σ 54 3 (rowv 128 σ 32 (σ 54 3))) 54 3)) rfl rfl rfl rfl rfl (by decide) rfl (R_Tr_kind20 g3) (fun q4 => ?_)
  by_cases c5 : rowv 128 (mup σ 54 3 (rowv 128 σ 32 (σ 54 3))) 22 ((mup σ 54 3 (rowv 128 σ 32 (σ 54 3))) 54 3) = 8
  · rw [if_pos c5] at H
    refine q_sw rfl rfl c5 rfl rfl ?_
    refine q_l rfl rfl rfl ?_
    refine q_p rfl rfl rfl ?_
    refine q_pi rfl rfl rfl (by decide) rfl rfl rfl rfl (rgk rfl) ?_
    refine q_b rfl rfl rfl rfl ?_
    obtain ⟨rfl, rfl, rfl⟩ := H
    exact q_r rfl rfl rfl
  rw [if_neg c5] at H
  by_cases c6 : rowv 128 (mup σ 54 3 (rowv 128 σ 32 (σ 54 3))) 22 ((mup σ 54 3 (rowv 128 σ 32 (σ 54 3))) 54 3) = 9
  · rw [if_pos c6] at H
    refine q_sw rfl rfl c6 rfl rfl ?_
    exact q_lab (K_Mc_leave_84 g1 H) (lvS_cons rfl rfl (lvS_cons rfl rfl lvS_nil))
  rw [if_neg c6] at H
  by_cases c7 : rowv 128 (mup σ 54 3 (rowv 128 σ 32 (σ 54 3))) 22 ((mup σ 54 3 (rowv 128 σ 32 (σ 54 3))) 54 3) = 10
  · rw [if_pos c7] at H
    refine q_sw rfl rfl c7 rfl rfl ?_
    exact q_lab (K_Mc_leave_84 g1 H) (lvS_cons rfl rfl (lvS_cons rfl rfl lvS_nil))
  rw [if_neg c7] at H
  by_cases c8 : rowv 128 (mup σ 54 3 (rowv 128 σ 32 (σ 54 3))) 22 ((mup σ 54 3 (rowv 128 σ 32 (σ 54 3))) 54 3) = 11
  · rw [if_pos c8] at H
    refine q_sw rfl rfl c8 rfl rfl ?_
    exact q_lab (K_Mc_leave_84 g1 H) (lvS_cons rfl rfl (lvS_cons rfl rfl lvS_nil))
  rw [if_neg c8] at H
  by_cases c9 : rowv 128 (mup σ 54 3 (rowv 128 σ 32 (σ 54 3))) 22 ((mup σ 54 3 (rowv 128 σ 32 (σ 54 3))) 54 3) = 12
  · rw [if_pos c9] at H
    refine q_sw rfl rfl c9 rfl rfl ?_
    refine q_l rfl rfl rfl ?_
    obtain ⟨h10, m10, R10, H⟩ := H
    refine q_iv rfl rfl rfl (fun S => S.t 54 rfl) (by decide) rfl R10 ?_
    refine q_b rfl rfl rfl rfl ?_
    obtain ⟨rfl, rfl, rfl⟩ := H
    exact q_r rfl rfl rfl
  rw [if_neg c9] at H
  by_cases c11 : rowv 128 (mup σ 54 3 (rowv 128 σ 32 (σ 54 3))) 22 ((mup σ 54 3 (rowv 128 σ 32 (σ 54 3))) 54 3) = 13
  · rw [if_pos c11] at H
    refine q_sw rfl rfl c11 rfl rfl ?_
    exact q_lab (K_Mc_leave_156 g1 H) (lvS_cons rfl rfl (lvS_cons rfl rfl lvS_nil))
  rw [if_neg c11] at H
  by_cases c12 : rowv 128 (mup σ 54 3 (rowv 128 σ 32 (σ 54 3))) 22 ((mup σ 54 3 (rowv 128 σ 32 (σ 54 3))) 54 3) = 14
  · rw [if_pos c12] at H
    refine q_sw rfl rfl c12 rfl rfl ?_
    exact q_lab (K_Mc_leave_156 g1 H) (lvS_cons rfl rfl (lvS_cons rfl rfl lvS_nil))
  rw [if_neg c12] at H
  by_cases c13 : rowv 128 (mup σ 54 3 (rowv 128 σ 32 (σ 54 3))) 22 ((mup σ 54 3 (rowv 128 σ 32 (σ 54 3))) 54 3) = 15
  · rw [if_pos c13] at H
    refine q_sw rfl rfl c13 rfl rfl ?_
    exact q_lab (K_Mc_leave_133 g1 H) (lvS_cons rfl rfl (lvS_cons rfl rfl lvS_nil))
  rw [if_neg c13] at H
  by_cases c14 : rowv 128 (mup σ 54 3 (rowv 128 σ 32 (σ 54 3))) 22 ((mup σ 54 3 (rowv 128 σ 32 (σ 54 3))) 54 3) = 16
  · rw [if_pos c14] at H
    refine q_sw rfl rfl c14 rfl rfl ?_
    exact q_lab (K_Mc_leave_133 g1 H) (lvS_cons rfl rfl (lvS_cons rfl rfl lvS_nil))
  rw [if_neg c14] at H
  by_cases c15 : rowv 128 (mup σ 54 3 (rowv 128 σ 32 (σ 54 3))) 22 ((mup σ 54 3 (rowv 128 σ 32 (σ 54 3))) 54 3) = 17
  · rw [if_pos c15] at H
    refine q_sw rfl rfl c15 rfl rfl ?_
    refine q_l rfl rfl rfl ?_
    refine q_l rfl rfl rfl ?_
    refine q_gr (t := 20) rfl rfl rfl (by decide) rfl ?_
    refine q_l rfl rfl rfl ?_
    refine q_gi rfl rfl rfl (by decide) rfl rfl ?_
    refine q_rn (v := rowv 128 (mup σ 54 3 (rowv 128 σ 32 (σ 54 3))) 24 ((mup σ 54 3 (rowv 128 σ 32 (σ 54 3))) 54 3)) rfl rfl rfl rfl rfl (by decide) rfl (R_Tr_number20 g3) (fun q16 => ?_)
    obtain ⟨h17, m17, R17, H⟩ := H
    refine q_iv rfl rfl rfl (fun S => S.t 54 rfl) (by decide) rfl R17 ?_
    refine q_l rfl rfl rfl ?_
    refine q_l rfl rfl rfl ?_
    refine q_gr (t := 20) rfl rfl rfl (by decide) rfl ?_
    refine q_l rfl rfl rfl ?_
    obtain ⟨g18, H⟩ := H
    refine q_gi rfl rfl rfl (by decide) rfl rfl ?_
    refine q_rn (v := rowv 128 m17 32 (m17 54 3)) rfl rfl rfl rfl rfl (by decide) rfl (R_Tr_parent20 g18) (fun q19 => ?_)
    refine q_pi rfl rfl rfl (by decide) rfl rfl rfl rfl q19 ?_
    refine q_b rfl rfl rfl rfl ?_
    obtain ⟨rfl, rfl, rfl⟩ := H
    exact q_r rfl rfl rfl
  rw [if_neg c15] at H
  refine q_tsd rfl q4 (by omega) rfl ?_
  refine q_l rfl rfl rfl ?_
  obtain ⟨h20, m20, R20, H⟩ := H
  refine q_iv rfl rfl rfl (fun S => S.t 54 rfl) (by decide) rfl R20 ?_
  obtain ⟨rfl, rfl, rfl⟩ := H
  exact q_r rfl rfl rfl
def B_Mc_operateOnNumbers_122 (d : Nat) (t1 : Value) (t2 : Value) (t3 : Int) (t4 : Int) (h : mHp) (σ : Mem) (r : mRes) (h' : mHp) (σ' : Mem) : Prop := ∃ j1, t2 = .ref j1 ∧ ((100 ≤ j1) ∧ ((hTag h j1 = 8) ∧ (∃ h4 m4, Rh (d + 3) yVa_init [.ref j1, vi t3, vi t4] h σ (.inl none) h4 m4 ∧ (∃ h5 m5, Rh (d + 3) yMc_settle [.ref 54, t1] h4 m4 (.inl none) h5 m5 ∧ (r = .inl none ∧ h' = h5 ∧ σ' = m5)))))
theorem K_Mc_operateOnNumbers_122 {d : Nat} {t1 : Value} {t2 : Value} {t3 : Int} {t4 : Int} {h h' : mHp} {σ σ' : Mem} {r : mRes} (ht1 : isQ t1) (ht2 : isQ t2) (ht3 : rg t3) (ht4 : rg t4) (H : B_Mc_operateOnNumbers_122 d t1 t2 t3 t4 h σ r h' σ') : Lh (d + 3) yMc_operateOnNumbers 122 [] [vi t4, vi t3, t2, t1, .ref 54] h σ r h' σ' := by
  unfold B_Mc_operateOnNumbers_122 at H
  obtain ⟨j1, rfl, H⟩ := H
  obtain ⟨t2, H⟩ := H
  obtain ⟨t3, H⟩ := H
  obtain ⟨h4, m4, R4, H⟩ := H
  refine q_sp rfl (by decide) (by decide) rfl rfl (fun _ => t3) (by decide) (by rcases ht1 with rfl | ⟨_, rfl⟩ <;> rfl) R4 ?_
  obtain ⟨h5, m5, R5, H⟩ := H
  refine q_iv rfl rfl rfl (fun S => S.t 54 rfl) (by decide) rfl R5 ?_
  refine q_b rfl rfl rfl rfl ?_
  obtain ⟨rfl, rfl, rfl⟩ := H
  exact q_r rfl rfl rfl
def B_Mc_operateOnNumbers_147 (d : Nat) (t1 : Value) (t2 : Value) (t3 : Int) (t4 : Int) (h : mHp) (σ : Mem) (r : mRes) (h' : mHp) (σ' : Mem) : Prop := ∃ j1, t2 = .ref j1 ∧ ((100 ≤ j1) ∧ ((hTag h j1 = 8) ∧ (∃ h4 m4, Rh (d + 3) yVa_init [.ref j1, vi t3, vi t4] h σ (.inl none) h4 m4 ∧ (∃ h5 m5, Rh (d + 3) yMc_settle [.ref 54, t1] h4 m4 (.inl none) h5 m5 ∧ (r = .inl none ∧ h' = h5 ∧ σ' = m5)))))
theorem K_Mc_operateOnNumbers_147 {d : Nat} {t1 : Value} {t2 : Value} {t3 : Int} {t4 : Int} {h h' : mHp} {σ σ' : Mem} {r : mRes} (ht1 : isQ t1) (ht2 : isQ t2) (ht3 : rg t3) (ht4 : rg t4) (H : B_Mc_operateOnNumbers_147 d t1 t2 t3 t4 h σ r h' σ') : Lh (d + 3) yMc_operateOnNumbers 147 [] [vi t4, vi t3, t2, t1, .ref 54] h σ r h' σ' := by
  unfold B_Mc_operateOnNumbers_147 at H
  obtain ⟨j1, rfl, H⟩ := H
  obtain ⟨t2, H⟩ := H
  obtain ⟨t3, H⟩ := H
  obtain ⟨h4, m4, R4, H⟩ := H
  refine q_sp rfl (by decide) (by decide) rfl rfl (fun _ => t3) (by decide) (by rcases ht1 with rfl | ⟨_, rfl⟩ <;> rfl) R4 ?_
  obtain ⟨h5, m5, R5, H⟩ := H
  refine q_iv rfl rfl rfl (fun S => S.t 54 rfl) (by decide) rfl R5 ?_
  refine q_b rfl rfl rfl rfl ?_
  obtain ⟨rfl, rfl, rfl⟩ := H
  exact q_r rfl rfl rfl
def B_Mc_operateOnNumbers (d : Nat) (x1 : Int) (x2 : Int) (x3 : Int) (h : mHp) (σ : Mem) (r : mRes) (h' : mHp) (σ' : Mem) : Prop := if x1 = 42 then ((100 ≤ (h.1)) ∧ ((hTag (nwO h 8) (h.1) = 8) ∧ (∃ h4 m4, Rh (d + 3) yVa_init [.ref (h.1), vi 0, vi (x2 * x3)] (nwO h 8) σ (.inl none) h4 m4 ∧ (∃ h5 m5, Rh (d + 3) yMc_settle [.ref 54, .ref (h.1)] h4 m4 (.inl none) h5 m5 ∧ (r = .inl none ∧ h' = h5 ∧ σ' = m5))))) else (if x1 = 43 then ((100 ≤ (h.1)) ∧ ((hTag (nwO h 8) (h.1) = 8) ∧ (∃ h9 m9, Rh (d + 3) yVa_init [.ref (h.1), vi 0, vi (x2 + x3)] (nwO h 8) σ (.inl none) h9 m9 ∧ (∃ h10 m10, Rh (d + 3) yMc_settle [.ref 54, .ref (h.1)] h9 m9 (.inl none) h10 m10 ∧ (r = .inl none ∧ h' = h10 ∧ σ' = m10))))) else (if x1 = 45 then ((100 ≤ (h.1)) ∧ ((hTag (nwO h 8) (h.1) = 8) ∧ (∃ h14 m14, Rh (d + 3) yVa_init [.ref (h.1), vi 0, vi (x2 - x3)] (nwO h 8) σ (.inl none) h14 m14 ∧ (∃ h15 m15, Rh (d + 3) yMc_settle [.ref 54, .ref (h.1)] h14 m14 (.inl none) h15 m15 ∧ (r = .inl none ∧ h' = h15 ∧ σ' = m15))))) else (if x1 = 60 then (if x2 ≥ x3 then (B_Mc_operateOnNumbers_122 d (.ref (h.1)) (.ref (h.1)) 1 0 (nwO h 8) σ r h' σ') else (B_Mc_operateOnNumbers_122 d (.ref (h.1)) (.ref (h.1)) 1 1 (nwO h 8) σ r h' σ')) else (if x1 = 61 then (if x2 ≠ x3 then (B_Mc_operateOnNumbers_147 d (.ref (h.1)) (.ref (h.1)) 1 0 (nwO h 8) σ r h' σ') else (B_Mc_operateOnNumbers_147 d (.ref (h.1)) (.ref (h.1)) 1 1 (nwO h 8) σ r h' σ')) else (if x3 ≠ 0 then ((x3 ≠ 0) ∧ ((100 ≤ (h.1)) ∧ ((hTag (nwO h 8) (h.1) = 8) ∧ (∃ h24 m24, Rh (d + 3) yVa_init [.ref (h.1), vi 0, vi (zDiv x2 x3)] (nwO h 8) σ (.inl none) h24 m24 ∧ (∃ h25 m25, Rh (d + 3) yMc_settle [.ref 54, .ref (h.1)] h24 m24 (.inl none) h25 m25 ∧ (r = .inl none ∧ h' = h25 ∧ σ' = m25)))))) else (∃ h26 m26, Rh (d + 3) yMc_fail [.ref 54, vi 1] h σ (.inl none) h26 m26 ∧ (r = .inl none ∧ h' = h26 ∧ σ' = m26)))))))
theorem M_Mc_operateOnNumbers {d : Nat} {x1 : Int} {x2 : Int} {x3 : Int} {h h' : mHp} {σ σ' : Mem} {r : mRes} (hx1 : rg x1) (hx2 : rg x2) (hx3 : rg x3) (H : B_Mc_operateOnNumbers d x1 x2 x3 h σ r h' σ') : Rh (d + 4) yMc_operateOnNumbers [.ref 54, vi x1, vi x2, vi x3] h σ r h' σ' := by
  refine q_m (Nat.le_of_ble_eq_true rfl) ?_
  unfold B_Mc_operateOnNumbers at H
  refine q_l rfl rfl rfl ?_
  by_cases c1 : x1 = 42
  · rw [if_pos c1] at H
    refine q_sw rfl rfl c1 rfl rfl ?_
    refine q_l rfl rfl rfl ?_
    refine q_new rfl (by decide) ?_
    refine q_p rfl rfl rfl ?_
    refine q_p rfl rfl rfl ?_
    refine q_l rfl rfl rfl ?_
    refine q_l rfl rfl rfl ?_
    refine q_mul rfl ?_
    obtain ⟨t2, H⟩ := H
    obtain ⟨t3, H⟩ := H
    obtain ⟨h4, m4, R4, H⟩ := H
    refine q_sp rfl (by decide) (by decide) rfl rfl (fun _ => t3) (by decide) rfl R4 ?_
    obtain ⟨h5, m5, R5, H⟩ := H
    refine q_iv rfl rfl rfl (fun S => S.t 54 rfl) (by decide) rfl R5 ?_
    refine q_b rfl rfl rfl rfl ?_
    obtain ⟨rfl, rfl, rfl⟩ := H
    exact q_r rfl rfl rfl
  rw [if_neg c1] at H
  by_cases c6 : x1 = 43
  · rw [if_pos c6] at H
    refine q_sw rfl rfl c6 rfl rfl ?_
    refine q_l rfl rfl rfl ?_
    refine q_new rfl (by decide) ?_
    refine q_p rfl rfl rfl ?_
    refine q_p rfl rfl rfl ?_
    refine q_l rfl rfl rfl ?_
    refine q_l rfl rfl rfl ?_
    refine q_add rfl ?_
    obtain ⟨t7, H⟩ := H
    obtain ⟨t8, H⟩ := H
    obtain ⟨h9, m9, R9, H⟩ := H
    refine q_sp rfl (by decide) (by decide) rfl rfl (fun _ => t8) (by decide) rfl R9 ?_
    obtain ⟨h10, m10, R10, H⟩ := H
    refine q_iv rfl rfl rfl (fun S => S.t 54 rfl) (by decide) rfl R10 ?_
    refine q_b rfl rfl rfl rfl ?_
    obtain ⟨rfl, rfl, rfl⟩ := H
    exact q_r rfl rfl rfl
  rw [if_neg c6] at H
  by_cases c11 : x1 = 45
  · rw [if_pos c11] at H
    refine q_sw rfl rfl c11 rfl rfl ?_
    refine q_l rfl rfl rfl ?_
    refine q_new rfl (by decide) ?_
    refine q_p rfl rfl rfl ?_
    refine q_p rfl rfl rfl ?_
    refine q_l rfl rfl rfl ?_
    refine q_l rfl rfl rfl ?_
    refine q_sub rfl ?_
    obtain ⟨t12, H⟩ := H
    obtain ⟨t13, H⟩ := H
    obtain ⟨h14, m14, R14, H⟩ := H
    refine q_sp rfl (by decide) (by decide) rfl rfl (fun _ => t13) (by decide) rfl R14 ?_
    obtain ⟨h15, m15, R15, H⟩ := H
    refine q_iv rfl rfl rfl (fun S => S.t 54 rfl) (by decide) rfl R15 ?_
    refine q_b rfl rfl rfl rfl ?_
    obtain ⟨rfl, rfl, rfl⟩ := H
    exact q_r rfl rfl rfl
  rw [if_neg c11] at H
  by_cases c16 : x1 = 60
  · rw [if_pos c16] at H
    refine q_sw rfl rfl c16 rfl rfl ?_
    refine q_l rfl rfl rfl ?_
    refine q_new rfl (by decide) ?_
    refine q_p rfl rfl rfl ?_
    refine q_p rfl rfl rfl ?_
    refine q_l rfl rfl rfl ?_
    refine q_l rfl rfl rfl ?_
    by_cases c17 : x2 ≥ x3
    · rw [if_pos c17] at H
      refine q_c rfl (by decide) hx2 hx3 (q := true) (decide_eq_true c17) rfl ?_
      refine q_p rfl rfl rfl ?_
      exact q_lab (K_Mc_operateOnNumbers_122 isQ.j isQ.j (rgk rfl) (rgk rfl) H) lvS_nil
    · rw [if_neg c17] at H
      refine q_c rfl (by decide) hx2 hx3 (q := false) (decide_eq_false c17) rfl ?_
      refine q_p rfl rfl rfl ?_
      refine q_b rfl rfl rfl rfl ?_
      exact q_lab (K_Mc_operateOnNumbers_122 isQ.j isQ.j (rgk rfl) (rgk rfl) H) lvS_nil
  rw [if_neg c16] at H
  by_cases c18 : x1 = 61
  · rw [if_pos c18] at H
    refine q_sw rfl rfl c18 rfl rfl ?_
    refine q_l rfl rfl rfl ?_
    refine q_new rfl (by decide) ?_
    refine q_p rfl rfl rfl ?_
    refine q_p rfl rfl rfl ?_
    refine q_l rfl rfl rfl ?_
    refine q_l rfl rfl rfl ?_
    by_cases c19 : x2 ≠ x3
    · rw [if_pos c19] at H
      refine q_c rfl (by decide) hx2 hx3 (q := true) (decide_eq_true c19) rfl ?_
      refine q_p rfl rfl rfl ?_
      exact q_lab (K_Mc_operateOnNumbers_147 isQ.j isQ.j (rgk rfl) (rgk rfl) H) lvS_nil
    · rw [if_neg c19] at H
      refine q_c rfl (by decide) hx2 hx3 (q := false) (decide_eq_false c19) rfl ?_
      refine q_p rfl rfl rfl ?_
      refine q_b rfl rfl rfl rfl ?_
      exact q_lab (K_Mc_operateOnNumbers_147 isQ.j isQ.j (rgk rfl) (rgk rfl) H) lvS_nil
  rw [if_neg c18] at H
  refine q_lsd rfl hx1 (by decide) (fun q hq => ?_) rfl ?_
  · simp only [List.mem_cons, List.not_mem_nil, or_false] at hq
    rcases hq with rfl | rfl | rfl | rfl | rfl
    · exact c1
    · exact c6
    · exact c11
    · exact c16
    · exact c18
  refine q_l rfl rfl rfl ?_
  by_cases c20 : x3 ≠ 0
  · rw [if_pos c20] at H
    refine q_z rfl (by decide) hx3 (q := true) (decide_eq_true c20) rfl ?_
    refine q_l rfl rfl rfl ?_
    refine q_new rfl (by decide) ?_
    refine q_p rfl rfl rfl ?_
    refine q_p rfl rfl rfl ?_
    refine q_l rfl rfl rfl ?_
    refine q_l rfl rfl rfl ?_
    obtain ⟨g21, H⟩ := H
    refine q_div rfl hx3 g21 ?_
    obtain ⟨t22, H⟩ := H
    obtain ⟨t23, H⟩ := H
    obtain ⟨h24, m24, R24, H⟩ := H
    refine q_sp rfl (by decide) (by decide) rfl rfl (fun _ => t23) (by decide) rfl R24 ?_
    obtain ⟨h25, m25, R25, H⟩ := H
    refine q_iv rfl rfl rfl (fun S => S.t 54 rfl) (by decide) rfl R25 ?_
    obtain ⟨rfl, rfl, rfl⟩ := H
    exact q_r rfl rfl rfl
  · rw [if_neg c20] at H
    refine q_z rfl (by decide) hx3 (q := false) (decide_eq_false c20) rfl ?_
    refine q_l rfl rfl rfl ?_
    refine q_p rfl rfl rfl ?_
    obtain ⟨h26, m26, R26, H⟩ := H
    refine q_iv rfl rfl rfl (fun S => S.t 54 rfl) (by decide) rfl R26 ?_
    refine q_b rfl rfl rfl rfl ?_
    obtain ⟨rfl, rfl, rfl⟩ := H
    exact q_r rfl rfl rfl
def B_Mc_operateOnReals_82 (d : Nat)  (h : mHp) (σ : Mem) (r : mRes) (h' : mHp) (σ' : Mem) : Prop := ∃ h1 m1, Rh (d + 3) yMc_fail [.ref 54, vi 3] h σ (.inl none) h1 m1 ∧ (r = .inl none ∧ h' = h1 ∧ σ' = m1)
theorem K_Mc_operateOnReals_82 {d : Nat}  {h h' : mHp} {σ σ' : Mem} {r : mRes}  (H : B_Mc_operateOnReals_82 d  h σ r h' σ') : Lh (d + 3) yMc_operateOnReals 82 [(0, .ref 54)] [] h σ r h' σ' := by
  unfold B_Mc_operateOnReals_82 at H
  refine q_l rfl rfl rfl ?_
  refine q_p rfl rfl rfl ?_
  obtain ⟨h1, m1, R1, H⟩ := H
  refine q_iv rfl rfl rfl (fun S => S.t 54 rfl) (by decide) rfl R1 ?_
  refine q_b rfl rfl rfl rfl ?_
  obtain ⟨rfl, rfl, rfl⟩ := H
  exact q_r rfl rfl rfl
def B_Mc_operateOnReals_64 (d : Nat) (x6 : UInt64) (h : mHp) (σ : Mem) (r : mRes) (h' : mHp) (σ' : Mem) : Prop := if (Op.cmpValue (FP.dcmp x6 ((UInt64.ofNat 4741671816366391296))) .l).toInt > 0 then (B_Mc_operateOnReals_82 d  h σ r h' σ') else (if (Op.cmpValue (FP.dcmp x6 ((UInt64.ofNat 13965043853221167104))) .g).toInt ≥ 0 then (∃ v3 h3 m3, Rh (d + 3) yVa_ofReal [.double x6] h σ (.inl (some v3)) h3 m3 ∧ isQ v3 ∧ (∃ h4 m4, Rh (d + 3) yMc_settle [.ref 54, v3] h3 m3 (.inl none) h4 m4 ∧ (r = .inl none ∧ h' = h4 ∧ σ' = m4))) else (B_Mc_operateOnReals_82 d  h σ r h' σ'))
theorem K_Mc_operateOnReals_64 {d : Nat} {x6 : UInt64} {h h' : mHp} {σ σ' : Mem} {r : mRes}  (H : B_Mc_operateOnReals_64 d x6 h σ r h' σ') : Lh (d + 3) yMc_operateOnReals 64 [(0, .ref 54), (6, .double x6)] [] h σ r h' σ' := by
  unfold B_Mc_operateOnReals_64 at H
  refine q_l rfl rfl rfl ?_
  refine q_p rfl rfl rfl ?_
  refine q_dcmp rfl ?_
  by_cases c1 : (Op.cmpValue (FP.dcmp x6 ((UInt64.ofNat 4741671816366391296))) .l).toInt > 0
  · rw [if_pos c1] at H
    refine q_z rfl (by decide) rg_toInt (q := true) (decide_eq_true c1) rfl ?_
    exact q_lab (K_Mc_operateOnReals_82  H) (lvS_cons rfl rfl lvS_nil)
  · rw [if_neg c1] at H
    refine q_z rfl (by decide) rg_toInt (q := false) (decide_eq_false c1) rfl ?_
    refine q_l rfl rfl rfl ?_
    refine q_p rfl rfl rfl ?_
    refine q_dcmp rfl ?_
    by_cases c2 : (Op.cmpValue (FP.dcmp x6 ((UInt64.ofNat 13965043853221167104))) .g).toInt ≥ 0
    · rw [if_pos c2] at H
      refine q_z rfl (by decide) rg_toInt (q := true) (decide_eq_true c2) rfl ?_
      refine q_l rfl rfl rfl ?_
      refine q_l rfl rfl rfl ?_
      obtain ⟨v3, h3, m3, R3, w3, H⟩ := H
      refine q_is rfl (by decide) (Nat.le_of_ble_eq_true rfl) rfl rfl rfl R3 ?_
      obtain ⟨h4, m4, R4, H⟩ := H
      refine q_iv rfl rfl rfl (fun S => S.t 54 rfl) (by decide) rfl R4 ?_
      obtain ⟨rfl, rfl, rfl⟩ := H
      exact q_r rfl rfl rfl
    · rw [if_neg c2] at H
      refine q_z rfl (by decide) rg_toInt (q := false) (decide_eq_false c2) rfl ?_
      exact q_lab (K_Mc_operateOnReals_82  H) (lvS_cons rfl rfl lvS_nil)
def B_Mc_operateOnReals (d : Nat) (x1 : Int) (x2 : UInt64) (x4 : UInt64) (h : mHp) (σ : Mem) (r : mRes) (h' : mHp) (σ' : Mem) : Prop := if x1 ≠ 43 then (if x1 ≠ 45 then (if x1 ≠ 42 then (if (Op.cmpValue (FP.dcmp x4 (FP.dconst0)) .l).toInt ≠ 0 then ((nn (FP.ddiv x2 x4) = true) ∧ (B_Mc_operateOnReals_64 d (FP.ddiv x2 x4) h σ r h' σ')) else (∃ h6 m6, Rh (d + 3) yMc_fail [.ref 54, vi 1] h σ (.inl none) h6 m6 ∧ (r = .inl none ∧ h' = h6 ∧ σ' = m6))) else ((nn (FP.dmul x2 x4) = true) ∧ (B_Mc_operateOnReals_64 d (FP.dmul x2 x4) h σ r h' σ'))) else ((nn (FP.dsub x2 x4) = true) ∧ (B_Mc_operateOnReals_64 d (FP.dsub x2 x4) h σ r h' σ'))) else ((nn (FP.dadd x2 x4) = true) ∧ (B_Mc_operateOnReals_64 d (FP.dadd x2 x4) h σ r h' σ'))
theorem M_Mc_operateOnReals {d : Nat} {x1 : Int} {x2 : UInt64} {x4 : UInt64} {h h' : mHp} {σ σ' : Mem} {r : mRes} (hx1 : rg x1) (H : B_Mc_operateOnReals d x1 x2 x4 h σ r h' σ') : Rh (d + 4) yMc_operateOnReals [.ref 54, vi x1, .double x2, .double x4] h σ r h' σ' := by
  refine q_m (Nat.le_of_ble_eq_true rfl) ?_
  unfold B_Mc_operateOnReals at H
  refine q_l rfl rfl rfl ?_
  refine q_k (x := 43) rfl rfl rfl rfl ?_
  by_cases c1 : x1 ≠ 43
  · rw [if_pos c1] at H
    refine q_c rfl (by decide) hx1 (rgk rfl) (q := true) (decide_eq_true c1) rfl ?_
    refine q_l rfl rfl rfl ?_
    refine q_k (x := 45) rfl rfl rfl rfl ?_
    by_cases c2 : x1 ≠ 45
    · rw [if_pos c2] at H
      refine q_c rfl (by decide) hx1 (rgk rfl) (q := true) (decide_eq_true c2) rfl ?_
      refine q_l rfl rfl rfl ?_
      refine q_k (x := 42) rfl rfl rfl rfl ?_
      by_cases c3 : x1 ≠ 42
      · rw [if_pos c3] at H
        refine q_c rfl (by decide) hx1 (rgk rfl) (q := true) (decide_eq_true c3) rfl ?_
        refine q_l rfl rfl rfl ?_
        refine q_p rfl rfl rfl ?_
        refine q_dcmp rfl ?_
        by_cases c4 : (Op.cmpValue (FP.dcmp x4 (FP.dconst0)) .l).toInt ≠ 0
        · rw [if_pos c4] at H
          refine q_z rfl (by decide) rg_toInt (q := true) (decide_eq_true c4) rfl ?_
          refine q_l rfl rfl rfl ?_
          refine q_l rfl rfl rfl ?_
          obtain ⟨g5, H⟩ := H
          refine q_dd rfl rfl rfl g5 ?_
          refine q_l rfl rfl rfl ?_
          exact q_lab (K_Mc_operateOnReals_64  H) (lvS_cons rfl rfl (lvS_cons rfl rfl lvS_nil))
        · rw [if_neg c4] at H
          refine q_z rfl (by decide) rg_toInt (q := false) (decide_eq_false c4) rfl ?_
          refine q_l rfl rfl rfl ?_
          refine q_p rfl rfl rfl ?_
          obtain ⟨h6, m6, R6, H⟩ := H
          refine q_iv rfl rfl rfl (fun S => S.t 54 rfl) (by decide) rfl R6 ?_
          obtain ⟨rfl, rfl, rfl⟩ := H
          exact q_r rfl rfl rfl
      · rw [if_neg c3] at H
        refine q_c rfl (by decide) hx1 (rgk rfl) (q := false) (decide_eq_false c3) rfl ?_
        refine q_l rfl rfl rfl ?_
        refine q_l rfl rfl rfl ?_
        obtain ⟨g7, H⟩ := H
        refine q_dd rfl rfl rfl g7 ?_
        refine q_l rfl rfl rfl ?_
        refine q_b rfl rfl rfl rfl ?_
        exact q_lab (K_Mc_operateOnReals_64  H) (lvS_cons rfl rfl (lvS_cons rfl rfl lvS_nil))
    · rw [if_neg c2] at H
      refine q_c rfl (by decide) hx1 (rgk rfl) (q := false) (decide_eq_false c2) rfl ?_
      refine q_l rfl rfl rfl ?_
      refine q_l rfl rfl rfl ?_
      obtain ⟨g8, H⟩ := H
      refine q_dd rfl rfl rfl g8 ?_
      refine q_l rfl rfl rfl ?_
      refine q_b rfl rfl rfl rfl ?_
      exact q_lab (K_Mc_operateOnReals_64  H) (lvS_cons rfl rfl (lvS_cons rfl rfl lvS_nil))
  · rw [if_neg c1] at H
    refine q_c rfl (by decide) hx1 (rgk rfl) (q := false) (decide_eq_false c1) rfl ?_
    refine q_l rfl rfl rfl ?_
    refine q_l rfl rfl rfl ?_
    obtain ⟨g9, H⟩ := H
    refine q_dd rfl rfl rfl g9 ?_
    refine q_l rfl rfl rfl ?_
    refine q_b rfl rfl rfl rfl ?_
    exact q_lab (K_Mc_operateOnReals_64  H) (lvS_cons rfl rfl (lvS_cons rfl rfl lvS_nil))
def B_Mc_operate_52 (d : Nat) (t1 : Value) (t2 : Value) (t3 : Int) (t4 : Int) (h : mHp) (σ : Mem) (r : mRes) (h' : mHp) (σ' : Mem) : Prop := ∃ j1, t2 = .ref j1 ∧ ((100 ≤ j1) ∧ ((hTag h j1 = 8) ∧ (∃ h4 m4, Rh (d + 4) yVa_init [.ref j1, vi t3, vi t4] h σ (.inl none) h4 m4 ∧ (∃ h5 m5, Rh (d + 4) yMc_settle [.ref 54, t1] h4 m4 (.inl none) h5 m5 ∧ (r = .inl none ∧ h' = h5 ∧ σ' = m5)))))
theorem K_Mc_operate_52 {d : Nat} {t1 : Value} {t2 : Value} {t3 : Int} {t4 : Int} {h h' : mHp} {σ σ' : Mem} {r : mRes} (ht1 : isQ t1) (ht2 : isQ t2) (ht3 : rg t3) (ht4 : rg t4) (H : B_Mc_operate_52 d t1 t2 t3 t4 h σ r h' σ') : Lh (d + 4) yMc_operate 52 [] [vi t4, vi t3, t2, t1, .ref 54] h σ r h' σ' := by
  unfold B_Mc_operate_52 at H
  obtain ⟨j1, rfl, H⟩ := H
  obtain ⟨t2, H⟩ := H
  obtain ⟨t3, H⟩ := H
  obtain ⟨h4, m4, R4, H⟩ := H
  refine q_sp rfl (by decide) (by decide) rfl rfl (fun _ => t3) (by decide) (by rcases ht1 with rfl | ⟨_, rfl⟩ <;> rfl) R4 ?_
  obtain ⟨h5, m5, R5, H⟩ := H
  refine q_iv rfl rfl rfl (fun S => S.t 54 rfl) (by decide) rfl R5 ?_
  refine q_b rfl rfl rfl rfl ?_
  obtain ⟨rfl, rfl, rfl⟩ := H
  exact q_r rfl rfl rfl
def B_Mc_operate (d : Nat)  (h : mHp) (σ : Mem) (r : mRes) (h' : mHp) (σ' : Mem) : Prop := (rg (σ 54 3)) ∧ (∃ v3 h3 m3, Rh (d + 4) yMc_take [.ref 54] h σ (.inl (some v3)) h3 m3 ∧ isQ v3 ∧ (∃ v4 h4 m4, Rh (d + 4) yMc_take [.ref 54] h3 m3 (.inl (some v4)) h4 m4 ∧ isQ v4 ∧ (if rowv 128 σ 24 (σ 54 3) ≠ 188 then (if rowv 128 σ 24 (σ 54 3) < 128 then (∃ j7, v4 = .ref j7 ∧ ((100 ≤ j7) ∧ ((hTag h4 j7 = 8) ∧ (∃ z10, hAt h4 j7 1 = vi z10 ∧ rg z10 ∧ (∃ j13, v3 = .ref j13 ∧ ((100 ≤ j13) ∧ ((hTag h4 j13 = 8) ∧ (∃ z16, hAt h4 j13 1 = vi z16 ∧ rg z16 ∧ (∃ h19 m19, Rh (d + 4) yMc_operateOnNumbers [.ref 54, vi (rowv 128 σ 24 (σ 54 3)), vi z10, vi z16] h4 m4 (.inl none) h19 m19 ∧ (r = .inl none ∧ h' = h19 ∧ σ' = m19)))))))))) else (∃ j20, v4 = .ref j20 ∧ ((100 ≤ j20) ∧ ((hTag h4 j20 = 8) ∧ (∃ z23, hAt h4 j20 2 = .double z23 ∧ (∃ j25, v3 = .ref j25 ∧ ((100 ≤ j25) ∧ ((hTag h4 j25 = 8) ∧ (∃ z28, hAt h4 j25 2 = .double z28 ∧ (∃ h30 m30, Rh (d + 4) yMc_operateOnReals [.ref 54, vi ((rowv 128 σ 24 (σ 54 3)) - 128), .double z23, .double z28] h4 m4 (.inl none) h30 m30 ∧ (r = .inl none ∧ h' = h30 ∧ σ' = m30))))))))))) else (∃ j31, v4 = .ref j31 ∧ ((100 ≤ j31) ∧ ((hTag (nwO h4 8) j31 = 8) ∧ (∃ z34, hAt (nwO h4 8) j31 2 = .double z34 ∧ (∃ j36, v3 = .ref j36 ∧ ((100 ≤ j36) ∧ ((hTag (nwO h4 8) j36 = 8) ∧ (∃ z39, hAt (nwO h4 8) j36 2 = .double z39 ∧ (if (Op.cmpValue (FP.dcmp z34 z39) .g).toInt ≥ 0 then (B_Mc_operate_52 d (.ref (h4.1)) (.ref (h4.1)) 1 0 (nwO h4 8) m4 r h' σ') else (B_Mc_operate_52 d (.ref (h4.1)) (.ref (h4.1)) 1 1 (nwO h4 8) m4 r h' σ')))))))))))))
theorem M_Mc_operate {d : Nat}  {h h' : mHp} {σ σ' : Mem} {r : mRes}  (H : B_Mc_operate d  h σ r h' σ') : Rh (d + 5) yMc_operate [.ref 54] h σ r h' σ' := by
  refine q_m (Nat.le_of_ble_eq_true rfl) ?_
  unfold B_Mc_operate at H
  refine q_l rfl rfl rfl ?_
  refine q_gr (t := 20) rfl rfl rfl (by decide) rfl ?_
  refine q_l rfl rfl rfl ?_
  obtain ⟨g1, H⟩ := H
  refine q_gi rfl rfl rfl (by decide) rfl rfl ?_
  refine q_rn (v := rowv 128 σ 24 (σ 54 3)) rfl rfl rfl rfl rfl (by decide) rfl (R_Tr_number20 g1) (fun q2 => ?_)
  refine q_l rfl rfl rfl ?_
  refine q_l rfl rfl rfl ?_
  obtain ⟨v3, h3, m3, R3, w3, H⟩ := H
  refine q_iv rfl rfl rfl (fun S => S.t 54 rfl) (by decide) rfl R3 ?_
  refine q_sq rfl rfl (fun _ _ => rfl) w3 (by decide) ?_
  refine q_lg (u := .ref 54) (ok := isA) rfl rfl (fun _ _ => rfl) (by rcases w3 with rfl | ⟨_, rfl⟩ <;> rfl) rfl ?_
  obtain ⟨v4, h4, m4, R4, w4, H⟩ := H
  refine q_iv rfl rfl rfl (fun S => S.t 54 rfl) (by decide) (by rcases w3 with rfl | ⟨_, rfl⟩ <;> rfl) R4 ?_
  refine q_sq rfl rfl (fun _ _ => rfl) w4 (by decide) ?_
  refine q_lg (u := vi (rowv 128 σ 24 (σ 54 3))) (ok := isI) rfl rfl (fun _ _ => rfl) (by rcases w3 with rfl | ⟨_, rfl⟩ <;> rcases w4 with rfl | ⟨_, rfl⟩ <;> rfl) rfl ?_
  refine q_k (x := 188) rfl rfl rfl rfl ?_
  by_cases c5 : rowv 128 σ 24 (σ 54 3) ≠ 188
  · rw [if_pos c5] at H
    refine q_c rfl (by decide) q2 (rgk rfl) (q := true) (decide_eq_true c5) rfl ?_
    refine q_lg (u := vi (rowv 128 σ 24 (σ 54 3))) (ok := isI) rfl rfl (fun _ _ => rfl) (by rcases w3 with rfl | ⟨_, rfl⟩ <;> rcases w4 with rfl | ⟨_, rfl⟩ <;> rfl) rfl ?_
    refine q_k (x := 128) rfl rfl rfl rfl ?_
    by_cases c6 : rowv 128 σ 24 (σ 54 3) < 128
    · rw [if_pos c6] at H
      refine q_c rfl (by decide) q2 (rgk rfl) (q := true) (decide_eq_true c6) rfl ?_
      refine q_lg (u := .ref 54) (ok := isA) rfl rfl (fun _ _ => rfl) (by rcases w3 with rfl | ⟨_, rfl⟩ <;> rcases w4 with rfl | ⟨_, rfl⟩ <;> rfl) rfl ?_
      refine q_lg (u := vi (rowv 128 σ 24 (σ 54 3))) (ok := isI) rfl rfl (fun _ _ => rfl) (by rcases w3 with rfl | ⟨_, rfl⟩ <;> rcases w4 with rfl | ⟨_, rfl⟩ <;> rfl) rfl ?_
      refine q_lq (u := v4) rfl rfl (fun _ _ => rfl) (by rcases w3 with rfl | ⟨_, rfl⟩ <;> rcases w4 with rfl | ⟨_, rfl⟩ <;> rfl) w4 ?_
      obtain ⟨j7, rfl, H⟩ := H
      obtain ⟨t8, H⟩ := H
      obtain ⟨t9, H⟩ := H
      obtain ⟨z10, e11, g12, H⟩ := H
      refine q_gd rfl t8 t9 (by decide) e11 ?_
      refine q_lq (u := v3) rfl rfl (fun _ _ => rfl) (by rcases w3 with rfl | ⟨_, rfl⟩ <;> rfl) w3 ?_
      obtain ⟨j13, rfl, H⟩ := H
      obtain ⟨t14, H⟩ := H
      obtain ⟨t15, H⟩ := H
      obtain ⟨z16, e17, g18, H⟩ := H
      refine q_gd rfl t14 t15 (by decide) e17 ?_
      obtain ⟨h19, m19, R19, H⟩ := H
      refine q_iv rfl rfl rfl (fun S => S.t 54 rfl) (by decide) rfl R19 ?_
      obtain ⟨rfl, rfl, rfl⟩ := H
      exact q_r rfl rfl rfl
    · rw [if_neg c6] at H
      refine q_c rfl (by decide) q2 (rgk rfl) (q := false) (decide_eq_false c6) rfl ?_
      refine q_lg (u := .ref 54) (ok := isA) rfl rfl (fun _ _ => rfl) (by rcases w3 with rfl | ⟨_, rfl⟩ <;> rcases w4 with rfl | ⟨_, rfl⟩ <;> rfl) rfl ?_
      refine q_lg (u := vi (rowv 128 σ 24 (σ 54 3))) (ok := isI) rfl rfl (fun _ _ => rfl) (by rcases w3 with rfl | ⟨_, rfl⟩ <;> rcases w4 with rfl | ⟨_, rfl⟩ <;> rfl) rfl ?_
      refine q_k (x := 128) rfl rfl rfl rfl ?_
      refine q_sub rfl ?_
      refine q_lq (u := v4) rfl rfl (fun _ _ => rfl) (by rcases w3 with rfl | ⟨_, rfl⟩ <;> rcases w4 with rfl | ⟨_, rfl⟩ <;> rfl) w4 ?_
      obtain ⟨j20, rfl, H⟩ := H
      obtain ⟨t21, H⟩ := H
      obtain ⟨t22, H⟩ := H
      obtain ⟨z23, e24, H⟩ := H
      refine q_gd rfl t21 t22 (by decide) e24 ?_
      refine q_lq (u := v3) rfl rfl (fun _ _ => rfl) (by rcases w3 with rfl | ⟨_, rfl⟩ <;> rfl) w3 ?_
      obtain ⟨j25, rfl, H⟩ := H
      obtain ⟨t26, H⟩ := H
      obtain ⟨t27, H⟩ := H
      obtain ⟨z28, e29, H⟩ := H
      refine q_gd rfl t26 t27 (by decide) e29 ?_
      obtain ⟨h30, m30, R30, H⟩ := H
      refine q_iv rfl rfl rfl (fun S => S.t 54 rfl) (by decide) rfl R30 ?_
      refine q_b rfl rfl rfl rfl ?_
      obtain ⟨rfl, rfl, rfl⟩ := H
      exact q_r rfl rfl rfl
  · rw [if_neg c5] at H
    refine q_c rfl (by decide) q2 (rgk rfl) (q := false) (decide_eq_false c5) rfl ?_
    refine q_lg (u := .ref 54) (ok := isA) rfl rfl (fun _ _ => rfl) (by rcases w3 with rfl | ⟨_, rfl⟩ <;> rcases w4 with rfl | ⟨_, rfl⟩ <;> rfl) rfl ?_
    refine q_new rfl (by decide) ?_
    refine q_p rfl rfl rfl ?_
    refine q_p rfl rfl rfl ?_
    refine q_lq (u := v4) rfl rfl (fun _ _ => rfl) (by rcases w3 with rfl | ⟨_, rfl⟩ <;> rcases w4 with rfl | ⟨_, rfl⟩ <;> rfl) w4 ?_
    obtain ⟨j31, rfl, H⟩ := H
    obtain ⟨t32, H⟩ := H
    obtain ⟨t33, H⟩ := H
    obtain ⟨z34, e35, H⟩ := H
    refine q_gd rfl t32 t33 (by decide) e35 ?_
    refine q_lq (u := v3) rfl rfl (fun _ _ => rfl) (by rcases w3 with rfl | ⟨_, rfl⟩ <;> rfl) w3 ?_
    obtain ⟨j36, rfl, H⟩ := H
    obtain ⟨t37, H⟩ := H
    obtain ⟨t38, H⟩ := H
    obtain ⟨z39, e40, H⟩ := H
    refine q_gd rfl t37 t38 (by decide) e40 ?_
    refine q_dcmp rfl ?_
    by_cases c41 : (Op.cmpValue (FP.dcmp z34 z39) .g).toInt ≥ 0
    · rw [if_pos c41] at H
      refine q_z rfl (by decide) rg_toInt (q := true) (decide_eq_true c41) rfl ?_
      refine q_p rfl rfl rfl ?_
      exact q_lab (K_Mc_operate_52 isQ.j isQ.j (rgk rfl) (rgk rfl) H) lvS_nil
    · rw [if_neg c41] at H
      refine q_z rfl (by decide) rg_toInt (q := false) (decide_eq_false c41) rfl ?_
      refine q_p rfl rfl rfl ?_
      refine q_b rfl rfl rfl rfl ?_
      exact q_lab (K_Mc_operate_52 isQ.j isQ.j (rgk rfl) (rgk rfl) H) lvS_nil
def B_Mc_apply (d : Nat)  (h : mHp) (σ : Mem) (r : mRes) (h' : mHp) (σ' : Mem) : Prop := ∃ v1 h1 m1, Rh (d + 4) yMc_take [.ref 54] h σ (.inl (some v1)) h1 m1 ∧ isQ v1 ∧ (∃ v2 h2 m2, Rh (d + 4) yMc_take [.ref 54] h1 m1 (.inl (some v2)) h2 m2 ∧ isQ v2 ∧ (∃ j3, v2 = .ref j3 ∧ ((100 ≤ j3) ∧ ((hTag h2 j3 = 8) ∧ (∃ z6, hAt h2 j3 1 = vi z6 ∧ rg z6 ∧ (if rowv 128 m2 22 z6 ≠ 12 then (if rowv 128 m2 24 z6 ≠ 82 then (∃ j13, v1 = .ref j13 ∧ ((100 ≤ j13) ∧ ((hTag (nwO h2 8) j13 = 8) ∧ (∃ z16, hAt (nwO h2 8) j13 2 = .double z16 ∧ ((100 ≤ (h2.1)) ∧ ((hTag (nwO h2 8) (h2.1) = 8) ∧ (∃ h20 m20, Rh (d + 4) yVa_init [.ref (h2.1), vi 0, vi ((FP.d2i z16).toInt)] (nwO h2 8) m2 (.inl none) h20 m20 ∧ (∃ h21 m21, Rh (d + 4) yMc_settle [.ref 54, .ref (h2.1)] h20 m20 (.inl none) h21 m21 ∧ (r = .inl none ∧ h' = h21 ∧ σ' = m21))))))))) else (∃ j22, v1 = .ref j22 ∧ ((100 ≤ j22) ∧ ((hTag h2 j22 = 8) ∧ (∃ z25, hAt h2 j22 1 = vi z25 ∧ rg z25 ∧ (∃ v28 h28 m28, Rh (d + 4) yVa_ofReal [.double (FP.i2d (Int32.ofInt z25))] h2 m2 (.inl (some v28)) h28 m28 ∧ isQ v28 ∧ (∃ h29 m29, Rh (d + 4) yMc_settle [.ref 54, v28] h28 m28 (.inl none) h29 m29 ∧ (r = .inl none ∧ h' = h29 ∧ σ' = m29)))))))) else ((rg (m2 54 3)) ∧ (∃ z31, hAt (nwO h2 9) 54 5 = z31 ∧ isQ z31 ∧ (∃ z34, hAt (nwO h2 9) 54 6 = z34 ∧ isQ z34 ∧ ((100 ≤ (h2.1)) ∧ ((hTag (nwO h2 9) (h2.1) = 9) ∧ (∃ h39 m39, Rh (d + 4) yFr_init [.ref (h2.1), vi (m2 54 3), z31, z34] (nwO h2 9) m2 (.inl none) h39 m39 ∧ ((100 ≤ j3) ∧ ((hTag (nwO (hSet h39 54 6 (.ref (h2.1))) 10) j3 = 8) ∧ (∃ z43, hAt (nwO (hSet h39 54 6 (.ref (h2.1))) 10) j3 5 = z43 ∧ isQ z43 ∧ ((100 ≤ ((hSet h39 54 6 (.ref (h2.1))).1)) ∧ ((hTag (nwO (hSet h39 54 6 (.ref (h2.1))) 10) ((hSet h39 54 6 (.ref (h2.1))).1) = 10) ∧ (∃ h48 m48, Rh (d + 4) ySc_init [.ref ((hSet h39 54 6 (.ref (h2.1))).1), vi (rowv 128 m39 24 z6), v1, z43] (nwO (hSet h39 54 6 (.ref (h2.1))) 10) m39 (.inl none) h48 m48 ∧ (∃ h50 m50, Rh (d + 4) yMc_goInto [.ref 54, vi (rowv 128 m48 26 z6)] (hSet h48 54 5 (.ref ((hSet h39 54 6 (.ref (h2.1))).1))) m48 (.inl none) h50 m50 ∧ (r = .inl none ∧ h' = h50 ∧ σ' = m50))))))))))))))))))))
theorem M_Mc_apply {d : Nat}  {h h' : mHp} {σ σ' : Mem} {r : mRes}  (H : B_Mc_apply d  h σ r h' σ') : Rh (d + 5) yMc_apply [.ref 54] h σ r h' σ' := by
  refine q_m (Nat.le_of_ble_eq_true rfl) ?_
  unfold B_Mc_apply at H
  refine q_l rfl rfl rfl ?_
  obtain ⟨v1, h1, m1, R1, w1, H⟩ := H
  refine q_iv rfl rfl rfl (fun S => S.t 54 rfl) (by decide) rfl R1 ?_
  refine q_sq rfl rfl (fun _ _ => rfl) w1 (by decide) ?_
  refine q_lg (u := .ref 54) (ok := isA) rfl rfl (fun _ _ => rfl) (by rcases w1 with rfl | ⟨_, rfl⟩ <;> rfl) rfl ?_
  obtain ⟨v2, h2, m2, R2, w2, H⟩ := H
  refine q_iv rfl rfl rfl (fun S => S.t 54 rfl) (by decide) (by rcases w1 with rfl | ⟨_, rfl⟩ <;> rfl) R2 ?_
  refine q_sq rfl rfl (fun _ _ => rfl) w2 (by decide) ?_
  refine q_lq (u := v2) rfl rfl (fun _ _ => rfl) (by rcases w1 with rfl | ⟨_, rfl⟩ <;> rcases w2 with rfl | ⟨_, rfl⟩ <;> rfl) w2 ?_
  obtain ⟨j3, rfl, H⟩ := H
  obtain ⟨t4, H⟩ := H
  obtain ⟨t5, H⟩ := H
  obtain ⟨z6, e7, g8, H⟩ := H
  refine q_gd rfl t4 t5 (by decide) e7 ?_
  refine q_l rfl rfl rfl ?_
  refine q_lg (u := .ref 54) (ok := isA) rfl rfl (fun _ _ => rfl) (by rcases w1 with rfl | ⟨_, rfl⟩ <;> rfl) rfl ?_
  refine q_gr (t := 20) rfl rfl rfl (by decide) rfl ?_
  refine q_lg (u := vi z6) (ok := isI) rfl rfl (fun _ _ => rfl) (by rcases w1 with rfl | ⟨_, rfl⟩ <;> rfl) rfl ?_
  refine q_rn (v := rowv 128 m2 22 z6) rfl rfl rfl rfl rfl (by decide) (by rcases w1 with rfl | ⟨_, rfl⟩ <;> rfl) (R_Tr_kind20 g8) (fun q9 => ?_)
  refine q_k (x := 12) rfl rfl rfl rfl ?_
  by_cases c10 : rowv 128 m2 22 z6 ≠ 12
  · rw [if_pos c10] at H
    refine q_c rfl (by decide) q9 (rgk rfl) (q := true) (decide_eq_true c10) rfl ?_
    refine q_lg (u := .ref 54) (ok := isA) rfl rfl (fun _ _ => rfl) (by rcases w1 with rfl | ⟨_, rfl⟩ <;> rfl) rfl ?_
    refine q_gr (t := 20) rfl rfl rfl (by decide) rfl ?_
    refine q_lg (u := vi z6) (ok := isI) rfl rfl (fun _ _ => rfl) (by rcases w1 with rfl | ⟨_, rfl⟩ <;> rfl) rfl ?_
    refine q_rn (v := rowv 128 m2 24 z6) rfl rfl rfl rfl rfl (by decide) (by rcases w1 with rfl | ⟨_, rfl⟩ <;> rfl) (R_Tr_number20 g8) (fun q11 => ?_)
    refine q_k (x := 82) rfl rfl rfl rfl ?_
    by_cases c12 : rowv 128 m2 24 z6 ≠ 82
    · rw [if_pos c12] at H
      refine q_c rfl (by decide) q11 (rgk rfl) (q := true) (decide_eq_true c12) rfl ?_
      refine q_lg (u := .ref 54) (ok := isA) rfl rfl (fun _ _ => rfl) (by rcases w1 with rfl | ⟨_, rfl⟩ <;> rfl) rfl ?_
      refine q_new rfl (by decide) ?_
      refine q_p rfl rfl rfl ?_
      refine q_p rfl rfl rfl ?_
      refine q_lq (u := v1) rfl rfl (fun _ _ => rfl) (by rcases w1 with rfl | ⟨_, rfl⟩ <;> rfl) w1 ?_
      obtain ⟨j13, rfl, H⟩ := H
      obtain ⟨t14, H⟩ := H
      obtain ⟨t15, H⟩ := H
      obtain ⟨z16, e17, H⟩ := H
      refine q_gd rfl t14 t15 (by decide) e17 ?_
      refine q_d2i rfl ?_
      obtain ⟨t18, H⟩ := H
      obtain ⟨t19, H⟩ := H
      obtain ⟨h20, m20, R20, H⟩ := H
      refine q_sp rfl (by decide) (by decide) rfl rfl (fun _ => t19) (by decide) rfl R20 ?_
      obtain ⟨h21, m21, R21, H⟩ := H
      refine q_iv rfl rfl rfl (fun S => S.t 54 rfl) (by decide) rfl R21 ?_
      obtain ⟨rfl, rfl, rfl⟩ := H
      exact q_r rfl rfl rfl
    · rw [if_neg c12] at H
      refine q_c rfl (by decide) q11 (rgk rfl) (q := false) (decide_eq_false c12) rfl ?_
      refine q_lg (u := .ref 54) (ok := isA) rfl rfl (fun _ _ => rfl) (by rcases w1 with rfl | ⟨_, rfl⟩ <;> rfl) rfl ?_
      refine q_lq (u := v1) rfl rfl (fun _ _ => rfl) (by rcases w1 with rfl | ⟨_, rfl⟩ <;> rfl) w1 ?_
      obtain ⟨j22, rfl, H⟩ := H
      obtain ⟨t23, H⟩ := H
      obtain ⟨t24, H⟩ := H
      obtain ⟨z25, e26, g27, H⟩ := H
      refine q_gd rfl t23 t24 (by decide) e26 ?_
      refine q_p rfl rfl rfl ?_
      obtain ⟨v28, h28, m28, R28, w28, H⟩ := H
      refine q_is rfl (by decide) (Nat.le_of_ble_eq_true rfl) rfl rfl rfl R28 ?_
      obtain ⟨h29, m29, R29, H⟩ := H
      refine q_iv rfl rfl rfl (fun S => S.t 54 rfl) (by decide) rfl R29 ?_
      refine q_b rfl rfl rfl rfl ?_
      obtain ⟨rfl, rfl, rfl⟩ := H
      exact q_r rfl rfl rfl
  · rw [if_neg c10] at H
    refine q_c rfl (by decide) q9 (rgk rfl) (q := false) (decide_eq_false c10) rfl ?_
    refine q_lg (u := .ref 54) (ok := isA) rfl rfl (fun _ _ => rfl) (by rcases w1 with rfl | ⟨_, rfl⟩ <;> rfl) rfl ?_
    refine q_new rfl (by decide) ?_
    refine q_p rfl rfl rfl ?_
    refine q_lg (u := .ref 54) (ok := isA) rfl rfl (fun _ _ => rfl) (by rcases w1 with rfl | ⟨_, rfl⟩ <;> rfl) rfl ?_
    obtain ⟨g30, H⟩ := H
    refine q_gi rfl rfl rfl (by decide) rfl rfl ?_
    refine q_lg (u := .ref 54) (ok := isA) rfl rfl (fun _ _ => rfl) (by rcases w1 with rfl | ⟨_, rfl⟩ <;> rfl) rfl ?_
    obtain ⟨z31, e32, q33, H⟩ := H
    refine q_gv rfl rfl rfl (by decide) rfl e32 ?_
    refine q_lg (u := .ref 54) (ok := isA) rfl rfl (fun _ _ => rfl) (by rcases w1 with rfl | ⟨_, rfl⟩ <;> rcases q33 with rfl | ⟨_, rfl⟩ <;> rfl) rfl ?_
    obtain ⟨z34, e35, q36, H⟩ := H
    refine q_gv rfl rfl rfl (by decide) rfl e35 ?_
    obtain ⟨t37, H⟩ := H
    obtain ⟨t38, H⟩ := H
    obtain ⟨h39, m39, R39, H⟩ := H
    refine q_sp rfl (by decide) (by decide) rfl rfl (fun _ => t38) (by decide) (by rcases w1 with rfl | ⟨_, rfl⟩ <;> rfl) R39 ?_
    refine q_pv rfl rfl rfl (by decide) rfl rfl rfl rfl rfl ?_
    refine q_lg (u := .ref 54) (ok := isA) rfl rfl (fun _ _ => rfl) (by rcases w1 with rfl | ⟨_, rfl⟩ <;> rfl) rfl ?_
    refine q_new rfl (by decide) ?_
    refine q_p rfl rfl rfl ?_
    refine q_lg (u := .ref 54) (ok := isA) rfl rfl (fun _ _ => rfl) (by rcases w1 with rfl | ⟨_, rfl⟩ <;> rfl) rfl ?_
    refine q_gr (t := 20) rfl rfl rfl (by decide) rfl ?_
    refine q_lg (u := vi z6) (ok := isI) rfl rfl (fun _ _ => rfl) (by rcases w1 with rfl | ⟨_, rfl⟩ <;> rfl) rfl ?_
    refine q_rn (v := rowv 128 m39 24 z6) rfl rfl rfl rfl rfl (by decide) (by rcases w1 with rfl | ⟨_, rfl⟩ <;> rfl) (R_Tr_number20 g8) (fun q40 => ?_)
    refine q_lq (u := v1) rfl rfl (fun _ _ => rfl) (by rcases w1 with rfl | ⟨_, rfl⟩ <;> rfl) w1 ?_
    refine q_lg (u := .ref j3) (ok := isA) rfl rfl (fun _ _ => rfl) (by rcases w1 with rfl | ⟨_, rfl⟩ <;> rfl) rfl ?_
    obtain ⟨t41, H⟩ := H
    obtain ⟨t42, H⟩ := H
    obtain ⟨z43, e44, q45, H⟩ := H
    refine q_gd rfl t41 t42 (by decide) e44 ?_
    obtain ⟨t46, H⟩ := H
    obtain ⟨t47, H⟩ := H
    obtain ⟨h48, m48, R48, H⟩ := H
    refine q_sp rfl (by decide) (by decide) rfl rfl (fun _ => t47) (by decide) (by rcases w1 with rfl | ⟨_, rfl⟩ <;> rfl) R48 ?_
    refine q_pv rfl rfl rfl (by decide) rfl rfl rfl rfl rfl ?_
    refine q_lg (u := .ref 54) (ok := isA) rfl rfl (fun _ _ => rfl) (by rcases w1 with rfl | ⟨_, rfl⟩ <;> rfl) rfl ?_
    refine q_lg (u := .ref 54) (ok := isA) rfl rfl (fun _ _ => rfl) (by rcases w1 with rfl | ⟨_, rfl⟩ <;> rfl) rfl ?_
    refine q_gr (t := 20) rfl rfl rfl (by decide) rfl ?_
    refine q_lg (u := vi z6) (ok := isI) rfl rfl (fun _ _ => rfl) (by rcases w1 with rfl | ⟨_, rfl⟩ <;> rfl) rfl ?_
    refine q_rn (v := rowv 128 m48 26 z6) rfl rfl rfl rfl rfl (by decide) (by rcases w1 with rfl | ⟨_, rfl⟩ <;> rfl) (R_Tr_first20 g8) (fun q49 => ?_)
    obtain ⟨h50, m50, R50, H⟩ := H
    refine q_iv rfl rfl rfl (fun S => S.t 54 rfl) (by decide) (by rcases w1 with rfl | ⟨_, rfl⟩ <;> rfl) R50 ?_
    refine q_b rfl rfl rfl rfl ?_
    obtain ⟨rfl, rfl, rfl⟩ := H
    exact q_r rfl rfl rfl
def B_Mc_bindOwn (d : Nat)  (h : mHp) (σ : Mem) (r : mRes) (h' : mHp) (σ' : Mem) : Prop := ∃ v1 h1 m1, Rh (d + 4) yMc_take [.ref 54] h σ (.inl (some v1)) h1 m1 ∧ isQ v1 ∧ ((rg (m1 54 3)) ∧ (∃ z4, hAt (nwO h1 10) 54 5 = z4 ∧ isQ z4 ∧ ((100 ≤ (h1.1)) ∧ ((hTag (nwO h1 10) (h1.1) = 10) ∧ (∃ h9 m9, Rh (d + 4) ySc_init [.ref (h1.1), vi (rowv 128 m1 24 (m1 54 3)), v1, z4] (nwO h1 10) m1 (.inl none) h9 m9 ∧ (∃ z10, hAt (hSet h9 54 5 (.ref (h1.1))) 54 5 = z10 ∧ isQ z10 ∧ (∃ j13, v1 = .ref j13 ∧ ((100 ≤ j13) ∧ ((hTag (hSet h9 54 5 (.ref (h1.1))) j13 = 8) ∧ ((rg (m9 54 3)) ∧ (∃ h18 m18, Rh (d + 4) yMc_goInto [.ref 54, vi (rowv 128 m9 28 (m9 54 3))] (hSet (hSet h9 54 5 (.ref (h1.1))) j13 5 z10) m9 (.inl none) h18 m18 ∧ (r = .inl none ∧ h' = h18 ∧ σ' = m18))))))))))))
theorem M_Mc_bindOwn {d : Nat}  {h h' : mHp} {σ σ' : Mem} {r : mRes}  (H : B_Mc_bindOwn d  h σ r h' σ') : Rh (d + 5) yMc_bindOwn [.ref 54] h σ r h' σ' := by
  refine q_m (Nat.le_of_ble_eq_true rfl) ?_
  unfold B_Mc_bindOwn at H
  refine q_l rfl rfl rfl ?_
  obtain ⟨v1, h1, m1, R1, w1, H⟩ := H
  refine q_iv rfl rfl rfl (fun S => S.t 54 rfl) (by decide) rfl R1 ?_
  refine q_sq rfl rfl (fun _ _ => rfl) w1 (by decide) ?_
  refine q_lg (u := .ref 54) (ok := isA) rfl rfl (fun _ _ => rfl) (by rcases w1 with rfl | ⟨_, rfl⟩ <;> rfl) rfl ?_
  refine q_new rfl (by decide) ?_
  refine q_p rfl rfl rfl ?_
  refine q_lg (u := .ref 54) (ok := isA) rfl rfl (fun _ _ => rfl) (by rcases w1 with rfl | ⟨_, rfl⟩ <;> rfl) rfl ?_
  refine q_gr (t := 20) rfl rfl rfl (by decide) rfl ?_
  refine q_lg (u := .ref 54) (ok := isA) rfl rfl (fun _ _ => rfl) (by rcases w1 with rfl | ⟨_, rfl⟩ <;> rfl) rfl ?_
  obtain ⟨g2, H⟩ := H
  refine q_gi rfl rfl rfl (by decide) rfl rfl ?_
  refine q_rn (v := rowv 128 m1 24 (m1 54 3)) rfl rfl rfl rfl rfl (by decide) (by rcases w1 with rfl | ⟨_, rfl⟩ <;> rfl) (R_Tr_number20 g2) (fun q3 => ?_)
  refine q_lq (u := v1) rfl rfl (fun _ _ => rfl) (by rcases w1 with rfl | ⟨_, rfl⟩ <;> rfl) w1 ?_
  refine q_lg (u := .ref 54) (ok := isA) rfl rfl (fun _ _ => rfl) (by rcases w1 with rfl | ⟨_, rfl⟩ <;> rfl) rfl ?_
  obtain ⟨z4, e5, q6, H⟩ := H
  refine q_gv rfl rfl rfl (by decide) rfl e5 ?_
  obtain ⟨t7, H⟩ := H
  obtain ⟨t8, H⟩ := H
  obtain ⟨h9, m9, R9, H⟩ := H
  refine q_sp rfl (by decide) (by decide) rfl rfl (fun _ => t8) (by decide) (by rcases w1 with rfl | ⟨_, rfl⟩ <;> rfl) R9 ?_
  refine q_pv rfl rfl rfl (by decide) rfl rfl rfl rfl rfl ?_
  refine q_lq (u := v1) rfl rfl (fun _ _ => rfl) (by rcases w1 with rfl | ⟨_, rfl⟩ <;> rfl) w1 ?_
  refine q_lg (u := .ref 54) (ok := isA) rfl rfl (fun _ _ => rfl) (by rcases w1 with rfl | ⟨_, rfl⟩ <;> rfl) rfl ?_
  obtain ⟨z10, e11, q12, H⟩ := H
  refine q_gv rfl rfl rfl (by decide) rfl e11 ?_
  obtain ⟨j13, rfl, H⟩ := H
  obtain ⟨t14, H⟩ := H
  obtain ⟨t15, H⟩ := H
  refine q_pd rfl t14 t15 (by decide) rfl (fits_q q12) rfl ?_
  refine q_l rfl rfl rfl ?_
  refine q_l rfl rfl rfl ?_
  refine q_gr (t := 20) rfl rfl rfl (by decide) rfl ?_
  refine q_l rfl rfl rfl ?_
  obtain ⟨g16, H⟩ := H
  refine q_gi rfl rfl rfl (by decide) rfl rfl ?_
  refine q_rn (v := rowv 128 m9 28 (m9 54 3)) rfl rfl rfl rfl rfl (by decide) rfl (R_Tr_second20 g16) (fun q17 => ?_)
  obtain ⟨h18, m18, R18, H⟩ := H
  refine q_iv rfl rfl rfl (fun S => S.t 54 rfl) (by decide) rfl R18 ?_
  obtain ⟨rfl, rfl, rfl⟩ := H
  exact q_r rfl rfl rfl
def B_Mc_fits_64 (d : Nat) (x1 : Int) (x2 : Value) (h : mHp) (σ : Mem) (r : mRes) (h' : mHp) (σ' : Mem) : Prop := ∃ j1, x2 = .ref j1 ∧ ((100 ≤ j1) ∧ ((hTag h j1 = 8) ∧ (∃ z4, hAt h j1 1 = vi z4 ∧ rg z4 ∧ (if z4 ≠ rowv 128 σ 24 x1 then (r = .inl (some (vi 0)) ∧ h' = h ∧ σ' = σ) else (r = .inl (some (vi 1)) ∧ h' = h ∧ σ' = σ)))))
theorem K_Mc_fits_64 {d : Nat} {x1 : Int} {x2 : Value} {h h' : mHp} {σ σ' : Mem} {r : mRes} (hx1 : rg x1) (hx2 : isQ x2) (H : B_Mc_fits_64 d x1 x2 h σ r h' σ') : Lh (d + 2) yMc_fits 64 [(0, .ref 54), (1, vi x1), (2, x2)] [] h σ r h' σ' := by
  unfold B_Mc_fits_64 at H
  refine q_lq (u := x2) rfl rfl (fun _ _ => rfl) (by rcases hx2 with rfl | ⟨_, rfl⟩ <;> rfl) hx2 ?_
  obtain ⟨j1, rfl, H⟩ := H
  obtain ⟨t2, H⟩ := H
  obtain ⟨t3, H⟩ := H
  obtain ⟨z4, e5, g6, H⟩ := H
  refine q_gd rfl t2 t3 (by decide) e5 ?_
  refine q_l rfl rfl rfl ?_
  refine q_gr (t := 20) rfl rfl rfl (by decide) rfl ?_
  refine q_l rfl rfl rfl ?_
  refine q_rn (v := rowv 128 σ 24 x1) rfl rfl rfl rfl rfl (by decide) rfl (R_Tr_number20 hx1) (fun q7 => ?_)
  by_cases c8 : z4 ≠ rowv 128 σ 24 x1
  · rw [if_pos c8] at H
    refine q_c rfl (by decide) g6 q7 (q := true) (decide_eq_true c8) rfl ?_
    refine q_p rfl rfl rfl ?_
    obtain ⟨rfl, rfl, rfl⟩ := H
    exact q_r rfl rfl rfl
  · rw [if_neg c8] at H
    refine q_c rfl (by decide) g6 q7 (q := false) (decide_eq_false c8) rfl ?_
    refine q_p rfl rfl rfl ?_
    refine q_b rfl rfl rfl rfl ?_
    obtain ⟨rfl, rfl, rfl⟩ := H
    exact q_r rfl rfl rfl
def B_Mc_fits (d : Nat) (x1 : Int) (x2 : Value) (x3 : Int) (h : mHp) (σ : Mem) (r : mRes) (h' : mHp) (σ' : Mem) : Prop := (x2 = .null ∧ r = .inl (some (vi 0)) ∧ h' = h ∧ σ' = σ) ∨ (∃ j1, x2 = .ref j1 ∧ if x3 ≤ 16 then (if rowv 128 σ 22 x1 = 0 then (B_Mc_fits_64 d x1 (.ref j1) h σ r h' σ') else (if rowv 128 σ 22 x1 = 2 then (B_Mc_fits_64 d x1 (.ref j1) h σ r h' σ') else (if rowv 128 σ 22 x1 = 3 then (B_Mc_fits_64 d x1 (.ref j1) h σ r h' σ') else (if rowv 128 σ 22 x1 = 10 then ((100 ≤ j1) ∧ ((hTag h j1 = 8) ∧ (∃ z10, hAt h j1 1 = vi z10 ∧ rg z10 ∧ (if z10 ≤ 0 then (r = .inl (some (vi 0)) ∧ h' = h ∧ σ' = σ) else (∃ z15, hAt h j1 3 = z15 ∧ isQ z15 ∧ (∃ (v18 : Int) (h18 : mHp) (m18 : Mem), Rh (d + 2) yMc_fits [.ref 54, vi (rowv 128 σ 26 x1), z15, vi (x3 + 1)] h σ (.inl (some (vi v18))) h18 m18 ∧ rg v18 ∧ (if v18 = 0 then (r = .inl (some (vi 0)) ∧ h' = h18 ∧ σ' = m18) else ((100 ≤ j1) ∧ ((hTag h18 j1 = 8) ∧ (∃ z23, hAt h18 j1 4 = z23 ∧ isQ z23 ∧ (∃ (v26 : Int) (h26 : mHp) (m26 : Mem), Rh (d + 2) yMc_fits [.ref 54, vi (rowv 128 m18 28 x1), z23, vi (x3 + 1)] h18 m18 (.inl (some (vi v26))) h26 m26 ∧ rg v26 ∧ (if v26 = 0 then (r = .inl (some (vi 0)) ∧ h' = h26 ∧ σ' = m26) else (r = .inl (some (vi 1)) ∧ h' = h26 ∧ σ' = m26))))))))))))) else (r = .inl (some (vi 1)) ∧ h' = h ∧ σ' = σ))))) else (r = .inl (some (vi 0)) ∧ h' = h ∧ σ' = σ))
theorem M_Mc_fits {d : Nat} {x1 : Int} {x2 : Value} {x3 : Int} {h h' : mHp} {σ σ' : Mem} {r : mRes} (hx1 : rg x1) (hx2 : isQ x2) (hx3 : rg x3) (H : B_Mc_fits d x1 x2 x3 h σ r h' σ') : Rh (d + 3) yMc_fits [.ref 54, vi x1, x2, vi x3] h σ r h' σ' := by
  refine q_mv (lv := [(0, .ref 54), (1, vi x1), (2, x2), (3, vi x3)]) (by rcases hx2 with rfl | ⟨_, rfl⟩ <;> exact Nat.le_of_ble_eq_true rfl) (by rcases hx2 with rfl | ⟨_, rfl⟩ <;> rfl) ?_
  unfold B_Mc_fits at H
  refine q_lq (u := x2) rfl rfl (fun _ _ => rfl) (by rcases hx2 with rfl | ⟨_, rfl⟩ <;> rfl) hx2 ?_
  rcases H with ⟨rfl, H⟩ | ⟨j1, rfl, H⟩
  · refine q_b rfl rfl rfl rfl ?_
    refine q_p rfl rfl rfl ?_
    obtain ⟨rfl, rfl, rfl⟩ := H
    exact q_r rfl rfl rfl
  · refine q_b rfl rfl rfl rfl ?_
    refine q_l rfl rfl rfl ?_
    refine q_k (x := 16) rfl rfl rfl rfl ?_
    by_cases c2 : x3 ≤ 16
    · rw [if_pos c2] at H
      refine q_c rfl (by decide) hx3 (rgk rfl) (q := true) (decide_eq_true c2) rfl ?_
      refine q_l rfl rfl rfl ?_
      refine q_gr (t := 20) rfl rfl rfl (by decide) rfl ?_
      refine q_l rfl rfl rfl ?_
      refine q_rn (v := rowv 128 σ 22 x1) rfl rfl rfl rfl rfl (by decide) rfl (R_Tr_kind20 hx1) (fun q3 => ?_)
      by_cases c4 : rowv 128 σ 22 x1 = 0
      · rw [if_pos c4] at H
        refine q_sw rfl rfl c4 rfl rfl ?_
        exact q_lab (K_Mc_fits_64 hx1 isQ.j H) (lvS_cons rfl rfl (lvS_cons rfl rfl (lvS_cons rfl rfl lvS_nil)))
      rw [if_neg c4] at H
      by_cases c5 : rowv 128 σ 22 x1 = 2
      · rw [if_pos c5] at H
        refine q_sw rfl rfl c5 rfl rfl ?_
        exact q_lab (K_Mc_fits_64 hx1 isQ.j H) (lvS_cons rfl rfl (lvS_cons rfl rfl (lvS_cons rfl rfl lvS_nil)))
      rw [if_neg c5] at H
      by_cases c6 : rowv 128 σ 22 x1 = 3
      · rw [if_pos c6] at H
        refine q_sw rfl rfl c6 rfl rfl ?_
        exact q_lab (K_Mc_fits_64 hx1 isQ.j H) (lvS_cons rfl rfl (lvS_cons rfl rfl (lvS_cons rfl rfl lvS_nil)))
      rw [if_neg c6] at H
      by_cases c7 : rowv 128 σ 22 x1 = 10
      · rw [if_pos c7] at H
        refine q_sw rfl rfl c7 rfl rfl ?_
        refine q_l rfl rfl rfl ?_
        obtain ⟨t8, H⟩ := H
        obtain ⟨t9, H⟩ := H
        obtain ⟨z10, e11, g12, H⟩ := H
        refine q_gd rfl t8 t9 (by decide) e11 ?_
        by_cases c13 : z10 ≤ 0
        · rw [if_pos c13] at H
          refine q_z rfl (by decide) g12 (q := true) (decide_eq_true c13) rfl ?_
          refine q_p rfl rfl rfl ?_
          obtain ⟨rfl, rfl, rfl⟩ := H
          exact q_r rfl rfl rfl
        · rw [if_neg c13] at H
          refine q_z rfl (by decide) g12 (q := false) (decide_eq_false c13) rfl ?_
          refine q_l rfl rfl rfl ?_
          refine q_l rfl rfl rfl ?_
          refine q_gr (t := 20) rfl rfl rfl (by decide) rfl ?_
          refine q_l rfl rfl rfl ?_
          refine q_rn (v := rowv 128 σ 26 x1) rfl rfl rfl rfl rfl (by decide) rfl (R_Tr_first20 hx1) (fun q14 => ?_)
          refine q_l rfl rfl rfl ?_
          obtain ⟨z15, e16, q17, H⟩ := H
          refine q_gd rfl t8 t9 (by decide) e16 ?_
          refine q_lg (u := vi x3) (ok := isI) rfl rfl (fun _ _ => rfl) (by rcases q17 with rfl | ⟨_, rfl⟩ <;> rfl) rfl ?_
          refine q_p rfl rfl rfl ?_
          refine q_add rfl ?_
          obtain ⟨v18, h18, m18, R18, w18, H⟩ := H
          refine q_iv rfl rfl rfl (fun S => S.t 54 rfl) (by decide) rfl R18 ?_
          by_cases c19 : v18 = 0
          · rw [if_pos c19] at H
            refine q_z rfl (by decide) w18 (q := true) (decide_eq_true c19) rfl ?_
            refine q_p rfl rfl rfl ?_
            obtain ⟨rfl, rfl, rfl⟩ := H
            exact q_r rfl rfl rfl
          · rw [if_neg c19] at H
            refine q_z rfl (by decide) w18 (q := false) (decide_eq_false c19) rfl ?_
            refine q_l rfl rfl rfl ?_
            refine q_l rfl rfl rfl ?_
            refine q_gr (t := 20) rfl rfl rfl (by decide) rfl ?_
            refine q_l rfl rfl rfl ?_
            refine q_rn (v := rowv 128 m18 28 x1) rfl rfl rfl rfl rfl (by decide) rfl (R_Tr_second20 hx1) (fun q20 => ?_)
            refine q_l rfl rfl rfl ?_
            obtain ⟨t21, H⟩ := H
            obtain ⟨t22, H⟩ := H
            obtain ⟨z23, e24, q25, H⟩ := H
            refine q_gd rfl t21 t22 (by decide) e24 ?_
            refine q_lg (u := vi x3) (ok := isI) rfl rfl (fun _ _ => rfl) (by rcases q25 with rfl | ⟨_, rfl⟩ <;> rfl) rfl ?_
            refine q_p rfl rfl rfl ?_
            refine q_add rfl ?_
            obtain ⟨v26, h26, m26, R26, w26, H⟩ := H
            refine q_iv rfl rfl rfl (fun S => S.t 54 rfl) (by decide) rfl R26 ?_
            by_cases c27 : v26 = 0
            · rw [if_pos c27] at H
              refine q_z rfl (by decide) w26 (q := true) (decide_eq_true c27) rfl ?_
              refine q_p rfl rfl rfl ?_
              obtain ⟨rfl, rfl, rfl⟩ := H
              exact q_r rfl rfl rfl
            · rw [if_neg c27] at H
              refine q_z rfl (by decide) w26 (q := false) (decide_eq_false c27) rfl ?_
              refine q_p rfl rfl rfl ?_
              refine q_b rfl rfl rfl rfl ?_
              obtain ⟨rfl, rfl, rfl⟩ := H
              exact q_r rfl rfl rfl
      rw [if_neg c7] at H
      refine q_lsd rfl q3 (by decide) (fun q hq => ?_) rfl ?_
      · simp only [List.mem_cons, List.not_mem_nil, or_false] at hq
        rcases hq with rfl | rfl | rfl | rfl
        · exact c4
        · exact c5
        · exact c6
        · exact c7
      refine q_p rfl rfl rfl ?_
      obtain ⟨rfl, rfl, rfl⟩ := H
      exact q_r rfl rfl rfl
    · rw [if_neg c2] at H
      refine q_c rfl (by decide) hx3 (rgk rfl) (q := false) (decide_eq_false c2) rfl ?_
      refine q_p rfl rfl rfl ?_
      obtain ⟨rfl, rfl, rfl⟩ := H
      exact q_r rfl rfl rfl
def B_Mc_bind (d : Nat) (x1 : Int) (x2 : Value) (x3 : Value) (x4 : Int) (h : mHp) (σ : Mem) (r : mRes) (h' : mHp) (σ' : Mem) : Prop := (x2 = .null ∧ r = .inl (some (x3)) ∧ h' = h ∧ σ' = σ) ∨ (∃ j1, x2 = .ref j1 ∧ if x4 ≤ 16 then (if rowv 128 σ 22 x1 = 6 then ((100 ≤ (h.1)) ∧ ((hTag (nwO h 10) (h.1) = 10) ∧ (∃ h8 m8, Rh (d + 2) ySc_init [.ref (h.1), vi (rowv 128 σ 24 x1), .ref j1, x3] (nwO h 10) σ (.inl none) h8 m8 ∧ (r = .inl (some (.ref (h.1))) ∧ h' = h8 ∧ σ' = m8)))) else (if rowv 128 σ 22 x1 = 10 then ((100 ≤ j1) ∧ ((hTag h j1 = 8) ∧ (∃ z13, hAt h j1 3 = z13 ∧ isQ z13 ∧ (∃ v16 h16 m16, Rh (d + 2) yMc_bind [.ref 54, vi (rowv 128 σ 26 x1), z13, x3, vi (x4 + 1)] h σ (.inl (some v16)) h16 m16 ∧ isQ v16 ∧ ((100 ≤ j1) ∧ ((hTag h16 j1 = 8) ∧ (∃ z20, hAt h16 j1 4 = z20 ∧ isQ z20 ∧ (∃ v23 h23 m23, Rh (d + 2) yMc_bind [.ref 54, vi (rowv 128 m16 28 x1), z20, v16, vi (x4 + 1)] h16 m16 (.inl (some v23)) h23 m23 ∧ isQ v23 ∧ (r = .inl (some (v23)) ∧ h' = h23 ∧ σ' = m23))))))))) else (r = .inl (some (x3)) ∧ h' = h ∧ σ' = σ))) else (r = .inl (some (x3)) ∧ h' = h ∧ σ' = σ))
theorem M_Mc_bind {d : Nat} {x1 : Int} {x2 : Value} {x3 : Value} {x4 : Int} {h h' : mHp} {σ σ' : Mem} {r : mRes} (hx1 : rg x1) (hx2 : isQ x2) (hx3 : isQ x3) (hx4 : rg x4) (H : B_Mc_bind d x1 x2 x3 x4 h σ r h' σ') : Rh (d + 3) yMc_bind [.ref 54, vi x1, x2, x3, vi x4] h σ r h' σ' := by
  refine q_mv (lv := [(0, .ref 54), (1, vi x1), (2, x2), (3, x3), (4, vi x4)]) (by rcases hx2 with rfl | ⟨_, rfl⟩ <;> rcases hx3 with rfl | ⟨_, rfl⟩ <;> exact Nat.le_of_ble_eq_true rfl) (by rcases hx2 with rfl | ⟨_, rfl⟩ <;> rcases hx3 with rfl | ⟨_, rfl⟩ <;> rfl) ?_
  unfold B_Mc_bind at H
  refine q_lq (u := x2) rfl rfl (fun _ _ => rfl) (by rcases hx2 with rfl | ⟨_, rfl⟩ <;> rcases hx3 with rfl | ⟨_, rfl⟩ <;> rfl) hx2 ?_
  rcases H with ⟨rfl, H⟩ | ⟨j1, rfl, H⟩
  · refine q_b rfl rfl rfl rfl ?_
    refine q_lq (u := x3) rfl rfl (fun _ _ => rfl) (by rcases hx3 with rfl | ⟨_, rfl⟩ <;> rfl) hx3 ?_
    obtain ⟨rfl, rfl, rfl⟩ := H
    exact q_r rfl rfl (ret_q hx3 rfl)
  · refine q_b rfl rfl rfl rfl ?_
    refine q_lg (u := vi x4) (ok := isI) rfl rfl (fun _ _ => rfl) (by rcases hx3 with rfl | ⟨_, rfl⟩ <;> rfl) rfl ?_
    refine q_k (x := 16) rfl rfl rfl rfl ?_
    by_cases c2 : x4 ≤ 16
    · rw [if_pos c2] at H
      refine q_c rfl (by decide) hx4 (rgk rfl) (q := true) (decide_eq_true c2) rfl ?_
      refine q_lg (u := .ref 54) (ok := isA) rfl rfl (fun _ _ => rfl) (by rcases hx3 with rfl | ⟨_, rfl⟩ <;> rfl) rfl ?_
      refine q_gr (t := 20) rfl rfl rfl (by decide) rfl ?_
      refine q_lg (u := vi x1) (ok := isI) rfl rfl (fun _ _ => rfl) (by rcases hx3 with rfl | ⟨_, rfl⟩ <;> rfl) rfl ?_
      refine q_rn (v := rowv 128 σ 22 x1) rfl rfl rfl rfl rfl (by decide) (by rcases hx3 with rfl | ⟨_, rfl⟩ <;> rfl) (R_Tr_kind20 hx1) (fun q3 => ?_)
      by_cases c4 : rowv 128 σ 22 x1 = 6
      · rw [if_pos c4] at H
        refine q_sw rfl rfl c4 rfl rfl ?_
        refine q_new rfl (by decide) ?_
        refine q_p rfl rfl rfl ?_
        refine q_lg (u := .ref 54) (ok := isA) rfl rfl (fun _ _ => rfl) (by rcases hx3 with rfl | ⟨_, rfl⟩ <;> rfl) rfl ?_
        refine q_gr (t := 20) rfl rfl rfl (by decide) rfl ?_
        refine q_lg (u := vi x1) (ok := isI) rfl rfl (fun _ _ => rfl) (by rcases hx3 with rfl | ⟨_, rfl⟩ <;> rfl) rfl ?_
        refine q_rn (v := rowv 128 σ 24 x1) rfl rfl rfl rfl rfl (by decide) (by rcases hx3 with rfl | ⟨_, rfl⟩ <;> rfl) (R_Tr_number20 hx1) (fun q5 => ?_)
        refine q_lg (u := .ref j1) (ok := isA) rfl rfl (fun _ _ => rfl) (by rcases hx3 with rfl | ⟨_, rfl⟩ <;> rfl) rfl ?_
        refine q_lq (u := x3) rfl rfl (fun _ _ => rfl) (by rcases hx3 with rfl | ⟨_, rfl⟩ <;> rfl) hx3 ?_
        obtain ⟨t6, H⟩ := H
        obtain ⟨t7, H⟩ := H
        obtain ⟨h8, m8, R8, H⟩ := H
        refine q_sp rfl (by decide) (by decide) rfl rfl (fun _ => t7) (by decide) (by rcases hx3 with rfl | ⟨_, rfl⟩ <;> rfl) R8 ?_
        obtain ⟨rfl, rfl, rfl⟩ := H
        exact q_r rfl rfl rfl
      rw [if_neg c4] at H
      by_cases c9 : rowv 128 σ 22 x1 = 10
      · rw [if_pos c9] at H
        refine q_sw rfl rfl c9 rfl rfl ?_
        refine q_lg (u := .ref 54) (ok := isA) rfl rfl (fun _ _ => rfl) (by rcases hx3 with rfl | ⟨_, rfl⟩ <;> rfl) rfl ?_
        refine q_lg (u := .ref 54) (ok := isA) rfl rfl (fun _ _ => rfl) (by rcases hx3 with rfl | ⟨_, rfl⟩ <;> rfl) rfl ?_
        refine q_gr (t := 20) rfl rfl rfl (by decide) rfl ?_
        refine q_lg (u := vi x1) (ok := isI) rfl rfl (fun _ _ => rfl) (by rcases hx3 with rfl | ⟨_, rfl⟩ <;> rfl) rfl ?_
        refine q_rn (v := rowv 128 σ 26 x1) rfl rfl rfl rfl rfl (by decide) (by rcases hx3 with rfl | ⟨_, rfl⟩ <;> rfl) (R_Tr_first20 hx1) (fun q10 => ?_)
        refine q_lg (u := .ref j1) (ok := isA) rfl rfl (fun _ _ => rfl) (by rcases hx3 with rfl | ⟨_, rfl⟩ <;> rfl) rfl ?_
        obtain ⟨t11, H⟩ := H
        obtain ⟨t12, H⟩ := H
        obtain ⟨z13, e14, q15, H⟩ := H
        refine q_gd rfl t11 t12 (by decide) e14 ?_
        refine q_lq (u := x3) rfl rfl (fun _ _ => rfl) (by rcases hx3 with rfl | ⟨_, rfl⟩ <;> rcases q15 with rfl | ⟨_, rfl⟩ <;> rfl) hx3 ?_
        refine q_lg (u := vi x4) (ok := isI) rfl rfl (fun _ _ => rfl) (by rcases hx3 with rfl | ⟨_, rfl⟩ <;> rcases q15 with rfl | ⟨_, rfl⟩ <;> rfl) rfl ?_
        refine q_p rfl rfl rfl ?_
        refine q_add rfl ?_
        obtain ⟨v16, h16, m16, R16, w16, H⟩ := H
        refine q_iv rfl rfl rfl (fun S => S.t 54 rfl) (by decide) (by rcases hx3 with rfl | ⟨_, rfl⟩ <;> rfl) R16 ?_
        refine q_sq rfl rfl (fun _ _ => rfl) w16 (by decide) ?_
        refine q_lg (u := .ref 54) (ok := isA) rfl rfl (fun _ _ => rfl) (by rcases hx3 with rfl | ⟨_, rfl⟩ <;> rcases w16 with rfl | ⟨_, rfl⟩ <;> rfl) rfl ?_
        refine q_lg (u := .ref 54) (ok := isA) rfl rfl (fun _ _ => rfl) (by rcases hx3 with rfl | ⟨_, rfl⟩ <;> rcases w16 with rfl | ⟨_, rfl⟩ <;> rfl) rfl ?_
        refine q_gr (t := 20) rfl rfl rfl (by decide) rfl ?_
        refine q_lg (u := vi x1) (ok := isI) rfl rfl (fun _ _ => rfl) (by rcases hx3 with rfl | ⟨_, rfl⟩ <;> rcases w16 with rfl | ⟨_, rfl⟩ <;> rfl) rfl ?_
        refine q_rn (v := rowv 128 m16 28 x1) rfl rfl rfl rfl rfl (by decide) (by rcases hx3 with rfl | ⟨_, rfl⟩ <;> rcases w16 with rfl | ⟨_, rfl⟩ <;> rfl) (R_Tr_second20 hx1) (fun q17 => ?_)
        refine q_lg (u := .ref j1) (ok := isA) rfl rfl (fun _ _ => rfl) (by rcases hx3 with rfl | ⟨_, rfl⟩ <;> rcases w16 with rfl | ⟨_, rfl⟩ <;> rfl) rfl ?_
        obtain ⟨t18, H⟩ := H
        obtain ⟨t19, H⟩ := H
        obtain ⟨z20, e21, q22, H⟩ := H
        refine q_gd rfl t18 t19 (by decide) e21 ?_
        refine q_lq (u := v16) rfl rfl (fun _ _ => rfl) (by rcases hx3 with rfl | ⟨_, rfl⟩ <;> rcases w16 with rfl | ⟨_, rfl⟩ <;> rcases q22 with rfl | ⟨_, rfl⟩ <;> rfl) w16 ?_
        refine q_lg (u := vi x4) (ok := isI) rfl rfl (fun _ _ => rfl) (by rcases hx3 with rfl | ⟨_, rfl⟩ <;> rcases w16 with rfl | ⟨_, rfl⟩ <;> rcases q22 with rfl | ⟨_, rfl⟩ <;> rfl) rfl ?_
        refine q_p rfl rfl rfl ?_
        refine q_add rfl ?_
        obtain ⟨v23, h23, m23, R23, w23, H⟩ := H
        refine q_iv rfl rfl rfl (fun S => S.t 54 rfl) (by decide) (by rcases hx3 with rfl | ⟨_, rfl⟩ <;> rcases w16 with rfl | ⟨_, rfl⟩ <;> rfl) R23 ?_
        obtain ⟨rfl, rfl, rfl⟩ := H
        exact q_r rfl rfl (ret_q w23 rfl)
      rw [if_neg c9] at H
      refine q_lsd rfl q3 (by decide) (fun q hq => ?_) rfl ?_
      · simp only [List.mem_cons, List.not_mem_nil, or_false] at hq
        rcases hq with rfl | rfl
        · exact c4
        · exact c9
      refine q_lq (u := x3) rfl rfl (fun _ _ => rfl) (by rcases hx3 with rfl | ⟨_, rfl⟩ <;> rfl) hx3 ?_
      obtain ⟨rfl, rfl, rfl⟩ := H
      exact q_r rfl rfl (ret_q hx3 rfl)
    · rw [if_neg c2] at H
      refine q_c rfl (by decide) hx4 (rgk rfl) (q := false) (decide_eq_false c2) rfl ?_
      refine q_lq (u := x3) rfl rfl (fun _ _ => rfl) (by rcases hx3 with rfl | ⟨_, rfl⟩ <;> rfl) hx3 ?_
      obtain ⟨rfl, rfl, rfl⟩ := H
      exact q_r rfl rfl (ret_q hx3 rfl)
def B_Mc_choose (d : Nat)  (h : mHp) (σ : Mem) (r : mRes) (h' : mHp) (σ' : Mem) : Prop := ∃ v1 h1 m1, Rh (d + 20) yMc_take [.ref 54] h σ (.inl (some v1)) h1 m1 ∧ isQ v1 ∧ ((rg (m1 54 3)) ∧ (Lh (d + 20) yMc_choose 19 [(0, .ref 54), (1, v1), (2, vi (rowv 128 m1 28 (m1 54 3))), (3, vi 0)] [] h1 m1 r h' σ'))
theorem M_Mc_choose {d : Nat}  {h h' : mHp} {σ σ' : Mem} {r : mRes}  (H : B_Mc_choose d  h σ r h' σ') : Rh (d + 21) yMc_choose [.ref 54] h σ r h' σ' := by
  refine q_m (Nat.le_of_ble_eq_true rfl) ?_
  unfold B_Mc_choose at H
  refine q_l rfl rfl rfl ?_
  obtain ⟨v1, h1, m1, R1, w1, H⟩ := H
  refine q_iv rfl rfl rfl (fun S => S.t 54 rfl) (by decide) rfl R1 ?_
  refine q_sq rfl rfl (fun _ _ => rfl) w1 (by decide) ?_
  refine q_lg (u := .ref 54) (ok := isA) rfl rfl (fun _ _ => rfl) (by rcases w1 with rfl | ⟨_, rfl⟩ <;> rfl) rfl ?_
  refine q_gr (t := 20) rfl rfl rfl (by decide) rfl ?_
  refine q_lg (u := .ref 54) (ok := isA) rfl rfl (fun _ _ => rfl) (by rcases w1 with rfl | ⟨_, rfl⟩ <;> rfl) rfl ?_
  obtain ⟨g2, H⟩ := H
  refine q_gi rfl rfl rfl (by decide) rfl rfl ?_
  refine q_rn (v := rowv 128 m1 28 (m1 54 3)) rfl rfl rfl rfl rfl (by decide) (by rcases w1 with rfl | ⟨_, rfl⟩ <;> rfl) (R_Tr_second20 g2) (fun q3 => ?_)
  refine q_l rfl rfl rfl ?_
  refine q_p rfl rfl rfl ?_
  refine q_l rfl rfl rfl ?_
  exact q_lab H (lvS_cons (by rcases w1 with rfl | ⟨_, rfl⟩ <;> rfl) rfl (lvS_cons (by rcases w1 with rfl | ⟨_, rfl⟩ <;> rfl) rfl (lvS_cons (by rcases w1 with rfl | ⟨_, rfl⟩ <;> rfl) rfl (lvS_cons (by rcases w1 with rfl | ⟨_, rfl⟩ <;> rfl) rfl lvS_nil))))
def B_Mc_choose_94 (d : Nat)  (h : mHp) (σ : Mem) (r : mRes) (h' : mHp) (σ' : Mem) : Prop := ∃ h1 m1, Rh (d + 20) yMc_fail [.ref 54, vi 2] h σ (.inl none) h1 m1 ∧ (r = .inl none ∧ h' = h1 ∧ σ' = m1)
theorem K_Mc_choose_94 {d : Nat}  {h h' : mHp} {σ σ' : Mem} {r : mRes}  (H : B_Mc_choose_94 d  h σ r h' σ') : Lh (d + 20) yMc_choose 94 [(0, .ref 54)] [] h σ r h' σ' := by
  unfold B_Mc_choose_94 at H
  refine q_l rfl rfl rfl ?_
  refine q_p rfl rfl rfl ?_
  obtain ⟨h1, m1, R1, H⟩ := H
  refine q_iv rfl rfl rfl (fun S => S.t 54 rfl) (by decide) rfl R1 ?_
  obtain ⟨rfl, rfl, rfl⟩ := H
  exact q_r rfl rfl rfl
def B_Mc_choose_19 (d : Nat) (x1 : Value) (x2 : Int) (x3 : Int) (h : mHp) (σ : Mem) (r : mRes) (h' : mHp) (σ' : Mem) : Prop := if x3 ≥ 5 then (B_Mc_choose_94 d  h σ r h' σ') else (if x2 = (-1) then (B_Mc_choose_94 d  h σ r h' σ') else (∃ (v4 : Int) (h4 : mHp) (m4 : Mem), Rh (d + 20) yMc_fits [.ref 54, vi (rowv 128 σ 26 x2), x1, vi 0] h σ (.inl (some (vi v4))) h4 m4 ∧ rg v4 ∧ (if v4 = 0 then ((rg (x3 + 1)) ∧ (Lh (d + 20) yMc_choose 19 [(0, .ref 54), (1, x1), (2, vi (rowv 128 m4 30 x2)), (3, vi (x3 + 1))] [] h4 m4 r h' σ')) else (∃ z8, hAt h4 54 5 = z8 ∧ isQ z8 ∧ (∃ v11 h11 m11, Rh (d + 20) yMc_bind [.ref 54, vi (rowv 128 σ 26 x2), x1, z8, vi 0] h4 m4 (.inl (some v11)) h11 m11 ∧ isQ v11 ∧ (∃ h13 m13, Rh (d + 20) yMc_goInto [.ref 54, vi (rowv 128 m11 28 x2)] (hSet h11 54 5 v11) m11 (.inl none) h13 m13 ∧ (r = .inl none ∧ h' = h13 ∧ σ' = m13)))))))
theorem K_Mc_choose_19 {d : Nat} {x1 : Value} {x2 : Int} {x3 : Int} {h h' : mHp} {σ σ' : Mem} {r : mRes} (hx1 : isQ x1) (hx2 : rg x2) (hx3 : rg x3) (H : B_Mc_choose_19 d x1 x2 x3 h σ r h' σ') : Lh (d + 20) yMc_choose 19 [(0, .ref 54), (1, x1), (2, vi x2), (3, vi x3)] [] h σ r h' σ' := by
  unfold B_Mc_choose_19 at H
  refine q_lg (u := vi x3) (ok := isI) rfl rfl (fun _ _ => rfl) (by rcases hx1 with rfl | ⟨_, rfl⟩ <;> rfl) rfl ?_
  refine q_p rfl rfl rfl ?_
  by_cases c1 : x3 ≥ 5
  · rw [if_pos c1] at H
    refine q_c rfl (by decide) hx3 (rgk rfl) (q := true) (decide_eq_true c1) rfl ?_
    exact q_lab (K_Mc_choose_94  H) (lvS_cons (by rcases hx1 with rfl | ⟨_, rfl⟩ <;> rfl) rfl lvS_nil)
  · rw [if_neg c1] at H
    refine q_c rfl (by decide) hx3 (rgk rfl) (q := false) (decide_eq_false c1) rfl ?_
    refine q_lg (u := vi x2) (ok := isI) rfl rfl (fun _ _ => rfl) (by rcases hx1 with rfl | ⟨_, rfl⟩ <;> rfl) rfl ?_
    refine q_p rfl rfl rfl ?_
    by_cases c2 : x2 = (-1)
    · rw [if_pos c2] at H
      refine q_c rfl (by decide) hx2 (rgk rfl) (q := true) (decide_eq_true c2) rfl ?_
      exact q_lab (K_Mc_choose_94  H) (lvS_cons (by rcases hx1 with rfl | ⟨_, rfl⟩ <;> rfl) rfl lvS_nil)
    · rw [if_neg c2] at H
      refine q_c rfl (by decide) hx2 (rgk rfl) (q := false) (decide_eq_false c2) rfl ?_
      refine q_lg (u := .ref 54) (ok := isA) rfl rfl (fun _ _ => rfl) (by rcases hx1 with rfl | ⟨_, rfl⟩ <;> rfl) rfl ?_
      refine q_gr (t := 20) rfl rfl rfl (by decide) rfl ?_
      refine q_lg (u := vi x2) (ok := isI) rfl rfl (fun _ _ => rfl) (by rcases hx1 with rfl | ⟨_, rfl⟩ <;> rfl) rfl ?_
      refine q_rn (v := rowv 128 σ 26 x2) rfl rfl rfl rfl rfl (by decide) (by rcases hx1 with rfl | ⟨_, rfl⟩ <;> rfl) (R_Tr_first20 hx2) (fun q3 => ?_)
      refine q_l rfl rfl rfl ?_
      refine q_lg (u := .ref 54) (ok := isA) rfl rfl (fun _ _ => rfl) (by rcases hx1 with rfl | ⟨_, rfl⟩ <;> rfl) rfl ?_
      refine q_lg (u := vi (rowv 128 σ 26 x2)) (ok := isI) rfl rfl (fun _ _ => rfl) (by rcases hx1 with rfl | ⟨_, rfl⟩ <;> rfl) rfl ?_
      refine q_lq (u := x1) rfl rfl (fun _ _ => rfl) (by rcases hx1 with rfl | ⟨_, rfl⟩ <;> rfl) hx1 ?_
      refine q_p rfl rfl rfl ?_
      obtain ⟨v4, h4, m4, R4, w4, H⟩ := H
      refine q_iv rfl rfl rfl (fun S => S.t 54 rfl) (by decide) (by rcases hx1 with rfl | ⟨_, rfl⟩ <;> rfl) R4 ?_
      by_cases c5 : v4 = 0
      · rw [if_pos c5] at H
        refine q_z rfl (by decide) w4 (q := true) (decide_eq_true c5) rfl ?_
        refine q_lg (u := .ref 54) (ok := isA) rfl rfl (fun _ _ => rfl) (by rcases hx1 with rfl | ⟨_, rfl⟩ <;> rfl) rfl ?_
        refine q_gr (t := 20) rfl rfl rfl (by decide) rfl ?_
        refine q_lg (u := vi x2) (ok := isI) rfl rfl (fun _ _ => rfl) (by rcases hx1 with rfl | ⟨_, rfl⟩ <;> rfl) rfl ?_
        refine q_rn (v := rowv 128 m4 30 x2) rfl rfl rfl rfl rfl (by decide) (by rcases hx1 with rfl | ⟨_, rfl⟩ <;> rfl) (R_Tr_third20 hx2) (fun q6 => ?_)
        refine q_l rfl rfl rfl ?_
        refine q_inc (z := x3) rfl (by rcases hx1 with rfl | ⟨_, rfl⟩ <;> rfl) (by decide) ?_
        refine q_b rfl rfl rfl rfl ?_
        obtain ⟨g7, H⟩ := H
        exact q_lab H (lvS_cons (by rcases hx1 with rfl | ⟨_, rfl⟩ <;> rfl) rfl (lvS_cons (by rcases hx1 with rfl | ⟨_, rfl⟩ <;> rfl) rfl (lvS_cons (by rcases hx1 with rfl | ⟨_, rfl⟩ <;> rfl) rfl (lvS_cons (by rcases hx1 with rfl | ⟨_, rfl⟩ <;> rfl) rfl lvS_nil))))
      · rw [if_neg c5] at H
        refine q_z rfl (by decide) w4 (q := false) (decide_eq_false c5) rfl ?_
        refine q_lg (u := .ref 54) (ok := isA) rfl rfl (fun _ _ => rfl) (by rcases hx1 with rfl | ⟨_, rfl⟩ <;> rfl) rfl ?_
        refine q_lg (u := .ref 54) (ok := isA) rfl rfl (fun _ _ => rfl) (by rcases hx1 with rfl | ⟨_, rfl⟩ <;> rfl) rfl ?_
        refine q_lg (u := vi (rowv 128 σ 26 x2)) (ok := isI) rfl rfl (fun _ _ => rfl) (by rcases hx1 with rfl | ⟨_, rfl⟩ <;> rfl) rfl ?_
        refine q_lq (u := x1) rfl rfl (fun _ _ => rfl) (by rcases hx1 with rfl | ⟨_, rfl⟩ <;> rfl) hx1 ?_
        refine q_lg (u := .ref 54) (ok := isA) rfl rfl (fun _ _ => rfl) (by rcases hx1 with rfl | ⟨_, rfl⟩ <;> rfl) rfl ?_
        obtain ⟨z8, e9, q10, H⟩ := H
        refine q_gv rfl rfl rfl (by decide) rfl e9 ?_
        refine q_p rfl rfl rfl ?_
        obtain ⟨v11, h11, m11, R11, w11, H⟩ := H
        refine q_iv rfl rfl rfl (fun S => S.t 54 rfl) (by decide) (by rcases hx1 with rfl | ⟨_, rfl⟩ <;> rfl) R11 ?_
        refine q_pv rfl rfl rfl (by decide) rfl rfl rfl (fits_q w11) rfl ?_
        refine q_lg (u := .ref 54) (ok := isA) rfl rfl (fun _ _ => rfl) (by rcases hx1 with rfl | ⟨_, rfl⟩ <;> rfl) rfl ?_
        refine q_lg (u := .ref 54) (ok := isA) rfl rfl (fun _ _ => rfl) (by rcases hx1 with rfl | ⟨_, rfl⟩ <;> rfl) rfl ?_
        refine q_gr (t := 20) rfl rfl rfl (by decide) rfl ?_
        refine q_lg (u := vi x2) (ok := isI) rfl rfl (fun _ _ => rfl) (by rcases hx1 with rfl | ⟨_, rfl⟩ <;> rfl) rfl ?_
        refine q_rn (v := rowv 128 m11 28 x2) rfl rfl rfl rfl rfl (by decide) (by rcases hx1 with rfl | ⟨_, rfl⟩ <;> rfl) (R_Tr_second20 hx2) (fun q12 => ?_)
        obtain ⟨h13, m13, R13, H⟩ := H
        refine q_iv rfl rfl rfl (fun S => S.t 54 rfl) (by decide) (by rcases hx1 with rfl | ⟨_, rfl⟩ <;> rfl) R13 ?_
        obtain ⟨rfl, rfl, rfl⟩ := H
        exact q_r rfl rfl rfl
def B_Mc_step_206 (d : Nat)  (h : mHp) (σ : Mem) (r : mRes) (h' : mHp) (σ' : Mem) : Prop := ∃ h1 m1, Rh (d + 21) yMc_choose [.ref 54] h σ (.inl none) h1 m1 ∧ (r = .inl none ∧ h' = h1 ∧ σ' = m1)
theorem K_Mc_step_206 {d : Nat}  {h h' : mHp} {σ σ' : Mem} {r : mRes}  (H : B_Mc_step_206 d  h σ r h' σ') : Lh (d + 21) yMc_step 206 [(0, .ref 54)] [] h σ r h' σ' := by
  unfold B_Mc_step_206 at H
  refine q_l rfl rfl rfl ?_
  obtain ⟨h1, m1, R1, H⟩ := H
  refine q_iv rfl rfl rfl (fun S => S.t 54 rfl) (by decide) rfl R1 ?_
  obtain ⟨rfl, rfl, rfl⟩ := H
  exact q_r rfl rfl rfl
def B_Mc_step_200 (d : Nat) (t1 : Int) (h : mHp) (σ : Mem) (r : mRes) (h' : mHp) (σ' : Mem) : Prop := ∃ h1 m1, Rh (d + 21) yMc_goInto [.ref 54, vi t1] h σ (.inl none) h1 m1 ∧ (r = .inl none ∧ h' = h1 ∧ σ' = m1)
theorem K_Mc_step_200 {d : Nat} {t1 : Int} {h h' : mHp} {σ σ' : Mem} {r : mRes} (ht1 : rg t1) (H : B_Mc_step_200 d t1 h σ r h' σ') : Lh (d + 21) yMc_step 200 [] [vi t1, .ref 54] h σ r h' σ' := by
  unfold B_Mc_step_200 at H
  obtain ⟨h1, m1, R1, H⟩ := H
  refine q_iv rfl rfl rfl (fun S => S.t 54 rfl) (by decide) rfl R1 ?_
  refine q_b rfl rfl rfl rfl ?_
  obtain ⟨rfl, rfl, rfl⟩ := H
  exact q_r rfl rfl rfl
def B_Mc_step (d : Nat)  (h : mHp) (σ : Mem) (r : mRes) (h' : mHp) (σ' : Mem) : Prop := (rg (σ 54 3)) ∧ (if rowv 128 σ 22 (σ 54 3) = 8 then (∃ v4 h4 m4, Rh (d + 21) yMc_take [.ref 54] h σ (.inl (some v4)) h4 m4 ∧ isQ v4 ∧ (∃ j5, v4 = .ref j5 ∧ ((100 ≤ j5) ∧ ((hTag h4 j5 = 8) ∧ (∃ z8, hAt h4 j5 2 = .double z8 ∧ (∃ v10 h10 m10, Rh (d + 21) yVa_ofReal [.double (FP.dneg z8)] h4 m4 (.inl (some v10)) h10 m10 ∧ isQ v10 ∧ (∃ h11 m11, Rh (d + 21) yMc_settle [.ref 54, v10] h10 m10 (.inl none) h11 m11 ∧ (r = .inl none ∧ h' = h11 ∧ σ' = m11)))))))) else (if rowv 128 σ 22 (σ 54 3) = 9 then (∃ h13 m13, Rh (d + 21) yMc_operate [.ref 54] h σ (.inl none) h13 m13 ∧ (r = .inl none ∧ h' = h13 ∧ σ' = m13)) else (if rowv 128 σ 22 (σ 54 3) = 10 then (∃ v15 h15 m15, Rh (d + 21) yMc_take [.ref 54] h σ (.inl (some v15)) h15 m15 ∧ isQ v15 ∧ (∃ v16 h16 m16, Rh (d + 21) yMc_take [.ref 54] h15 m15 (.inl (some v16)) h16 m16 ∧ isQ v16 ∧ (∃ v17 h17 m17, Rh (d + 21) yVa_ofList [v16, v15] h16 m16 (.inl (some v17)) h17 m17 ∧ isQ v17 ∧ (∃ h18 m18, Rh (d + 21) yMc_settle [.ref 54, v17] h17 m17 (.inl none) h18 m18 ∧ (r = .inl none ∧ h' = h18 ∧ σ' = m18))))) else (if rowv 128 σ 22 (σ 54 3) = 11 then (∃ h20 m20, Rh (d + 21) yMc_apply [.ref 54] h σ (.inl none) h20 m20 ∧ (r = .inl none ∧ h' = h20 ∧ σ' = m20)) else (if rowv 128 σ 22 (σ 54 3) = 12 then (B_Mc_step_206 d  h σ r h' σ') else (if rowv 128 σ 22 (σ 54 3) = 13 then (∃ v24 h24 m24, Rh (d + 21) yMc_take [.ref 54] (nwO h 10) σ (.inl (some v24)) h24 m24 ∧ isQ v24 ∧ (∃ z25, hAt h24 54 5 = z25 ∧ isQ z25 ∧ ((100 ≤ (h.1)) ∧ ((hTag h24 (h.1) = 10) ∧ (∃ h30 m30, Rh (d + 21) ySc_init [.ref (h.1), vi (rowv 128 σ 24 (σ 54 3)), v24, z25] h24 m24 (.inl none) h30 m30 ∧ ((rg (m30 54 3)) ∧ (∃ h33 m33, Rh (d + 21) yMc_goInto [.ref 54, vi (rowv 128 m30 28 (m30 54 3))] (hSet h30 54 5 (.ref (h.1))) m30 (.inl none) h33 m33 ∧ (r = .inl none ∧ h' = h33 ∧ σ' = m33)))))))) else (if rowv 128 σ 22 (σ 54 3) = 14 then (∃ h35 m35, Rh (d + 21) yMc_bindOwn [.ref 54] h σ (.inl none) h35 m35 ∧ (r = .inl none ∧ h' = h35 ∧ σ' = m35)) else (if rowv 128 σ 22 (σ 54 3) = 15 then (∃ v37 h37 m37, Rh (d + 21) yMc_take [.ref 54] h σ (.inl (some v37)) h37 m37 ∧ isQ v37 ∧ (∃ j38, v37 = .ref j38 ∧ ((100 ≤ j38) ∧ ((hTag h37 j38 = 8) ∧ (∃ z41, hAt h37 j38 1 = vi z41 ∧ rg z41 ∧ (if z41 ≠ 1 then ((rg (m37 54 3)) ∧ (B_Mc_step_200 d (rowv 128 m37 30 (m37 54 3)) h37 m37 r h' σ')) else ((rg (m37 54 3)) ∧ (B_Mc_step_200 d (rowv 128 m37 28 (m37 54 3)) h37 m37 r h' σ')))))))) else (B_Mc_step_206 d  h σ r h' σ')))))))))
theorem M_Mc_step {d : Nat}  {h h' : mHp} {σ σ' : Mem} {r : mRes}  (H : B_Mc_step d  h σ r h' σ') : Rh (d + 22) yMc_step [.ref 54] h σ r h' σ' := by
  refine q_m (Nat.le_of_ble_eq_true rfl) ?_
  unfold B_Mc_step at H
  refine q_l rfl rfl rfl ?_
  refine q_gr (t := 20) rfl rfl rfl (by decide) rfl ?_
  refine q_l rfl rfl rfl ?_
  obtain ⟨g1, H⟩ := H
  refine q_gi rfl rfl rfl (by decide) rfl rfl ?_
  refine q_rn (v := rowv 128 σ 22 (σ 54 3)) rfl rfl rfl rfl rfl (by decide) rfl (R_Tr_kind20 g1) (fun q2 => ?_)
  by_cases c3 : rowv 128 σ 22 (σ 54 3) = 8
  · rw [if_pos c3] at H
    refine q_sw rfl rfl c3 rfl rfl ?_
    refine q_l rfl rfl rfl ?_
    refine q_l rfl rfl rfl ?_
    obtain ⟨v4, h4, m4, R4, w4, H⟩ := H
    refine q_iv rfl rfl rfl (fun S => S.t 54 rfl) (by decide) rfl R4 ?_
    obtain ⟨j5, rfl, H⟩ := H
    obtain ⟨t6, H⟩ := H
    obtain ⟨t7, H⟩ := H
    obtain ⟨z8, e9, H⟩ := H
    refine q_gd rfl t6 t7 (by decide) e9 ?_
    refine q_p rfl rfl rfl ?_
    obtain ⟨v10, h10, m10, R10, w10, H⟩ := H
    refine q_is rfl (by decide) (Nat.le_of_ble_eq_true rfl) rfl rfl rfl R10 ?_
    obtain ⟨h11, m11, R11, H⟩ := H
    refine q_iv rfl rfl rfl (fun S => S.t 54 rfl) (by decide) rfl R11 ?_
    refine q_b rfl rfl rfl rfl ?_
    obtain ⟨rfl, rfl, rfl⟩ := H
    exact q_r rfl rfl rfl
  rw [if_neg c3] at H
  by_cases c12 : rowv 128 σ 22 (σ 54 3) = 9
  · rw [if_pos c12] at H
    refine q_sw rfl rfl c12 rfl rfl ?_
    refine q_l rfl rfl rfl ?_
    obtain ⟨h13, m13, R13, H⟩ := H
    refine q_iv rfl rfl rfl (fun S => S.t 54 rfl) (by decide) rfl R13 ?_
    refine q_b rfl rfl rfl rfl ?_
    obtain ⟨rfl, rfl, rfl⟩ := H
    exact q_r rfl rfl rfl
  rw [if_neg c12] at H
  by_cases c14 : rowv 128 σ 22 (σ 54 3) = 10
  · rw [if_pos c14] at H
    refine q_sw rfl rfl c14 rfl rfl ?_
    refine q_l rfl rfl rfl ?_
    obtain ⟨v15, h15, m15, R15, w15, H⟩ := H
    refine q_iv rfl rfl rfl (fun S => S.t 54 rfl) (by decide) rfl R15 ?_
    refine q_sq rfl rfl (fun _ _ => rfl) w15 (by decide) ?_
    refine q_lg (u := .ref 54) (ok := isA) rfl rfl (fun _ _ => rfl) (by rcases w15 with rfl | ⟨_, rfl⟩ <;> rfl) rfl ?_
    refine q_lg (u := .ref 54) (ok := isA) rfl rfl (fun _ _ => rfl) (by rcases w15 with rfl | ⟨_, rfl⟩ <;> rfl) rfl ?_
    obtain ⟨v16, h16, m16, R16, w16, H⟩ := H
    refine q_iv rfl rfl rfl (fun S => S.t 54 rfl) (by decide) (by rcases w15 with rfl | ⟨_, rfl⟩ <;> rfl) R16 ?_
    refine q_lq (u := v15) rfl rfl (fun _ _ => rfl) (by rcases w15 with rfl | ⟨_, rfl⟩ <;> rcases w16 with rfl | ⟨_, rfl⟩ <;> rfl) w15 ?_
    obtain ⟨v17, h17, m17, R17, w17, H⟩ := H
    refine q_is rfl (by decide) (Nat.le_of_ble_eq_true rfl) rfl rfl (by rcases w15 with rfl | ⟨_, rfl⟩ <;> rfl) R17 ?_
    obtain ⟨h18, m18, R18, H⟩ := H
    refine q_iv rfl rfl rfl (fun S => S.t 54 rfl) (by decide) (by rcases w15 with rfl | ⟨_, rfl⟩ <;> rfl) R18 ?_
    refine q_b rfl rfl rfl rfl ?_
    obtain ⟨rfl, rfl, rfl⟩ := H
    exact q_r rfl rfl rfl
  rw [if_neg c14] at H
  by_cases c19 : rowv 128 σ 22 (σ 54 3) = 11
  · rw [if_pos c19] at H
    refine q_sw rfl rfl c19 rfl rfl ?_
    refine q_l rfl rfl rfl ?_
    obtain ⟨h20, m20, R20, H⟩ := H
    refine q_iv rfl rfl rfl (fun S => S.t 54 rfl) (by decide) rfl R20 ?_
    refine q_b rfl rfl rfl rfl ?_
    obtain ⟨rfl, rfl, rfl⟩ := H
    exact q_r rfl rfl rfl
  rw [if_neg c19] at H
  by_cases c21 : rowv 128 σ 22 (σ 54 3) = 12
  · rw [if_pos c21] at H
    refine q_sw rfl rfl c21 rfl rfl ?_
    exact q_lab (K_Mc_step_206  H) (lvS_cons rfl rfl lvS_nil)
  rw [if_neg c21] at H
  by_cases c22 : rowv 128 σ 22 (σ 54 3) = 13
  · rw [if_pos c22] at H
    refine q_sw rfl rfl c22 rfl rfl ?_
    refine q_l rfl rfl rfl ?_
    refine q_new rfl (by decide) ?_
    refine q_p rfl rfl rfl ?_
    refine q_l rfl rfl rfl ?_
    refine q_gr (t := 20) rfl rfl rfl (by decide) rfl ?_
    refine q_l rfl rfl rfl ?_
    refine q_gi rfl rfl rfl (by decide) rfl rfl ?_
    refine q_rn (v := rowv 128 σ 24 (σ 54 3)) rfl rfl rfl rfl rfl (by decide) rfl (R_Tr_number20 g1) (fun q23 => ?_)
    refine q_l rfl rfl rfl ?_
    obtain ⟨v24, h24, m24, R24, w24, H⟩ := H
    refine q_iv rfl rfl rfl (fun S => S.t 54 rfl) (by decide) rfl R24 ?_
    refine q_lg (u := .ref 54) (ok := isA) rfl rfl (fun _ _ => rfl) (by rcases w24 with rfl | ⟨_, rfl⟩ <;> rfl) rfl ?_
    obtain ⟨z25, e26, q27, H⟩ := H
    refine q_gv rfl rfl rfl (by decide) rfl e26 ?_
    obtain ⟨t28, H⟩ := H
    obtain ⟨t29, H⟩ := H
    obtain ⟨h30, m30, R30, H⟩ := H
    refine q_sp rfl (by decide) (by decide) rfl rfl (fun _ => t29) (by decide) rfl R30 ?_
    refine q_pv rfl rfl rfl (by decide) rfl rfl rfl rfl rfl ?_
    refine q_l rfl rfl rfl ?_
    refine q_l rfl rfl rfl ?_
    refine q_gr (t := 20) rfl rfl rfl (by decide) rfl ?_
    refine q_l rfl rfl rfl ?_
    obtain ⟨g31, H⟩ := H
    refine q_gi rfl rfl rfl (by decide) rfl rfl ?_
    refine q_rn (v := rowv 128 m30 28 (m30 54 3)) rfl rfl rfl rfl rfl (by decide) rfl (R_Tr_second20 g31) (fun q32 => ?_)
    obtain ⟨h33, m33, R33, H⟩ := H
    refine q_iv rfl rfl rfl (fun S => S.t 54 rfl) (by decide) rfl R33 ?_
    refine q_b rfl rfl rfl rfl ?_
    obtain ⟨rfl, rfl, rfl⟩ := H
    exact q_r rfl rfl rfl
  rw [if_neg c22] at H
  by_cases c34 : rowv 128 σ 22 (σ 54 3) = 14
  · rw [if_pos c34] at H
    refine q_sw rfl rfl c34 rfl rfl ?_
    refine q_l rfl rfl rfl ?_
    obtain ⟨h35, m35, R35, H⟩ := H
    refine q_iv rfl rfl rfl (fun S => S.t 54 rfl) (by decide) rfl R35 ?_
    refine q_b rfl rfl rfl rfl ?_
    obtain ⟨rfl, rfl, rfl⟩ := H
    exact q_r rfl rfl rfl
  rw [if_neg c34] at H
  by_cases c36 : rowv 128 σ 22 (σ 54 3) = 15
  · rw [if_pos c36] at H
    refine q_sw rfl rfl c36 rfl rfl ?_
    refine q_l rfl rfl rfl ?_
    refine q_l rfl rfl rfl ?_
    obtain ⟨v37, h37, m37, R37, w37, H⟩ := H
    refine q_iv rfl rfl rfl (fun S => S.t 54 rfl) (by decide) rfl R37 ?_
    obtain ⟨j38, rfl, H⟩ := H
    obtain ⟨t39, H⟩ := H
    obtain ⟨t40, H⟩ := H
    obtain ⟨z41, e42, g43, H⟩ := H
    refine q_gd rfl t39 t40 (by decide) e42 ?_
    refine q_p rfl rfl rfl ?_
    by_cases c44 : z41 ≠ 1
    · rw [if_pos c44] at H
      refine q_c rfl (by decide) g43 (rgk rfl) (q := true) (decide_eq_true c44) rfl ?_
      refine q_l rfl rfl rfl ?_
      refine q_gr (t := 20) rfl rfl rfl (by decide) rfl ?_
      refine q_l rfl rfl rfl ?_
      obtain ⟨g45, H⟩ := H
      refine q_gi rfl rfl rfl (by decide) rfl rfl ?_
      refine q_rn (v := rowv 128 m37 30 (m37 54 3)) rfl rfl rfl rfl rfl (by decide) rfl (R_Tr_third20 g45) (fun q46 => ?_)
      exact q_lab (K_Mc_step_200 q46 H) lvS_nil
    · rw [if_neg c44] at H
      refine q_c rfl (by decide) g43 (rgk rfl) (q := false) (decide_eq_false c44) rfl ?_
      refine q_l rfl rfl rfl ?_
      refine q_gr (t := 20) rfl rfl rfl (by decide) rfl ?_
      refine q_l rfl rfl rfl ?_
      obtain ⟨g47, H⟩ := H
      refine q_gi rfl rfl rfl (by decide) rfl rfl ?_
      refine q_rn (v := rowv 128 m37 28 (m37 54 3)) rfl rfl rfl rfl rfl (by decide) rfl (R_Tr_second20 g47) (fun q48 => ?_)
      refine q_b rfl rfl rfl rfl ?_
      exact q_lab (K_Mc_step_200 q48 H) lvS_nil
  rw [if_neg c36] at H
  refine q_tsd rfl q2 (by omega) rfl ?_
  exact q_lab (K_Mc_step_206  H) (lvS_cons rfl rfl lvS_nil)
def B_Mc_result (d : Nat)  (h : mHp) (σ : Mem) (r : mRes) (h' : mHp) (σ' : Mem) : Prop := ∃ z1, hAt h 54 11 = z1 ∧ isQ z1 ∧ (r = .inl (some (z1)) ∧ h' = h ∧ σ' = σ)
theorem M_Mc_result {d : Nat}  {h h' : mHp} {σ σ' : Mem} {r : mRes}  (H : B_Mc_result d  h σ r h' σ') : Rh (d + 2) yMc_result [.ref 54] h σ r h' σ' := by
  refine q_m (Nat.le_of_ble_eq_true rfl) ?_
  unfold B_Mc_result at H
  refine q_l rfl rfl rfl ?_
  obtain ⟨z1, e2, q3, H⟩ := H
  refine q_gv rfl rfl rfl (by decide) rfl e2 ?_
  obtain ⟨rfl, rfl, rfl⟩ := H
  exact q_r rfl rfl (ret_q q3 rfl)
def B_Mc_go (d : Nat) (x1 : Int) (h : mHp) (σ : Mem) (r : mRes) (h' : mHp) (σ' : Mem) : Prop := Lh (d + 22) yMc_go 4 [(0, .ref 54), (1, vi x1), (2, vi 0), (3, vi 0)] [] h σ r h' σ'
theorem M_Mc_go {d : Nat} {x1 : Int} {h h' : mHp} {σ σ' : Mem} {r : mRes} (hx1 : rg x1) (H : B_Mc_go d x1 h σ r h' σ') : Rh (d + 23) yMc_go [.ref 54, vi x1] h σ r h' σ' := by
  refine q_m (Nat.le_of_ble_eq_true rfl) ?_
  unfold B_Mc_go at H
  refine q_p rfl rfl rfl ?_
  refine q_l rfl rfl rfl ?_
  refine q_p rfl rfl rfl ?_
  refine q_l rfl rfl rfl ?_
  exact q_lab H (lvS_cons rfl rfl (lvS_cons rfl rfl (lvS_cons rfl rfl (lvS_cons rfl rfl lvS_nil))))
def B_Mc_go_109 (d : Nat) (x1 : Int) (x2 : Int) (x3 : Int) (h : mHp) (σ : Mem) (r : mRes) (h' : mHp) (σ' : Mem) : Prop := (rg (x3 + 1)) ∧ (Lh (d + 22) yMc_go 4 [(0, .ref 54), (1, vi x1), (2, vi x2), (3, vi (x3 + 1))] [] h σ r h' σ')
theorem K_Mc_go_109 {d : Nat} {x1 : Int} {x2 : Int} {x3 : Int} {h h' : mHp} {σ σ' : Mem} {r : mRes} (hx1 : rg x1) (hx2 : rg x2) (hx3 : rg x3) (H : B_Mc_go_109 d x1 x2 x3 h σ r h' σ') : Lh (d + 22) yMc_go 109 [(0, .ref 54), (1, vi x1), (2, vi x2), (3, vi x3)] [] h σ r h' σ' := by
  unfold B_Mc_go_109 at H
  refine q_inc (z := x3) rfl rfl (by decide) ?_
  refine q_b rfl rfl rfl rfl ?_
  obtain ⟨g1, H⟩ := H
  exact q_lab H (lvS_cons rfl rfl (lvS_cons rfl rfl (lvS_cons rfl rfl (lvS_cons rfl rfl lvS_nil))))
def B_Mc_go_74 (d : Nat) (x1 : Int) (x2 : Int) (x3 : Int) (h : mHp) (σ : Mem) (r : mRes) (h' : mHp) (σ' : Mem) : Prop := ∃ h1 m1, Rh (d + 22) yMc_fail [.ref 54, vi 4] h σ (.inl none) h1 m1 ∧ (B_Mc_go_109 d x1 x2 x3 h1 m1 r h' σ')
theorem K_Mc_go_74 {d : Nat} {x1 : Int} {x2 : Int} {x3 : Int} {h h' : mHp} {σ σ' : Mem} {r : mRes} (hx1 : rg x1) (hx2 : rg x2) (hx3 : rg x3) (H : B_Mc_go_74 d x1 x2 x3 h σ r h' σ') : Lh (d + 22) yMc_go 74 [(0, .ref 54), (1, vi x1), (2, vi x2), (3, vi x3)] [] h σ r h' σ' := by
  unfold B_Mc_go_74 at H
  refine q_l rfl rfl rfl ?_
  refine q_p rfl rfl rfl ?_
  obtain ⟨h1, m1, R1, H⟩ := H
  refine q_iv rfl rfl rfl (fun S => S.t 54 rfl) (by decide) rfl R1 ?_
  refine q_b rfl rfl rfl rfl ?_
  exact q_lab (K_Mc_go_109 hx1 hx2 hx3 H) (lvS_cons rfl rfl (lvS_cons rfl rfl (lvS_cons rfl rfl (lvS_cons rfl rfl lvS_nil))))
def B_Mc_go_4 (d : Nat) (x1 : Int) (x2 : Int) (x3 : Int) (h : mHp) (σ : Mem) (r : mRes) (h' : mHp) (σ' : Mem) : Prop := if x3 ≥ 1000000 then (r = .inl (some (vi x2)) ∧ h' = h ∧ σ' = σ) else ((rg (σ 54 7)) ∧ (if σ 54 7 ≠ 1 then (r = .inl (some (vi x2)) ∧ h' = h ∧ σ' = σ) else ((rg (σ 54 4)) ∧ (if σ 54 4 ≠ 0 then (if σ 54 4 ≠ 1 then (if x2 < x1 then ((rg (σ 54 9)) ∧ (if σ 54 9 ≥ 500 then (B_Mc_go_74 d x1 x2 x3 h σ r h' σ') else ((rg (σ 54 10)) ∧ (if σ 54 10 < 1000 then ((rg ((σ 54 9) + 1)) ∧ ((rg ((mup σ 54 9 ((σ 54 9) + 1)) 54 10)) ∧ ((rg (((mup σ 54 9 ((σ 54 9) + 1)) 54 10) + 1)) ∧ (∃ h15 m15, Rh (d + 22) yMc_step [.ref 54] h (mup (mup σ 54 9 ((σ 54 9) + 1)) 54 10 (((mup σ 54 9 ((σ 54 9) + 1)) 54 10) + 1)) (.inl none) h15 m15 ∧ ((rg (x2 + 1)) ∧ (B_Mc_go_109 d x1 (x2 + 1) x3 h15 m15 r h' σ')))))) else (B_Mc_go_74 d x1 x2 x3 h σ r h' σ'))))) else (r = .inl (some (vi x2)) ∧ h' = h ∧ σ' = σ)) else (∃ h17 m17, Rh (d + 22) yMc_leave [.ref 54] h σ (.inl none) h17 m17 ∧ (B_Mc_go_109 d x1 x2 x3 h17 m17 r h' σ'))) else (∃ h18 m18, Rh (d + 22) yMc_enter [.ref 54] h σ (.inl none) h18 m18 ∧ (B_Mc_go_109 d x1 x2 x3 h18 m18 r h' σ'))))))
theorem K_Mc_go_4 {d : Nat} {x1 : Int} {x2 : Int} {x3 : Int} {h h' : mHp} {σ σ' : Mem} {r : mRes} (hx1 : rg x1) (hx2 : rg x2) (hx3 : rg x3) (H : B_Mc_go_4 d x1 x2 x3 h σ r h' σ') : Lh (d + 22) yMc_go 4 [(0, .ref 54), (1, vi x1), (2, vi x2), (3, vi x3)] [] h σ r h' σ' := by
  unfold B_Mc_go_4 at H
  refine q_l rfl rfl rfl ?_
  refine q_k (x := 1000000) rfl rfl rfl rfl ?_
  by_cases c1 : x3 ≥ 1000000
  · rw [if_pos c1] at H
    refine q_c rfl (by decide) hx3 (rgk rfl) (q := true) (decide_eq_true c1) rfl ?_
    refine q_l rfl rfl rfl ?_
    obtain ⟨rfl, rfl, rfl⟩ := H
    exact q_r rfl rfl rfl
  · rw [if_neg c1] at H
    refine q_c rfl (by decide) hx3 (rgk rfl) (q := false) (decide_eq_false c1) rfl ?_
    refine q_l rfl rfl rfl ?_
    obtain ⟨g2, H⟩ := H
    refine q_gi rfl rfl rfl (by decide) rfl rfl ?_
    refine q_p rfl rfl rfl ?_
    by_cases c3 : σ 54 7 ≠ 1
    · rw [if_pos c3] at H
      refine q_c rfl (by decide) g2 (rgk rfl) (q := true) (decide_eq_true c3) rfl ?_
      refine q_l rfl rfl rfl ?_
      obtain ⟨rfl, rfl, rfl⟩ := H
      exact q_r rfl rfl rfl
    · rw [if_neg c3] at H
      refine q_c rfl (by decide) g2 (rgk rfl) (q := false) (decide_eq_false c3) rfl ?_
      refine q_l rfl rfl rfl ?_
      obtain ⟨g4, H⟩ := H
      refine q_gi rfl rfl rfl (by decide) rfl rfl ?_
      by_cases c5 : σ 54 4 ≠ 0
      · rw [if_pos c5] at H
        refine q_z rfl (by decide) g4 (q := true) (decide_eq_true c5) rfl ?_
        refine q_l rfl rfl rfl ?_
        refine q_gi rfl rfl rfl (by decide) rfl rfl ?_
        refine q_p rfl rfl rfl ?_
        by_cases c6 : σ 54 4 ≠ 1
        · rw [if_pos c6] at H
          refine q_c rfl (by decide) g4 (rgk rfl) (q := true) (decide_eq_true c6) rfl ?_
          refine q_l rfl rfl rfl ?_
          refine q_l rfl rfl rfl ?_
          by_cases c7 : x2 < x1
          · rw [if_pos c7] at H
            refine q_c rfl (by decide) hx2 hx1 (q := true) (decide_eq_true c7) rfl ?_
            refine q_l rfl rfl rfl ?_
            obtain ⟨g8, H⟩ := H
            refine q_gi rfl rfl rfl (by decide) rfl rfl ?_
            refine q_k (x := 500) rfl rfl rfl rfl ?_
            by_cases c9 : σ 54 9 ≥ 500
            · rw [if_pos c9] at H
              refine q_c rfl (by decide) g8 (rgk rfl) (q := true) (decide_eq_true c9) rfl ?_
              exact q_lab (K_Mc_go_74 hx1 hx2 hx3 H) (lvS_cons rfl rfl (lvS_cons rfl rfl (lvS_cons rfl rfl (lvS_cons rfl rfl lvS_nil))))
            · rw [if_neg c9] at H
              refine q_c rfl (by decide) g8 (rgk rfl) (q := false) (decide_eq_false c9) rfl ?_
              refine q_l rfl rfl rfl ?_
              obtain ⟨g10, H⟩ := H
              refine q_gi rfl rfl rfl (by decide) rfl rfl ?_
              refine q_k (x := 1000) rfl rfl rfl rfl ?_
              by_cases c11 : σ 54 10 < 1000
              · rw [if_pos c11] at H
                refine q_c rfl (by decide) g10 (rgk rfl) (q := true) (decide_eq_true c11) rfl ?_
                refine q_inc (z := x2) rfl rfl (by decide) ?_
                refine q_l rfl rfl rfl ?_
                refine q_p rfl rfl rfl ?_
                refine q_gi rfl rfl rfl (by decide) rfl rfl ?_
                refine q_p rfl rfl rfl ?_
                refine q_add rfl ?_
                obtain ⟨g12, H⟩ := H
                refine q_pi rfl rfl rfl (by decide) rfl rfl rfl rfl g12 ?_
                refine q_l rfl rfl rfl ?_
                refine q_p rfl rfl rfl ?_
                obtain ⟨g13, H⟩ := H
                refine q_gi rfl rfl rfl (by decide) rfl rfl ?_
                refine q_p rfl rfl rfl ?_
                refine q_add rfl ?_
                obtain ⟨g14, H⟩ := H
                refine q_pi rfl rfl rfl (by decide) rfl rfl rfl rfl g14 ?_
                refine q_l rfl rfl rfl ?_
                obtain ⟨h15, m15, R15, H⟩ := H
                refine q_iv rfl rfl rfl (fun S => S.t 54 rfl) (by decide) rfl R15 ?_
                obtain ⟨g16, H⟩ := H
                exact q_lab (K_Mc_go_109 hx1 g16 hx3 H) (lvS_cons rfl rfl (lvS_cons rfl rfl (lvS_cons rfl rfl (lvS_cons rfl rfl lvS_nil))))
              · rw [if_neg c11] at H
                refine q_c rfl (by decide) g10 (rgk rfl) (q := false) (decide_eq_false c11) rfl ?_
                exact q_lab (K_Mc_go_74 hx1 hx2 hx3 H) (lvS_cons rfl rfl (lvS_cons rfl rfl (lvS_cons rfl rfl (lvS_cons rfl rfl lvS_nil))))
          · rw [if_neg c7] at H
            refine q_c rfl (by decide) hx2 hx1 (q := false) (decide_eq_false c7) rfl ?_
            refine q_l rfl rfl rfl ?_
            obtain ⟨rfl, rfl, rfl⟩ := H
            exact q_r rfl rfl rfl
        · rw [if_neg c6] at H
          refine q_c rfl (by decide) g4 (rgk rfl) (q := false) (decide_eq_false c6) rfl ?_
          refine q_l rfl rfl rfl ?_
          obtain ⟨h17, m17, R17, H⟩ := H
          refine q_iv rfl rfl rfl (fun S => S.t 54 rfl) (by decide) rfl R17 ?_
          refine q_b rfl rfl rfl rfl ?_
          exact q_lab (K_Mc_go_109 hx1 hx2 hx3 H) (lvS_cons rfl rfl (lvS_cons rfl rfl (lvS_cons rfl rfl (lvS_cons rfl rfl lvS_nil))))
      · rw [if_neg c5] at H
        refine q_z rfl (by decide) g4 (q := false) (decide_eq_false c5) rfl ?_
        refine q_l rfl rfl rfl ?_
        obtain ⟨h18, m18, R18, H⟩ := H
        refine q_iv rfl rfl rfl (fun S => S.t 54 rfl) (by decide) rfl R18 ?_
        refine q_b rfl rfl rfl rfl ?_
        exact q_lab (K_Mc_go_109 hx1 hx2 hx3 H) (lvS_cons rfl rfl (lvS_cons rfl rfl (lvS_cons rfl rfl (lvS_cons rfl rfl lvS_nil))))
