/-! Lifted methods: the class's calls about what is worked out. -/
def B_F_run (d : Nat) (x1 : Int) (h : mHp) (σ : Mem) (r : mRes) (h' : mHp) (σ' : Mem) : Prop := if x1 < 0 then (r = .inl (some (vi ((-1)))) ∧ h' = h ∧ σ' = σ) else (if x1 > 100 then (r = .inl (some (vi ((-1)))) ∧ h' = h ∧ σ' = σ) else (∃ (v3 : Int) (h3 : mHp) (m3 : Mem), Rh (d + 23) yMc_phase [.ref 54] h σ (.inl (some (vi v3))) h3 m3 ∧ rg v3 ∧ (if v3 = 1 then (∃ (v5 : Int) (h5 : mHp) (m5 : Mem), Rh (d + 23) yMc_go [.ref 54, vi x1] h3 m3 (.inl (some (vi v5))) h5 m5 ∧ rg v5 ∧ (∃ v6 h6 m6, Rh (d + 23) yMc_result [.ref 54] h5 m5 (.inl (some v6)) h6 m6 ∧ isQ v6 ∧ (r = .inl (some (vi v5)) ∧ h' = hSet h6 1 9 v6 ∧ σ' = m6))) else (r = .inl (some (vi ((-1)))) ∧ h' = h3 ∧ σ' = m3))))
theorem M_F_run {d : Nat} {x1 : Int} {h h' : mHp} {σ σ' : Mem} {r : mRes} (hx1 : rg x1) (H : B_F_run d x1 h σ r h' σ') : Rh (d + 24) yF_run [.ref 1, vi x1] h σ r h' σ' := by
  refine q_m (Nat.le_of_ble_eq_true rfl) ?_
  unfold B_F_run at H
  refine q_l rfl rfl rfl ?_
  by_cases c1 : x1 < 0
  · rw [if_pos c1] at H
    refine q_z rfl (by decide) hx1 (q := true) (decide_eq_true c1) rfl ?_
    refine q_p rfl rfl rfl ?_
    obtain ⟨rfl, rfl, rfl⟩ := H
    exact q_r rfl rfl rfl
  · rw [if_neg c1] at H
    refine q_z rfl (by decide) hx1 (q := false) (decide_eq_false c1) rfl ?_
    refine q_l rfl rfl rfl ?_
    refine q_k (x := 100) rfl rfl rfl rfl ?_
    by_cases c2 : x1 > 100
    · rw [if_pos c2] at H
      refine q_c rfl (by decide) hx1 (rgk rfl) (q := true) (decide_eq_true c2) rfl ?_
      refine q_p rfl rfl rfl ?_
      obtain ⟨rfl, rfl, rfl⟩ := H
      exact q_r rfl rfl rfl
    · rw [if_neg c2] at H
      refine q_c rfl (by decide) hx1 (rgk rfl) (q := false) (decide_eq_false c2) rfl ?_
      refine q_l rfl rfl rfl ?_
      refine q_gr (t := 54) rfl rfl rfl (by decide) rfl ?_
      obtain ⟨v3, h3, m3, R3, w3, H⟩ := H
      refine q_iv rfl rfl rfl (fun S => S.t 54 rfl) (by decide) rfl R3 ?_
      refine q_p rfl rfl rfl ?_
      by_cases c4 : v3 = 1
      · rw [if_pos c4] at H
        refine q_c rfl (by decide) w3 (rgk rfl) (q := true) (decide_eq_true c4) rfl ?_
        refine q_l rfl rfl rfl ?_
        refine q_gr (t := 54) rfl rfl rfl (by decide) rfl ?_
        refine q_l rfl rfl rfl ?_
        obtain ⟨v5, h5, m5, R5, w5, H⟩ := H
        refine q_iv rfl rfl rfl (fun S => S.t 54 rfl) (by decide) rfl R5 ?_
        refine q_l rfl rfl rfl ?_
        refine q_l rfl rfl rfl ?_
        refine q_l rfl rfl rfl ?_
        refine q_gr (t := 54) rfl rfl rfl (by decide) rfl ?_
        obtain ⟨v6, h6, m6, R6, w6, H⟩ := H
        refine q_iv rfl rfl rfl (fun S => S.t 54 rfl) (by decide) rfl R6 ?_
        refine q_pv rfl rfl rfl (by decide) rfl rfl rfl (fits_q w6) rfl ?_
        refine q_l rfl rfl rfl ?_
        obtain ⟨rfl, rfl, rfl⟩ := H
        exact q_r rfl rfl rfl
      · rw [if_neg c4] at H
        refine q_c rfl (by decide) w3 (rgk rfl) (q := false) (decide_eq_false c4) rfl ?_
        refine q_p rfl rfl rfl ?_
        obtain ⟨rfl, rfl, rfl⟩ := H
        exact q_r rfl rfl rfl
def B_F_value_68 (d : Nat) (x2 : Value) (h : mHp) (σ : Mem) (r : mRes) (h' : mHp) (σ' : Mem) : Prop := ∃ j1, x2 = .ref j1 ∧ ((100 ≤ j1) ∧ ((hTag h j1 = 8) ∧ (∃ z4, hAt h j1 1 = vi z4 ∧ rg z4 ∧ (r = .inl (some (vi z4)) ∧ h' = h ∧ σ' = σ))))
theorem K_F_value_68 {d : Nat} {x2 : Value} {h h' : mHp} {σ σ' : Mem} {r : mRes} (hx2 : isQ x2) (H : B_F_value_68 d x2 h σ r h' σ') : Lh (d + 1) yF_value 68 [(2, x2)] [] h σ r h' σ' := by
  unfold B_F_value_68 at H
  refine q_lq (u := x2) rfl rfl (fun _ _ => rfl) (by rcases hx2 with rfl | ⟨_, rfl⟩ <;> rfl) hx2 ?_
  obtain ⟨j1, rfl, H⟩ := H
  obtain ⟨t2, H⟩ := H
  obtain ⟨t3, H⟩ := H
  obtain ⟨z4, e5, g6, H⟩ := H
  refine q_gd rfl t2 t3 (by decide) e5 ?_
  refine q_b rfl rfl rfl rfl ?_
  obtain ⟨rfl, rfl, rfl⟩ := H
  exact q_r rfl rfl rfl
def B_F_value (d : Nat) (x1 : Int) (h : mHp) (σ : Mem) (r : mRes) (h' : mHp) (σ' : Mem) : Prop := ∃ z1, hAt h 1 9 = z1 ∧ isQ z1 ∧ ((z1 = .null ∧ r = .inr 3 ∧ h' = hNew h 200 6 (fun _ => .null) ∧ σ' = σ) ∨ (∃ j4, z1 = .ref j4 ∧ if x1 = 0 then ((100 ≤ j4) ∧ ((hTag h j4 = 8) ∧ (∃ z8, hAt h j4 0 = vi z8 ∧ rg z8 ∧ (r = .inl (some (vi z8)) ∧ h' = h ∧ σ' = σ)))) else (if x1 = 1 then ((100 ≤ j4) ∧ ((hTag h j4 = 8) ∧ (∃ z14, hAt h j4 0 = vi z14 ∧ rg z14 ∧ (if z14 = 0 then (B_F_value_68 d (.ref j4) h σ r h' σ') else (∃ z18, hAt h j4 0 = vi z18 ∧ rg z18 ∧ (if z18 ≠ 1 then (r = .inl (some (vi 0)) ∧ h' = h ∧ σ' = σ) else (B_F_value_68 d (.ref j4) h σ r h' σ'))))))) else (if x1 = 2 then ((100 ≤ j4) ∧ ((hTag h j4 = 8) ∧ (∃ z25, hAt h j4 0 = vi z25 ∧ rg z25 ∧ (if z25 ≠ 3 then (r = .inl (some (vi 0)) ∧ h' = h ∧ σ' = σ) else (∃ z29, hAt h j4 1 = vi z29 ∧ rg z29 ∧ (r = .inl (some (vi z29)) ∧ h' = h ∧ σ' = σ)))))) else (r = .inr 4 ∧ h' = hNew h 200 6 (fun _ => .null) ∧ σ' = σ)))))
theorem M_F_value {d : Nat} {x1 : Int} {h h' : mHp} {σ σ' : Mem} {r : mRes} (hx1 : rg x1) (H : B_F_value d x1 h σ r h' σ') : Rh (d + 2) yF_value [.ref 1, vi x1] h σ r h' σ' := by
  refine q_m (Nat.le_of_ble_eq_true rfl) ?_
  unfold B_F_value at H
  refine q_l rfl rfl rfl ?_
  obtain ⟨z1, e2, q3, H⟩ := H
  refine q_gv rfl rfl rfl (by decide) rfl e2 ?_
  refine q_sq rfl rfl (fun _ _ => rfl) q3 (by decide) ?_
  refine q_lq (u := z1) rfl rfl (fun _ _ => rfl) (by rcases q3 with rfl | ⟨_, rfl⟩ <;> rfl) q3 ?_
  rcases H with ⟨rfl, H⟩ | ⟨j4, rfl, H⟩
  · refine q_b rfl rfl rfl rfl ?_
    obtain ⟨rfl, rfl, rfl⟩ := H
    exact q_t (a := 103) rfl rfl (of_decide_eq_true rfl) rfl
  · refine q_b rfl rfl rfl rfl ?_
    refine q_l rfl rfl rfl ?_
    by_cases c5 : x1 = 0
    · rw [if_pos c5] at H
      refine q_sw rfl rfl c5 rfl rfl ?_
      refine q_l rfl rfl rfl ?_
      obtain ⟨t6, H⟩ := H
      obtain ⟨t7, H⟩ := H
      obtain ⟨z8, e9, g10, H⟩ := H
      refine q_gd rfl t6 t7 (by decide) e9 ?_
      obtain ⟨rfl, rfl, rfl⟩ := H
      exact q_r rfl rfl rfl
    rw [if_neg c5] at H
    by_cases c11 : x1 = 1
    · rw [if_pos c11] at H
      refine q_sw rfl rfl c11 rfl rfl ?_
      refine q_l rfl rfl rfl ?_
      obtain ⟨t12, H⟩ := H
      obtain ⟨t13, H⟩ := H
      obtain ⟨z14, e15, g16, H⟩ := H
      refine q_gd rfl t12 t13 (by decide) e15 ?_
      by_cases c17 : z14 = 0
      · rw [if_pos c17] at H
        refine q_z rfl (by decide) g16 (q := true) (decide_eq_true c17) rfl ?_
        exact q_lab (K_F_value_68 isQ.j H) (lvS_cons rfl rfl lvS_nil)
      · rw [if_neg c17] at H
        refine q_z rfl (by decide) g16 (q := false) (decide_eq_false c17) rfl ?_
        refine q_l rfl rfl rfl ?_
        obtain ⟨z18, e19, g20, H⟩ := H
        refine q_gd rfl t12 t13 (by decide) e19 ?_
        refine q_p rfl rfl rfl ?_
        by_cases c21 : z18 ≠ 1
        · rw [if_pos c21] at H
          refine q_c rfl (by decide) g20 (rgk rfl) (q := true) (decide_eq_true c21) rfl ?_
          refine q_p rfl rfl rfl ?_
          obtain ⟨rfl, rfl, rfl⟩ := H
          exact q_r rfl rfl rfl
        · rw [if_neg c21] at H
          refine q_c rfl (by decide) g20 (rgk rfl) (q := false) (decide_eq_false c21) rfl ?_
          exact q_lab (K_F_value_68 isQ.j H) (lvS_cons rfl rfl lvS_nil)
    rw [if_neg c11] at H
    by_cases c22 : x1 = 2
    · rw [if_pos c22] at H
      refine q_sw rfl rfl c22 rfl rfl ?_
      refine q_l rfl rfl rfl ?_
      obtain ⟨t23, H⟩ := H
      obtain ⟨t24, H⟩ := H
      obtain ⟨z25, e26, g27, H⟩ := H
      refine q_gd rfl t23 t24 (by decide) e26 ?_
      refine q_p rfl rfl rfl ?_
      by_cases c28 : z25 ≠ 3
      · rw [if_pos c28] at H
        refine q_c rfl (by decide) g27 (rgk rfl) (q := true) (decide_eq_true c28) rfl ?_
        refine q_p rfl rfl rfl ?_
        obtain ⟨rfl, rfl, rfl⟩ := H
        exact q_r rfl rfl rfl
      · rw [if_neg c28] at H
        refine q_c rfl (by decide) g27 (rgk rfl) (q := false) (decide_eq_false c28) rfl ?_
        refine q_l rfl rfl rfl ?_
        obtain ⟨z29, e30, g31, H⟩ := H
        refine q_gd rfl t23 t24 (by decide) e30 ?_
        refine q_b rfl rfl rfl rfl ?_
        obtain ⟨rfl, rfl, rfl⟩ := H
        exact q_r rfl rfl rfl
    rw [if_neg c22] at H
    refine q_tsd rfl hx1 (by omega) rfl ?_
    obtain ⟨rfl, rfl, rfl⟩ := H
    exact q_t (a := 104) rfl rfl (of_decide_eq_true rfl) rfl
def B_F_real (d : Nat)  (h : mHp) (σ : Mem) (r : mRes) (h' : mHp) (σ' : Mem) : Prop := ∃ z1, hAt h 1 9 = z1 ∧ isQ z1 ∧ ((z1 = .null ∧ r = .inr 3 ∧ h' = hNew h 200 6 (fun _ => .null) ∧ σ' = σ) ∨ (∃ j4, z1 = .ref j4 ∧ (100 ≤ j4) ∧ ((hTag h j4 = 8) ∧ (∃ z7, hAt h j4 0 = vi z7 ∧ rg z7 ∧ (if z7 ≠ 2 then (r = .inl (some (.double (FP.dconst0))) ∧ h' = h ∧ σ' = σ) else (∃ z11, hAt h j4 2 = .double z11 ∧ (r = .inl (some (.double z11)) ∧ h' = h ∧ σ' = σ)))))))
theorem M_F_real {d : Nat}  {h h' : mHp} {σ σ' : Mem} {r : mRes}  (H : B_F_real d  h σ r h' σ') : Rh (d + 2) yF_real [.ref 1] h σ r h' σ' := by
  refine q_m (Nat.le_of_ble_eq_true rfl) ?_
  unfold B_F_real at H
  refine q_l rfl rfl rfl ?_
  obtain ⟨z1, e2, q3, H⟩ := H
  refine q_gv rfl rfl rfl (by decide) rfl e2 ?_
  refine q_sq rfl rfl (fun _ _ => rfl) q3 (by decide) ?_
  refine q_lq (u := z1) rfl rfl (fun _ _ => rfl) (by rcases q3 with rfl | ⟨_, rfl⟩ <;> rfl) q3 ?_
  rcases H with ⟨rfl, H⟩ | ⟨j4, rfl, H⟩
  · refine q_b rfl rfl rfl rfl ?_
    obtain ⟨rfl, rfl, rfl⟩ := H
    exact q_t (a := 103) rfl rfl (of_decide_eq_true rfl) rfl
  · refine q_b rfl rfl rfl rfl ?_
    refine q_l rfl rfl rfl ?_
    obtain ⟨t5, H⟩ := H
    obtain ⟨t6, H⟩ := H
    obtain ⟨z7, e8, g9, H⟩ := H
    refine q_gd rfl t5 t6 (by decide) e8 ?_
    refine q_p rfl rfl rfl ?_
    by_cases c10 : z7 ≠ 2
    · rw [if_pos c10] at H
      refine q_c rfl (by decide) g9 (rgk rfl) (q := true) (decide_eq_true c10) rfl ?_
      refine q_p rfl rfl rfl ?_
      obtain ⟨rfl, rfl, rfl⟩ := H
      exact q_r rfl rfl rfl
    · rw [if_neg c10] at H
      refine q_c rfl (by decide) g9 (rgk rfl) (q := false) (decide_eq_false c10) rfl ?_
      refine q_l rfl rfl rfl ?_
      obtain ⟨z11, e12, H⟩ := H
      refine q_gd rfl t5 t6 (by decide) e12 ?_
      refine q_b rfl rfl rfl rfl ?_
      obtain ⟨rfl, rfl, rfl⟩ := H
      exact q_r rfl rfl rfl
def B_F_item (d : Nat) (x1 : Int) (h : mHp) (σ : Mem) (r : mRes) (h' : mHp) (σ' : Mem) : Prop := ∃ z1, hAt h 1 9 = z1 ∧ isQ z1 ∧ ((z1 = .null ∧ r = .inr 3 ∧ h' = hNew h 200 6 (fun _ => .null) ∧ σ' = σ) ∨ (∃ j4, z1 = .ref j4 ∧ (100 ≤ j4) ∧ ((hTag h j4 = 8) ∧ (∃ v7 h7 m7, Rh (d + 2) yVa_itemAt [.ref j4, vi x1] h σ (.inl (some v7)) h7 m7 ∧ isQ v7 ∧ ((v7 = .null ∧ r = .inr 4 ∧ h' = hNew h7 200 6 (fun _ => .null) ∧ σ' = m7) ∨ (∃ j8, v7 = .ref j8 ∧ r = .inl none ∧ h' = hSet h7 1 9 (.ref j8) ∧ σ' = m7))))))
theorem M_F_item {d : Nat} {x1 : Int} {h h' : mHp} {σ σ' : Mem} {r : mRes} (hx1 : rg x1) (H : B_F_item d x1 h σ r h' σ') : Rh (d + 3) yF_item [.ref 1, vi x1] h σ r h' σ' := by
  refine q_m (Nat.le_of_ble_eq_true rfl) ?_
  unfold B_F_item at H
  refine q_l rfl rfl rfl ?_
  obtain ⟨z1, e2, q3, H⟩ := H
  refine q_gv rfl rfl rfl (by decide) rfl e2 ?_
  refine q_sq rfl rfl (fun _ _ => rfl) q3 (by decide) ?_
  refine q_lq (u := z1) rfl rfl (fun _ _ => rfl) (by rcases q3 with rfl | ⟨_, rfl⟩ <;> rfl) q3 ?_
  rcases H with ⟨rfl, H⟩ | ⟨j4, rfl, H⟩
  · refine q_b rfl rfl rfl rfl ?_
    obtain ⟨rfl, rfl, rfl⟩ := H
    exact q_t (a := 103) rfl rfl (of_decide_eq_true rfl) rfl
  · refine q_b rfl rfl rfl rfl ?_
    refine q_l rfl rfl rfl ?_
    refine q_l rfl rfl rfl ?_
    obtain ⟨t5, H⟩ := H
    obtain ⟨t6, H⟩ := H
    obtain ⟨v7, h7, m7, R7, w7, H⟩ := H
    refine q_iv rfl rfl rfl (fun _ => t6) (by decide) rfl R7 ?_
    refine q_sq rfl rfl (fun _ _ => rfl) w7 (by decide) ?_
    refine q_lq (u := v7) rfl rfl (fun _ _ => rfl) (by rcases w7 with rfl | ⟨_, rfl⟩ <;> rfl) w7 ?_
    rcases H with ⟨rfl, H⟩ | ⟨j8, rfl, H⟩
    · refine q_b rfl rfl rfl rfl ?_
      obtain ⟨rfl, rfl, rfl⟩ := H
      exact q_t (a := 104) rfl rfl (of_decide_eq_true rfl) rfl
    · refine q_b rfl rfl rfl rfl ?_
      refine q_l rfl rfl rfl ?_
      refine q_l rfl rfl rfl ?_
      refine q_pv rfl rfl rfl (by decide) rfl rfl rfl rfl rfl ?_
      obtain ⟨rfl, rfl, rfl⟩ := H
      exact q_r rfl rfl rfl
def B_F_top (d : Nat)  (h : mHp) (σ : Mem) (r : mRes) (h' : mHp) (σ' : Mem) : Prop := ∃ z1, hAt h 1 9 = z1 ∧ isQ z1 ∧ ((z1 = .null ∧ r = .inr 3 ∧ h' = hNew h 200 6 (fun _ => .null) ∧ σ' = σ) ∨ (∃ j4, z1 = .ref j4 ∧ ∃ v5 h5 m5, Rh (d + 2) yMc_result [.ref 54] h σ (.inl (some v5)) h5 m5 ∧ isQ v5 ∧ (r = .inl none ∧ h' = hSet h5 1 9 v5 ∧ σ' = m5)))
theorem M_F_top {d : Nat}  {h h' : mHp} {σ σ' : Mem} {r : mRes}  (H : B_F_top d  h σ r h' σ') : Rh (d + 3) yF_top [.ref 1] h σ r h' σ' := by
  refine q_m (Nat.le_of_ble_eq_true rfl) ?_
  unfold B_F_top at H
  refine q_l rfl rfl rfl ?_
  obtain ⟨z1, e2, q3, H⟩ := H
  refine q_gv rfl rfl rfl (by decide) rfl e2 ?_
  rcases H with ⟨rfl, H⟩ | ⟨j4, rfl, H⟩
  · refine q_b rfl rfl rfl rfl ?_
    obtain ⟨rfl, rfl, rfl⟩ := H
    exact q_t (a := 103) rfl rfl (of_decide_eq_true rfl) rfl
  · refine q_b rfl rfl rfl rfl ?_
    refine q_l rfl rfl rfl ?_
    refine q_l rfl rfl rfl ?_
    refine q_gr (t := 54) rfl rfl rfl (by decide) rfl ?_
    obtain ⟨v5, h5, m5, R5, w5, H⟩ := H
    refine q_iv rfl rfl rfl (fun S => S.t 54 rfl) (by decide) rfl R5 ?_
    refine q_pv rfl rfl rfl (by decide) rfl rfl rfl (fits_q w5) rfl ?_
    obtain ⟨rfl, rfl, rfl⟩ := H
    exact q_r rfl rfl rfl
