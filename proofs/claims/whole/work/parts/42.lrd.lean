/-! Lifted methods: the reader. -/
def B_Rd_next (d : Nat) (σ : Mem) (o : Option Int) (s' : Mem) : Prop := Lb (d + 3) yRd_next 2 [(0, .ref 35), (1, vi 0)] [] σ o s'
theorem M_Rd_next {d : Nat} {σ s' : Mem} {o : Option Int}  (H : B_Rd_next d  σ o s') : Rn (d + 4) yRd_next [.ref 35] σ o s' := by
  refine k_m (Nat.le_of_ble_eq_true rfl) (fun hM => ?_)
  unfold B_Rd_next at H
  refine k_p rfl rfl rfl ?_
  refine k_l rfl rfl rfl ?_
  exact k_lab H hM (lvS_cons rfl rfl (lvS_cons rfl rfl lvS_nil))
def B_Rd_next_40 (d : Nat) (σ : Mem) (o : Option Int) (s' : Mem) : Prop := if σ 35 4 = 0 then (o = some (chr σ (σ 35 3)) ∧ s' = σ) else (o = some ((-1)) ∧ s' = σ)
theorem K_Rd_next_40 {d : Nat} {σ s' : Mem} {o : Option Int}  (H : B_Rd_next_40 d  σ o s') : Lb (d + 3) yRd_next 40 [(0, .ref 35)] [] σ o s' := by
  intro hM
  unfold B_Rd_next_40 at H
  refine k_l rfl rfl rfl ?_
  refine k_gf rfl rfl rfl (by decide) rfl rfl ?_
  by_cases c1 : σ 35 4 = 0
  · rw [if_pos c1] at H
    refine k_z rfl (by decide) (hM _ _) (q := true) (decide_eq_true c1) rfl ?_
    refine k_l rfl rfl rfl ?_
    refine k_gr (t := 2) rfl rfl rfl (by decide) rfl ?_
    refine k_l rfl rfl rfl ?_
    refine k_gf rfl rfl rfl (by decide) rfl rfl ?_
    refine k_iv (v := chr σ (σ 35 3)) rfl rfl rfl rfl rfl (by decide) rfl hM (R_Ln_charAt (hM _ _)) (fun _ q2 => ?_)
    obtain ⟨rfl, rfl⟩ := H
    exact k_r1 hM q2 rfl rfl rfl
  · rw [if_neg c1] at H
    refine k_z rfl (by decide) (hM _ _) (q := false) (decide_eq_false c1) rfl ?_
    refine k_p rfl rfl rfl ?_
    refine k_b rfl rfl rfl rfl ?_
    obtain ⟨rfl, rfl⟩ := H
    exact k_r1 hM (rgk rfl) rfl rfl rfl
def B_Rd_next_2 (d : Nat) (x1 : Int) (σ : Mem) (o : Option Int) (s' : Mem) : Prop := if x1 ≥ 60 then (B_Rd_next_40 d  σ o s') else (if chr σ (σ 35 3) ≠ 32 then (B_Rd_next_40 d  σ o s') else ((rg ((σ 35 3) + 1)) ∧ ((rg (x1 + 1)) ∧ (Lb (d + 3) yRd_next 2 [(0, .ref 35), (1, vi (x1 + 1))] [] (mup σ 35 3 ((σ 35 3) + 1)) o s'))))
theorem K_Rd_next_2 {d : Nat} {x1 : Int} {σ s' : Mem} {o : Option Int} (hx1 : rg x1) (H : B_Rd_next_2 d x1 σ o s') : Lb (d + 3) yRd_next 2 [(0, .ref 35), (1, vi x1)] [] σ o s' := by
  intro hM
  unfold B_Rd_next_2 at H
  refine k_l rfl rfl rfl ?_
  refine k_k (x := 60) rfl rfl rfl rfl ?_
  by_cases c1 : x1 ≥ 60
  · rw [if_pos c1] at H
    refine k_c rfl (by decide) hx1 (rgk rfl) (q := true) (decide_eq_true c1) rfl ?_
    exact k_lab (K_Rd_next_40  H) hM (lvS_cons rfl rfl lvS_nil)
  · rw [if_neg c1] at H
    refine k_c rfl (by decide) hx1 (rgk rfl) (q := false) (decide_eq_false c1) rfl ?_
    refine k_l rfl rfl rfl ?_
    refine k_gr (t := 2) rfl rfl rfl (by decide) rfl ?_
    refine k_l rfl rfl rfl ?_
    refine k_gf rfl rfl rfl (by decide) rfl rfl ?_
    refine k_iv (v := chr σ (σ 35 3)) rfl rfl rfl rfl rfl (by decide) rfl hM (R_Ln_charAt (hM _ _)) (fun _ q2 => ?_)
    refine k_k (x := 32) rfl rfl rfl rfl ?_
    by_cases c3 : chr σ (σ 35 3) ≠ 32
    · rw [if_pos c3] at H
      refine k_c rfl (by decide) q2 (rgk rfl) (q := true) (decide_eq_true c3) rfl ?_
      exact k_lab (K_Rd_next_40  H) hM (lvS_cons rfl rfl lvS_nil)
    · rw [if_neg c3] at H
      refine k_c rfl (by decide) q2 (rgk rfl) (q := false) (decide_eq_false c3) rfl ?_
      refine k_l rfl rfl rfl ?_
      refine k_p rfl rfl rfl ?_
      refine k_gf rfl rfl rfl (by decide) rfl rfl ?_
      refine k_p rfl rfl rfl ?_
      refine k_add rfl ?_
      obtain ⟨g4, H⟩ := H
      refine k_pf rfl rfl rfl (by decide) rfl rfl rfl rfl ?_
      refine k_inc rfl rfl (by decide) ?_
      refine k_b rfl rfl rfl rfl ?_
      obtain ⟨g5, H⟩ := H
      exact k_lab H (hM.up g4) (lvS_cons rfl rfl (lvS_cons rfl rfl lvS_nil))
def B_Rd_takes (d : Nat) (x1 : Int) (σ : Mem) (o : Option Int) (s' : Mem) : Prop := ∃ (v1 : Int) (m1 : Mem), Rn (d + 3) yRd_next [.ref 35] σ (some v1) m1 ∧ (if v1 = x1 then ((rg ((m1 35 3) + 1)) ∧ (o = some 1 ∧ s' = mup m1 35 3 ((m1 35 3) + 1))) else (o = some 0 ∧ s' = m1))
theorem M_Rd_takes {d : Nat} {x1 : Int} {σ s' : Mem} {o : Option Int} (hx1 : rg x1) (H : B_Rd_takes d x1 σ o s') : Rn (d + 4) yRd_takes [.ref 35, vi x1] σ o s' := by
  refine k_m (Nat.le_of_ble_eq_true rfl) (fun hM => ?_)
  unfold B_Rd_takes at H
  refine k_l rfl rfl rfl ?_
  obtain ⟨v1, m1, R1, H⟩ := H
  refine k_iv rfl rfl rfl rfl rfl (by decide) rfl hM R1 (fun hM1 hv1 => ?_)
  refine k_l rfl rfl rfl ?_
  by_cases c2 : v1 = x1
  · rw [if_pos c2] at H
    refine k_c rfl (by decide) hv1 hx1 (q := true) (decide_eq_true c2) rfl ?_
    refine k_l rfl rfl rfl ?_
    refine k_p rfl rfl rfl ?_
    refine k_gf rfl rfl rfl (by decide) rfl rfl ?_
    refine k_p rfl rfl rfl ?_
    refine k_add rfl ?_
    obtain ⟨g3, H⟩ := H
    refine k_pf rfl rfl rfl (by decide) rfl rfl rfl rfl ?_
    refine k_p rfl rfl rfl ?_
    obtain ⟨rfl, rfl⟩ := H
    exact k_r1 (hM1.up g3) (rgk rfl) rfl rfl rfl
  · rw [if_neg c2] at H
    refine k_c rfl (by decide) hv1 hx1 (q := false) (decide_eq_false c2) rfl ?_
    refine k_p rfl rfl rfl ?_
    obtain ⟨rfl, rfl⟩ := H
    exact k_r1 hM1 (rgk rfl) rfl rfl rfl
def B_Rd_expect (d : Nat) (x1 : Int) (σ : Mem) (o : Option Int) (s' : Mem) : Prop := ∃ (v1 : Int) (m1 : Mem), Rn (d + 3) yRd_takes [.ref 35, vi x1] σ (some v1) m1 ∧ (if v1 ≠ 0 then (o = none ∧ s' = m1) else (o = none ∧ s' = mup m1 35 4 1))
theorem M_Rd_expect {d : Nat} {x1 : Int} {σ s' : Mem} {o : Option Int} (hx1 : rg x1) (H : B_Rd_expect d x1 σ o s') : Rn (d + 4) yRd_expect [.ref 35, vi x1] σ o s' := by
  refine k_m (Nat.le_of_ble_eq_true rfl) (fun hM => ?_)
  unfold B_Rd_expect at H
  refine k_l rfl rfl rfl ?_
  refine k_l rfl rfl rfl ?_
  obtain ⟨v1, m1, R1, H⟩ := H
  refine k_iv rfl rfl rfl rfl rfl (by decide) rfl hM R1 (fun hM1 hv1 => ?_)
  by_cases c2 : v1 ≠ 0
  · rw [if_pos c2] at H
    refine k_z rfl (by decide) hv1 (q := true) (decide_eq_true c2) rfl ?_
    obtain ⟨rfl, rfl⟩ := H
    exact k_r0 hM1 rfl rfl rfl
  · rw [if_neg c2] at H
    refine k_z rfl (by decide) hv1 (q := false) (decide_eq_false c2) rfl ?_
    refine k_l rfl rfl rfl ?_
    refine k_p rfl rfl rfl ?_
    refine k_pf rfl rfl rfl (by decide) rfl rfl rfl rfl ?_
    obtain ⟨rfl, rfl⟩ := H
    exact k_r0 (hM1.up (rgk rfl)) rfl rfl rfl
def B_Rd_breakOff (d : Nat) (σ : Mem) (o : Option Int) (s' : Mem) : Prop := o = some ((-1)) ∧ s' = mup σ 35 4 1
theorem M_Rd_breakOff {d : Nat} {σ s' : Mem} {o : Option Int}  (H : B_Rd_breakOff d  σ o s') : Rn (d + 4) yRd_breakOff [.ref 35] σ o s' := by
  refine k_m (Nat.le_of_ble_eq_true rfl) (fun hM => ?_)
  unfold B_Rd_breakOff at H
  refine k_l rfl rfl rfl ?_
  refine k_p rfl rfl rfl ?_
  refine k_pf rfl rfl rfl (by decide) rfl rfl rfl rfl ?_
  refine k_p rfl rfl rfl ?_
  obtain ⟨rfl, rfl⟩ := H
  exact k_r1 (hM.up (rgk rfl)) (rgk rfl) rfl rfl rfl
def B_Rd_name_17 (d : Nat) (σ : Mem) (o : Option Int) (s' : Mem) : Prop := ∃ (v1 : Int) (m1 : Mem), Rn (d + 3) yRd_breakOff [.ref 35] σ (some v1) m1 ∧ (o = some v1 ∧ s' = m1)
theorem K_Rd_name_17 {d : Nat} {σ s' : Mem} {o : Option Int}  (H : B_Rd_name_17 d  σ o s') : Lb (d + 3) yRd_name 17 [(0, .ref 35)] [] σ o s' := by
  intro hM
  unfold B_Rd_name_17 at H
  refine k_l rfl rfl rfl ?_
  obtain ⟨v1, m1, R1, H⟩ := H
  refine k_iv rfl rfl rfl rfl rfl (by decide) rfl hM R1 (fun hM1 hv1 => ?_)
  obtain ⟨rfl, rfl⟩ := H
  exact k_r1 hM1 hv1 rfl rfl rfl
def B_Rd_name (d : Nat) (σ : Mem) (o : Option Int) (s' : Mem) : Prop := ∃ (v1 : Int) (m1 : Mem), Rn (d + 3) yRd_next [.ref 35] σ (some v1) m1 ∧ (if v1 < 97 then (B_Rd_name_17 d  m1 o s') else (if v1 ≤ 122 then ((rg ((m1 35 3) + 1)) ∧ (o = some v1 ∧ s' = mup m1 35 3 ((m1 35 3) + 1))) else (B_Rd_name_17 d  m1 o s')))
theorem M_Rd_name {d : Nat} {σ s' : Mem} {o : Option Int}  (H : B_Rd_name d  σ o s') : Rn (d + 4) yRd_name [.ref 35] σ o s' := by
  refine k_m (Nat.le_of_ble_eq_true rfl) (fun hM => ?_)
  unfold B_Rd_name at H
  refine k_l rfl rfl rfl ?_
  obtain ⟨v1, m1, R1, H⟩ := H
  refine k_iv rfl rfl rfl rfl rfl (by decide) rfl hM R1 (fun hM1 hv1 => ?_)
  refine k_l rfl rfl rfl ?_
  refine k_l rfl rfl rfl ?_
  refine k_k (x := 97) rfl rfl rfl rfl ?_
  by_cases c2 : v1 < 97
  · rw [if_pos c2] at H
    refine k_c rfl (by decide) hv1 (rgk rfl) (q := true) (decide_eq_true c2) rfl ?_
    exact k_lab (K_Rd_name_17  H) hM1 (lvS_cons rfl rfl lvS_nil)
  · rw [if_neg c2] at H
    refine k_c rfl (by decide) hv1 (rgk rfl) (q := false) (decide_eq_false c2) rfl ?_
    refine k_l rfl rfl rfl ?_
    refine k_k (x := 122) rfl rfl rfl rfl ?_
    by_cases c3 : v1 ≤ 122
    · rw [if_pos c3] at H
      refine k_c rfl (by decide) hv1 (rgk rfl) (q := true) (decide_eq_true c3) rfl ?_
      refine k_l rfl rfl rfl ?_
      refine k_p rfl rfl rfl ?_
      refine k_gf rfl rfl rfl (by decide) rfl rfl ?_
      refine k_p rfl rfl rfl ?_
      refine k_add rfl ?_
      obtain ⟨g4, H⟩ := H
      refine k_pf rfl rfl rfl (by decide) rfl rfl rfl rfl ?_
      refine k_l rfl rfl rfl ?_
      obtain ⟨rfl, rfl⟩ := H
      exact k_r1 (hM1.up g4) hv1 rfl rfl rfl
    · rw [if_neg c3] at H
      refine k_c rfl (by decide) hv1 (rgk rfl) (q := false) (decide_eq_false c3) rfl ?_
      exact k_lab (K_Rd_name_17  H) hM1 (lvS_cons rfl rfl lvS_nil)
def B_Rd_bind (d : Nat) (x1 x2 : Int) (σ : Mem) (o : Option Int) (s' : Mem) : Prop := (rg (x1 - 97)) ∧ ((rg ((rowv 26 σ 37 (x1 - 97)) + x2)) ∧ (o = none ∧ s' = rows 26 σ 37 (x1 - 97) ((rowv 26 σ 37 (x1 - 97)) + x2)))
theorem M_Rd_bind {d : Nat} {x1 x2 : Int} {σ s' : Mem} {o : Option Int} (hx1 : rg x1) (hx2 : rg x2) (H : B_Rd_bind d x1 x2 σ o s') : Rn (d + 4) yRd_bind [.ref 35, vi x1, vi x2] σ o s' := by
  refine k_m (Nat.le_of_ble_eq_true rfl) (fun hM => ?_)
  unfold B_Rd_bind at H
  refine k_l rfl rfl rfl ?_
  refine k_gr (t := 36) rfl rfl rfl (by decide) rfl ?_
  refine k_l rfl rfl rfl ?_
  refine k_k (x := 97) rfl rfl rfl rfl ?_
  refine k_sub rfl ?_
  refine k_l rfl rfl rfl ?_
  refine k_gr (t := 36) rfl rfl rfl (by decide) rfl ?_
  refine k_l rfl rfl rfl ?_
  refine k_k (x := 97) rfl rfl rfl rfl ?_
  refine k_sub rfl ?_
  obtain ⟨g1, H⟩ := H
  refine k_iv (v := rowv 26 σ 37 (x1 - 97)) rfl rfl rfl rfl rfl (by decide) rfl hM (rn_get rfl rfl rfl rfl rfl (by decide) g1) (fun _ q2 => ?_)
  refine k_l rfl rfl rfl ?_
  refine k_add rfl ?_
  obtain ⟨g3, H⟩ := H
  refine k_iw (σ1 := rows 26 σ 37 (x1 - 97) ((rowv 26 σ 37 (x1 - 97)) + x2)) rfl rfl rfl rfl rfl (by decide) rfl hM (rn_set rfl rfl rfl rfl rfl (by decide) g1 g3) (fun _ => ?_)
  obtain ⟨rfl, rfl⟩ := H
  exact k_r0 (hM.rs g3) rfl rfl rfl
def B_Rd_bindAll (d : Nat) (x1 x2 : Int) (σ : Mem) (o : Option Int) (s' : Mem) : Prop := Lb (d + 3) yRd_bindAll 2 [(0, .ref 35), (1, vi x1), (2, vi x2), (3, vi 0)] [] σ o s'
theorem M_Rd_bindAll {d : Nat} {x1 x2 : Int} {σ s' : Mem} {o : Option Int} (hx1 : rg x1) (hx2 : rg x2) (H : B_Rd_bindAll d x1 x2 σ o s') : Rn (d + 4) yRd_bindAll [.ref 35, vi x1, vi x2] σ o s' := by
  refine k_m (Nat.le_of_ble_eq_true rfl) (fun hM => ?_)
  unfold B_Rd_bindAll at H
  refine k_p rfl rfl rfl ?_
  refine k_l rfl rfl rfl ?_
  exact k_lab H hM (lvS_cons rfl rfl (lvS_cons rfl rfl (lvS_cons rfl rfl (lvS_cons rfl rfl lvS_nil))))
def B_Rd_bindAll_26 (d : Nat) (x1 x2 x3 : Int) (σ : Mem) (o : Option Int) (s' : Mem) : Prop := (rg (x3 + 1)) ∧ (Lb (d + 3) yRd_bindAll 2 [(0, .ref 35), (1, vi x1), (2, vi x2), (3, vi (x3 + 1))] [] σ o s')
theorem K_Rd_bindAll_26 {d : Nat} {x1 x2 x3 : Int} {σ s' : Mem} {o : Option Int} (hx1 : rg x1) (hx2 : rg x2) (hx3 : rg x3) (H : B_Rd_bindAll_26 d x1 x2 x3 σ o s') : Lb (d + 3) yRd_bindAll 26 [(0, .ref 35), (1, vi x1), (2, vi x2), (3, vi x3)] [] σ o s' := by
  intro hM
  unfold B_Rd_bindAll_26 at H
  refine k_inc rfl rfl (by decide) ?_
  refine k_b rfl rfl rfl rfl ?_
  obtain ⟨g1, H⟩ := H
  exact k_lab H hM (lvS_cons rfl rfl (lvS_cons rfl rfl (lvS_cons rfl rfl (lvS_cons rfl rfl lvS_nil))))
def B_Rd_bindAll_2 (d : Nat) (x1 x2 x3 : Int) (σ : Mem) (o : Option Int) (s' : Mem) : Prop := if x3 ≥ 26 then (o = none ∧ s' = σ) else (if zAnd (zShr x1 x3) 1 ≠ 1 then (B_Rd_bindAll_26 d x1 x2 x3 σ o s') else (∃ (m3 : Mem), Rn (d + 3) yRd_bind [.ref 35, vi (97 + x3), vi x2] σ none m3 ∧ (B_Rd_bindAll_26 d x1 x2 x3 m3 o s')))
theorem K_Rd_bindAll_2 {d : Nat} {x1 x2 x3 : Int} {σ s' : Mem} {o : Option Int} (hx1 : rg x1) (hx2 : rg x2) (hx3 : rg x3) (H : B_Rd_bindAll_2 d x1 x2 x3 σ o s') : Lb (d + 3) yRd_bindAll 2 [(0, .ref 35), (1, vi x1), (2, vi x2), (3, vi x3)] [] σ o s' := by
  intro hM
  unfold B_Rd_bindAll_2 at H
  refine k_l rfl rfl rfl ?_
  refine k_k (x := 26) rfl rfl rfl rfl ?_
  by_cases c1 : x3 ≥ 26
  · rw [if_pos c1] at H
    refine k_c rfl (by decide) hx3 (rgk rfl) (q := true) (decide_eq_true c1) rfl ?_
    obtain ⟨rfl, rfl⟩ := H
    exact k_r0 hM rfl rfl rfl
  · rw [if_neg c1] at H
    refine k_c rfl (by decide) hx3 (rgk rfl) (q := false) (decide_eq_false c1) rfl ?_
    refine k_l rfl rfl rfl ?_
    refine k_l rfl rfl rfl ?_
    refine k_shr rfl ?_
    refine k_p rfl rfl rfl ?_
    refine k_and rfl ?_
    refine k_p rfl rfl rfl ?_
    by_cases c2 : zAnd (zShr x1 x3) 1 ≠ 1
    · rw [if_pos c2] at H
      refine k_c rfl (by decide) rg_zAnd (rgk rfl) (q := true) (decide_eq_true c2) rfl ?_
      exact k_lab (K_Rd_bindAll_26 hx1 hx2 hx3 H) hM (lvS_cons rfl rfl (lvS_cons rfl rfl (lvS_cons rfl rfl (lvS_cons rfl rfl lvS_nil))))
    · rw [if_neg c2] at H
      refine k_c rfl (by decide) rg_zAnd (rgk rfl) (q := false) (decide_eq_false c2) rfl ?_
      refine k_l rfl rfl rfl ?_
      refine k_k (x := 97) rfl rfl rfl rfl ?_
      refine k_l rfl rfl rfl ?_
      refine k_add rfl ?_
      refine k_l rfl rfl rfl ?_
      obtain ⟨m3, R3, H⟩ := H
      refine k_iw rfl rfl rfl rfl rfl (by decide) rfl hM R3 (fun hM3 => ?_)
      exact k_lab (K_Rd_bindAll_26 hx1 hx2 hx3 H) hM3 (lvS_cons rfl rfl (lvS_cons rfl rfl (lvS_cons rfl rfl (lvS_cons rfl rfl lvS_nil))))
def B_Rd_expression (d : Nat) (x1 : Int) (σ : Mem) (o : Option Int) (s' : Mem) : Prop := if x1 ≤ 16 then (∃ (v2 : Int) (m2 : Mem), Rn (d + 3) yRd_next [.ref 35] σ (some v2) m2 ∧ (if v2 = 33 then (∃ (v4 : Int) (m4 : Mem), Rn (d + 3) yRd_let [.ref 35, vi x1] m2 (some v4) m4 ∧ (o = some v4 ∧ s' = m4)) else (if v2 = 35 then (∃ (v6 : Int) (m6 : Mem), Rn (d + 3) yRd_choice [.ref 35, vi x1] m2 (some v6) m6 ∧ (o = some v6 ∧ s' = m6)) else (if v2 = 63 then (∃ (v8 : Int) (m8 : Mem), Rn (d + 3) yRd_condition [.ref 35, vi x1] m2 (some v8) m8 ∧ (o = some v8 ∧ s' = m8)) else (if v2 = 64 then (∃ (v10 : Int) (m10 : Mem), Rn (d + 3) yRd_recursion [.ref 35, vi x1] m2 (some v10) m10 ∧ (o = some v10 ∧ s' = m10)) else (if v2 = 92 then (∃ (v12 : Int) (m12 : Mem), Rn (d + 3) yRd_function [.ref 35, vi x1] m2 (some v12) m12 ∧ (o = some v12 ∧ s' = m12)) else (∃ (v13 : Int) (m13 : Mem), Rn (d + 3) yRd_list [.ref 35, vi x1] m2 (some v13) m13 ∧ (o = some v13 ∧ s' = m13)))))))) else (∃ (v14 : Int) (m14 : Mem), Rn (d + 3) yRd_breakOff [.ref 35] σ (some v14) m14 ∧ (o = some v14 ∧ s' = m14))
theorem M_Rd_expression {d : Nat} {x1 : Int} {σ s' : Mem} {o : Option Int} (hx1 : rg x1) (H : B_Rd_expression d x1 σ o s') : Rn (d + 4) yRd_expression [.ref 35, vi x1] σ o s' := by
  refine k_m (Nat.le_of_ble_eq_true rfl) (fun hM => ?_)
  unfold B_Rd_expression at H
  refine k_l rfl rfl rfl ?_
  refine k_k (x := 16) rfl rfl rfl rfl ?_
  by_cases c1 : x1 ≤ 16
  · rw [if_pos c1] at H
    refine k_c rfl (by decide) hx1 (rgk rfl) (q := true) (decide_eq_true c1) rfl ?_
    refine k_l rfl rfl rfl ?_
    obtain ⟨v2, m2, R2, H⟩ := H
    refine k_iv rfl rfl rfl rfl rfl (by decide) rfl hM R2 (fun hM2 hv2 => ?_)
    by_cases c3 : v2 = 33
    · rw [if_pos c3] at H
      refine k_sw rfl rfl c3 rfl rfl ?_
      refine k_l rfl rfl rfl ?_
      refine k_l rfl rfl rfl ?_
      obtain ⟨v4, m4, R4, H⟩ := H
      refine k_iv rfl rfl rfl rfl rfl (by decide) rfl hM2 R4 (fun hM4 hv4 => ?_)
      obtain ⟨rfl, rfl⟩ := H
      exact k_r1 hM4 hv4 rfl rfl rfl
    rw [if_neg c3] at H
    by_cases c5 : v2 = 35
    · rw [if_pos c5] at H
      refine k_sw rfl rfl c5 rfl rfl ?_
      refine k_l rfl rfl rfl ?_
      refine k_l rfl rfl rfl ?_
      obtain ⟨v6, m6, R6, H⟩ := H
      refine k_iv rfl rfl rfl rfl rfl (by decide) rfl hM2 R6 (fun hM6 hv6 => ?_)
      obtain ⟨rfl, rfl⟩ := H
      exact k_r1 hM6 hv6 rfl rfl rfl
    rw [if_neg c5] at H
    by_cases c7 : v2 = 63
    · rw [if_pos c7] at H
      refine k_sw rfl rfl c7 rfl rfl ?_
      refine k_l rfl rfl rfl ?_
      refine k_l rfl rfl rfl ?_
      obtain ⟨v8, m8, R8, H⟩ := H
      refine k_iv rfl rfl rfl rfl rfl (by decide) rfl hM2 R8 (fun hM8 hv8 => ?_)
      obtain ⟨rfl, rfl⟩ := H
      exact k_r1 hM8 hv8 rfl rfl rfl
    rw [if_neg c7] at H
    by_cases c9 : v2 = 64
    · rw [if_pos c9] at H
      refine k_sw rfl rfl c9 rfl rfl ?_
      refine k_l rfl rfl rfl ?_
      refine k_l rfl rfl rfl ?_
      obtain ⟨v10, m10, R10, H⟩ := H
      refine k_iv rfl rfl rfl rfl rfl (by decide) rfl hM2 R10 (fun hM10 hv10 => ?_)
      obtain ⟨rfl, rfl⟩ := H
      exact k_r1 hM10 hv10 rfl rfl rfl
    rw [if_neg c9] at H
    by_cases c11 : v2 = 92
    · rw [if_pos c11] at H
      refine k_sw rfl rfl c11 rfl rfl ?_
      refine k_l rfl rfl rfl ?_
      refine k_l rfl rfl rfl ?_
      obtain ⟨v12, m12, R12, H⟩ := H
      refine k_iv rfl rfl rfl rfl rfl (by decide) rfl hM2 R12 (fun hM12 hv12 => ?_)
      obtain ⟨rfl, rfl⟩ := H
      exact k_r1 hM12 hv12 rfl rfl rfl
    rw [if_neg c11] at H
    refine k_lsd rfl hv2 (by decide) (fun q hq => ?_) rfl ?_
    · simp only [List.mem_cons, List.not_mem_nil, or_false] at hq
      rcases hq with rfl | rfl | rfl | rfl | rfl
      · exact c3
      · exact c5
      · exact c7
      · exact c9
      · exact c11
    refine k_l rfl rfl rfl ?_
    refine k_l rfl rfl rfl ?_
    obtain ⟨v13, m13, R13, H⟩ := H
    refine k_iv rfl rfl rfl rfl rfl (by decide) rfl hM2 R13 (fun hM13 hv13 => ?_)
    obtain ⟨rfl, rfl⟩ := H
    exact k_r1 hM13 hv13 rfl rfl rfl
  · rw [if_neg c1] at H
    refine k_c rfl (by decide) hx1 (rgk rfl) (q := false) (decide_eq_false c1) rfl ?_
    refine k_l rfl rfl rfl ?_
    obtain ⟨v14, m14, R14, H⟩ := H
    refine k_iv rfl rfl rfl rfl rfl (by decide) rfl hM R14 (fun hM14 hv14 => ?_)
    obtain ⟨rfl, rfl⟩ := H
    exact k_r1 hM14 hv14 rfl rfl rfl
def B_Rd_function (d : Nat) (x1 : Int) (σ : Mem) (o : Option Int) (s' : Mem) : Prop := ∃ (m1 : Mem), Rn (d + 3) yRd_expect [.ref 35, vi 92] σ none m1 ∧ (∃ (v2 : Int) (m2 : Mem), Rn (d + 3) yRd_name [.ref 35] m1 (some v2) m2 ∧ (∃ (m3 : Mem), Rn (d + 3) yRd_expect [.ref 35, vi 46] m2 none m3 ∧ (∃ (m4 : Mem), Rn (d + 3) yRd_bind [.ref 35, vi v2, vi 1] m3 none m4 ∧ (∃ (v5 : Int) (m5 : Mem), Rn (d + 3) yRd_expression [.ref 35, vi (x1 + 1)] m4 (some v5) m5 ∧ (∃ (m6 : Mem), Rn (d + 3) yRd_bind [.ref 35, vi v2, vi ((-1))] m5 none m6 ∧ (∃ (v7 : Int) (m7 : Mem), Rn (d + 3) yTr_add [.ref 5, vi 12, vi v2, vi v5, vi ((-1)), vi ((-1))] m6 (some v7) m7 ∧ (o = some v7 ∧ s' = m7)))))))
theorem M_Rd_function {d : Nat} {x1 : Int} {σ s' : Mem} {o : Option Int} (hx1 : rg x1) (H : B_Rd_function d x1 σ o s') : Rn (d + 4) yRd_function [.ref 35, vi x1] σ o s' := by
  refine k_m (Nat.le_of_ble_eq_true rfl) (fun hM => ?_)
  unfold B_Rd_function at H
  refine k_l rfl rfl rfl ?_
  refine k_k (x := 92) rfl rfl rfl rfl ?_
  obtain ⟨m1, R1, H⟩ := H
  refine k_iw rfl rfl rfl rfl rfl (by decide) rfl hM R1 (fun hM1 => ?_)
  refine k_l rfl rfl rfl ?_
  obtain ⟨v2, m2, R2, H⟩ := H
  refine k_iv rfl rfl rfl rfl rfl (by decide) rfl hM1 R2 (fun hM2 hv2 => ?_)
  refine k_l rfl rfl rfl ?_
  refine k_l rfl rfl rfl ?_
  refine k_k (x := 46) rfl rfl rfl rfl ?_
  obtain ⟨m3, R3, H⟩ := H
  refine k_iw rfl rfl rfl rfl rfl (by decide) rfl hM2 R3 (fun hM3 => ?_)
  refine k_l rfl rfl rfl ?_
  refine k_l rfl rfl rfl ?_
  refine k_p rfl rfl rfl ?_
  obtain ⟨m4, R4, H⟩ := H
  refine k_iw rfl rfl rfl rfl rfl (by decide) rfl hM3 R4 (fun hM4 => ?_)
  refine k_l rfl rfl rfl ?_
  refine k_l rfl rfl rfl ?_
  refine k_p rfl rfl rfl ?_
  refine k_add rfl ?_
  obtain ⟨v5, m5, R5, H⟩ := H
  refine k_iv rfl rfl rfl rfl rfl (by decide) rfl hM4 R5 (fun hM5 hv5 => ?_)
  refine k_l rfl rfl rfl ?_
  refine k_l rfl rfl rfl ?_
  refine k_l rfl rfl rfl ?_
  refine k_p rfl rfl rfl ?_
  obtain ⟨m6, R6, H⟩ := H
  refine k_iw rfl rfl rfl rfl rfl (by decide) rfl hM5 R6 (fun hM6 => ?_)
  refine k_l rfl rfl rfl ?_
  refine k_gr (t := 5) rfl rfl rfl (by decide) rfl ?_
  refine k_k (x := 12) rfl rfl rfl rfl ?_
  refine k_l rfl rfl rfl ?_
  refine k_l rfl rfl rfl ?_
  refine k_p rfl rfl rfl ?_
  refine k_p rfl rfl rfl ?_
  obtain ⟨v7, m7, R7, H⟩ := H
  refine k_iv rfl rfl rfl rfl rfl (by decide) rfl hM6 R7 (fun hM7 hv7 => ?_)
  obtain ⟨rfl, rfl⟩ := H
  exact k_r1 hM7 hv7 rfl rfl rfl
def B_Rd_let (d : Nat) (x1 : Int) (σ : Mem) (o : Option Int) (s' : Mem) : Prop := ∃ (m1 : Mem), Rn (d + 3) yRd_expect [.ref 35, vi 33] σ none m1 ∧ (∃ (v2 : Int) (m2 : Mem), Rn (d + 3) yRd_name [.ref 35] m1 (some v2) m2 ∧ (∃ (m3 : Mem), Rn (d + 3) yRd_expect [.ref 35, vi 61] m2 none m3 ∧ (∃ (v4 : Int) (m4 : Mem), Rn (d + 3) yRd_expression [.ref 35, vi (x1 + 1)] m3 (some v4) m4 ∧ (∃ (m5 : Mem), Rn (d + 3) yRd_expect [.ref 35, vi 59] m4 none m5 ∧ (∃ (m6 : Mem), Rn (d + 3) yRd_bind [.ref 35, vi v2, vi 1] m5 none m6 ∧ (∃ (v7 : Int) (m7 : Mem), Rn (d + 3) yRd_expression [.ref 35, vi (x1 + 1)] m6 (some v7) m7 ∧ (∃ (m8 : Mem), Rn (d + 3) yRd_bind [.ref 35, vi v2, vi ((-1))] m7 none m8 ∧ (∃ (v9 : Int) (m9 : Mem), Rn (d + 3) yTr_add [.ref 5, vi 13, vi v2, vi v4, vi v7, vi ((-1))] m8 (some v9) m9 ∧ (o = some v9 ∧ s' = m9)))))))))
theorem M_Rd_let {d : Nat} {x1 : Int} {σ s' : Mem} {o : Option Int} (hx1 : rg x1) (H : B_Rd_let d x1 σ o s') : Rn (d + 4) yRd_let [.ref 35, vi x1] σ o s' := by
  refine k_m (Nat.le_of_ble_eq_true rfl) (fun hM => ?_)
  unfold B_Rd_let at H
  refine k_l rfl rfl rfl ?_
  refine k_k (x := 33) rfl rfl rfl rfl ?_
  obtain ⟨m1, R1, H⟩ := H
  refine k_iw rfl rfl rfl rfl rfl (by decide) rfl hM R1 (fun hM1 => ?_)
  refine k_l rfl rfl rfl ?_
  obtain ⟨v2, m2, R2, H⟩ := H
  refine k_iv rfl rfl rfl rfl rfl (by decide) rfl hM1 R2 (fun hM2 hv2 => ?_)
  refine k_l rfl rfl rfl ?_
  refine k_l rfl rfl rfl ?_
  refine k_k (x := 61) rfl rfl rfl rfl ?_
  obtain ⟨m3, R3, H⟩ := H
  refine k_iw rfl rfl rfl rfl rfl (by decide) rfl hM2 R3 (fun hM3 => ?_)
  refine k_l rfl rfl rfl ?_
  refine k_l rfl rfl rfl ?_
  refine k_p rfl rfl rfl ?_
  refine k_add rfl ?_
  obtain ⟨v4, m4, R4, H⟩ := H
  refine k_iv rfl rfl rfl rfl rfl (by decide) rfl hM3 R4 (fun hM4 hv4 => ?_)
  refine k_l rfl rfl rfl ?_
  refine k_l rfl rfl rfl ?_
  refine k_k (x := 59) rfl rfl rfl rfl ?_
  obtain ⟨m5, R5, H⟩ := H
  refine k_iw rfl rfl rfl rfl rfl (by decide) rfl hM4 R5 (fun hM5 => ?_)
  refine k_l rfl rfl rfl ?_
  refine k_l rfl rfl rfl ?_
  refine k_p rfl rfl rfl ?_
  obtain ⟨m6, R6, H⟩ := H
  refine k_iw rfl rfl rfl rfl rfl (by decide) rfl hM5 R6 (fun hM6 => ?_)
  refine k_l rfl rfl rfl ?_
  refine k_l rfl rfl rfl ?_
  refine k_p rfl rfl rfl ?_
  refine k_add rfl ?_
  obtain ⟨v7, m7, R7, H⟩ := H
  refine k_iv rfl rfl rfl rfl rfl (by decide) rfl hM6 R7 (fun hM7 hv7 => ?_)
  refine k_l rfl rfl rfl ?_
  refine k_l rfl rfl rfl ?_
  refine k_l rfl rfl rfl ?_
  refine k_p rfl rfl rfl ?_
  obtain ⟨m8, R8, H⟩ := H
  refine k_iw rfl rfl rfl rfl rfl (by decide) rfl hM7 R8 (fun hM8 => ?_)
  refine k_l rfl rfl rfl ?_
  refine k_gr (t := 5) rfl rfl rfl (by decide) rfl ?_
  refine k_k (x := 13) rfl rfl rfl rfl ?_
  refine k_l rfl rfl rfl ?_
  refine k_l rfl rfl rfl ?_
  refine k_l rfl rfl rfl ?_
  refine k_p rfl rfl rfl ?_
  obtain ⟨v9, m9, R9, H⟩ := H
  refine k_iv rfl rfl rfl rfl rfl (by decide) rfl hM8 R9 (fun hM9 hv9 => ?_)
  obtain ⟨rfl, rfl⟩ := H
  exact k_r1 hM9 hv9 rfl rfl rfl
def B_Rd_recursion_46 (d : Nat) (x1 x2 t0 : Int) (σ : Mem) (o : Option Int) (s' : Mem) : Prop := ∃ (m1 : Mem), Rn (d + 3) yRd_expect [.ref 35, vi 59] σ none m1 ∧ (∃ (v2 : Int) (m2 : Mem), Rn (d + 3) yRd_expression [.ref 35, vi (x1 + 1)] m1 (some v2) m2 ∧ (∃ (m3 : Mem), Rn (d + 3) yRd_bind [.ref 35, vi x2, vi ((-1))] m2 none m3 ∧ (∃ (v4 : Int) (m4 : Mem), Rn (d + 3) yTr_add [.ref 5, vi 14, vi x2, vi t0, vi v2, vi ((-1))] m3 (some v4) m4 ∧ (o = some v4 ∧ s' = m4))))
theorem K_Rd_recursion_46 {d : Nat} {x1 x2 t0 : Int} {σ s' : Mem} {o : Option Int} (hx1 : rg x1) (hx2 : rg x2) (ht0 : rg t0) (H : B_Rd_recursion_46 d x1 x2 t0 σ o s') : Lb (d + 3) yRd_recursion 46 [(0, .ref 35), (1, vi x1), (2, vi x2)] [vi t0] σ o s' := by
  intro hM
  unfold B_Rd_recursion_46 at H
  refine k_l rfl rfl rfl ?_
  refine k_l rfl rfl rfl ?_
  refine k_k (x := 59) rfl rfl rfl rfl ?_
  obtain ⟨m1, R1, H⟩ := H
  refine k_iw rfl rfl rfl rfl rfl (by decide) rfl hM R1 (fun hM1 => ?_)
  refine k_l rfl rfl rfl ?_
  refine k_l rfl rfl rfl ?_
  refine k_p rfl rfl rfl ?_
  refine k_add rfl ?_
  obtain ⟨v2, m2, R2, H⟩ := H
  refine k_iv rfl rfl rfl rfl rfl (by decide) rfl hM1 R2 (fun hM2 hv2 => ?_)
  refine k_l rfl rfl rfl ?_
  refine k_l rfl rfl rfl ?_
  refine k_l rfl rfl rfl ?_
  refine k_p rfl rfl rfl ?_
  obtain ⟨m3, R3, H⟩ := H
  refine k_iw rfl rfl rfl rfl rfl (by decide) rfl hM2 R3 (fun hM3 => ?_)
  refine k_l rfl rfl rfl ?_
  refine k_gr (t := 5) rfl rfl rfl (by decide) rfl ?_
  refine k_k (x := 14) rfl rfl rfl rfl ?_
  refine k_l rfl rfl rfl ?_
  refine k_l rfl rfl rfl ?_
  refine k_l rfl rfl rfl ?_
  refine k_p rfl rfl rfl ?_
  obtain ⟨v4, m4, R4, H⟩ := H
  refine k_iv rfl rfl rfl rfl rfl (by decide) rfl hM3 R4 (fun hM4 hv4 => ?_)
  obtain ⟨rfl, rfl⟩ := H
  exact k_r1 hM4 hv4 rfl rfl rfl
def B_Rd_recursion (d : Nat) (x1 : Int) (σ : Mem) (o : Option Int) (s' : Mem) : Prop := ∃ (m1 : Mem), Rn (d + 3) yRd_expect [.ref 35, vi 64] σ none m1 ∧ (∃ (v2 : Int) (m2 : Mem), Rn (d + 3) yRd_name [.ref 35] m1 (some v2) m2 ∧ (∃ (m3 : Mem), Rn (d + 3) yRd_expect [.ref 35, vi 61] m2 none m3 ∧ (∃ (m4 : Mem), Rn (d + 3) yRd_bind [.ref 35, vi v2, vi 1] m3 none m4 ∧ (∃ (v5 : Int) (m5 : Mem), Rn (d + 3) yRd_next [.ref 35] m4 (some v5) m5 ∧ (if v5 ≠ 92 then (∃ (v7 : Int) (m7 : Mem), Rn (d + 3) yRd_breakOff [.ref 35] m5 (some v7) m7 ∧ (B_Rd_recursion_46 d x1 v2 v7 m7 o s')) else (∃ (v8 : Int) (m8 : Mem), Rn (d + 3) yRd_expression [.ref 35, vi (x1 + 1)] m5 (some v8) m8 ∧ (B_Rd_recursion_46 d x1 v2 v8 m8 o s')))))))
theorem M_Rd_recursion {d : Nat} {x1 : Int} {σ s' : Mem} {o : Option Int} (hx1 : rg x1) (H : B_Rd_recursion d x1 σ o s') : Rn (d + 4) yRd_recursion [.ref 35, vi x1] σ o s' := by
  refine k_m (Nat.le_of_ble_eq_true rfl) (fun hM => ?_)
  unfold B_Rd_recursion at H
  refine k_l rfl rfl rfl ?_
  refine k_k (x := 64) rfl rfl rfl rfl ?_
  obtain ⟨m1, R1, H⟩ := H
  refine k_iw rfl rfl rfl rfl rfl (by decide) rfl hM R1 (fun hM1 => ?_)
  refine k_l rfl rfl rfl ?_
  obtain ⟨v2, m2, R2, H⟩ := H
  refine k_iv rfl rfl rfl rfl rfl (by decide) rfl hM1 R2 (fun hM2 hv2 => ?_)
  refine k_l rfl rfl rfl ?_
  refine k_l rfl rfl rfl ?_
  refine k_k (x := 61) rfl rfl rfl rfl ?_
  obtain ⟨m3, R3, H⟩ := H
  refine k_iw rfl rfl rfl rfl rfl (by decide) rfl hM2 R3 (fun hM3 => ?_)
  refine k_l rfl rfl rfl ?_
  refine k_l rfl rfl rfl ?_
  refine k_p rfl rfl rfl ?_
  obtain ⟨m4, R4, H⟩ := H
  refine k_iw rfl rfl rfl rfl rfl (by decide) rfl hM3 R4 (fun hM4 => ?_)
  refine k_l rfl rfl rfl ?_
  obtain ⟨v5, m5, R5, H⟩ := H
  refine k_iv rfl rfl rfl rfl rfl (by decide) rfl hM4 R5 (fun hM5 hv5 => ?_)
  refine k_k (x := 92) rfl rfl rfl rfl ?_
  by_cases c6 : v5 ≠ 92
  · rw [if_pos c6] at H
    refine k_c rfl (by decide) hv5 (rgk rfl) (q := true) (decide_eq_true c6) rfl ?_
    refine k_l rfl rfl rfl ?_
    obtain ⟨v7, m7, R7, H⟩ := H
    refine k_iv rfl rfl rfl rfl rfl (by decide) rfl hM5 R7 (fun hM7 hv7 => ?_)
    exact k_lab (K_Rd_recursion_46 hx1 hv2 hv7 H) hM7 (lvS_cons rfl rfl (lvS_cons rfl rfl (lvS_cons rfl rfl lvS_nil)))
  · rw [if_neg c6] at H
    refine k_c rfl (by decide) hv5 (rgk rfl) (q := false) (decide_eq_false c6) rfl ?_
    refine k_l rfl rfl rfl ?_
    refine k_l rfl rfl rfl ?_
    refine k_p rfl rfl rfl ?_
    refine k_add rfl ?_
    obtain ⟨v8, m8, R8, H⟩ := H
    refine k_iv rfl rfl rfl rfl rfl (by decide) rfl hM5 R8 (fun hM8 hv8 => ?_)
    refine k_b rfl rfl rfl rfl ?_
    exact k_lab (K_Rd_recursion_46 hx1 hv2 hv8 H) hM8 (lvS_cons rfl rfl (lvS_cons rfl rfl (lvS_cons rfl rfl lvS_nil)))
def B_Rd_condition (d : Nat) (x1 : Int) (σ : Mem) (o : Option Int) (s' : Mem) : Prop := ∃ (m1 : Mem), Rn (d + 3) yRd_expect [.ref 35, vi 63] σ none m1 ∧ (∃ (v2 : Int) (m2 : Mem), Rn (d + 3) yRd_expression [.ref 35, vi (x1 + 1)] m1 (some v2) m2 ∧ (∃ (m3 : Mem), Rn (d + 3) yRd_expect [.ref 35, vi 58] m2 none m3 ∧ (∃ (v4 : Int) (m4 : Mem), Rn (d + 3) yRd_expression [.ref 35, vi (x1 + 1)] m3 (some v4) m4 ∧ (∃ (m5 : Mem), Rn (d + 3) yRd_expect [.ref 35, vi 124] m4 none m5 ∧ (∃ (v6 : Int) (m6 : Mem), Rn (d + 3) yRd_expression [.ref 35, vi (x1 + 1)] m5 (some v6) m6 ∧ (∃ (v7 : Int) (m7 : Mem), Rn (d + 3) yTr_add [.ref 5, vi 15, vi 0, vi v2, vi v4, vi v6] m6 (some v7) m7 ∧ (o = some v7 ∧ s' = m7)))))))
theorem M_Rd_condition {d : Nat} {x1 : Int} {σ s' : Mem} {o : Option Int} (hx1 : rg x1) (H : B_Rd_condition d x1 σ o s') : Rn (d + 4) yRd_condition [.ref 35, vi x1] σ o s' := by
  refine k_m (Nat.le_of_ble_eq_true rfl) (fun hM => ?_)
  unfold B_Rd_condition at H
  refine k_l rfl rfl rfl ?_
  refine k_k (x := 63) rfl rfl rfl rfl ?_
  obtain ⟨m1, R1, H⟩ := H
  refine k_iw rfl rfl rfl rfl rfl (by decide) rfl hM R1 (fun hM1 => ?_)
  refine k_l rfl rfl rfl ?_
  refine k_l rfl rfl rfl ?_
  refine k_p rfl rfl rfl ?_
  refine k_add rfl ?_
  obtain ⟨v2, m2, R2, H⟩ := H
  refine k_iv rfl rfl rfl rfl rfl (by decide) rfl hM1 R2 (fun hM2 hv2 => ?_)
  refine k_l rfl rfl rfl ?_
  refine k_l rfl rfl rfl ?_
  refine k_k (x := 58) rfl rfl rfl rfl ?_
  obtain ⟨m3, R3, H⟩ := H
  refine k_iw rfl rfl rfl rfl rfl (by decide) rfl hM2 R3 (fun hM3 => ?_)
  refine k_l rfl rfl rfl ?_
  refine k_l rfl rfl rfl ?_
  refine k_p rfl rfl rfl ?_
  refine k_add rfl ?_
  obtain ⟨v4, m4, R4, H⟩ := H
  refine k_iv rfl rfl rfl rfl rfl (by decide) rfl hM3 R4 (fun hM4 hv4 => ?_)
  refine k_l rfl rfl rfl ?_
  refine k_l rfl rfl rfl ?_
  refine k_k (x := 124) rfl rfl rfl rfl ?_
  obtain ⟨m5, R5, H⟩ := H
  refine k_iw rfl rfl rfl rfl rfl (by decide) rfl hM4 R5 (fun hM5 => ?_)
  refine k_l rfl rfl rfl ?_
  refine k_l rfl rfl rfl ?_
  refine k_p rfl rfl rfl ?_
  refine k_add rfl ?_
  obtain ⟨v6, m6, R6, H⟩ := H
  refine k_iv rfl rfl rfl rfl rfl (by decide) rfl hM5 R6 (fun hM6 hv6 => ?_)
  refine k_l rfl rfl rfl ?_
  refine k_l rfl rfl rfl ?_
  refine k_gr (t := 5) rfl rfl rfl (by decide) rfl ?_
  refine k_k (x := 15) rfl rfl rfl rfl ?_
  refine k_p rfl rfl rfl ?_
  refine k_l rfl rfl rfl ?_
  refine k_l rfl rfl rfl ?_
  refine k_l rfl rfl rfl ?_
  obtain ⟨v7, m7, R7, H⟩ := H
  refine k_iv rfl rfl rfl rfl rfl (by decide) rfl hM6 R7 (fun hM7 hv7 => ?_)
  obtain ⟨rfl, rfl⟩ := H
  exact k_r1 hM7 hv7 rfl rfl rfl
def B_Rd_choice (d : Nat) (x1 : Int) (σ : Mem) (o : Option Int) (s' : Mem) : Prop := ∃ (m1 : Mem), Rn (d + 3) yRd_expect [.ref 35, vi 35] σ none m1 ∧ (∃ (v2 : Int) (m2 : Mem), Rn (d + 3) yRd_expression [.ref 35, vi (x1 + 1)] m1 (some v2) m2 ∧ (∃ (v3 : Int) (m3 : Mem), Rn (d + 3) yTr_add [.ref 5, vi 16, vi 0, vi v2, vi ((-1)), vi ((-1))] m2 (some v3) m3 ∧ (∃ (m4 : Mem), Rn (d + 3) yRd_expect [.ref 35, vi 123] m3 none m4 ∧ (Lb (d + 3) yRd_choice 37 [(0, .ref 35), (1, vi x1), (2, vi v3), (3, vi ((-1))), (4, vi 0)] [] m4 o s'))))
theorem M_Rd_choice {d : Nat} {x1 : Int} {σ s' : Mem} {o : Option Int} (hx1 : rg x1) (H : B_Rd_choice d x1 σ o s') : Rn (d + 4) yRd_choice [.ref 35, vi x1] σ o s' := by
  refine k_m (Nat.le_of_ble_eq_true rfl) (fun hM => ?_)
  unfold B_Rd_choice at H
  refine k_l rfl rfl rfl ?_
  refine k_k (x := 35) rfl rfl rfl rfl ?_
  obtain ⟨m1, R1, H⟩ := H
  refine k_iw rfl rfl rfl rfl rfl (by decide) rfl hM R1 (fun hM1 => ?_)
  refine k_l rfl rfl rfl ?_
  refine k_gr (t := 5) rfl rfl rfl (by decide) rfl ?_
  refine k_k (x := 16) rfl rfl rfl rfl ?_
  refine k_p rfl rfl rfl ?_
  refine k_l rfl rfl rfl ?_
  refine k_l rfl rfl rfl ?_
  refine k_p rfl rfl rfl ?_
  refine k_add rfl ?_
  obtain ⟨v2, m2, R2, H⟩ := H
  refine k_iv rfl rfl rfl rfl rfl (by decide) rfl hM1 R2 (fun hM2 hv2 => ?_)
  refine k_p rfl rfl rfl ?_
  refine k_p rfl rfl rfl ?_
  obtain ⟨v3, m3, R3, H⟩ := H
  refine k_iv rfl rfl rfl rfl rfl (by decide) rfl hM2 R3 (fun hM3 hv3 => ?_)
  refine k_l rfl rfl rfl ?_
  refine k_l rfl rfl rfl ?_
  refine k_k (x := 123) rfl rfl rfl rfl ?_
  obtain ⟨m4, R4, H⟩ := H
  refine k_iw rfl rfl rfl rfl rfl (by decide) rfl hM3 R4 (fun hM4 => ?_)
  refine k_p rfl rfl rfl ?_
  refine k_l rfl rfl rfl ?_
  refine k_p rfl rfl rfl ?_
  refine k_l rfl rfl rfl ?_
  exact k_lab H hM4 (lvS_cons rfl rfl (lvS_cons rfl rfl (lvS_cons rfl rfl (lvS_cons rfl rfl (lvS_cons rfl rfl lvS_nil)))))
def B_Rd_choice_37 (d : Nat) (x1 x2 x3 x4 : Int) (σ : Mem) (o : Option Int) (s' : Mem) : Prop := if x4 ≥ 5 then (∃ (v2 : Int) (m2 : Mem), Rn (d + 3) yRd_breakOff [.ref 35] σ (some v2) m2 ∧ (o = some v2 ∧ s' = m2)) else (∃ (v3 : Int) (m3 : Mem), Rn (d + 3) yRd_branch [.ref 35, vi x1] σ (some v3) m3 ∧ (∃ (m4 : Mem), Rn (d + 3) yTr_addBranch [.ref 5, vi x2, vi x3, vi v3] m3 none m4 ∧ (∃ (v5 : Int) (m5 : Mem), Rn (d + 3) yRd_takes [.ref 35, vi 124] m4 (some v5) m5 ∧ (if v5 ≠ 0 then ((rg (x4 + 1)) ∧ (Lb (d + 3) yRd_choice 37 [(0, .ref 35), (1, vi x1), (2, vi x2), (3, vi v3), (4, vi (x4 + 1))] [] m5 o s')) else (∃ (m8 : Mem), Rn (d + 3) yRd_expect [.ref 35, vi 125] m5 none m8 ∧ (o = some x2 ∧ s' = m8))))))
theorem K_Rd_choice_37 {d : Nat} {x1 x2 x3 x4 : Int} {σ s' : Mem} {o : Option Int} (hx1 : rg x1) (hx2 : rg x2) (hx3 : rg x3) (hx4 : rg x4) (H : B_Rd_choice_37 d x1 x2 x3 x4 σ o s') : Lb (d + 3) yRd_choice 37 [(0, .ref 35), (1, vi x1), (2, vi x2), (3, vi x3), (4, vi x4)] [] σ o s' := by
  intro hM
  unfold B_Rd_choice_37 at H
  refine k_l rfl rfl rfl ?_
  refine k_p rfl rfl rfl ?_
  by_cases c1 : x4 ≥ 5
  · rw [if_pos c1] at H
    refine k_c rfl (by decide) hx4 (rgk rfl) (q := true) (decide_eq_true c1) rfl ?_
    refine k_l rfl rfl rfl ?_
    obtain ⟨v2, m2, R2, H⟩ := H
    refine k_iv rfl rfl rfl rfl rfl (by decide) rfl hM R2 (fun hM2 hv2 => ?_)
    obtain ⟨rfl, rfl⟩ := H
    exact k_r1 hM2 hv2 rfl rfl rfl
  · rw [if_neg c1] at H
    refine k_c rfl (by decide) hx4 (rgk rfl) (q := false) (decide_eq_false c1) rfl ?_
    refine k_l rfl rfl rfl ?_
    refine k_l rfl rfl rfl ?_
    obtain ⟨v3, m3, R3, H⟩ := H
    refine k_iv rfl rfl rfl rfl rfl (by decide) rfl hM R3 (fun hM3 hv3 => ?_)
    refine k_l rfl rfl rfl ?_
    refine k_l rfl rfl rfl ?_
    refine k_gr (t := 5) rfl rfl rfl (by decide) rfl ?_
    refine k_l rfl rfl rfl ?_
    refine k_l rfl rfl rfl ?_
    refine k_l rfl rfl rfl ?_
    obtain ⟨m4, R4, H⟩ := H
    refine k_iw rfl rfl rfl rfl rfl (by decide) rfl hM3 R4 (fun hM4 => ?_)
    refine k_l rfl rfl rfl ?_
    refine k_l rfl rfl rfl ?_
    refine k_l rfl rfl rfl ?_
    refine k_k (x := 124) rfl rfl rfl rfl ?_
    obtain ⟨v5, m5, R5, H⟩ := H
    refine k_iv rfl rfl rfl rfl rfl (by decide) rfl hM4 R5 (fun hM5 hv5 => ?_)
    by_cases c6 : v5 ≠ 0
    · rw [if_pos c6] at H
      refine k_z rfl (by decide) hv5 (q := true) (decide_eq_true c6) rfl ?_
      refine k_inc rfl rfl (by decide) ?_
      refine k_b rfl rfl rfl rfl ?_
      obtain ⟨g7, H⟩ := H
      exact k_lab H hM5 (lvS_cons rfl rfl (lvS_cons rfl rfl (lvS_cons rfl rfl (lvS_cons rfl rfl (lvS_cons rfl rfl lvS_nil)))))
    · rw [if_neg c6] at H
      refine k_z rfl (by decide) hv5 (q := false) (decide_eq_false c6) rfl ?_
      refine k_l rfl rfl rfl ?_
      refine k_k (x := 125) rfl rfl rfl rfl ?_
      obtain ⟨m8, R8, H⟩ := H
      refine k_iw rfl rfl rfl rfl rfl (by decide) rfl hM5 R8 (fun hM8 => ?_)
      refine k_l rfl rfl rfl ?_
      obtain ⟨rfl, rfl⟩ := H
      exact k_r1 hM8 hx2 rfl rfl rfl
def B_Rd_branch (d : Nat) (x1 : Int) (σ : Mem) (o : Option Int) (s' : Mem) : Prop := ∃ (v1 : Int) (m1 : Mem), Rn (d + 3) yRd_pattern [.ref 35, vi (x1 + 1)] (mup σ 35 6 0) (some v1) m1 ∧ (∃ (m2 : Mem), Rn (d + 3) yRd_expect [.ref 35, vi 58] m1 none m2 ∧ (∃ (m3 : Mem), Rn (d + 3) yRd_bindAll [.ref 35, vi (m1 35 6), vi 1] m2 none m3 ∧ (∃ (v4 : Int) (m4 : Mem), Rn (d + 3) yRd_expression [.ref 35, vi (x1 + 1)] m3 (some v4) m4 ∧ (∃ (m5 : Mem), Rn (d + 3) yRd_bindAll [.ref 35, vi (m1 35 6), vi ((-1))] m4 none m5 ∧ (∃ (v6 : Int) (m6 : Mem), Rn (d + 3) yIn_bitCount [vi (m1 35 6)] m5 (some v6) m6 ∧ (∃ (v7 : Int) (m7 : Mem), Rn (d + 3) yTr_add [.ref 5, vi 17, vi v6, vi v1, vi v4, vi ((-1))] m6 (some v7) m7 ∧ (o = some v7 ∧ s' = m7)))))))
theorem M_Rd_branch {d : Nat} {x1 : Int} {σ s' : Mem} {o : Option Int} (hx1 : rg x1) (H : B_Rd_branch d x1 σ o s') : Rn (d + 4) yRd_branch [.ref 35, vi x1] σ o s' := by
  refine k_m (Nat.le_of_ble_eq_true rfl) (fun hM => ?_)
  unfold B_Rd_branch at H
  refine k_l rfl rfl rfl ?_
  refine k_p rfl rfl rfl ?_
  refine k_pf rfl rfl rfl (by decide) rfl rfl rfl rfl ?_
  refine k_l rfl rfl rfl ?_
  refine k_l rfl rfl rfl ?_
  refine k_p rfl rfl rfl ?_
  refine k_add rfl ?_
  obtain ⟨v1, m1, R1, H⟩ := H
  refine k_iv rfl rfl rfl rfl rfl (by decide) rfl (hM.up (rgk rfl)) R1 (fun hM1 hv1 => ?_)
  refine k_l rfl rfl rfl ?_
  refine k_l rfl rfl rfl ?_
  refine k_gf rfl rfl rfl (by decide) rfl rfl ?_
  refine k_l rfl rfl rfl ?_
  refine k_l rfl rfl rfl ?_
  refine k_k (x := 58) rfl rfl rfl rfl ?_
  obtain ⟨m2, R2, H⟩ := H
  refine k_iw rfl rfl rfl rfl rfl (by decide) rfl hM1 R2 (fun hM2 => ?_)
  refine k_l rfl rfl rfl ?_
  refine k_l rfl rfl rfl ?_
  refine k_p rfl rfl rfl ?_
  obtain ⟨m3, R3, H⟩ := H
  refine k_iw rfl rfl rfl rfl rfl (by decide) rfl hM2 R3 (fun hM3 => ?_)
  refine k_l rfl rfl rfl ?_
  refine k_l rfl rfl rfl ?_
  refine k_p rfl rfl rfl ?_
  refine k_add rfl ?_
  obtain ⟨v4, m4, R4, H⟩ := H
  refine k_iv rfl rfl rfl rfl rfl (by decide) rfl hM3 R4 (fun hM4 hv4 => ?_)
  refine k_l rfl rfl rfl ?_
  refine k_l rfl rfl rfl ?_
  refine k_l rfl rfl rfl ?_
  refine k_p rfl rfl rfl ?_
  obtain ⟨m5, R5, H⟩ := H
  refine k_iw rfl rfl rfl rfl rfl (by decide) rfl hM4 R5 (fun hM5 => ?_)
  refine k_l rfl rfl rfl ?_
  refine k_gr (t := 5) rfl rfl rfl (by decide) rfl ?_
  refine k_k (x := 17) rfl rfl rfl rfl ?_
  refine k_l rfl rfl rfl ?_
  obtain ⟨v6, m6, R6, H⟩ := H
  refine k_is rfl (by decide) (Nat.le_of_ble_eq_true rfl) rfl rfl rfl hM5 R6 (fun hM6 hv6 => ?_)
  refine k_l rfl rfl rfl ?_
  refine k_l rfl rfl rfl ?_
  refine k_p rfl rfl rfl ?_
  obtain ⟨v7, m7, R7, H⟩ := H
  refine k_iv rfl rfl rfl rfl rfl (by decide) rfl hM6 R7 (fun hM7 hv7 => ?_)
  obtain ⟨rfl, rfl⟩ := H
  exact k_r1 hM7 hv7 rfl rfl rfl
def B_Rd_pattern (d : Nat) (x1 : Int) (σ : Mem) (o : Option Int) (s' : Mem) : Prop := if x1 ≤ 16 then (∃ (v2 : Int) (m2 : Mem), Rn (d + 3) yRd_part [.ref 35, vi x1] σ (some v2) m2 ∧ (∃ (v3 : Int) (m3 : Mem), Rn (d + 3) yRd_takes [.ref 35, vi 44] m2 (some v3) m3 ∧ (if v3 ≠ 0 then (∃ (v5 : Int) (m5 : Mem), Rn (d + 3) yRd_pattern [.ref 35, vi (x1 + 1)] m3 (some v5) m5 ∧ (∃ (v6 : Int) (m6 : Mem), Rn (d + 3) yTr_add [.ref 5, vi 10, vi 0, vi v2, vi v5, vi ((-1))] m5 (some v6) m6 ∧ (o = some v6 ∧ s' = m6))) else (o = some v2 ∧ s' = m3)))) else (∃ (v7 : Int) (m7 : Mem), Rn (d + 3) yRd_breakOff [.ref 35] σ (some v7) m7 ∧ (o = some v7 ∧ s' = m7))
theorem M_Rd_pattern {d : Nat} {x1 : Int} {σ s' : Mem} {o : Option Int} (hx1 : rg x1) (H : B_Rd_pattern d x1 σ o s') : Rn (d + 4) yRd_pattern [.ref 35, vi x1] σ o s' := by
  refine k_m (Nat.le_of_ble_eq_true rfl) (fun hM => ?_)
  unfold B_Rd_pattern at H
  refine k_l rfl rfl rfl ?_
  refine k_k (x := 16) rfl rfl rfl rfl ?_
  by_cases c1 : x1 ≤ 16
  · rw [if_pos c1] at H
    refine k_c rfl (by decide) hx1 (rgk rfl) (q := true) (decide_eq_true c1) rfl ?_
    refine k_l rfl rfl rfl ?_
    refine k_l rfl rfl rfl ?_
    obtain ⟨v2, m2, R2, H⟩ := H
    refine k_iv rfl rfl rfl rfl rfl (by decide) rfl hM R2 (fun hM2 hv2 => ?_)
    refine k_l rfl rfl rfl ?_
    refine k_l rfl rfl rfl ?_
    refine k_k (x := 44) rfl rfl rfl rfl ?_
    obtain ⟨v3, m3, R3, H⟩ := H
    refine k_iv rfl rfl rfl rfl rfl (by decide) rfl hM2 R3 (fun hM3 hv3 => ?_)
    by_cases c4 : v3 ≠ 0
    · rw [if_pos c4] at H
      refine k_z rfl (by decide) hv3 (q := true) (decide_eq_true c4) rfl ?_
      refine k_l rfl rfl rfl ?_
      refine k_gr (t := 5) rfl rfl rfl (by decide) rfl ?_
      refine k_k (x := 10) rfl rfl rfl rfl ?_
      refine k_p rfl rfl rfl ?_
      refine k_l rfl rfl rfl ?_
      refine k_l rfl rfl rfl ?_
      refine k_l rfl rfl rfl ?_
      refine k_p rfl rfl rfl ?_
      refine k_add rfl ?_
      obtain ⟨v5, m5, R5, H⟩ := H
      refine k_iv rfl rfl rfl rfl rfl (by decide) rfl hM3 R5 (fun hM5 hv5 => ?_)
      refine k_p rfl rfl rfl ?_
      obtain ⟨v6, m6, R6, H⟩ := H
      refine k_iv rfl rfl rfl rfl rfl (by decide) rfl hM5 R6 (fun hM6 hv6 => ?_)
      obtain ⟨rfl, rfl⟩ := H
      exact k_r1 hM6 hv6 rfl rfl rfl
    · rw [if_neg c4] at H
      refine k_z rfl (by decide) hv3 (q := false) (decide_eq_false c4) rfl ?_
      refine k_l rfl rfl rfl ?_
      obtain ⟨rfl, rfl⟩ := H
      exact k_r1 hM3 hv2 rfl rfl rfl
  · rw [if_neg c1] at H
    refine k_c rfl (by decide) hx1 (rgk rfl) (q := false) (decide_eq_false c1) rfl ?_
    refine k_l rfl rfl rfl ?_
    obtain ⟨v7, m7, R7, H⟩ := H
    refine k_iv rfl rfl rfl rfl rfl (by decide) rfl hM R7 (fun hM7 hv7 => ?_)
    obtain ⟨rfl, rfl⟩ := H
    exact k_r1 hM7 hv7 rfl rfl rfl
def B_Rd_part_22 (d : Nat) (x1 x2 : Int) (σ : Mem) (o : Option Int) (s' : Mem) : Prop := if dgt x2 = 0 then (∃ (v3 : Int) (m3 : Mem), Rn (d + 3) yRd_takes [.ref 35, vi 95] σ (some v3) m3 ∧ (if v3 = 0 then (∃ (v5 : Int) (m5 : Mem), Rn (d + 3) yRd_takes [.ref 35, vi 40] m3 (some v5) m5 ∧ (if v5 = 0 then (∃ (v7 : Int) (m7 : Mem), Rn (d + 3) yRd_constant [.ref 35] m5 (some v7) m7 ∧ (o = some v7 ∧ s' = m7)) else (∃ (v8 : Int) (m8 : Mem), Rn (d + 3) yRd_pattern [.ref 35, vi (x1 + 1)] m5 (some v8) m8 ∧ (∃ (m9 : Mem), Rn (d + 3) yRd_expect [.ref 35, vi 41] m8 none m9 ∧ (o = some v8 ∧ s' = m9))))) else (∃ (v10 : Int) (m10 : Mem), Rn (d + 3) yTr_addLeaf [.ref 5, vi 7, vi 0] m3 (some v10) m10 ∧ (o = some v10 ∧ s' = m10)))) else (∃ (v11 : Int) (m11 : Mem), Rn (d + 3) yRd_digits [.ref 35, vi 4] σ (some v11) m11 ∧ (∃ (v12 : Int) (m12 : Mem), Rn (d + 3) yTr_addLeaf [.ref 5, vi 0, vi v11] m11 (some v12) m12 ∧ (o = some v12 ∧ s' = m12)))
theorem K_Rd_part_22 {d : Nat} {x1 x2 : Int} {σ s' : Mem} {o : Option Int} (hx1 : rg x1) (hx2 : rg x2) (H : B_Rd_part_22 d x1 x2 σ o s') : Lb (d + 3) yRd_part 22 [(0, .ref 35), (1, vi x1), (2, vi x2)] [] σ o s' := by
  intro hM
  unfold B_Rd_part_22 at H
  refine k_l rfl rfl rfl ?_
  refine k_is (v := dgt x2) rfl (by decide) (Nat.le_of_ble_eq_true rfl) rfl rfl rfl hM (R_Rd_isDigit hx2) (fun _ q1 => ?_)
  by_cases c2 : dgt x2 = 0
  · rw [if_pos c2] at H
    refine k_z rfl (by decide) q1 (q := true) (decide_eq_true c2) rfl ?_
    refine k_l rfl rfl rfl ?_
    refine k_k (x := 95) rfl rfl rfl rfl ?_
    obtain ⟨v3, m3, R3, H⟩ := H
    refine k_iv rfl rfl rfl rfl rfl (by decide) rfl hM R3 (fun hM3 hv3 => ?_)
    by_cases c4 : v3 = 0
    · rw [if_pos c4] at H
      refine k_z rfl (by decide) hv3 (q := true) (decide_eq_true c4) rfl ?_
      refine k_l rfl rfl rfl ?_
      refine k_k (x := 40) rfl rfl rfl rfl ?_
      obtain ⟨v5, m5, R5, H⟩ := H
      refine k_iv rfl rfl rfl rfl rfl (by decide) rfl hM3 R5 (fun hM5 hv5 => ?_)
      by_cases c6 : v5 = 0
      · rw [if_pos c6] at H
        refine k_z rfl (by decide) hv5 (q := true) (decide_eq_true c6) rfl ?_
        refine k_l rfl rfl rfl ?_
        obtain ⟨v7, m7, R7, H⟩ := H
        refine k_iv rfl rfl rfl rfl rfl (by decide) rfl hM5 R7 (fun hM7 hv7 => ?_)
        obtain ⟨rfl, rfl⟩ := H
        exact k_r1 hM7 hv7 rfl rfl rfl
      · rw [if_neg c6] at H
        refine k_z rfl (by decide) hv5 (q := false) (decide_eq_false c6) rfl ?_
        refine k_l rfl rfl rfl ?_
        refine k_l rfl rfl rfl ?_
        refine k_p rfl rfl rfl ?_
        refine k_add rfl ?_
        obtain ⟨v8, m8, R8, H⟩ := H
        refine k_iv rfl rfl rfl rfl rfl (by decide) rfl hM5 R8 (fun hM8 hv8 => ?_)
        refine k_l rfl rfl rfl ?_
        refine k_l rfl rfl rfl ?_
        refine k_k (x := 41) rfl rfl rfl rfl ?_
        obtain ⟨m9, R9, H⟩ := H
        refine k_iw rfl rfl rfl rfl rfl (by decide) rfl hM8 R9 (fun hM9 => ?_)
        refine k_l rfl rfl rfl ?_
        obtain ⟨rfl, rfl⟩ := H
        exact k_r1 hM9 hv8 rfl rfl rfl
    · rw [if_neg c4] at H
      refine k_z rfl (by decide) hv3 (q := false) (decide_eq_false c4) rfl ?_
      refine k_l rfl rfl rfl ?_
      refine k_gr (t := 5) rfl rfl rfl (by decide) rfl ?_
      refine k_k (x := 7) rfl rfl rfl rfl ?_
      refine k_p rfl rfl rfl ?_
      obtain ⟨v10, m10, R10, H⟩ := H
      refine k_iv rfl rfl rfl rfl rfl (by decide) rfl hM3 R10 (fun hM10 hv10 => ?_)
      obtain ⟨rfl, rfl⟩ := H
      exact k_r1 hM10 hv10 rfl rfl rfl
  · rw [if_neg c2] at H
    refine k_z rfl (by decide) q1 (q := false) (decide_eq_false c2) rfl ?_
    refine k_l rfl rfl rfl ?_
    refine k_gr (t := 5) rfl rfl rfl (by decide) rfl ?_
    refine k_p rfl rfl rfl ?_
    refine k_l rfl rfl rfl ?_
    refine k_p rfl rfl rfl ?_
    obtain ⟨v11, m11, R11, H⟩ := H
    refine k_iv rfl rfl rfl rfl rfl (by decide) rfl hM R11 (fun hM11 hv11 => ?_)
    obtain ⟨v12, m12, R12, H⟩ := H
    refine k_iv rfl rfl rfl rfl rfl (by decide) rfl hM11 R12 (fun hM12 hv12 => ?_)
    obtain ⟨rfl, rfl⟩ := H
    exact k_r1 hM12 hv12 rfl rfl rfl
def B_Rd_part (d : Nat) (x1 : Int) (σ : Mem) (o : Option Int) (s' : Mem) : Prop := ∃ (v1 : Int) (m1 : Mem), Rn (d + 3) yRd_next [.ref 35] σ (some v1) m1 ∧ (if v1 < 97 then (B_Rd_part_22 d x1 v1 m1 o s') else (if v1 > 122 then (B_Rd_part_22 d x1 v1 m1 o s') else (∃ (v4 : Int) (m4 : Mem), Rn (d + 3) yRd_binder [.ref 35] m1 (some v4) m4 ∧ (o = some v4 ∧ s' = m4))))
theorem M_Rd_part {d : Nat} {x1 : Int} {σ s' : Mem} {o : Option Int} (hx1 : rg x1) (H : B_Rd_part d x1 σ o s') : Rn (d + 4) yRd_part [.ref 35, vi x1] σ o s' := by
  refine k_m (Nat.le_of_ble_eq_true rfl) (fun hM => ?_)
  unfold B_Rd_part at H
  refine k_l rfl rfl rfl ?_
  obtain ⟨v1, m1, R1, H⟩ := H
  refine k_iv rfl rfl rfl rfl rfl (by decide) rfl hM R1 (fun hM1 hv1 => ?_)
  refine k_l rfl rfl rfl ?_
  refine k_l rfl rfl rfl ?_
  refine k_k (x := 97) rfl rfl rfl rfl ?_
  by_cases c2 : v1 < 97
  · rw [if_pos c2] at H
    refine k_c rfl (by decide) hv1 (rgk rfl) (q := true) (decide_eq_true c2) rfl ?_
    exact k_lab (K_Rd_part_22 hx1 hv1 H) hM1 (lvS_cons rfl rfl (lvS_cons rfl rfl (lvS_cons rfl rfl lvS_nil)))
  · rw [if_neg c2] at H
    refine k_c rfl (by decide) hv1 (rgk rfl) (q := false) (decide_eq_false c2) rfl ?_
    refine k_l rfl rfl rfl ?_
    refine k_k (x := 122) rfl rfl rfl rfl ?_
    by_cases c3 : v1 > 122
    · rw [if_pos c3] at H
      refine k_c rfl (by decide) hv1 (rgk rfl) (q := true) (decide_eq_true c3) rfl ?_
      exact k_lab (K_Rd_part_22 hx1 hv1 H) hM1 (lvS_cons rfl rfl (lvS_cons rfl rfl (lvS_cons rfl rfl lvS_nil)))
    · rw [if_neg c3] at H
      refine k_c rfl (by decide) hv1 (rgk rfl) (q := false) (decide_eq_false c3) rfl ?_
      refine k_l rfl rfl rfl ?_
      obtain ⟨v4, m4, R4, H⟩ := H
      refine k_iv rfl rfl rfl rfl rfl (by decide) rfl hM1 R4 (fun hM4 hv4 => ?_)
      obtain ⟨rfl, rfl⟩ := H
      exact k_r1 hM4 hv4 rfl rfl rfl
def B_Rd_binder (d : Nat) (σ : Mem) (o : Option Int) (s' : Mem) : Prop := ∃ (v1 : Int) (m1 : Mem), Rn (d + 3) yRd_name [.ref 35] σ (some v1) m1 ∧ (if zAnd (m1 35 6) (zShl 1 (v1 - 97)) = 0 then (∃ (v3 : Int) (m3 : Mem), Rn (d + 3) yTr_addLeaf [.ref 5, vi 6, vi v1] (mup m1 35 6 (zOr (m1 35 6) (zShl 1 (v1 - 97)))) (some v3) m3 ∧ (o = some v3 ∧ s' = m3)) else (∃ (v4 : Int) (m4 : Mem), Rn (d + 3) yRd_breakOff [.ref 35] m1 (some v4) m4 ∧ (o = some v4 ∧ s' = m4)))
theorem M_Rd_binder {d : Nat} {σ s' : Mem} {o : Option Int}  (H : B_Rd_binder d  σ o s') : Rn (d + 4) yRd_binder [.ref 35] σ o s' := by
  refine k_m (Nat.le_of_ble_eq_true rfl) (fun hM => ?_)
  unfold B_Rd_binder at H
  refine k_l rfl rfl rfl ?_
  obtain ⟨v1, m1, R1, H⟩ := H
  refine k_iv rfl rfl rfl rfl rfl (by decide) rfl hM R1 (fun hM1 hv1 => ?_)
  refine k_l rfl rfl rfl ?_
  refine k_p rfl rfl rfl ?_
  refine k_l rfl rfl rfl ?_
  refine k_k (x := 97) rfl rfl rfl rfl ?_
  refine k_sub rfl ?_
  refine k_shl rfl ?_
  refine k_l rfl rfl rfl ?_
  refine k_l rfl rfl rfl ?_
  refine k_gf rfl rfl rfl (by decide) rfl rfl ?_
  refine k_l rfl rfl rfl ?_
  refine k_and rfl ?_
  by_cases c2 : zAnd (m1 35 6) (zShl 1 (v1 - 97)) = 0
  · rw [if_pos c2] at H
    refine k_z rfl (by decide) rg_zAnd (q := true) (decide_eq_true c2) rfl ?_
    refine k_l rfl rfl rfl ?_
    refine k_p rfl rfl rfl ?_
    refine k_gf rfl rfl rfl (by decide) rfl rfl ?_
    refine k_l rfl rfl rfl ?_
    refine k_or rfl ?_
    refine k_pf rfl rfl rfl (by decide) rfl rfl rfl rfl ?_
    refine k_l rfl rfl rfl ?_
    refine k_gr (t := 5) rfl rfl rfl (by decide) rfl ?_
    refine k_k (x := 6) rfl rfl rfl rfl ?_
    refine k_l rfl rfl rfl ?_
    obtain ⟨v3, m3, R3, H⟩ := H
    refine k_iv rfl rfl rfl rfl rfl (by decide) rfl (hM1.up rg_zOr) R3 (fun hM3 hv3 => ?_)
    obtain ⟨rfl, rfl⟩ := H
    exact k_r1 hM3 hv3 rfl rfl rfl
  · rw [if_neg c2] at H
    refine k_z rfl (by decide) rg_zAnd (q := false) (decide_eq_false c2) rfl ?_
    refine k_l rfl rfl rfl ?_
    obtain ⟨v4, m4, R4, H⟩ := H
    refine k_iv rfl rfl rfl rfl rfl (by decide) rfl hM1 R4 (fun hM4 hv4 => ?_)
    obtain ⟨rfl, rfl⟩ := H
    exact k_r1 hM4 hv4 rfl rfl rfl
def B_Rd_constant_83 (d : Nat) (σ : Mem) (o : Option Int) (s' : Mem) : Prop := ∃ (v1 : Int) (m1 : Mem), Rn (d + 3) yRd_breakOff [.ref 35] σ (some v1) m1 ∧ (o = some v1 ∧ s' = m1)
theorem K_Rd_constant_83 {d : Nat} {σ s' : Mem} {o : Option Int}  (H : B_Rd_constant_83 d  σ o s') : Lb (d + 3) yRd_constant 83 [(0, .ref 35)] [] σ o s' := by
  intro hM
  unfold B_Rd_constant_83 at H
  refine k_l rfl rfl rfl ?_
  obtain ⟨v1, m1, R1, H⟩ := H
  refine k_iv rfl rfl rfl rfl rfl (by decide) rfl hM R1 (fun hM1 hv1 => ?_)
  obtain ⟨rfl, rfl⟩ := H
  exact k_r1 hM1 hv1 rfl rfl rfl
def B_Rd_constant (d : Nat) (σ : Mem) (o : Option Int) (s' : Mem) : Prop := ∃ (v1 : Int) (m1 : Mem), Rn (d + 3) yRd_takes [.ref 35, vi 84] σ (some v1) m1 ∧ (if v1 = 0 then (∃ (v3 : Int) (m3 : Mem), Rn (d + 3) yRd_takes [.ref 35, vi 70] m1 (some v3) m3 ∧ (if v3 = 0 then (∃ (v5 : Int) (m5 : Mem), Rn (d + 3) yRd_takes [.ref 35, vi 91] m3 (some v5) m5 ∧ (if v5 = 0 then (B_Rd_constant_83 d  m5 o s') else (if chr m5 (m5 35 3) ≠ 93 then (B_Rd_constant_83 d  m5 o s') else ((rg ((m5 35 3) + 1)) ∧ (∃ (v10 : Int) (m10 : Mem), Rn (d + 3) yTr_addLeaf [.ref 5, vi 3, vi 0] (mup m5 35 3 ((m5 35 3) + 1)) (some v10) m10 ∧ (o = some v10 ∧ s' = m10)))))) else (∃ (v11 : Int) (m11 : Mem), Rn (d + 3) yTr_addLeaf [.ref 5, vi 2, vi 0] m3 (some v11) m11 ∧ (o = some v11 ∧ s' = m11)))) else (∃ (v12 : Int) (m12 : Mem), Rn (d + 3) yTr_addLeaf [.ref 5, vi 2, vi 1] m1 (some v12) m12 ∧ (o = some v12 ∧ s' = m12)))
theorem M_Rd_constant {d : Nat} {σ s' : Mem} {o : Option Int}  (H : B_Rd_constant d  σ o s') : Rn (d + 4) yRd_constant [.ref 35] σ o s' := by
  refine k_m (Nat.le_of_ble_eq_true rfl) (fun hM => ?_)
  unfold B_Rd_constant at H
  refine k_l rfl rfl rfl ?_
  refine k_k (x := 84) rfl rfl rfl rfl ?_
  obtain ⟨v1, m1, R1, H⟩ := H
  refine k_iv rfl rfl rfl rfl rfl (by decide) rfl hM R1 (fun hM1 hv1 => ?_)
  by_cases c2 : v1 = 0
  · rw [if_pos c2] at H
    refine k_z rfl (by decide) hv1 (q := true) (decide_eq_true c2) rfl ?_
    refine k_l rfl rfl rfl ?_
    refine k_k (x := 70) rfl rfl rfl rfl ?_
    obtain ⟨v3, m3, R3, H⟩ := H
    refine k_iv rfl rfl rfl rfl rfl (by decide) rfl hM1 R3 (fun hM3 hv3 => ?_)
    by_cases c4 : v3 = 0
    · rw [if_pos c4] at H
      refine k_z rfl (by decide) hv3 (q := true) (decide_eq_true c4) rfl ?_
      refine k_l rfl rfl rfl ?_
      refine k_k (x := 91) rfl rfl rfl rfl ?_
      obtain ⟨v5, m5, R5, H⟩ := H
      refine k_iv rfl rfl rfl rfl rfl (by decide) rfl hM3 R5 (fun hM5 hv5 => ?_)
      by_cases c6 : v5 = 0
      · rw [if_pos c6] at H
        refine k_z rfl (by decide) hv5 (q := true) (decide_eq_true c6) rfl ?_
        exact k_lab (K_Rd_constant_83  H) hM5 (lvS_cons rfl rfl lvS_nil)
      · rw [if_neg c6] at H
        refine k_z rfl (by decide) hv5 (q := false) (decide_eq_false c6) rfl ?_
        refine k_l rfl rfl rfl ?_
        refine k_gr (t := 2) rfl rfl rfl (by decide) rfl ?_
        refine k_l rfl rfl rfl ?_
        refine k_gf rfl rfl rfl (by decide) rfl rfl ?_
        refine k_iv (v := chr m5 (m5 35 3)) rfl rfl rfl rfl rfl (by decide) rfl hM5 (R_Ln_charAt (hM5 _ _)) (fun _ q7 => ?_)
        refine k_k (x := 93) rfl rfl rfl rfl ?_
        by_cases c8 : chr m5 (m5 35 3) ≠ 93
        · rw [if_pos c8] at H
          refine k_c rfl (by decide) q7 (rgk rfl) (q := true) (decide_eq_true c8) rfl ?_
          exact k_lab (K_Rd_constant_83  H) hM5 (lvS_cons rfl rfl lvS_nil)
        · rw [if_neg c8] at H
          refine k_c rfl (by decide) q7 (rgk rfl) (q := false) (decide_eq_false c8) rfl ?_
          refine k_l rfl rfl rfl ?_
          refine k_p rfl rfl rfl ?_
          refine k_gf rfl rfl rfl (by decide) rfl rfl ?_
          refine k_p rfl rfl rfl ?_
          refine k_add rfl ?_
          obtain ⟨g9, H⟩ := H
          refine k_pf rfl rfl rfl (by decide) rfl rfl rfl rfl ?_
          refine k_l rfl rfl rfl ?_
          refine k_gr (t := 5) rfl rfl rfl (by decide) rfl ?_
          refine k_p rfl rfl rfl ?_
          refine k_p rfl rfl rfl ?_
          obtain ⟨v10, m10, R10, H⟩ := H
          refine k_iv rfl rfl rfl rfl rfl (by decide) rfl (hM5.up g9) R10 (fun hM10 hv10 => ?_)
          obtain ⟨rfl, rfl⟩ := H
          exact k_r1 hM10 hv10 rfl rfl rfl
    · rw [if_neg c4] at H
      refine k_z rfl (by decide) hv3 (q := false) (decide_eq_false c4) rfl ?_
      refine k_l rfl rfl rfl ?_
      refine k_gr (t := 5) rfl rfl rfl (by decide) rfl ?_
      refine k_p rfl rfl rfl ?_
      refine k_p rfl rfl rfl ?_
      obtain ⟨v11, m11, R11, H⟩ := H
      refine k_iv rfl rfl rfl rfl rfl (by decide) rfl hM3 R11 (fun hM11 hv11 => ?_)
      obtain ⟨rfl, rfl⟩ := H
      exact k_r1 hM11 hv11 rfl rfl rfl
  · rw [if_neg c2] at H
    refine k_z rfl (by decide) hv1 (q := false) (decide_eq_false c2) rfl ?_
    refine k_l rfl rfl rfl ?_
    refine k_gr (t := 5) rfl rfl rfl (by decide) rfl ?_
    refine k_p rfl rfl rfl ?_
    refine k_p rfl rfl rfl ?_
    obtain ⟨v12, m12, R12, H⟩ := H
    refine k_iv rfl rfl rfl rfl rfl (by decide) rfl hM1 R12 (fun hM12 hv12 => ?_)
    obtain ⟨rfl, rfl⟩ := H
    exact k_r1 hM12 hv12 rfl rfl rfl
def B_Rd_list (d : Nat) (x1 : Int) (σ : Mem) (o : Option Int) (s' : Mem) : Prop := Lb (d + 3) yRd_list 7 [(0, .ref 35), (1, vi x1), (2, vi ((-1))), (3, vi ((-1))), (4, vi 0)] [] σ o s'
theorem M_Rd_list {d : Nat} {x1 : Int} {σ s' : Mem} {o : Option Int} (hx1 : rg x1) (H : B_Rd_list d x1 σ o s') : Rn (d + 4) yRd_list [.ref 35, vi x1] σ o s' := by
  refine k_m (Nat.le_of_ble_eq_true rfl) (fun hM => ?_)
  unfold B_Rd_list at H
  refine k_p rfl rfl rfl ?_
  refine k_l rfl rfl rfl ?_
  refine k_p rfl rfl rfl ?_
  refine k_l rfl rfl rfl ?_
  refine k_p rfl rfl rfl ?_
  refine k_l rfl rfl rfl ?_
  exact k_lab H hM (lvS_cons rfl rfl (lvS_cons rfl rfl (lvS_cons rfl rfl (lvS_cons rfl rfl (lvS_cons rfl rfl lvS_nil)))))
def B_Rd_list_71 (d : Nat) (x1 x2 x4 x5 x6 : Int) (σ : Mem) (o : Option Int) (s' : Mem) : Prop := if x6 ≠ 0 then ((rg (x4 + 1)) ∧ (Lb (d + 3) yRd_list 7 [(0, .ref 35), (1, vi x1), (2, vi x2), (3, vi x5), (4, vi (x4 + 1))] [] σ o s')) else (o = some x2 ∧ s' = σ)
theorem K_Rd_list_71 {d : Nat} {x1 x2 x4 x5 x6 : Int} {σ s' : Mem} {o : Option Int} (hx1 : rg x1) (hx2 : rg x2) (hx4 : rg x4) (hx5 : rg x5) (hx6 : rg x6) (H : B_Rd_list_71 d x1 x2 x4 x5 x6 σ o s') : Lb (d + 3) yRd_list 71 [(0, .ref 35), (1, vi x1), (2, vi x2), (4, vi x4), (5, vi x5), (6, vi x6)] [] σ o s' := by
  intro hM
  unfold B_Rd_list_71 at H
  refine k_l rfl rfl rfl ?_
  refine k_l rfl rfl rfl ?_
  refine k_l rfl rfl rfl ?_
  by_cases c1 : x6 ≠ 0
  · rw [if_pos c1] at H
    refine k_z rfl (by decide) hx6 (q := true) (decide_eq_true c1) rfl ?_
    refine k_inc rfl rfl (by decide) ?_
    refine k_b rfl rfl rfl rfl ?_
    obtain ⟨g2, H⟩ := H
    exact k_lab H hM (lvS_cons rfl rfl (lvS_cons rfl rfl (lvS_cons rfl rfl (lvS_cons rfl rfl (lvS_cons rfl rfl lvS_nil)))))
  · rw [if_neg c1] at H
    refine k_z rfl (by decide) hx6 (q := false) (decide_eq_false c1) rfl ?_
    refine k_l rfl rfl rfl ?_
    obtain ⟨rfl, rfl⟩ := H
    exact k_r1 hM hx2 rfl rfl rfl
def B_Rd_list_50 (d : Nat) (x1 x2 x3 x4 x5 x6 : Int) (σ : Mem) (o : Option Int) (s' : Mem) : Prop := if x3 ≠ (-1) then (∃ (m2 : Mem), Rn (d + 3) yTr_setSecond [.ref 5, vi x3, vi x5] σ none m2 ∧ (B_Rd_list_71 d x1 x2 x4 x5 x6 m2 o s')) else (B_Rd_list_71 d x1 x5 x4 x5 x6 σ o s')
theorem K_Rd_list_50 {d : Nat} {x1 x2 x3 x4 x5 x6 : Int} {σ s' : Mem} {o : Option Int} (hx1 : rg x1) (hx2 : rg x2) (hx3 : rg x3) (hx4 : rg x4) (hx5 : rg x5) (hx6 : rg x6) (H : B_Rd_list_50 d x1 x2 x3 x4 x5 x6 σ o s') : Lb (d + 3) yRd_list 50 [(0, .ref 35), (1, vi x1), (2, vi x2), (3, vi x3), (4, vi x4), (5, vi x5), (6, vi x6)] [] σ o s' := by
  intro hM
  unfold B_Rd_list_50 at H
  refine k_l rfl rfl rfl ?_
  refine k_p rfl rfl rfl ?_
  by_cases c1 : x3 ≠ (-1)
  · rw [if_pos c1] at H
    refine k_c rfl (by decide) hx3 (rgk rfl) (q := true) (decide_eq_true c1) rfl ?_
    refine k_l rfl rfl rfl ?_
    refine k_gr (t := 5) rfl rfl rfl (by decide) rfl ?_
    refine k_l rfl rfl rfl ?_
    refine k_l rfl rfl rfl ?_
    obtain ⟨m2, R2, H⟩ := H
    refine k_iw rfl rfl rfl rfl rfl (by decide) rfl hM R2 (fun hM2 => ?_)
    exact k_lab (K_Rd_list_71 hx1 hx2 hx4 hx5 hx6 H) hM2 (lvS_cons rfl rfl (lvS_cons rfl rfl (lvS_cons rfl rfl (lvS_cons rfl rfl (lvS_cons rfl rfl (lvS_cons rfl rfl lvS_nil))))))
  · rw [if_neg c1] at H
    refine k_c rfl (by decide) hx3 (rgk rfl) (q := false) (decide_eq_false c1) rfl ?_
    refine k_l rfl rfl rfl ?_
    refine k_l rfl rfl rfl ?_
    refine k_b rfl rfl rfl rfl ?_
    exact k_lab (K_Rd_list_71 hx1 hx5 hx4 hx5 hx6 H) hM (lvS_cons rfl rfl (lvS_cons rfl rfl (lvS_cons rfl rfl (lvS_cons rfl rfl (lvS_cons rfl rfl (lvS_cons rfl rfl lvS_nil))))))
def B_Rd_list_7 (d : Nat) (x1 x2 x3 x4 : Int) (σ : Mem) (o : Option Int) (s' : Mem) : Prop := if x4 ≥ 60 then (∃ (v2 : Int) (m2 : Mem), Rn (d + 3) yRd_breakOff [.ref 35] σ (some v2) m2 ∧ (o = some v2 ∧ s' = m2)) else (∃ (v3 : Int) (m3 : Mem), Rn (d + 3) yRd_comparison [.ref 35, vi x1] σ (some v3) m3 ∧ (∃ (v4 : Int) (m4 : Mem), Rn (d + 3) yRd_takes [.ref 35, vi 44] m3 (some v4) m4 ∧ (if v4 = 0 then (B_Rd_list_50 d x1 x2 x3 x4 v3 v4 m4 o s') else (∃ (v6 : Int) (m6 : Mem), Rn (d + 3) yTr_add [.ref 5, vi 10, vi 0, vi v3, vi ((-1)), vi ((-1))] m4 (some v6) m6 ∧ (B_Rd_list_50 d x1 x2 x3 x4 v6 v4 m6 o s')))))
theorem K_Rd_list_7 {d : Nat} {x1 x2 x3 x4 : Int} {σ s' : Mem} {o : Option Int} (hx1 : rg x1) (hx2 : rg x2) (hx3 : rg x3) (hx4 : rg x4) (H : B_Rd_list_7 d x1 x2 x3 x4 σ o s') : Lb (d + 3) yRd_list 7 [(0, .ref 35), (1, vi x1), (2, vi x2), (3, vi x3), (4, vi x4)] [] σ o s' := by
  intro hM
  unfold B_Rd_list_7 at H
  refine k_l rfl rfl rfl ?_
  refine k_k (x := 60) rfl rfl rfl rfl ?_
  by_cases c1 : x4 ≥ 60
  · rw [if_pos c1] at H
    refine k_c rfl (by decide) hx4 (rgk rfl) (q := true) (decide_eq_true c1) rfl ?_
    refine k_l rfl rfl rfl ?_
    obtain ⟨v2, m2, R2, H⟩ := H
    refine k_iv rfl rfl rfl rfl rfl (by decide) rfl hM R2 (fun hM2 hv2 => ?_)
    obtain ⟨rfl, rfl⟩ := H
    exact k_r1 hM2 hv2 rfl rfl rfl
  · rw [if_neg c1] at H
    refine k_c rfl (by decide) hx4 (rgk rfl) (q := false) (decide_eq_false c1) rfl ?_
    refine k_l rfl rfl rfl ?_
    refine k_l rfl rfl rfl ?_
    obtain ⟨v3, m3, R3, H⟩ := H
    refine k_iv rfl rfl rfl rfl rfl (by decide) rfl hM R3 (fun hM3 hv3 => ?_)
    refine k_l rfl rfl rfl ?_
    refine k_l rfl rfl rfl ?_
    refine k_k (x := 44) rfl rfl rfl rfl ?_
    obtain ⟨v4, m4, R4, H⟩ := H
    refine k_iv rfl rfl rfl rfl rfl (by decide) rfl hM3 R4 (fun hM4 hv4 => ?_)
    refine k_l rfl rfl rfl ?_
    refine k_l rfl rfl rfl ?_
    by_cases c5 : v4 = 0
    · rw [if_pos c5] at H
      refine k_z rfl (by decide) hv4 (q := true) (decide_eq_true c5) rfl ?_
      exact k_lab (K_Rd_list_50 hx1 hx2 hx3 hx4 hv3 hv4 H) hM4 (lvS_cons rfl rfl (lvS_cons rfl rfl (lvS_cons rfl rfl (lvS_cons rfl rfl (lvS_cons rfl rfl (lvS_cons rfl rfl (lvS_cons rfl rfl lvS_nil)))))))
    · rw [if_neg c5] at H
      refine k_z rfl (by decide) hv4 (q := false) (decide_eq_false c5) rfl ?_
      refine k_l rfl rfl rfl ?_
      refine k_gr (t := 5) rfl rfl rfl (by decide) rfl ?_
      refine k_k (x := 10) rfl rfl rfl rfl ?_
      refine k_p rfl rfl rfl ?_
      refine k_l rfl rfl rfl ?_
      refine k_p rfl rfl rfl ?_
      refine k_p rfl rfl rfl ?_
      obtain ⟨v6, m6, R6, H⟩ := H
      refine k_iv rfl rfl rfl rfl rfl (by decide) rfl hM4 R6 (fun hM6 hv6 => ?_)
      refine k_l rfl rfl rfl ?_
      exact k_lab (K_Rd_list_50 hx1 hx2 hx3 hx4 hv6 hv4 H) hM6 (lvS_cons rfl rfl (lvS_cons rfl rfl (lvS_cons rfl rfl (lvS_cons rfl rfl (lvS_cons rfl rfl (lvS_cons rfl rfl (lvS_cons rfl rfl lvS_nil)))))))
def B_Rd_comparison_28 (d : Nat) (x1 x2 t0 : Int) (σ : Mem) (o : Option Int) (s' : Mem) : Prop := if t0 ≠ (-1) then (∃ (v2 : Int) (m2 : Mem), Rn (d + 3) yRd_sum [.ref 35, vi x1] σ (some v2) m2 ∧ (∃ (v3 : Int) (m3 : Mem), Rn (d + 3) yTr_add [.ref 5, vi 9, vi t0, vi x2, vi v2, vi ((-1))] m2 (some v3) m3 ∧ (o = some v3 ∧ s' = m3))) else (o = some x2 ∧ s' = σ)
theorem K_Rd_comparison_28 {d : Nat} {x1 x2 t0 : Int} {σ s' : Mem} {o : Option Int} (hx1 : rg x1) (hx2 : rg x2) (ht0 : rg t0) (H : B_Rd_comparison_28 d x1 x2 t0 σ o s') : Lb (d + 3) yRd_comparison 28 [(0, .ref 35), (1, vi x1), (2, vi x2)] [vi t0] σ o s' := by
  intro hM
  unfold B_Rd_comparison_28 at H
  refine k_l rfl rfl rfl ?_
  refine k_l rfl rfl rfl ?_
  refine k_p rfl rfl rfl ?_
  by_cases c1 : t0 ≠ (-1)
  · rw [if_pos c1] at H
    refine k_c rfl (by decide) ht0 (rgk rfl) (q := true) (decide_eq_true c1) rfl ?_
    refine k_l rfl rfl rfl ?_
    refine k_gr (t := 5) rfl rfl rfl (by decide) rfl ?_
    refine k_k (x := 9) rfl rfl rfl rfl ?_
    refine k_l rfl rfl rfl ?_
    refine k_l rfl rfl rfl ?_
    refine k_l rfl rfl rfl ?_
    refine k_l rfl rfl rfl ?_
    obtain ⟨v2, m2, R2, H⟩ := H
    refine k_iv rfl rfl rfl rfl rfl (by decide) rfl hM R2 (fun hM2 hv2 => ?_)
    refine k_p rfl rfl rfl ?_
    obtain ⟨v3, m3, R3, H⟩ := H
    refine k_iv rfl rfl rfl rfl rfl (by decide) rfl hM2 R3 (fun hM3 hv3 => ?_)
    obtain ⟨rfl, rfl⟩ := H
    exact k_r1 hM3 hv3 rfl rfl rfl
  · rw [if_neg c1] at H
    refine k_c rfl (by decide) ht0 (rgk rfl) (q := false) (decide_eq_false c1) rfl ?_
    refine k_l rfl rfl rfl ?_
    obtain ⟨rfl, rfl⟩ := H
    exact k_r1 hM hx2 rfl rfl rfl
def B_Rd_comparison (d : Nat) (x1 : Int) (σ : Mem) (o : Option Int) (s' : Mem) : Prop := ∃ (v1 : Int) (m1 : Mem), Rn (d + 3) yRd_sum [.ref 35, vi x1] σ (some v1) m1 ∧ (∃ (v2 : Int) (m2 : Mem), Rn (d + 3) yRd_takes [.ref 35, vi 61] m1 (some v2) m2 ∧ (if v2 = 0 then (∃ (v4 : Int) (m4 : Mem), Rn (d + 3) yRd_operator [.ref 35, vi 60, vi 60] m2 (some v4) m4 ∧ (B_Rd_comparison_28 d x1 v1 v4 m4 o s')) else (B_Rd_comparison_28 d x1 v1 61 m2 o s')))
theorem M_Rd_comparison {d : Nat} {x1 : Int} {σ s' : Mem} {o : Option Int} (hx1 : rg x1) (H : B_Rd_comparison d x1 σ o s') : Rn (d + 4) yRd_comparison [.ref 35, vi x1] σ o s' := by
  refine k_m (Nat.le_of_ble_eq_true rfl) (fun hM => ?_)
  unfold B_Rd_comparison at H
  refine k_l rfl rfl rfl ?_
  refine k_l rfl rfl rfl ?_
  obtain ⟨v1, m1, R1, H⟩ := H
  refine k_iv rfl rfl rfl rfl rfl (by decide) rfl hM R1 (fun hM1 hv1 => ?_)
  refine k_l rfl rfl rfl ?_
  refine k_l rfl rfl rfl ?_
  refine k_k (x := 61) rfl rfl rfl rfl ?_
  obtain ⟨v2, m2, R2, H⟩ := H
  refine k_iv rfl rfl rfl rfl rfl (by decide) rfl hM1 R2 (fun hM2 hv2 => ?_)
  by_cases c3 : v2 = 0
  · rw [if_pos c3] at H
    refine k_z rfl (by decide) hv2 (q := true) (decide_eq_true c3) rfl ?_
    refine k_l rfl rfl rfl ?_
    refine k_k (x := 60) rfl rfl rfl rfl ?_
    refine k_k (x := 60) rfl rfl rfl rfl ?_
    obtain ⟨v4, m4, R4, H⟩ := H
    refine k_iv rfl rfl rfl rfl rfl (by decide) rfl hM2 R4 (fun hM4 hv4 => ?_)
    exact k_lab (K_Rd_comparison_28 hx1 hv1 hv4 H) hM4 (lvS_cons rfl rfl (lvS_cons rfl rfl (lvS_cons rfl rfl lvS_nil)))
  · rw [if_neg c3] at H
    refine k_z rfl (by decide) hv2 (q := false) (decide_eq_false c3) rfl ?_
    refine k_k (x := 61) rfl rfl rfl rfl ?_
    refine k_b rfl rfl rfl rfl ?_
    exact k_lab (K_Rd_comparison_28 hx1 hv1 (rgk rfl) H) hM2 (lvS_cons rfl rfl (lvS_cons rfl rfl (lvS_cons rfl rfl lvS_nil)))
def B_Rd_sum (d : Nat) (x1 : Int) (σ : Mem) (o : Option Int) (s' : Mem) : Prop := ∃ (v1 : Int) (m1 : Mem), Rn (d + 3) yRd_product [.ref 35, vi x1] σ (some v1) m1 ∧ (Lb (d + 3) yRd_sum 8 [(0, .ref 35), (1, vi x1), (2, vi v1), (3, vi 0)] [] m1 o s')
theorem M_Rd_sum {d : Nat} {x1 : Int} {σ s' : Mem} {o : Option Int} (hx1 : rg x1) (H : B_Rd_sum d x1 σ o s') : Rn (d + 4) yRd_sum [.ref 35, vi x1] σ o s' := by
  refine k_m (Nat.le_of_ble_eq_true rfl) (fun hM => ?_)
  unfold B_Rd_sum at H
  refine k_l rfl rfl rfl ?_
  refine k_l rfl rfl rfl ?_
  obtain ⟨v1, m1, R1, H⟩ := H
  refine k_iv rfl rfl rfl rfl rfl (by decide) rfl hM R1 (fun hM1 hv1 => ?_)
  refine k_l rfl rfl rfl ?_
  refine k_p rfl rfl rfl ?_
  refine k_l rfl rfl rfl ?_
  exact k_lab H hM1 (lvS_cons rfl rfl (lvS_cons rfl rfl (lvS_cons rfl rfl (lvS_cons rfl rfl lvS_nil))))
def B_Rd_sum_8 (d : Nat) (x1 x2 x3 : Int) (σ : Mem) (o : Option Int) (s' : Mem) : Prop := if x3 ≥ 60 then (∃ (v2 : Int) (m2 : Mem), Rn (d + 3) yRd_breakOff [.ref 35] σ (some v2) m2 ∧ (o = some v2 ∧ s' = m2)) else (∃ (v3 : Int) (m3 : Mem), Rn (d + 3) yRd_operator [.ref 35, vi 43, vi 45] σ (some v3) m3 ∧ (if v3 ≠ (-1) then (∃ (v5 : Int) (m5 : Mem), Rn (d + 3) yRd_product [.ref 35, vi x1] m3 (some v5) m5 ∧ (∃ (v6 : Int) (m6 : Mem), Rn (d + 3) yTr_add [.ref 5, vi 9, vi v3, vi x2, vi v5, vi ((-1))] m5 (some v6) m6 ∧ ((rg (x3 + 1)) ∧ (Lb (d + 3) yRd_sum 8 [(0, .ref 35), (1, vi x1), (2, vi v6), (3, vi (x3 + 1))] [] m6 o s')))) else (o = some x2 ∧ s' = m3)))
theorem K_Rd_sum_8 {d : Nat} {x1 x2 x3 : Int} {σ s' : Mem} {o : Option Int} (hx1 : rg x1) (hx2 : rg x2) (hx3 : rg x3) (H : B_Rd_sum_8 d x1 x2 x3 σ o s') : Lb (d + 3) yRd_sum 8 [(0, .ref 35), (1, vi x1), (2, vi x2), (3, vi x3)] [] σ o s' := by
  intro hM
  unfold B_Rd_sum_8 at H
  refine k_l rfl rfl rfl ?_
  refine k_k (x := 60) rfl rfl rfl rfl ?_
  by_cases c1 : x3 ≥ 60
  · rw [if_pos c1] at H
    refine k_c rfl (by decide) hx3 (rgk rfl) (q := true) (decide_eq_true c1) rfl ?_
    refine k_l rfl rfl rfl ?_
    obtain ⟨v2, m2, R2, H⟩ := H
    refine k_iv rfl rfl rfl rfl rfl (by decide) rfl hM R2 (fun hM2 hv2 => ?_)
    obtain ⟨rfl, rfl⟩ := H
    exact k_r1 hM2 hv2 rfl rfl rfl
  · rw [if_neg c1] at H
    refine k_c rfl (by decide) hx3 (rgk rfl) (q := false) (decide_eq_false c1) rfl ?_
    refine k_l rfl rfl rfl ?_
    refine k_k (x := 43) rfl rfl rfl rfl ?_
    refine k_k (x := 45) rfl rfl rfl rfl ?_
    obtain ⟨v3, m3, R3, H⟩ := H
    refine k_iv rfl rfl rfl rfl rfl (by decide) rfl hM R3 (fun hM3 hv3 => ?_)
    refine k_l rfl rfl rfl ?_
    refine k_l rfl rfl rfl ?_
    refine k_p rfl rfl rfl ?_
    by_cases c4 : v3 ≠ (-1)
    · rw [if_pos c4] at H
      refine k_c rfl (by decide) hv3 (rgk rfl) (q := true) (decide_eq_true c4) rfl ?_
      refine k_l rfl rfl rfl ?_
      refine k_gr (t := 5) rfl rfl rfl (by decide) rfl ?_
      refine k_k (x := 9) rfl rfl rfl rfl ?_
      refine k_l rfl rfl rfl ?_
      refine k_l rfl rfl rfl ?_
      refine k_l rfl rfl rfl ?_
      refine k_l rfl rfl rfl ?_
      obtain ⟨v5, m5, R5, H⟩ := H
      refine k_iv rfl rfl rfl rfl rfl (by decide) rfl hM3 R5 (fun hM5 hv5 => ?_)
      refine k_p rfl rfl rfl ?_
      obtain ⟨v6, m6, R6, H⟩ := H
      refine k_iv rfl rfl rfl rfl rfl (by decide) rfl hM5 R6 (fun hM6 hv6 => ?_)
      refine k_l rfl rfl rfl ?_
      refine k_inc rfl rfl (by decide) ?_
      refine k_b rfl rfl rfl rfl ?_
      obtain ⟨g7, H⟩ := H
      exact k_lab H hM6 (lvS_cons rfl rfl (lvS_cons rfl rfl (lvS_cons rfl rfl (lvS_cons rfl rfl lvS_nil))))
    · rw [if_neg c4] at H
      refine k_c rfl (by decide) hv3 (rgk rfl) (q := false) (decide_eq_false c4) rfl ?_
      refine k_l rfl rfl rfl ?_
      obtain ⟨rfl, rfl⟩ := H
      exact k_r1 hM3 hx2 rfl rfl rfl
def B_Rd_product (d : Nat) (x1 : Int) (σ : Mem) (o : Option Int) (s' : Mem) : Prop := ∃ (v1 : Int) (m1 : Mem), Rn (d + 3) yRd_application [.ref 35, vi x1] σ (some v1) m1 ∧ (Lb (d + 3) yRd_product 8 [(0, .ref 35), (1, vi x1), (2, vi v1), (3, vi 0)] [] m1 o s')
theorem M_Rd_product {d : Nat} {x1 : Int} {σ s' : Mem} {o : Option Int} (hx1 : rg x1) (H : B_Rd_product d x1 σ o s') : Rn (d + 4) yRd_product [.ref 35, vi x1] σ o s' := by
  refine k_m (Nat.le_of_ble_eq_true rfl) (fun hM => ?_)
  unfold B_Rd_product at H
  refine k_l rfl rfl rfl ?_
  refine k_l rfl rfl rfl ?_
  obtain ⟨v1, m1, R1, H⟩ := H
  refine k_iv rfl rfl rfl rfl rfl (by decide) rfl hM R1 (fun hM1 hv1 => ?_)
  refine k_l rfl rfl rfl ?_
  refine k_p rfl rfl rfl ?_
  refine k_l rfl rfl rfl ?_
  exact k_lab H hM1 (lvS_cons rfl rfl (lvS_cons rfl rfl (lvS_cons rfl rfl (lvS_cons rfl rfl lvS_nil))))
def B_Rd_product_8 (d : Nat) (x1 x2 x3 : Int) (σ : Mem) (o : Option Int) (s' : Mem) : Prop := if x3 ≥ 60 then (∃ (v2 : Int) (m2 : Mem), Rn (d + 3) yRd_breakOff [.ref 35] σ (some v2) m2 ∧ (o = some v2 ∧ s' = m2)) else (∃ (v3 : Int) (m3 : Mem), Rn (d + 3) yRd_operator [.ref 35, vi 42, vi 47] σ (some v3) m3 ∧ (if v3 ≠ (-1) then (∃ (v5 : Int) (m5 : Mem), Rn (d + 3) yRd_application [.ref 35, vi x1] m3 (some v5) m5 ∧ (∃ (v6 : Int) (m6 : Mem), Rn (d + 3) yTr_add [.ref 5, vi 9, vi v3, vi x2, vi v5, vi ((-1))] m5 (some v6) m6 ∧ ((rg (x3 + 1)) ∧ (Lb (d + 3) yRd_product 8 [(0, .ref 35), (1, vi x1), (2, vi v6), (3, vi (x3 + 1))] [] m6 o s')))) else (o = some x2 ∧ s' = m3)))
theorem K_Rd_product_8 {d : Nat} {x1 x2 x3 : Int} {σ s' : Mem} {o : Option Int} (hx1 : rg x1) (hx2 : rg x2) (hx3 : rg x3) (H : B_Rd_product_8 d x1 x2 x3 σ o s') : Lb (d + 3) yRd_product 8 [(0, .ref 35), (1, vi x1), (2, vi x2), (3, vi x3)] [] σ o s' := by
  intro hM
  unfold B_Rd_product_8 at H
  refine k_l rfl rfl rfl ?_
  refine k_k (x := 60) rfl rfl rfl rfl ?_
  by_cases c1 : x3 ≥ 60
  · rw [if_pos c1] at H
    refine k_c rfl (by decide) hx3 (rgk rfl) (q := true) (decide_eq_true c1) rfl ?_
    refine k_l rfl rfl rfl ?_
    obtain ⟨v2, m2, R2, H⟩ := H
    refine k_iv rfl rfl rfl rfl rfl (by decide) rfl hM R2 (fun hM2 hv2 => ?_)
    obtain ⟨rfl, rfl⟩ := H
    exact k_r1 hM2 hv2 rfl rfl rfl
  · rw [if_neg c1] at H
    refine k_c rfl (by decide) hx3 (rgk rfl) (q := false) (decide_eq_false c1) rfl ?_
    refine k_l rfl rfl rfl ?_
    refine k_k (x := 42) rfl rfl rfl rfl ?_
    refine k_k (x := 47) rfl rfl rfl rfl ?_
    obtain ⟨v3, m3, R3, H⟩ := H
    refine k_iv rfl rfl rfl rfl rfl (by decide) rfl hM R3 (fun hM3 hv3 => ?_)
    refine k_l rfl rfl rfl ?_
    refine k_l rfl rfl rfl ?_
    refine k_p rfl rfl rfl ?_
    by_cases c4 : v3 ≠ (-1)
    · rw [if_pos c4] at H
      refine k_c rfl (by decide) hv3 (rgk rfl) (q := true) (decide_eq_true c4) rfl ?_
      refine k_l rfl rfl rfl ?_
      refine k_gr (t := 5) rfl rfl rfl (by decide) rfl ?_
      refine k_k (x := 9) rfl rfl rfl rfl ?_
      refine k_l rfl rfl rfl ?_
      refine k_l rfl rfl rfl ?_
      refine k_l rfl rfl rfl ?_
      refine k_l rfl rfl rfl ?_
      obtain ⟨v5, m5, R5, H⟩ := H
      refine k_iv rfl rfl rfl rfl rfl (by decide) rfl hM3 R5 (fun hM5 hv5 => ?_)
      refine k_p rfl rfl rfl ?_
      obtain ⟨v6, m6, R6, H⟩ := H
      refine k_iv rfl rfl rfl rfl rfl (by decide) rfl hM5 R6 (fun hM6 hv6 => ?_)
      refine k_l rfl rfl rfl ?_
      refine k_inc rfl rfl (by decide) ?_
      refine k_b rfl rfl rfl rfl ?_
      obtain ⟨g7, H⟩ := H
      exact k_lab H hM6 (lvS_cons rfl rfl (lvS_cons rfl rfl (lvS_cons rfl rfl (lvS_cons rfl rfl lvS_nil))))
    · rw [if_neg c4] at H
      refine k_c rfl (by decide) hv3 (rgk rfl) (q := false) (decide_eq_false c4) rfl ?_
      refine k_l rfl rfl rfl ?_
      obtain ⟨rfl, rfl⟩ := H
      exact k_r1 hM3 hx2 rfl rfl rfl
def B_Rd_operator_22 (d : Nat) (x3 : Int) (σ : Mem) (o : Option Int) (s' : Mem) : Prop := (rg ((σ 35 3) + 1)) ∧ (if chr (mup σ 35 3 ((σ 35 3) + 1)) ((σ 35 3) + 1) = 46 then ((rg (((σ 35 3) + 1) + 1)) ∧ ((rg (x3 + 128)) ∧ (o = some (x3 + 128) ∧ s' = mup (mup σ 35 3 ((σ 35 3) + 1)) 35 3 (((σ 35 3) + 1) + 1)))) else (o = some x3 ∧ s' = mup σ 35 3 ((σ 35 3) + 1)))
theorem K_Rd_operator_22 {d : Nat} {x3 : Int} {σ s' : Mem} {o : Option Int} (hx3 : rg x3) (H : B_Rd_operator_22 d x3 σ o s') : Lb (d + 3) yRd_operator 22 [(0, .ref 35), (3, vi x3)] [] σ o s' := by
  intro hM
  unfold B_Rd_operator_22 at H
  refine k_l rfl rfl rfl ?_
  refine k_p rfl rfl rfl ?_
  refine k_gf rfl rfl rfl (by decide) rfl rfl ?_
  refine k_p rfl rfl rfl ?_
  refine k_add rfl ?_
  obtain ⟨g1, H⟩ := H
  refine k_pf rfl rfl rfl (by decide) rfl rfl rfl rfl ?_
  refine k_l rfl rfl rfl ?_
  refine k_gr (t := 2) rfl rfl rfl (by decide) rfl ?_
  refine k_l rfl rfl rfl ?_
  refine k_gf rfl rfl rfl (by decide) rfl mup_eq ?_
  refine k_iv (v := chr (mup σ 35 3 ((σ 35 3) + 1)) ((σ 35 3) + 1)) rfl rfl rfl rfl rfl (by decide) rfl (hM.up g1) (R_Ln_charAt g1) (fun _ q2 => ?_)
  refine k_k (x := 46) rfl rfl rfl rfl ?_
  by_cases c3 : chr (mup σ 35 3 ((σ 35 3) + 1)) ((σ 35 3) + 1) = 46
  · rw [if_pos c3] at H
    refine k_c rfl (by decide) q2 (rgk rfl) (q := true) (decide_eq_true c3) rfl ?_
    refine k_l rfl rfl rfl ?_
    refine k_p rfl rfl rfl ?_
    refine k_gf rfl rfl rfl (by decide) rfl mup_eq ?_
    refine k_p rfl rfl rfl ?_
    refine k_add rfl ?_
    obtain ⟨g4, H⟩ := H
    refine k_pf rfl rfl rfl (by decide) rfl rfl rfl rfl ?_
    refine k_l rfl rfl rfl ?_
    refine k_k (x := 128) rfl rfl rfl rfl ?_
    refine k_add rfl ?_
    obtain ⟨g5, H⟩ := H
    obtain ⟨rfl, rfl⟩ := H
    exact k_r1 ((hM.up g1).up g4) g5 rfl rfl rfl
  · rw [if_neg c3] at H
    refine k_c rfl (by decide) q2 (rgk rfl) (q := false) (decide_eq_false c3) rfl ?_
    refine k_l rfl rfl rfl ?_
    obtain ⟨rfl, rfl⟩ := H
    exact k_r1 (hM.up g1) hx3 rfl rfl rfl
def B_Rd_operator (d : Nat) (x1 x2 : Int) (σ : Mem) (o : Option Int) (s' : Mem) : Prop := ∃ (v1 : Int) (m1 : Mem), Rn (d + 3) yRd_next [.ref 35] σ (some v1) m1 ∧ (if v1 = (-1) then (o = some ((-1)) ∧ s' = m1) else (if v1 = x1 then (B_Rd_operator_22 d v1 m1 o s') else (if v1 = x2 then (B_Rd_operator_22 d v1 m1 o s') else (o = some ((-1)) ∧ s' = m1))))
theorem M_Rd_operator {d : Nat} {x1 x2 : Int} {σ s' : Mem} {o : Option Int} (hx1 : rg x1) (hx2 : rg x2) (H : B_Rd_operator d x1 x2 σ o s') : Rn (d + 4) yRd_operator [.ref 35, vi x1, vi x2] σ o s' := by
  refine k_m (Nat.le_of_ble_eq_true rfl) (fun hM => ?_)
  unfold B_Rd_operator at H
  refine k_l rfl rfl rfl ?_
  obtain ⟨v1, m1, R1, H⟩ := H
  refine k_iv rfl rfl rfl rfl rfl (by decide) rfl hM R1 (fun hM1 hv1 => ?_)
  refine k_l rfl rfl rfl ?_
  refine k_l rfl rfl rfl ?_
  refine k_p rfl rfl rfl ?_
  by_cases c2 : v1 = (-1)
  · rw [if_pos c2] at H
    refine k_c rfl (by decide) hv1 (rgk rfl) (q := true) (decide_eq_true c2) rfl ?_
    refine k_p rfl rfl rfl ?_
    obtain ⟨rfl, rfl⟩ := H
    exact k_r1 hM1 (rgk rfl) rfl rfl rfl
  · rw [if_neg c2] at H
    refine k_c rfl (by decide) hv1 (rgk rfl) (q := false) (decide_eq_false c2) rfl ?_
    refine k_l rfl rfl rfl ?_
    refine k_l rfl rfl rfl ?_
    by_cases c3 : v1 = x1
    · rw [if_pos c3] at H
      refine k_c rfl (by decide) hv1 hx1 (q := true) (decide_eq_true c3) rfl ?_
      exact k_lab (K_Rd_operator_22 hv1 H) hM1 (lvS_cons rfl rfl (lvS_cons rfl rfl lvS_nil))
    · rw [if_neg c3] at H
      refine k_c rfl (by decide) hv1 hx1 (q := false) (decide_eq_false c3) rfl ?_
      refine k_l rfl rfl rfl ?_
      refine k_l rfl rfl rfl ?_
      by_cases c4 : v1 = x2
      · rw [if_pos c4] at H
        refine k_c rfl (by decide) hv1 hx2 (q := true) (decide_eq_true c4) rfl ?_
        exact k_lab (K_Rd_operator_22 hv1 H) hM1 (lvS_cons rfl rfl (lvS_cons rfl rfl lvS_nil))
      · rw [if_neg c4] at H
        refine k_c rfl (by decide) hv1 hx2 (q := false) (decide_eq_false c4) rfl ?_
        refine k_p rfl rfl rfl ?_
        obtain ⟨rfl, rfl⟩ := H
        exact k_r1 hM1 (rgk rfl) rfl rfl rfl
def B_Rd_application (d : Nat) (x1 : Int) (σ : Mem) (o : Option Int) (s' : Mem) : Prop := ∃ (v1 : Int) (m1 : Mem), Rn (d + 3) yRd_atom [.ref 35, vi x1] σ (some v1) m1 ∧ (Lb (d + 3) yRd_application 8 [(0, .ref 35), (1, vi x1), (2, vi v1), (3, vi 0)] [] m1 o s')
theorem M_Rd_application {d : Nat} {x1 : Int} {σ s' : Mem} {o : Option Int} (hx1 : rg x1) (H : B_Rd_application d x1 σ o s') : Rn (d + 4) yRd_application [.ref 35, vi x1] σ o s' := by
  refine k_m (Nat.le_of_ble_eq_true rfl) (fun hM => ?_)
  unfold B_Rd_application at H
  refine k_l rfl rfl rfl ?_
  refine k_l rfl rfl rfl ?_
  obtain ⟨v1, m1, R1, H⟩ := H
  refine k_iv rfl rfl rfl rfl rfl (by decide) rfl hM R1 (fun hM1 hv1 => ?_)
  refine k_l rfl rfl rfl ?_
  refine k_p rfl rfl rfl ?_
  refine k_l rfl rfl rfl ?_
  exact k_lab H hM1 (lvS_cons rfl rfl (lvS_cons rfl rfl (lvS_cons rfl rfl (lvS_cons rfl rfl lvS_nil))))
def B_Rd_application_8 (d : Nat) (x1 x2 x3 : Int) (σ : Mem) (o : Option Int) (s' : Mem) : Prop := if x3 ≥ 60 then (o = some x2 ∧ s' = σ) else (∃ (v2 : Int) (m2 : Mem), Rn (d + 3) yRd_next [.ref 35] σ (some v2) m2 ∧ (∃ (v3 : Int) (m3 : Mem), Rn (d + 3) yRd_startsAtom [vi v2] m2 (some v3) m3 ∧ (if v3 = 0 then (o = some x2 ∧ s' = m3) else (∃ (v5 : Int) (m5 : Mem), Rn (d + 3) yRd_atom [.ref 35, vi x1] m3 (some v5) m5 ∧ (∃ (v6 : Int) (m6 : Mem), Rn (d + 3) yTr_add [.ref 5, vi 11, vi 0, vi x2, vi v5, vi ((-1))] m5 (some v6) m6 ∧ ((rg (x3 + 1)) ∧ (Lb (d + 3) yRd_application 8 [(0, .ref 35), (1, vi x1), (2, vi v6), (3, vi (x3 + 1))] [] m6 o s')))))))
theorem K_Rd_application_8 {d : Nat} {x1 x2 x3 : Int} {σ s' : Mem} {o : Option Int} (hx1 : rg x1) (hx2 : rg x2) (hx3 : rg x3) (H : B_Rd_application_8 d x1 x2 x3 σ o s') : Lb (d + 3) yRd_application 8 [(0, .ref 35), (1, vi x1), (2, vi x2), (3, vi x3)] [] σ o s' := by
  intro hM
  unfold B_Rd_application_8 at H
  refine k_l rfl rfl rfl ?_
  refine k_k (x := 60) rfl rfl rfl rfl ?_
  by_cases c1 : x3 ≥ 60
  · rw [if_pos c1] at H
    refine k_c rfl (by decide) hx3 (rgk rfl) (q := true) (decide_eq_true c1) rfl ?_
    refine k_l rfl rfl rfl ?_
    obtain ⟨rfl, rfl⟩ := H
    exact k_r1 hM hx2 rfl rfl rfl
  · rw [if_neg c1] at H
    refine k_c rfl (by decide) hx3 (rgk rfl) (q := false) (decide_eq_false c1) rfl ?_
    refine k_l rfl rfl rfl ?_
    obtain ⟨v2, m2, R2, H⟩ := H
    refine k_iv rfl rfl rfl rfl rfl (by decide) rfl hM R2 (fun hM2 hv2 => ?_)
    obtain ⟨v3, m3, R3, H⟩ := H
    refine k_is rfl (by decide) (Nat.le_of_ble_eq_true rfl) rfl rfl rfl hM2 R3 (fun hM3 hv3 => ?_)
    by_cases c4 : v3 = 0
    · rw [if_pos c4] at H
      refine k_z rfl (by decide) hv3 (q := true) (decide_eq_true c4) rfl ?_
      refine k_l rfl rfl rfl ?_
      obtain ⟨rfl, rfl⟩ := H
      exact k_r1 hM3 hx2 rfl rfl rfl
    · rw [if_neg c4] at H
      refine k_z rfl (by decide) hv3 (q := false) (decide_eq_false c4) rfl ?_
      refine k_l rfl rfl rfl ?_
      refine k_gr (t := 5) rfl rfl rfl (by decide) rfl ?_
      refine k_k (x := 11) rfl rfl rfl rfl ?_
      refine k_p rfl rfl rfl ?_
      refine k_l rfl rfl rfl ?_
      refine k_l rfl rfl rfl ?_
      refine k_l rfl rfl rfl ?_
      obtain ⟨v5, m5, R5, H⟩ := H
      refine k_iv rfl rfl rfl rfl rfl (by decide) rfl hM3 R5 (fun hM5 hv5 => ?_)
      refine k_p rfl rfl rfl ?_
      obtain ⟨v6, m6, R6, H⟩ := H
      refine k_iv rfl rfl rfl rfl rfl (by decide) rfl hM5 R6 (fun hM6 hv6 => ?_)
      refine k_l rfl rfl rfl ?_
      refine k_inc rfl rfl (by decide) ?_
      refine k_b rfl rfl rfl rfl ?_
      obtain ⟨g7, H⟩ := H
      exact k_lab H hM6 (lvS_cons rfl rfl (lvS_cons rfl rfl (lvS_cons rfl rfl (lvS_cons rfl rfl lvS_nil))))
def B_Rd_startsAtom_89 (d : Nat) (σ : Mem) (o : Option Int) (s' : Mem) : Prop := o = some 1 ∧ s' = σ
theorem K_Rd_startsAtom_89 {d : Nat} {σ s' : Mem} {o : Option Int}  (H : B_Rd_startsAtom_89 d  σ o s') : Lb (d + 3) yRd_startsAtom 89 [] [] σ o s' := by
  intro hM
  unfold B_Rd_startsAtom_89 at H
  refine k_p rfl rfl rfl ?_
  refine k_b rfl rfl rfl rfl ?_
  obtain ⟨rfl, rfl⟩ := H
  exact k_r1 hM (rgk rfl) rfl rfl rfl
def B_Rd_startsAtom (d : Nat) (x0 : Int) (σ : Mem) (o : Option Int) (s' : Mem) : Prop := if x0 = 40 then (o = some 1 ∧ s' = σ) else (if x0 = 70 then (o = some 1 ∧ s' = σ) else (if x0 = 73 then (o = some 1 ∧ s' = σ) else (if x0 = 82 then (o = some 1 ∧ s' = σ) else (if x0 = 84 then (o = some 1 ∧ s' = σ) else (if x0 = 91 then (o = some 1 ∧ s' = σ) else (if x0 = 126 then (o = some 1 ∧ s' = σ) else (if dgt x0 ≠ 0 then (B_Rd_startsAtom_89 d  σ o s') else (if x0 < 97 then (o = some 0 ∧ s' = σ) else (if x0 > 122 then (o = some 0 ∧ s' = σ) else (B_Rd_startsAtom_89 d  σ o s'))))))))))
theorem M_Rd_startsAtom {d : Nat} {x0 : Int} {σ s' : Mem} {o : Option Int} (hx0 : rg x0) (H : B_Rd_startsAtom d x0 σ o s') : Rn (d + 4) yRd_startsAtom [vi x0] σ o s' := by
  refine k_m (Nat.le_of_ble_eq_true rfl) (fun hM => ?_)
  unfold B_Rd_startsAtom at H
  refine k_l rfl rfl rfl ?_
  by_cases c1 : x0 = 40
  · rw [if_pos c1] at H
    refine k_sw rfl rfl c1 rfl rfl ?_
    refine k_p rfl rfl rfl ?_
    obtain ⟨rfl, rfl⟩ := H
    exact k_r1 hM (rgk rfl) rfl rfl rfl
  rw [if_neg c1] at H
  by_cases c2 : x0 = 70
  · rw [if_pos c2] at H
    refine k_sw rfl rfl c2 rfl rfl ?_
    refine k_p rfl rfl rfl ?_
    obtain ⟨rfl, rfl⟩ := H
    exact k_r1 hM (rgk rfl) rfl rfl rfl
  rw [if_neg c2] at H
  by_cases c3 : x0 = 73
  · rw [if_pos c3] at H
    refine k_sw rfl rfl c3 rfl rfl ?_
    refine k_p rfl rfl rfl ?_
    obtain ⟨rfl, rfl⟩ := H
    exact k_r1 hM (rgk rfl) rfl rfl rfl
  rw [if_neg c3] at H
  by_cases c4 : x0 = 82
  · rw [if_pos c4] at H
    refine k_sw rfl rfl c4 rfl rfl ?_
    refine k_p rfl rfl rfl ?_
    obtain ⟨rfl, rfl⟩ := H
    exact k_r1 hM (rgk rfl) rfl rfl rfl
  rw [if_neg c4] at H
  by_cases c5 : x0 = 84
  · rw [if_pos c5] at H
    refine k_sw rfl rfl c5 rfl rfl ?_
    refine k_p rfl rfl rfl ?_
    obtain ⟨rfl, rfl⟩ := H
    exact k_r1 hM (rgk rfl) rfl rfl rfl
  rw [if_neg c5] at H
  by_cases c6 : x0 = 91
  · rw [if_pos c6] at H
    refine k_sw rfl rfl c6 rfl rfl ?_
    refine k_p rfl rfl rfl ?_
    obtain ⟨rfl, rfl⟩ := H
    exact k_r1 hM (rgk rfl) rfl rfl rfl
  rw [if_neg c6] at H
  by_cases c7 : x0 = 126
  · rw [if_pos c7] at H
    refine k_sw rfl rfl c7 rfl rfl ?_
    refine k_p rfl rfl rfl ?_
    obtain ⟨rfl, rfl⟩ := H
    exact k_r1 hM (rgk rfl) rfl rfl rfl
  rw [if_neg c7] at H
  refine k_lsd rfl hx0 (by decide) (fun q hq => ?_) rfl ?_
  · simp only [List.mem_cons, List.not_mem_nil, or_false] at hq
    rcases hq with rfl | rfl | rfl | rfl | rfl | rfl | rfl
    · exact c1
    · exact c2
    · exact c3
    · exact c4
    · exact c5
    · exact c6
    · exact c7
  refine k_l rfl rfl rfl ?_
  refine k_is (v := dgt x0) rfl (by decide) (Nat.le_of_ble_eq_true rfl) rfl rfl rfl hM (R_Rd_isDigit hx0) (fun _ q8 => ?_)
  by_cases c9 : dgt x0 ≠ 0
  · rw [if_pos c9] at H
    refine k_z rfl (by decide) q8 (q := true) (decide_eq_true c9) rfl ?_
    exact k_lab (K_Rd_startsAtom_89  H) hM lvS_nil
  · rw [if_neg c9] at H
    refine k_z rfl (by decide) q8 (q := false) (decide_eq_false c9) rfl ?_
    refine k_l rfl rfl rfl ?_
    refine k_k (x := 97) rfl rfl rfl rfl ?_
    by_cases c10 : x0 < 97
    · rw [if_pos c10] at H
      refine k_c rfl (by decide) hx0 (rgk rfl) (q := true) (decide_eq_true c10) rfl ?_
      refine k_p rfl rfl rfl ?_
      obtain ⟨rfl, rfl⟩ := H
      exact k_r1 hM (rgk rfl) rfl rfl rfl
    · rw [if_neg c10] at H
      refine k_c rfl (by decide) hx0 (rgk rfl) (q := false) (decide_eq_false c10) rfl ?_
      refine k_l rfl rfl rfl ?_
      refine k_k (x := 122) rfl rfl rfl rfl ?_
      by_cases c11 : x0 > 122
      · rw [if_pos c11] at H
        refine k_c rfl (by decide) hx0 (rgk rfl) (q := true) (decide_eq_true c11) rfl ?_
        refine k_p rfl rfl rfl ?_
        obtain ⟨rfl, rfl⟩ := H
        exact k_r1 hM (rgk rfl) rfl rfl rfl
      · rw [if_neg c11] at H
        refine k_c rfl (by decide) hx0 (rgk rfl) (q := false) (decide_eq_false c11) rfl ?_
        exact k_lab (K_Rd_startsAtom_89  H) hM lvS_nil
def B_Rd_atom (d : Nat) (x1 : Int) (σ : Mem) (o : Option Int) (s' : Mem) : Prop := Lb (d + 3) yRd_atom 2 [(0, .ref 35), (1, vi x1), (2, vi 0)] [] σ o s'
theorem M_Rd_atom {d : Nat} {x1 : Int} {σ s' : Mem} {o : Option Int} (hx1 : rg x1) (H : B_Rd_atom d x1 σ o s') : Rn (d + 4) yRd_atom [.ref 35, vi x1] σ o s' := by
  refine k_m (Nat.le_of_ble_eq_true rfl) (fun hM => ?_)
  unfold B_Rd_atom at H
  refine k_p rfl rfl rfl ?_
  refine k_l rfl rfl rfl ?_
  exact k_lab H hM (lvS_cons rfl rfl (lvS_cons rfl rfl (lvS_cons rfl rfl lvS_nil)))
def B_Rd_atom_23 (d : Nat) (x1 x2 : Int) (σ : Mem) (o : Option Int) (s' : Mem) : Prop := ∃ (v1 : Int) (m1 : Mem), Rn (d + 3) yRd_plainAtom [.ref 35, vi x1] σ (some v1) m1 ∧ (Lb (d + 3) yRd_atom 32 [(0, .ref 35), (2, vi x2), (3, vi v1), (4, vi 0)] [] m1 o s')
theorem K_Rd_atom_23 {d : Nat} {x1 x2 : Int} {σ s' : Mem} {o : Option Int} (hx1 : rg x1) (hx2 : rg x2) (H : B_Rd_atom_23 d x1 x2 σ o s') : Lb (d + 3) yRd_atom 23 [(0, .ref 35), (1, vi x1), (2, vi x2)] [] σ o s' := by
  intro hM
  unfold B_Rd_atom_23 at H
  refine k_l rfl rfl rfl ?_
  refine k_l rfl rfl rfl ?_
  obtain ⟨v1, m1, R1, H⟩ := H
  refine k_iv rfl rfl rfl rfl rfl (by decide) rfl hM R1 (fun hM1 hv1 => ?_)
  refine k_l rfl rfl rfl ?_
  refine k_p rfl rfl rfl ?_
  refine k_l rfl rfl rfl ?_
  exact k_lab H hM1 (lvS_cons rfl rfl (lvS_cons rfl rfl (lvS_cons rfl rfl (lvS_cons rfl rfl lvS_nil))))
def B_Rd_atom_2 (d : Nat) (x1 x2 : Int) (σ : Mem) (o : Option Int) (s' : Mem) : Prop := if x2 ≥ 60 then (B_Rd_atom_23 d x1 x2 σ o s') else (∃ (v2 : Int) (m2 : Mem), Rn (d + 3) yRd_takes [.ref 35, vi 126] σ (some v2) m2 ∧ (if v2 = 0 then (B_Rd_atom_23 d x1 x2 m2 o s') else ((rg (x2 + 1)) ∧ (Lb (d + 3) yRd_atom 2 [(0, .ref 35), (1, vi x1), (2, vi (x2 + 1))] [] m2 o s'))))
theorem K_Rd_atom_2 {d : Nat} {x1 x2 : Int} {σ s' : Mem} {o : Option Int} (hx1 : rg x1) (hx2 : rg x2) (H : B_Rd_atom_2 d x1 x2 σ o s') : Lb (d + 3) yRd_atom 2 [(0, .ref 35), (1, vi x1), (2, vi x2)] [] σ o s' := by
  intro hM
  unfold B_Rd_atom_2 at H
  refine k_l rfl rfl rfl ?_
  refine k_k (x := 60) rfl rfl rfl rfl ?_
  by_cases c1 : x2 ≥ 60
  · rw [if_pos c1] at H
    refine k_c rfl (by decide) hx2 (rgk rfl) (q := true) (decide_eq_true c1) rfl ?_
    exact k_lab (K_Rd_atom_23 hx1 hx2 H) hM (lvS_cons rfl rfl (lvS_cons rfl rfl (lvS_cons rfl rfl lvS_nil)))
  · rw [if_neg c1] at H
    refine k_c rfl (by decide) hx2 (rgk rfl) (q := false) (decide_eq_false c1) rfl ?_
    refine k_l rfl rfl rfl ?_
    refine k_k (x := 126) rfl rfl rfl rfl ?_
    obtain ⟨v2, m2, R2, H⟩ := H
    refine k_iv rfl rfl rfl rfl rfl (by decide) rfl hM R2 (fun hM2 hv2 => ?_)
    by_cases c3 : v2 = 0
    · rw [if_pos c3] at H
      refine k_z rfl (by decide) hv2 (q := true) (decide_eq_true c3) rfl ?_
      exact k_lab (K_Rd_atom_23 hx1 hx2 H) hM2 (lvS_cons rfl rfl (lvS_cons rfl rfl (lvS_cons rfl rfl lvS_nil)))
    · rw [if_neg c3] at H
      refine k_z rfl (by decide) hv2 (q := false) (decide_eq_false c3) rfl ?_
      refine k_inc rfl rfl (by decide) ?_
      refine k_b rfl rfl rfl rfl ?_
      obtain ⟨g4, H⟩ := H
      exact k_lab H hM2 (lvS_cons rfl rfl (lvS_cons rfl rfl (lvS_cons rfl rfl lvS_nil)))
def B_Rd_atom_32 (d : Nat) (x2 x3 x4 : Int) (σ : Mem) (o : Option Int) (s' : Mem) : Prop := if x4 ≥ x2 then (o = some x3 ∧ s' = σ) else (∃ (v2 : Int) (m2 : Mem), Rn (d + 3) yTr_add [.ref 5, vi 8, vi 0, vi x3, vi ((-1)), vi ((-1))] σ (some v2) m2 ∧ ((rg (x4 + 1)) ∧ (Lb (d + 3) yRd_atom 32 [(0, .ref 35), (2, vi x2), (3, vi v2), (4, vi (x4 + 1))] [] m2 o s')))
theorem K_Rd_atom_32 {d : Nat} {x2 x3 x4 : Int} {σ s' : Mem} {o : Option Int} (hx2 : rg x2) (hx3 : rg x3) (hx4 : rg x4) (H : B_Rd_atom_32 d x2 x3 x4 σ o s') : Lb (d + 3) yRd_atom 32 [(0, .ref 35), (2, vi x2), (3, vi x3), (4, vi x4)] [] σ o s' := by
  intro hM
  unfold B_Rd_atom_32 at H
  refine k_l rfl rfl rfl ?_
  refine k_l rfl rfl rfl ?_
  by_cases c1 : x4 ≥ x2
  · rw [if_pos c1] at H
    refine k_c rfl (by decide) hx4 hx2 (q := true) (decide_eq_true c1) rfl ?_
    refine k_l rfl rfl rfl ?_
    obtain ⟨rfl, rfl⟩ := H
    exact k_r1 hM hx3 rfl rfl rfl
  · rw [if_neg c1] at H
    refine k_c rfl (by decide) hx4 hx2 (q := false) (decide_eq_false c1) rfl ?_
    refine k_l rfl rfl rfl ?_
    refine k_gr (t := 5) rfl rfl rfl (by decide) rfl ?_
    refine k_k (x := 8) rfl rfl rfl rfl ?_
    refine k_p rfl rfl rfl ?_
    refine k_l rfl rfl rfl ?_
    refine k_p rfl rfl rfl ?_
    refine k_p rfl rfl rfl ?_
    obtain ⟨v2, m2, R2, H⟩ := H
    refine k_iv rfl rfl rfl rfl rfl (by decide) rfl hM R2 (fun hM2 hv2 => ?_)
    refine k_l rfl rfl rfl ?_
    refine k_inc rfl rfl (by decide) ?_
    refine k_b rfl rfl rfl rfl ?_
    obtain ⟨g3, H⟩ := H
    exact k_lab H hM2 (lvS_cons rfl rfl (lvS_cons rfl rfl (lvS_cons rfl rfl (lvS_cons rfl rfl lvS_nil))))
def B_Rd_plainAtom_22 (d : Nat) (x1 x2 : Int) (σ : Mem) (o : Option Int) (s' : Mem) : Prop := if dgt x2 = 0 then (∃ (v3 : Int) (m3 : Mem), Rn (d + 3) yRd_takes [.ref 35, vi 82] σ (some v3) m3 ∧ (if v3 = 0 then (∃ (v5 : Int) (m5 : Mem), Rn (d + 3) yRd_takes [.ref 35, vi 73] m3 (some v5) m5 ∧ (if v5 = 0 then (∃ (v7 : Int) (m7 : Mem), Rn (d + 3) yRd_takes [.ref 35, vi 40] m5 (some v7) m7 ∧ (if v7 = 0 then (∃ (v9 : Int) (m9 : Mem), Rn (d + 3) yRd_constant [.ref 35] m7 (some v9) m9 ∧ (o = some v9 ∧ s' = m9)) else (∃ (v10 : Int) (m10 : Mem), Rn (d + 3) yRd_expression [.ref 35, vi (x1 + 1)] m7 (some v10) m10 ∧ (∃ (m11 : Mem), Rn (d + 3) yRd_expect [.ref 35, vi 41] m10 none m11 ∧ (o = some v10 ∧ s' = m11))))) else (∃ (v12 : Int) (m12 : Mem), Rn (d + 3) yTr_addLeaf [.ref 5, vi 4, vi 73] m5 (some v12) m12 ∧ (o = some v12 ∧ s' = m12)))) else (∃ (v13 : Int) (m13 : Mem), Rn (d + 3) yTr_addLeaf [.ref 5, vi 4, vi 82] m3 (some v13) m13 ∧ (o = some v13 ∧ s' = m13)))) else (∃ (v14 : Int) (m14 : Mem), Rn (d + 3) yRd_numeral [.ref 35] σ (some v14) m14 ∧ (o = some v14 ∧ s' = m14))
theorem K_Rd_plainAtom_22 {d : Nat} {x1 x2 : Int} {σ s' : Mem} {o : Option Int} (hx1 : rg x1) (hx2 : rg x2) (H : B_Rd_plainAtom_22 d x1 x2 σ o s') : Lb (d + 3) yRd_plainAtom 22 [(0, .ref 35), (1, vi x1), (2, vi x2)] [] σ o s' := by
  intro hM
  unfold B_Rd_plainAtom_22 at H
  refine k_l rfl rfl rfl ?_
  refine k_is (v := dgt x2) rfl (by decide) (Nat.le_of_ble_eq_true rfl) rfl rfl rfl hM (R_Rd_isDigit hx2) (fun _ q1 => ?_)
  by_cases c2 : dgt x2 = 0
  · rw [if_pos c2] at H
    refine k_z rfl (by decide) q1 (q := true) (decide_eq_true c2) rfl ?_
    refine k_l rfl rfl rfl ?_
    refine k_k (x := 82) rfl rfl rfl rfl ?_
    obtain ⟨v3, m3, R3, H⟩ := H
    refine k_iv rfl rfl rfl rfl rfl (by decide) rfl hM R3 (fun hM3 hv3 => ?_)
    by_cases c4 : v3 = 0
    · rw [if_pos c4] at H
      refine k_z rfl (by decide) hv3 (q := true) (decide_eq_true c4) rfl ?_
      refine k_l rfl rfl rfl ?_
      refine k_k (x := 73) rfl rfl rfl rfl ?_
      obtain ⟨v5, m5, R5, H⟩ := H
      refine k_iv rfl rfl rfl rfl rfl (by decide) rfl hM3 R5 (fun hM5 hv5 => ?_)
      by_cases c6 : v5 = 0
      · rw [if_pos c6] at H
        refine k_z rfl (by decide) hv5 (q := true) (decide_eq_true c6) rfl ?_
        refine k_l rfl rfl rfl ?_
        refine k_k (x := 40) rfl rfl rfl rfl ?_
        obtain ⟨v7, m7, R7, H⟩ := H
        refine k_iv rfl rfl rfl rfl rfl (by decide) rfl hM5 R7 (fun hM7 hv7 => ?_)
        by_cases c8 : v7 = 0
        · rw [if_pos c8] at H
          refine k_z rfl (by decide) hv7 (q := true) (decide_eq_true c8) rfl ?_
          refine k_l rfl rfl rfl ?_
          obtain ⟨v9, m9, R9, H⟩ := H
          refine k_iv rfl rfl rfl rfl rfl (by decide) rfl hM7 R9 (fun hM9 hv9 => ?_)
          obtain ⟨rfl, rfl⟩ := H
          exact k_r1 hM9 hv9 rfl rfl rfl
        · rw [if_neg c8] at H
          refine k_z rfl (by decide) hv7 (q := false) (decide_eq_false c8) rfl ?_
          refine k_l rfl rfl rfl ?_
          refine k_l rfl rfl rfl ?_
          refine k_p rfl rfl rfl ?_
          refine k_add rfl ?_
          obtain ⟨v10, m10, R10, H⟩ := H
          refine k_iv rfl rfl rfl rfl rfl (by decide) rfl hM7 R10 (fun hM10 hv10 => ?_)
          refine k_l rfl rfl rfl ?_
          refine k_l rfl rfl rfl ?_
          refine k_k (x := 41) rfl rfl rfl rfl ?_
          obtain ⟨m11, R11, H⟩ := H
          refine k_iw rfl rfl rfl rfl rfl (by decide) rfl hM10 R11 (fun hM11 => ?_)
          refine k_l rfl rfl rfl ?_
          obtain ⟨rfl, rfl⟩ := H
          exact k_r1 hM11 hv10 rfl rfl rfl
      · rw [if_neg c6] at H
        refine k_z rfl (by decide) hv5 (q := false) (decide_eq_false c6) rfl ?_
        refine k_l rfl rfl rfl ?_
        refine k_gr (t := 5) rfl rfl rfl (by decide) rfl ?_
        refine k_p rfl rfl rfl ?_
        refine k_k (x := 73) rfl rfl rfl rfl ?_
        obtain ⟨v12, m12, R12, H⟩ := H
        refine k_iv rfl rfl rfl rfl rfl (by decide) rfl hM5 R12 (fun hM12 hv12 => ?_)
        obtain ⟨rfl, rfl⟩ := H
        exact k_r1 hM12 hv12 rfl rfl rfl
    · rw [if_neg c4] at H
      refine k_z rfl (by decide) hv3 (q := false) (decide_eq_false c4) rfl ?_
      refine k_l rfl rfl rfl ?_
      refine k_gr (t := 5) rfl rfl rfl (by decide) rfl ?_
      refine k_p rfl rfl rfl ?_
      refine k_k (x := 82) rfl rfl rfl rfl ?_
      obtain ⟨v13, m13, R13, H⟩ := H
      refine k_iv rfl rfl rfl rfl rfl (by decide) rfl hM3 R13 (fun hM13 hv13 => ?_)
      obtain ⟨rfl, rfl⟩ := H
      exact k_r1 hM13 hv13 rfl rfl rfl
  · rw [if_neg c2] at H
    refine k_z rfl (by decide) q1 (q := false) (decide_eq_false c2) rfl ?_
    refine k_l rfl rfl rfl ?_
    obtain ⟨v14, m14, R14, H⟩ := H
    refine k_iv rfl rfl rfl rfl rfl (by decide) rfl hM R14 (fun hM14 hv14 => ?_)
    obtain ⟨rfl, rfl⟩ := H
    exact k_r1 hM14 hv14 rfl rfl rfl
def B_Rd_plainAtom (d : Nat) (x1 : Int) (σ : Mem) (o : Option Int) (s' : Mem) : Prop := ∃ (v1 : Int) (m1 : Mem), Rn (d + 3) yRd_next [.ref 35] σ (some v1) m1 ∧ (if v1 < 97 then (B_Rd_plainAtom_22 d x1 v1 m1 o s') else (if v1 > 122 then (B_Rd_plainAtom_22 d x1 v1 m1 o s') else (∃ (v4 : Int) (m4 : Mem), Rn (d + 3) yRd_usedName [.ref 35] m1 (some v4) m4 ∧ (o = some v4 ∧ s' = m4))))
theorem M_Rd_plainAtom {d : Nat} {x1 : Int} {σ s' : Mem} {o : Option Int} (hx1 : rg x1) (H : B_Rd_plainAtom d x1 σ o s') : Rn (d + 4) yRd_plainAtom [.ref 35, vi x1] σ o s' := by
  refine k_m (Nat.le_of_ble_eq_true rfl) (fun hM => ?_)
  unfold B_Rd_plainAtom at H
  refine k_l rfl rfl rfl ?_
  obtain ⟨v1, m1, R1, H⟩ := H
  refine k_iv rfl rfl rfl rfl rfl (by decide) rfl hM R1 (fun hM1 hv1 => ?_)
  refine k_l rfl rfl rfl ?_
  refine k_l rfl rfl rfl ?_
  refine k_k (x := 97) rfl rfl rfl rfl ?_
  by_cases c2 : v1 < 97
  · rw [if_pos c2] at H
    refine k_c rfl (by decide) hv1 (rgk rfl) (q := true) (decide_eq_true c2) rfl ?_
    exact k_lab (K_Rd_plainAtom_22 hx1 hv1 H) hM1 (lvS_cons rfl rfl (lvS_cons rfl rfl (lvS_cons rfl rfl lvS_nil)))
  · rw [if_neg c2] at H
    refine k_c rfl (by decide) hv1 (rgk rfl) (q := false) (decide_eq_false c2) rfl ?_
    refine k_l rfl rfl rfl ?_
    refine k_k (x := 122) rfl rfl rfl rfl ?_
    by_cases c3 : v1 > 122
    · rw [if_pos c3] at H
      refine k_c rfl (by decide) hv1 (rgk rfl) (q := true) (decide_eq_true c3) rfl ?_
      exact k_lab (K_Rd_plainAtom_22 hx1 hv1 H) hM1 (lvS_cons rfl rfl (lvS_cons rfl rfl (lvS_cons rfl rfl lvS_nil)))
    · rw [if_neg c3] at H
      refine k_c rfl (by decide) hv1 (rgk rfl) (q := false) (decide_eq_false c3) rfl ?_
      refine k_l rfl rfl rfl ?_
      obtain ⟨v4, m4, R4, H⟩ := H
      refine k_iv rfl rfl rfl rfl rfl (by decide) rfl hM1 R4 (fun hM4 hv4 => ?_)
      obtain ⟨rfl, rfl⟩ := H
      exact k_r1 hM4 hv4 rfl rfl rfl
def B_Rd_usedName_25 (d : Nat) (x1 : Int) (σ : Mem) (o : Option Int) (s' : Mem) : Prop := ∃ (v1 : Int) (m1 : Mem), Rn (d + 3) yTr_addLeaf [.ref 5, vi 5, vi x1] σ (some v1) m1 ∧ (o = some v1 ∧ s' = m1)
theorem K_Rd_usedName_25 {d : Nat} {x1 : Int} {σ s' : Mem} {o : Option Int} (hx1 : rg x1) (H : B_Rd_usedName_25 d x1 σ o s') : Lb (d + 3) yRd_usedName 25 [(0, .ref 35), (1, vi x1)] [] σ o s' := by
  intro hM
  unfold B_Rd_usedName_25 at H
  refine k_l rfl rfl rfl ?_
  refine k_gr (t := 5) rfl rfl rfl (by decide) rfl ?_
  refine k_p rfl rfl rfl ?_
  refine k_l rfl rfl rfl ?_
  obtain ⟨v1, m1, R1, H⟩ := H
  refine k_iv rfl rfl rfl rfl rfl (by decide) rfl hM R1 (fun hM1 hv1 => ?_)
  obtain ⟨rfl, rfl⟩ := H
  exact k_r1 hM1 hv1 rfl rfl rfl
def B_Rd_usedName (d : Nat) (σ : Mem) (o : Option Int) (s' : Mem) : Prop := ∃ (v1 : Int) (m1 : Mem), Rn (d + 3) yRd_name [.ref 35] σ (some v1) m1 ∧ ((rg (v1 - 97)) ∧ (if rowv 26 m1 37 (v1 - 97) ≥ 1 then (B_Rd_usedName_25 d v1 m1 o s') else (B_Rd_usedName_25 d v1 (mup m1 35 5 1) o s')))
theorem M_Rd_usedName {d : Nat} {σ s' : Mem} {o : Option Int}  (H : B_Rd_usedName d  σ o s') : Rn (d + 4) yRd_usedName [.ref 35] σ o s' := by
  refine k_m (Nat.le_of_ble_eq_true rfl) (fun hM => ?_)
  unfold B_Rd_usedName at H
  refine k_l rfl rfl rfl ?_
  obtain ⟨v1, m1, R1, H⟩ := H
  refine k_iv rfl rfl rfl rfl rfl (by decide) rfl hM R1 (fun hM1 hv1 => ?_)
  refine k_l rfl rfl rfl ?_
  refine k_l rfl rfl rfl ?_
  refine k_gr (t := 36) rfl rfl rfl (by decide) rfl ?_
  refine k_l rfl rfl rfl ?_
  refine k_k (x := 97) rfl rfl rfl rfl ?_
  refine k_sub rfl ?_
  obtain ⟨g2, H⟩ := H
  refine k_iv (v := rowv 26 m1 37 (v1 - 97)) rfl rfl rfl rfl rfl (by decide) rfl hM1 (rn_get rfl rfl rfl rfl rfl (by decide) g2) (fun _ q3 => ?_)
  refine k_p rfl rfl rfl ?_
  by_cases c4 : rowv 26 m1 37 (v1 - 97) ≥ 1
  · rw [if_pos c4] at H
    refine k_c rfl (by decide) q3 (rgk rfl) (q := true) (decide_eq_true c4) rfl ?_
    exact k_lab (K_Rd_usedName_25 hv1 H) hM1 (lvS_cons rfl rfl (lvS_cons rfl rfl lvS_nil))
  · rw [if_neg c4] at H
    refine k_c rfl (by decide) q3 (rgk rfl) (q := false) (decide_eq_false c4) rfl ?_
    refine k_l rfl rfl rfl ?_
    refine k_p rfl rfl rfl ?_
    refine k_pf rfl rfl rfl (by decide) rfl rfl rfl rfl ?_
    exact k_lab (K_Rd_usedName_25 hv1 H) (hM1.up (rgk rfl)) (lvS_cons rfl rfl (lvS_cons rfl rfl lvS_nil))
def B_Rd_numeral (d : Nat) (σ : Mem) (o : Option Int) (s' : Mem) : Prop := ∃ (v1 : Int) (m1 : Mem), Rn (d + 3) yRd_digits [.ref 35, vi 4] σ (some v1) m1 ∧ (if chr m1 (m1 35 3) = 46 then ((rg ((m1 35 3) + 1)) ∧ (∃ (v5 : Int) (m5 : Mem), Rn (d + 3) yRd_digits [.ref 35, vi 3] (mup m1 35 3 ((m1 35 3) + 1)) (some v5) m5 ∧ ((rg ((m5 35 3) - ((m1 35 3) + 1))) ∧ (Lb (d + 3) yRd_numeral 61 [(0, .ref 35), (1, vi v1), (3, vi v5), (4, vi ((m5 35 3) - ((m1 35 3) + 1)))] [] m5 o s')))) else (∃ (v7 : Int) (m7 : Mem), Rn (d + 3) yTr_addLeaf [.ref 5, vi 0, vi v1] m1 (some v7) m7 ∧ (o = some v7 ∧ s' = m7)))
theorem M_Rd_numeral {d : Nat} {σ s' : Mem} {o : Option Int}  (H : B_Rd_numeral d  σ o s') : Rn (d + 4) yRd_numeral [.ref 35] σ o s' := by
  refine k_m (Nat.le_of_ble_eq_true rfl) (fun hM => ?_)
  unfold B_Rd_numeral at H
  refine k_l rfl rfl rfl ?_
  refine k_p rfl rfl rfl ?_
  obtain ⟨v1, m1, R1, H⟩ := H
  refine k_iv rfl rfl rfl rfl rfl (by decide) rfl hM R1 (fun hM1 hv1 => ?_)
  refine k_l rfl rfl rfl ?_
  refine k_l rfl rfl rfl ?_
  refine k_gr (t := 2) rfl rfl rfl (by decide) rfl ?_
  refine k_l rfl rfl rfl ?_
  refine k_gf rfl rfl rfl (by decide) rfl rfl ?_
  refine k_iv (v := chr m1 (m1 35 3)) rfl rfl rfl rfl rfl (by decide) rfl hM1 (R_Ln_charAt (hM1 _ _)) (fun _ q2 => ?_)
  refine k_k (x := 46) rfl rfl rfl rfl ?_
  by_cases c3 : chr m1 (m1 35 3) = 46
  · rw [if_pos c3] at H
    refine k_c rfl (by decide) q2 (rgk rfl) (q := true) (decide_eq_true c3) rfl ?_
    refine k_l rfl rfl rfl ?_
    refine k_p rfl rfl rfl ?_
    refine k_gf rfl rfl rfl (by decide) rfl rfl ?_
    refine k_p rfl rfl rfl ?_
    refine k_add rfl ?_
    obtain ⟨g4, H⟩ := H
    refine k_pf rfl rfl rfl (by decide) rfl rfl rfl rfl ?_
    refine k_l rfl rfl rfl ?_
    refine k_gf rfl rfl rfl (by decide) rfl mup_eq ?_
    refine k_l rfl rfl rfl ?_
    refine k_l rfl rfl rfl ?_
    refine k_p rfl rfl rfl ?_
    obtain ⟨v5, m5, R5, H⟩ := H
    refine k_iv rfl rfl rfl rfl rfl (by decide) rfl (hM1.up g4) R5 (fun hM5 hv5 => ?_)
    refine k_l rfl rfl rfl ?_
    refine k_l rfl rfl rfl ?_
    refine k_gf rfl rfl rfl (by decide) rfl rfl ?_
    refine k_l rfl rfl rfl ?_
    refine k_sub rfl ?_
    refine k_l rfl rfl rfl ?_
    obtain ⟨g6, H⟩ := H
    exact k_lab H hM5 (lvS_cons rfl rfl (lvS_cons rfl rfl (lvS_cons rfl rfl (lvS_cons rfl rfl lvS_nil))))
  · rw [if_neg c3] at H
    refine k_c rfl (by decide) q2 (rgk rfl) (q := false) (decide_eq_false c3) rfl ?_
    refine k_l rfl rfl rfl ?_
    refine k_gr (t := 5) rfl rfl rfl (by decide) rfl ?_
    refine k_p rfl rfl rfl ?_
    refine k_l rfl rfl rfl ?_
    obtain ⟨v7, m7, R7, H⟩ := H
    refine k_iv rfl rfl rfl rfl rfl (by decide) rfl hM1 R7 (fun hM7 hv7 => ?_)
    obtain ⟨rfl, rfl⟩ := H
    exact k_r1 hM7 hv7 rfl rfl rfl
def B_Rd_numeral_61 (d : Nat) (x1 x3 x4 : Int) (σ : Mem) (o : Option Int) (s' : Mem) : Prop := if x4 ≥ 3 then (∃ (v2 : Int) (m2 : Mem), Rn (d + 3) yTr_addLeaf [.ref 5, vi 1, vi ((x1 * 1000) + x3)] σ (some v2) m2 ∧ (o = some v2 ∧ s' = m2)) else ((rg (x3 * 10)) ∧ ((rg (x4 + 1)) ∧ (Lb (d + 3) yRd_numeral 61 [(0, .ref 35), (1, vi x1), (3, vi (x3 * 10)), (4, vi (x4 + 1))] [] σ o s')))
theorem K_Rd_numeral_61 {d : Nat} {x1 x3 x4 : Int} {σ s' : Mem} {o : Option Int} (hx1 : rg x1) (hx3 : rg x3) (hx4 : rg x4) (H : B_Rd_numeral_61 d x1 x3 x4 σ o s') : Lb (d + 3) yRd_numeral 61 [(0, .ref 35), (1, vi x1), (3, vi x3), (4, vi x4)] [] σ o s' := by
  intro hM
  unfold B_Rd_numeral_61 at H
  refine k_l rfl rfl rfl ?_
  refine k_p rfl rfl rfl ?_
  by_cases c1 : x4 ≥ 3
  · rw [if_pos c1] at H
    refine k_c rfl (by decide) hx4 (rgk rfl) (q := true) (decide_eq_true c1) rfl ?_
    refine k_l rfl rfl rfl ?_
    refine k_gr (t := 5) rfl rfl rfl (by decide) rfl ?_
    refine k_p rfl rfl rfl ?_
    refine k_l rfl rfl rfl ?_
    refine k_k (x := 1000) rfl rfl rfl rfl ?_
    refine k_mul rfl ?_
    refine k_l rfl rfl rfl ?_
    refine k_add rfl ?_
    obtain ⟨v2, m2, R2, H⟩ := H
    refine k_iv rfl rfl rfl rfl rfl (by decide) rfl hM R2 (fun hM2 hv2 => ?_)
    obtain ⟨rfl, rfl⟩ := H
    exact k_r1 hM2 hv2 rfl rfl rfl
  · rw [if_neg c1] at H
    refine k_c rfl (by decide) hx4 (rgk rfl) (q := false) (decide_eq_false c1) rfl ?_
    refine k_l rfl rfl rfl ?_
    refine k_k (x := 10) rfl rfl rfl rfl ?_
    refine k_mul rfl ?_
    refine k_l rfl rfl rfl ?_
    refine k_inc rfl rfl (by decide) ?_
    refine k_b rfl rfl rfl rfl ?_
    obtain ⟨g3, H⟩ := H
    obtain ⟨g4, H⟩ := H
    exact k_lab H hM (lvS_cons rfl rfl (lvS_cons rfl rfl (lvS_cons rfl rfl (lvS_cons rfl rfl lvS_nil))))
def B_Rd_digits (d : Nat) (x1 : Int) (σ : Mem) (o : Option Int) (s' : Mem) : Prop := Lb (d + 3) yRd_digits 4 [(0, .ref 35), (1, vi x1), (2, vi 0), (3, vi 0)] [] σ o s'
theorem M_Rd_digits {d : Nat} {x1 : Int} {σ s' : Mem} {o : Option Int} (hx1 : rg x1) (H : B_Rd_digits d x1 σ o s') : Rn (d + 4) yRd_digits [.ref 35, vi x1] σ o s' := by
  refine k_m (Nat.le_of_ble_eq_true rfl) (fun hM => ?_)
  unfold B_Rd_digits at H
  refine k_p rfl rfl rfl ?_
  refine k_l rfl rfl rfl ?_
  refine k_p rfl rfl rfl ?_
  refine k_l rfl rfl rfl ?_
  exact k_lab H hM (lvS_cons rfl rfl (lvS_cons rfl rfl (lvS_cons rfl rfl (lvS_cons rfl rfl lvS_nil))))
def B_Rd_digits_71 (d : Nat) (x2 : Int) (σ : Mem) (o : Option Int) (s' : Mem) : Prop := o = some x2 ∧ s' = mup σ 35 4 1
theorem K_Rd_digits_71 {d : Nat} {x2 : Int} {σ s' : Mem} {o : Option Int} (hx2 : rg x2) (H : B_Rd_digits_71 d x2 σ o s') : Lb (d + 3) yRd_digits 71 [(0, .ref 35), (2, vi x2)] [] σ o s' := by
  intro hM
  unfold B_Rd_digits_71 at H
  refine k_l rfl rfl rfl ?_
  refine k_p rfl rfl rfl ?_
  refine k_pf rfl rfl rfl (by decide) rfl rfl rfl rfl ?_
  refine k_l rfl rfl rfl ?_
  obtain ⟨rfl, rfl⟩ := H
  exact k_r1 (hM.up (rgk rfl)) hx2 rfl rfl rfl
def B_Rd_digits_62 (d : Nat) (x1 x2 x3 : Int) (σ : Mem) (o : Option Int) (s' : Mem) : Prop := if x3 = 0 then (B_Rd_digits_71 d x2 σ o s') else (if x3 ≤ x1 then (o = some x2 ∧ s' = σ) else (B_Rd_digits_71 d x2 σ o s'))
theorem K_Rd_digits_62 {d : Nat} {x1 x2 x3 : Int} {σ s' : Mem} {o : Option Int} (hx1 : rg x1) (hx2 : rg x2) (hx3 : rg x3) (H : B_Rd_digits_62 d x1 x2 x3 σ o s') : Lb (d + 3) yRd_digits 62 [(0, .ref 35), (1, vi x1), (2, vi x2), (3, vi x3)] [] σ o s' := by
  intro hM
  unfold B_Rd_digits_62 at H
  refine k_l rfl rfl rfl ?_
  by_cases c1 : x3 = 0
  · rw [if_pos c1] at H
    refine k_z rfl (by decide) hx3 (q := true) (decide_eq_true c1) rfl ?_
    exact k_lab (K_Rd_digits_71 hx2 H) hM (lvS_cons rfl rfl (lvS_cons rfl rfl lvS_nil))
  · rw [if_neg c1] at H
    refine k_z rfl (by decide) hx3 (q := false) (decide_eq_false c1) rfl ?_
    refine k_l rfl rfl rfl ?_
    refine k_l rfl rfl rfl ?_
    by_cases c2 : x3 ≤ x1
    · rw [if_pos c2] at H
      refine k_c rfl (by decide) hx3 hx1 (q := true) (decide_eq_true c2) rfl ?_
      refine k_l rfl rfl rfl ?_
      obtain ⟨rfl, rfl⟩ := H
      exact k_r1 hM hx2 rfl rfl rfl
    · rw [if_neg c2] at H
      refine k_c rfl (by decide) hx3 hx1 (q := false) (decide_eq_false c2) rfl ?_
      exact k_lab (K_Rd_digits_71 hx2 H) hM (lvS_cons rfl rfl (lvS_cons rfl rfl lvS_nil))
def B_Rd_digits_4 (d : Nat) (x1 x2 x3 : Int) (σ : Mem) (o : Option Int) (s' : Mem) : Prop := if x3 > x1 then (B_Rd_digits_62 d x1 x2 x3 σ o s') else (if dgt (chr σ (σ 35 3)) = 0 then (B_Rd_digits_62 d x1 x2 x3 σ o s') else ((rg ((σ 35 3) + 1)) ∧ ((rg (((x2 * 10) + (chr σ (σ 35 3))) - 48)) ∧ ((rg (x3 + 1)) ∧ (Lb (d + 3) yRd_digits 4 [(0, .ref 35), (1, vi x1), (2, vi (((x2 * 10) + (chr σ (σ 35 3))) - 48)), (3, vi (x3 + 1))] [] (mup σ 35 3 ((σ 35 3) + 1)) o s')))))
theorem K_Rd_digits_4 {d : Nat} {x1 x2 x3 : Int} {σ s' : Mem} {o : Option Int} (hx1 : rg x1) (hx2 : rg x2) (hx3 : rg x3) (H : B_Rd_digits_4 d x1 x2 x3 σ o s') : Lb (d + 3) yRd_digits 4 [(0, .ref 35), (1, vi x1), (2, vi x2), (3, vi x3)] [] σ o s' := by
  intro hM
  unfold B_Rd_digits_4 at H
  refine k_l rfl rfl rfl ?_
  refine k_l rfl rfl rfl ?_
  by_cases c1 : x3 > x1
  · rw [if_pos c1] at H
    refine k_c rfl (by decide) hx3 hx1 (q := true) (decide_eq_true c1) rfl ?_
    exact k_lab (K_Rd_digits_62 hx1 hx2 hx3 H) hM (lvS_cons rfl rfl (lvS_cons rfl rfl (lvS_cons rfl rfl (lvS_cons rfl rfl lvS_nil))))
  · rw [if_neg c1] at H
    refine k_c rfl (by decide) hx3 hx1 (q := false) (decide_eq_false c1) rfl ?_
    refine k_l rfl rfl rfl ?_
    refine k_gr (t := 2) rfl rfl rfl (by decide) rfl ?_
    refine k_l rfl rfl rfl ?_
    refine k_gf rfl rfl rfl (by decide) rfl rfl ?_
    refine k_iv (v := chr σ (σ 35 3)) rfl rfl rfl rfl rfl (by decide) rfl hM (R_Ln_charAt (hM _ _)) (fun _ q2 => ?_)
    refine k_is (v := dgt (chr σ (σ 35 3))) rfl (by decide) (Nat.le_of_ble_eq_true rfl) rfl rfl rfl hM (R_Rd_isDigit q2) (fun _ q3 => ?_)
    by_cases c4 : dgt (chr σ (σ 35 3)) = 0
    · rw [if_pos c4] at H
      refine k_z rfl (by decide) q3 (q := true) (decide_eq_true c4) rfl ?_
      exact k_lab (K_Rd_digits_62 hx1 hx2 hx3 H) hM (lvS_cons rfl rfl (lvS_cons rfl rfl (lvS_cons rfl rfl (lvS_cons rfl rfl lvS_nil))))
    · rw [if_neg c4] at H
      refine k_z rfl (by decide) q3 (q := false) (decide_eq_false c4) rfl ?_
      refine k_l rfl rfl rfl ?_
      refine k_k (x := 10) rfl rfl rfl rfl ?_
      refine k_mul rfl ?_
      refine k_l rfl rfl rfl ?_
      refine k_gr (t := 2) rfl rfl rfl (by decide) rfl ?_
      refine k_l rfl rfl rfl ?_
      refine k_gf rfl rfl rfl (by decide) rfl rfl ?_
      refine k_iv (v := chr σ (σ 35 3)) rfl rfl rfl rfl rfl (by decide) rfl hM (R_Ln_charAt (hM _ _)) (fun _ q5 => ?_)
      refine k_add rfl ?_
      refine k_k (x := 48) rfl rfl rfl rfl ?_
      refine k_sub rfl ?_
      refine k_l rfl rfl rfl ?_
      refine k_l rfl rfl rfl ?_
      refine k_p rfl rfl rfl ?_
      refine k_gf rfl rfl rfl (by decide) rfl rfl ?_
      refine k_p rfl rfl rfl ?_
      refine k_add rfl ?_
      obtain ⟨g6, H⟩ := H
      refine k_pf rfl rfl rfl (by decide) rfl rfl rfl rfl ?_
      refine k_inc rfl rfl (by decide) ?_
      refine k_b rfl rfl rfl rfl ?_
      obtain ⟨g7, H⟩ := H
      obtain ⟨g8, H⟩ := H
      exact k_lab H (hM.up g6) (lvS_cons rfl rfl (lvS_cons rfl rfl (lvS_cons rfl rfl (lvS_cons rfl rfl lvS_nil))))
def B_Rd_reads (d : Nat) (σ : Mem) (o : Option Int) (s' : Mem) : Prop := ∃ (m1 : Mem), Rn (d + 3) yRw_fill [.ref 36, vi 0] (mup (mup (mup σ 35 3 0) 35 4 0) 35 5 0) none m1 ∧ (∃ (m2 : Mem), Rn (d + 3) yTr_clear [.ref 5] m1 none m2 ∧ (∃ (v3 : Int) (m3 : Mem), Rn (d + 3) yRd_expression [.ref 35, vi 1] m2 (some v3) m3 ∧ (∃ (m4 : Mem), Rn (d + 3) yTr_setRoot [.ref 5, vi v3] m3 none m4 ∧ (if m4 35 4 ≠ 0 then (o = some 0 ∧ s' = m4) else (∃ (v6 : Int) (m6 : Mem), Rn (d + 3) yRd_next [.ref 35] m4 (some v6) m6 ∧ (if v6 ≠ (-1) then (o = some 0 ∧ s' = m6) else (o = some 1 ∧ s' = m6)))))))
theorem M_Rd_reads {d : Nat} {σ s' : Mem} {o : Option Int}  (H : B_Rd_reads d  σ o s') : Rn (d + 4) yRd_reads [.ref 35] σ o s' := by
  refine k_m (Nat.le_of_ble_eq_true rfl) (fun hM => ?_)
  unfold B_Rd_reads at H
  refine k_l rfl rfl rfl ?_
  refine k_p rfl rfl rfl ?_
  refine k_pf rfl rfl rfl (by decide) rfl rfl rfl rfl ?_
  refine k_l rfl rfl rfl ?_
  refine k_p rfl rfl rfl ?_
  refine k_pf rfl rfl rfl (by decide) rfl rfl rfl rfl ?_
  refine k_l rfl rfl rfl ?_
  refine k_p rfl rfl rfl ?_
  refine k_pf rfl rfl rfl (by decide) rfl rfl rfl rfl ?_
  refine k_l rfl rfl rfl ?_
  refine k_gr (t := 36) rfl rfl rfl (by decide) rfl ?_
  refine k_p rfl rfl rfl ?_
  obtain ⟨m1, R1, H⟩ := H
  refine k_iw rfl rfl rfl rfl rfl (by decide) rfl (((hM.up (rgk rfl)).up (rgk rfl)).up (rgk rfl)) R1 (fun hM1 => ?_)
  refine k_l rfl rfl rfl ?_
  refine k_gr (t := 5) rfl rfl rfl (by decide) rfl ?_
  obtain ⟨m2, R2, H⟩ := H
  refine k_iw rfl rfl rfl rfl rfl (by decide) rfl hM1 R2 (fun hM2 => ?_)
  refine k_l rfl rfl rfl ?_
  refine k_gr (t := 5) rfl rfl rfl (by decide) rfl ?_
  refine k_l rfl rfl rfl ?_
  refine k_p rfl rfl rfl ?_
  obtain ⟨v3, m3, R3, H⟩ := H
  refine k_iv rfl rfl rfl rfl rfl (by decide) rfl hM2 R3 (fun hM3 hv3 => ?_)
  obtain ⟨m4, R4, H⟩ := H
  refine k_iw rfl rfl rfl rfl rfl (by decide) rfl hM3 R4 (fun hM4 => ?_)
  refine k_l rfl rfl rfl ?_
  refine k_gf rfl rfl rfl (by decide) rfl rfl ?_
  by_cases c5 : m4 35 4 ≠ 0
  · rw [if_pos c5] at H
    refine k_z rfl (by decide) (hM4 _ _) (q := true) (decide_eq_true c5) rfl ?_
    refine k_p rfl rfl rfl ?_
    obtain ⟨rfl, rfl⟩ := H
    exact k_r1 hM4 (rgk rfl) rfl rfl rfl
  · rw [if_neg c5] at H
    refine k_z rfl (by decide) (hM4 _ _) (q := false) (decide_eq_false c5) rfl ?_
    refine k_l rfl rfl rfl ?_
    obtain ⟨v6, m6, R6, H⟩ := H
    refine k_iv rfl rfl rfl rfl rfl (by decide) rfl hM4 R6 (fun hM6 hv6 => ?_)
    refine k_p rfl rfl rfl ?_
    by_cases c7 : v6 ≠ (-1)
    · rw [if_pos c7] at H
      refine k_c rfl (by decide) hv6 (rgk rfl) (q := true) (decide_eq_true c7) rfl ?_
      refine k_p rfl rfl rfl ?_
      obtain ⟨rfl, rfl⟩ := H
      exact k_r1 hM6 (rgk rfl) rfl rfl rfl
    · rw [if_neg c7] at H
      refine k_c rfl (by decide) hv6 (rgk rfl) (q := false) (decide_eq_false c7) rfl ?_
      refine k_p rfl rfl rfl ?_
      refine k_b rfl rfl rfl rfl ?_
      obtain ⟨rfl, rfl⟩ := H
      exact k_r1 hM6 (rgk rfl) rfl rfl rfl
def B_Rd_allBound (d : Nat) (σ : Mem) (o : Option Int) (s' : Mem) : Prop := if σ 35 5 ≠ 0 then (o = some 0 ∧ s' = σ) else (o = some 1 ∧ s' = σ)
theorem M_Rd_allBound {d : Nat} {σ s' : Mem} {o : Option Int}  (H : B_Rd_allBound d  σ o s') : Rn (d + 4) yRd_allBound [.ref 35] σ o s' := by
  refine k_m (Nat.le_of_ble_eq_true rfl) (fun hM => ?_)
  unfold B_Rd_allBound at H
  refine k_l rfl rfl rfl ?_
  refine k_gf rfl rfl rfl (by decide) rfl rfl ?_
  by_cases c1 : σ 35 5 ≠ 0
  · rw [if_pos c1] at H
    refine k_z rfl (by decide) (hM _ _) (q := true) (decide_eq_true c1) rfl ?_
    refine k_p rfl rfl rfl ?_
    obtain ⟨rfl, rfl⟩ := H
    exact k_r1 hM (rgk rfl) rfl rfl rfl
  · rw [if_neg c1] at H
    refine k_z rfl (by decide) (hM _ _) (q := false) (decide_eq_false c1) rfl ?_
    refine k_p rfl rfl rfl ?_
    refine k_b rfl rfl rfl rfl ?_
    obtain ⟨rfl, rfl⟩ := H
    exact k_r1 hM (rgk rfl) rfl rfl rfl
