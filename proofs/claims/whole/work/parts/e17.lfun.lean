/-! Lifted methods: the class's own. -/
def B_Ln_append (d : Nat) (x1 : Int) (σ : Mem) (o : Option Int) (s' : Mem) : Prop := if x1 < 32 then (o = some 0 ∧ s' = σ) else (if x1 > 126 then (o = some 0 ∧ s' = σ) else (if σ 2 1 < 60 then ((rg ((σ 2 1) + 1)) ∧ (o = some 1 ∧ s' = mup (rows 60 σ 4 (σ 2 1) x1) 2 1 ((σ 2 1) + 1))) else (o = some 0 ∧ s' = σ)))
theorem M_Ln_append {d : Nat} {x1 : Int} {σ s' : Mem} {o : Option Int} (hx1 : rg x1) (H : B_Ln_append d x1 σ o s') : Rn (d + 4) yLn_append [.ref 2, vi x1] σ o s' := by
  refine k_m (Nat.le_of_ble_eq_true rfl) (fun hM => ?_)
  unfold B_Ln_append at H
  refine k_l rfl rfl rfl ?_
  refine k_k (x := 32) rfl rfl rfl rfl ?_
  by_cases c1 : x1 < 32
  · rw [if_pos c1] at H
    refine k_c rfl (by decide) hx1 (rgk rfl) (q := true) (decide_eq_true c1) rfl ?_
    refine k_p rfl rfl rfl ?_
    obtain ⟨rfl, rfl⟩ := H
    exact k_r1 hM (rgk rfl) rfl rfl rfl
  · rw [if_neg c1] at H
    refine k_c rfl (by decide) hx1 (rgk rfl) (q := false) (decide_eq_false c1) rfl ?_
    refine k_l rfl rfl rfl ?_
    refine k_k (x := 126) rfl rfl rfl rfl ?_
    by_cases c2 : x1 > 126
    · rw [if_pos c2] at H
      refine k_c rfl (by decide) hx1 (rgk rfl) (q := true) (decide_eq_true c2) rfl ?_
      refine k_p rfl rfl rfl ?_
      obtain ⟨rfl, rfl⟩ := H
      exact k_r1 hM (rgk rfl) rfl rfl rfl
    · rw [if_neg c2] at H
      refine k_c rfl (by decide) hx1 (rgk rfl) (q := false) (decide_eq_false c2) rfl ?_
      refine k_l rfl rfl rfl ?_
      refine k_gf rfl rfl rfl (by decide) rfl rfl ?_
      refine k_k (x := 60) rfl rfl rfl rfl ?_
      by_cases c3 : σ 2 1 < 60
      · rw [if_pos c3] at H
        refine k_c rfl (by decide) (hM _ _) (rgk rfl) (q := true) (decide_eq_true c3) rfl ?_
        refine k_l rfl rfl rfl ?_
        refine k_gr (t := 3) rfl rfl rfl (by decide) rfl ?_
        refine k_l rfl rfl rfl ?_
        refine k_gf rfl rfl rfl (by decide) rfl rfl ?_
        refine k_l rfl rfl rfl ?_
        refine k_iw (σ1 := rows 60 σ 4 (σ 2 1) x1) rfl rfl rfl rfl rfl (by decide) rfl hM (rn_set rfl rfl rfl rfl rfl (by decide) (hM _ _) hx1) (fun _ => ?_)
        refine k_l rfl rfl rfl ?_
        refine k_p rfl rfl rfl ?_
        refine k_gf rfl rfl rfl (by decide) rfl (rows_ne (by decide)) ?_
        refine k_p rfl rfl rfl ?_
        refine k_add rfl ?_
        obtain ⟨g4, H⟩ := H
        refine k_pf rfl rfl rfl (by decide) rfl rfl rfl rfl ?_
        refine k_p rfl rfl rfl ?_
        obtain ⟨rfl, rfl⟩ := H
        exact k_r1 ((hM.rs hx1).up g4) (rgk rfl) rfl rfl rfl
      · rw [if_neg c3] at H
        refine k_c rfl (by decide) (hM _ _) (rgk rfl) (q := false) (decide_eq_false c3) rfl ?_
        refine k_p rfl rfl rfl ?_
        obtain ⟨rfl, rfl⟩ := H
        exact k_r1 hM (rgk rfl) rfl rfl rfl
def B_Ln_clear (d : Nat) (σ : Mem) (o : Option Int) (s' : Mem) : Prop := o = none ∧ s' = mup σ 2 1 0
theorem M_Ln_clear {d : Nat} {σ s' : Mem} {o : Option Int}  (H : B_Ln_clear d  σ o s') : Rn (d + 4) yLn_clear [.ref 2] σ o s' := by
  refine k_m (Nat.le_of_ble_eq_true rfl) (fun hM => ?_)
  unfold B_Ln_clear at H
  refine k_l rfl rfl rfl ?_
  refine k_p rfl rfl rfl ?_
  refine k_pf rfl rfl rfl (by decide) rfl rfl rfl rfl ?_
  obtain ⟨rfl, rfl⟩ := H
  exact k_r0 (hM.up (rgk rfl)) rfl rfl rfl
def B_Mc_phase (d : Nat) (σ : Mem) (o : Option Int) (s' : Mem) : Prop := o = some (σ 54 7) ∧ s' = σ
theorem M_Mc_phase {d : Nat} {σ s' : Mem} {o : Option Int}  (H : B_Mc_phase d  σ o s') : Rn (d + 4) yMc_phase [.ref 54] σ o s' := by
  refine k_m (Nat.le_of_ble_eq_true rfl) (fun hM => ?_)
  unfold B_Mc_phase at H
  refine k_l rfl rfl rfl ?_
  refine k_gf rfl rfl rfl (by decide) rfl rfl ?_
  obtain ⟨rfl, rfl⟩ := H
  exact k_r1 hM (hM _ _) rfl rfl rfl
def B_Mc_failure (d : Nat) (σ : Mem) (o : Option Int) (s' : Mem) : Prop := o = some (σ 54 8) ∧ s' = σ
theorem M_Mc_failure {d : Nat} {σ s' : Mem} {o : Option Int}  (H : B_Mc_failure d  σ o s') : Rn (d + 4) yMc_failure [.ref 54] σ o s' := by
  refine k_m (Nat.le_of_ble_eq_true rfl) (fun hM => ?_)
  unfold B_Mc_failure at H
  refine k_l rfl rfl rfl ?_
  refine k_gf rfl rfl rfl (by decide) rfl rfl ?_
  obtain ⟨rfl, rfl⟩ := H
  exact k_r1 hM (hM _ _) rfl rfl rfl
def B_Mc_steps (d : Nat) (σ : Mem) (o : Option Int) (s' : Mem) : Prop := o = some (σ 54 9) ∧ s' = σ
theorem M_Mc_steps {d : Nat} {σ s' : Mem} {o : Option Int}  (H : B_Mc_steps d  σ o s') : Rn (d + 4) yMc_steps [.ref 54] σ o s' := by
  refine k_m (Nat.le_of_ble_eq_true rfl) (fun hM => ?_)
  unfold B_Mc_steps at H
  refine k_l rfl rfl rfl ?_
  refine k_gf rfl rfl rfl (by decide) rfl rfl ?_
  obtain ⟨rfl, rfl⟩ := H
  exact k_r1 hM (hM _ _) rfl rfl rfl
def B_Mc_allSteps (d : Nat) (σ : Mem) (o : Option Int) (s' : Mem) : Prop := o = some (σ 54 10) ∧ s' = σ
theorem M_Mc_allSteps {d : Nat} {σ s' : Mem} {o : Option Int}  (H : B_Mc_allSteps d  σ o s') : Rn (d + 4) yMc_allSteps [.ref 54] σ o s' := by
  refine k_m (Nat.le_of_ble_eq_true rfl) (fun hM => ?_)
  unfold B_Mc_allSteps at H
  refine k_l rfl rfl rfl ?_
  refine k_gf rfl rfl rfl (by decide) rfl rfl ?_
  obtain ⟨rfl, rfl⟩ := H
  exact k_r1 hM (hM _ _) rfl rfl rfl
def B_F_type (d : Nat) (x1 : Int) (σ : Mem) (o : Option Int) (s' : Mem) : Prop := ∃ (v1 : Int) (m1 : Mem), Rn (d + 3) yLn_append [.ref 2, vi x1] σ (some v1) m1 ∧ ((v1 = 0 ∨ v1 = 1) ∧ (o = some v1 ∧ s' = m1))
theorem M_F_type {d : Nat} {x1 : Int} {σ s' : Mem} {o : Option Int} (hx1 : rg x1) (H : B_F_type d x1 σ o s') : Rn (d + 4) yF_type [.ref 1, vi x1] σ o s' := by
  refine k_m (Nat.le_of_ble_eq_true rfl) (fun hM => ?_)
  unfold B_F_type at H
  refine k_l rfl rfl rfl ?_
  refine k_gr (t := 2) rfl rfl rfl (by decide) rfl ?_
  refine k_l rfl rfl rfl ?_
  obtain ⟨v1, m1, R1, H⟩ := H
  refine k_iv rfl rfl rfl rfl rfl (by decide) rfl hM R1 (fun hM1 hv1 => ?_)
  obtain ⟨g2, H⟩ := H
  obtain ⟨rfl, rfl⟩ := H
  exact k_r1 hM1 hv1 rfl rfl (ret_b rfl g2)
def B_F_wipe (d : Nat) (σ : Mem) (o : Option Int) (s' : Mem) : Prop := ∃ (m1 : Mem), Rn (d + 3) yLn_clear [.ref 2] σ none m1 ∧ (o = none ∧ s' = m1)
theorem M_F_wipe {d : Nat} {σ s' : Mem} {o : Option Int}  (H : B_F_wipe d  σ o s') : Rn (d + 4) yF_wipe [.ref 1] σ o s' := by
  refine k_m (Nat.le_of_ble_eq_true rfl) (fun hM => ?_)
  unfold B_F_wipe at H
  refine k_l rfl rfl rfl ?_
  refine k_gr (t := 2) rfl rfl rfl (by decide) rfl ?_
  obtain ⟨m1, R1, H⟩ := H
  refine k_iw rfl rfl rfl rfl rfl (by decide) rfl hM R1 (fun hM1 => ?_)
  obtain ⟨rfl, rfl⟩ := H
  exact k_r0 hM1 rfl rfl rfl
def B_F_shown (d : Nat) (x1 : Int) (σ : Mem) (o : Option Int) (s' : Mem) : Prop := if x1 < 0 then (o = some ((-1)) ∧ s' = σ) else (if x1 ≥ σ 1 8 then (o = some ((-1)) ∧ s' = σ) else (o = some (rowv 80 σ 57 x1) ∧ s' = σ))
theorem M_F_shown {d : Nat} {x1 : Int} {σ s' : Mem} {o : Option Int} (hx1 : rg x1) (H : B_F_shown d x1 σ o s') : Rn (d + 4) yF_shown [.ref 1, vi x1] σ o s' := by
  refine k_m (Nat.le_of_ble_eq_true rfl) (fun hM => ?_)
  unfold B_F_shown at H
  refine k_l rfl rfl rfl ?_
  by_cases c1 : x1 < 0
  · rw [if_pos c1] at H
    refine k_z rfl (by decide) hx1 (q := true) (decide_eq_true c1) rfl ?_
    refine k_p rfl rfl rfl ?_
    obtain ⟨rfl, rfl⟩ := H
    exact k_r1 hM (rgk rfl) rfl rfl rfl
  · rw [if_neg c1] at H
    refine k_z rfl (by decide) hx1 (q := false) (decide_eq_false c1) rfl ?_
    refine k_l rfl rfl rfl ?_
    refine k_l rfl rfl rfl ?_
    refine k_gf rfl rfl rfl (by decide) rfl rfl ?_
    by_cases c2 : x1 ≥ σ 1 8
    · rw [if_pos c2] at H
      refine k_c rfl (by decide) hx1 (hM _ _) (q := true) (decide_eq_true c2) rfl ?_
      refine k_p rfl rfl rfl ?_
      obtain ⟨rfl, rfl⟩ := H
      exact k_r1 hM (rgk rfl) rfl rfl rfl
    · rw [if_neg c2] at H
      refine k_c rfl (by decide) hx1 (hM _ _) (q := false) (decide_eq_false c2) rfl ?_
      refine k_l rfl rfl rfl ?_
      refine k_gr (t := 56) rfl rfl rfl (by decide) rfl ?_
      refine k_l rfl rfl rfl ?_
      refine k_iv (v := rowv 80 σ 57 x1) rfl rfl rfl rfl rfl (by decide) rfl hM (rn_get rfl rfl rfl rfl rfl (by decide) hx1) (fun _ q3 => ?_)
      refine k_b rfl rfl rfl rfl ?_
      obtain ⟨rfl, rfl⟩ := H
      exact k_r1 hM q3 rfl rfl rfl
def B_F_state (d : Nat) (x1 : Int) (σ : Mem) (o : Option Int) (s' : Mem) : Prop := if x1 = 0 then (∃ (v2 : Int) (m2 : Mem), Rn (d + 3) yMc_phase [.ref 54] σ (some v2) m2 ∧ (o = some v2 ∧ s' = m2)) else (if x1 = 1 then (∃ (v4 : Int) (m4 : Mem), Rn (d + 3) yMc_failure [.ref 54] σ (some v4) m4 ∧ (o = some v4 ∧ s' = m4)) else (if x1 = 2 then (∃ (v6 : Int) (m6 : Mem), Rn (d + 3) yMc_steps [.ref 54] σ (some v6) m6 ∧ (o = some v6 ∧ s' = m6)) else (if x1 = 3 then (∃ (v8 : Int) (m8 : Mem), Rn (d + 3) yMc_allSteps [.ref 54] σ (some v8) m8 ∧ (o = some v8 ∧ s' = m8)) else (o = some ((-1)) ∧ s' = σ))))
theorem M_F_state {d : Nat} {x1 : Int} {σ s' : Mem} {o : Option Int} (hx1 : rg x1) (H : B_F_state d x1 σ o s') : Rn (d + 4) yF_state [.ref 1, vi x1] σ o s' := by
  refine k_m (Nat.le_of_ble_eq_true rfl) (fun hM => ?_)
  unfold B_F_state at H
  refine k_l rfl rfl rfl ?_
  by_cases c1 : x1 = 0
  · rw [if_pos c1] at H
    refine k_sw rfl rfl c1 rfl rfl ?_
    refine k_l rfl rfl rfl ?_
    refine k_gr (t := 54) rfl rfl rfl (by decide) rfl ?_
    obtain ⟨v2, m2, R2, H⟩ := H
    refine k_iv rfl rfl rfl rfl rfl (by decide) rfl hM R2 (fun hM2 hv2 => ?_)
    obtain ⟨rfl, rfl⟩ := H
    exact k_r1 hM2 hv2 rfl rfl rfl
  rw [if_neg c1] at H
  by_cases c3 : x1 = 1
  · rw [if_pos c3] at H
    refine k_sw rfl rfl c3 rfl rfl ?_
    refine k_l rfl rfl rfl ?_
    refine k_gr (t := 54) rfl rfl rfl (by decide) rfl ?_
    obtain ⟨v4, m4, R4, H⟩ := H
    refine k_iv rfl rfl rfl rfl rfl (by decide) rfl hM R4 (fun hM4 hv4 => ?_)
    obtain ⟨rfl, rfl⟩ := H
    exact k_r1 hM4 hv4 rfl rfl rfl
  rw [if_neg c3] at H
  by_cases c5 : x1 = 2
  · rw [if_pos c5] at H
    refine k_sw rfl rfl c5 rfl rfl ?_
    refine k_l rfl rfl rfl ?_
    refine k_gr (t := 54) rfl rfl rfl (by decide) rfl ?_
    obtain ⟨v6, m6, R6, H⟩ := H
    refine k_iv rfl rfl rfl rfl rfl (by decide) rfl hM R6 (fun hM6 hv6 => ?_)
    obtain ⟨rfl, rfl⟩ := H
    exact k_r1 hM6 hv6 rfl rfl rfl
  rw [if_neg c5] at H
  by_cases c7 : x1 = 3
  · rw [if_pos c7] at H
    refine k_sw rfl rfl c7 rfl rfl ?_
    refine k_l rfl rfl rfl ?_
    refine k_gr (t := 54) rfl rfl rfl (by decide) rfl ?_
    obtain ⟨v8, m8, R8, H⟩ := H
    refine k_iv rfl rfl rfl rfl rfl (by decide) rfl hM R8 (fun hM8 hv8 => ?_)
    obtain ⟨rfl, rfl⟩ := H
    exact k_r1 hM8 hv8 rfl rfl rfl
  rw [if_neg c7] at H
  refine k_tsd rfl hx1 (by omega) rfl ?_
  refine k_p rfl rfl rfl ?_
  obtain ⟨rfl, rfl⟩ := H
  exact k_r1 hM (rgk rfl) rfl rfl rfl
