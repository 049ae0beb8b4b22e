/-! Lifted methods: the model works out. -/
def B_Mo_fail (d : Nat) (x1 : Int) (h : mHp) (σ : Mem) (r : mRes) (h' : mHp) (σ' : Mem) : Prop := r = .inl none ∧ h' = h ∧ σ' = mup (mup σ 58 65 3) 58 66 x1
theorem M_Mo_fail {d : Nat} {x1 : Int} {h h' : mHp} {σ σ' : Mem} {r : mRes} (hx1 : rg x1) (H : B_Mo_fail d x1 h σ r h' σ') : Rh (d + 2) yMo_fail [.ref 58, vi x1] h σ r h' σ' := by
  refine q_m (Nat.le_of_ble_eq_true rfl) ?_
  unfold B_Mo_fail at H
  refine q_l rfl rfl rfl ?_
  refine q_p rfl rfl rfl ?_
  refine q_pi rfl rfl rfl (by decide) rfl rfl rfl rfl (rgk rfl) ?_
  refine q_l rfl rfl rfl ?_
  refine q_l rfl rfl rfl ?_
  refine q_pi rfl rfl rfl (by decide) rfl rfl rfl rfl hx1 ?_
  obtain ⟨rfl, rfl, rfl⟩ := H
  exact q_r rfl rfl rfl
def B_Mo_known (d : Nat) (x1 : Int) (x2 : Int) (h : mHp) (σ : Mem) (r : mRes) (h' : mHp) (σ' : Mem) : Prop := (rg (σ 58 51)) ∧ (if σ 58 51 ≠ 200 then (((0 : Int) ≤ σ 58 51 ∧ σ 58 51 < (200 : Int)) ∧ ((rg ((σ 58 51) + 1)) ∧ (r = .inl none ∧ h' = hSet h 89 (σ 58 51 : Int).toNat (vlg ((8 * x2) + x1)) ∧ σ' = mup σ 58 51 ((σ 58 51) + 1)))) else (∃ h5 m5, Rh (d + 2) yMo_fail [.ref 58, vi 5] h σ (.inl none) h5 m5 ∧ (r = .inl none ∧ h' = h5 ∧ σ' = m5)))
theorem M_Mo_known {d : Nat} {x1 : Int} {x2 : Int} {h h' : mHp} {σ σ' : Mem} {r : mRes} (hx1 : rg x1) (hx2 : rg x2) (H : B_Mo_known d x1 x2 h σ r h' σ') : Rh (d + 3) yMo_known [.ref 58, vi x1, vi x2] h σ r h' σ' := by
  refine q_m (Nat.le_of_ble_eq_true rfl) ?_
  unfold B_Mo_known at H
  refine q_l rfl rfl rfl ?_
  obtain ⟨g1, H⟩ := H
  refine q_gi rfl rfl rfl (by decide) rfl rfl ?_
  refine q_k (x := 200) rfl rfl rfl rfl ?_
  by_cases c2 : σ 58 51 ≠ 200
  · rw [if_pos c2] at H
    refine q_c rfl (by decide) g1 (rgk rfl) (q := true) (decide_eq_true c2) rfl ?_
    refine q_l rfl rfl rfl ?_
    refine q_gr (t := 89) rfl rfl rfl (by decide) rfl ?_
    refine q_l rfl rfl rfl ?_
    refine q_gi rfl rfl rfl (by decide) rfl rfl ?_
    refine q_p (st' := vlg 8 :: _) rfl rfl rfl ?_
    refine q_l rfl rfl rfl ?_
    refine q_i2l rfl hx2 ?_
    refine q_lmul rfl ?_
    refine q_l rfl rfl rfl ?_
    refine q_i2l rfl hx1 ?_
    refine q_ladd rfl ?_
    obtain ⟨g3, H⟩ := H
    refine q_sv (ok := isL) rfl rfl (fun _ => rfl) rfl rfl g3 (by decide) rfl ?_
    refine q_l rfl rfl rfl ?_
    refine q_p rfl rfl rfl ?_
    refine q_gi rfl rfl rfl (by decide) rfl rfl ?_
    refine q_p rfl rfl rfl ?_
    refine q_add rfl ?_
    obtain ⟨g4, H⟩ := H
    refine q_pi rfl rfl rfl (by decide) rfl rfl rfl rfl g4 ?_
    obtain ⟨rfl, rfl, rfl⟩ := H
    exact q_r rfl rfl rfl
  · rw [if_neg c2] at H
    refine q_c rfl (by decide) g1 (rgk rfl) (q := false) (decide_eq_false c2) rfl ?_
    refine q_l rfl rfl rfl ?_
    refine q_p rfl rfl rfl ?_
    obtain ⟨h5, m5, R5, H⟩ := H
    refine q_iv rfl rfl rfl (fun S => S.t 58 rfl) (by decide) rfl R5 ?_
    obtain ⟨rfl, rfl, rfl⟩ := H
    exact q_r rfl rfl rfl
def B_Mo_kind (d : Nat) (x0 : Int) (h : mHp) (σ : Mem) (r : mRes) (h' : mHp) (σ' : Mem) : Prop := r = .inl (some (vi (zL2i (zLand x0 7)))) ∧ h' = h ∧ σ' = σ
theorem M_Mo_kind {d : Nat} {x0 : Int} {h h' : mHp} {σ σ' : Mem} {r : mRes}  (H : B_Mo_kind d x0 h σ r h' σ') : Rh (d + 2) yMo_kind [vlg x0] h σ r h' σ' := by
  refine q_m (Nat.le_of_ble_eq_true rfl) ?_
  unfold B_Mo_kind at H
  refine q_l rfl rfl rfl ?_
  refine q_p (st' := vlg 7 :: _) rfl rfl rfl ?_
  refine q_land rfl ?_
  refine q_l2i rfl ?_
  obtain ⟨rfl, rfl, rfl⟩ := H
  exact q_r rfl rfl rfl
def B_Mo_told (d : Nat) (x0 : Int) (h : mHp) (σ : Mem) (r : mRes) (h' : mHp) (σ' : Mem) : Prop := r = .inl (some (vi (zL2i (zLshr x0 3)))) ∧ h' = h ∧ σ' = σ
theorem M_Mo_told {d : Nat} {x0 : Int} {h h' : mHp} {σ σ' : Mem} {r : mRes}  (H : B_Mo_told d x0 h σ r h' σ') : Rh (d + 2) yMo_told [vlg x0] h σ r h' σ' := by
  refine q_m (Nat.le_of_ble_eq_true rfl) ?_
  unfold B_Mo_told at H
  refine q_l rfl rfl rfl ?_
  refine q_p rfl rfl rfl ?_
  refine q_lshr rfl ?_
  refine q_l2i rfl ?_
  obtain ⟨rfl, rfl, rfl⟩ := H
  exact q_r rfl rfl rfl
def B_Mo_knownValue (d : Nat) (x1 : Int) (h : mHp) (σ : Mem) (r : mRes) (h' : mHp) (σ' : Mem) : Prop := ∃ h1 m1, Rh (d + 3) yMo_known [.ref 58, vi (zL2i (zLand x1 7)), vi (zL2i (zLshr x1 3))] h σ (.inl none) h1 m1 ∧ (r = .inl none ∧ h' = h1 ∧ σ' = m1)
theorem M_Mo_knownValue {d : Nat} {x1 : Int} {h h' : mHp} {σ σ' : Mem} {r : mRes}  (H : B_Mo_knownValue d x1 h σ r h' σ') : Rh (d + 4) yMo_knownValue [.ref 58, vlg x1] h σ r h' σ' := by
  refine q_m (Nat.le_of_ble_eq_true rfl) ?_
  unfold B_Mo_knownValue at H
  refine q_l rfl rfl rfl ?_
  refine q_l rfl rfl rfl ?_
  refine q_p (st' := vlg 7 :: _) rfl rfl rfl ?_
  refine q_land rfl ?_
  refine q_l2i rfl ?_
  refine q_l rfl rfl rfl ?_
  refine q_p rfl rfl rfl ?_
  refine q_lshr rfl ?_
  refine q_l2i rfl ?_
  obtain ⟨h1, m1, R1, H⟩ := H
  refine q_iv rfl rfl rfl (fun S => S.t 58 rfl) (by decide) rfl R1 ?_
  obtain ⟨rfl, rfl, rfl⟩ := H
  exact q_r rfl rfl rfl
def B_Mo_realOf (d : Nat) (x1 : Int) (h : mHp) (σ : Mem) (r : mRes) (h' : mHp) (σ' : Mem) : Prop := ∃ (v1 : Int) (h1 : mHp) (m1 : Mem), Rh (d + 2) yMo_kind [vlg x1] h σ (.inl (some (vi v1))) h1 m1 ∧ rg v1 ∧ (if v1 ≠ 1 then (∃ (v3 : Int) (h3 : mHp) (m3 : Mem), Rh (d + 2) yMo_kind [vlg x1] h1 m1 (.inl (some (vi v3))) h3 m3 ∧ rg v3 ∧ (if v3 ≠ 2 then (r = .inl (some (.double (FP.dconst0))) ∧ h' = h3 ∧ σ' = m3) else (∃ (v5 : Int) (h5 : mHp) (m5 : Mem), Rh (d + 2) yMo_told [vlg x1] h3 m3 (.inl (some (vi v5))) h5 m5 ∧ rg v5 ∧ (((0 : Int) ≤ v5 ∧ v5 < (502 : Int)) ∧ (∃ z7, hAt h5 96 (v5 : Int).toNat = .double z7 ∧ (r = .inl (some (.double z7)) ∧ h' = h5 ∧ σ' = m5)))))) else (∃ (v9 : Int) (h9 : mHp) (m9 : Mem), Rh (d + 2) yMo_told [vlg x1] h1 m1 (.inl (some (vi v9))) h9 m9 ∧ rg v9 ∧ ((nn (FP.ddiv (FP.i2d (Int32.ofInt v9)) ((UInt64.ofNat 4652007308841189376))) = true) ∧ (r = .inl (some (.double (FP.ddiv (FP.i2d (Int32.ofInt v9)) ((UInt64.ofNat 4652007308841189376))))) ∧ h' = h9 ∧ σ' = m9))))
theorem M_Mo_realOf {d : Nat} {x1 : Int} {h h' : mHp} {σ σ' : Mem} {r : mRes}  (H : B_Mo_realOf d x1 h σ r h' σ') : Rh (d + 3) yMo_realOf [.ref 58, vlg x1] h σ r h' σ' := by
  refine q_m (Nat.le_of_ble_eq_true rfl) ?_
  unfold B_Mo_realOf at H
  refine q_l rfl rfl rfl ?_
  obtain ⟨v1, h1, m1, R1, w1, H⟩ := H
  refine q_is rfl (by decide) (Nat.le_of_ble_eq_true rfl) rfl rfl rfl R1 ?_
  refine q_p rfl rfl rfl ?_
  by_cases c2 : v1 ≠ 1
  · rw [if_pos c2] at H
    refine q_c rfl (by decide) w1 (rgk rfl) (q := true) (decide_eq_true c2) rfl ?_
    refine q_l rfl rfl rfl ?_
    obtain ⟨v3, h3, m3, R3, w3, H⟩ := H
    refine q_is rfl (by decide) (Nat.le_of_ble_eq_true rfl) rfl rfl rfl R3 ?_
    refine q_p rfl rfl rfl ?_
    by_cases c4 : v3 ≠ 2
    · rw [if_pos c4] at H
      refine q_c rfl (by decide) w3 (rgk rfl) (q := true) (decide_eq_true c4) rfl ?_
      refine q_p rfl rfl rfl ?_
      obtain ⟨rfl, rfl, rfl⟩ := H
      exact q_r rfl rfl rfl
    · rw [if_neg c4] at H
      refine q_c rfl (by decide) w3 (rgk rfl) (q := false) (decide_eq_false c4) rfl ?_
      refine q_l rfl rfl rfl ?_
      refine q_gr (t := 96) rfl rfl rfl (by decide) rfl ?_
      refine q_l rfl rfl rfl ?_
      obtain ⟨v5, h5, m5, R5, w5, H⟩ := H
      refine q_is rfl (by decide) (Nat.le_of_ble_eq_true rfl) rfl rfl rfl R5 ?_
      obtain ⟨g6, H⟩ := H
      obtain ⟨z7, e8, H⟩ := H
      refine q_av rfl rfl (fun _ => rfl) rfl rfl g6 (by decide) e8 ?_
      refine q_b rfl rfl rfl rfl ?_
      obtain ⟨rfl, rfl, rfl⟩ := H
      exact q_r rfl rfl rfl
  · rw [if_neg c2] at H
    refine q_c rfl (by decide) w1 (rgk rfl) (q := false) (decide_eq_false c2) rfl ?_
    refine q_l rfl rfl rfl ?_
    obtain ⟨v9, h9, m9, R9, w9, H⟩ := H
    refine q_is rfl (by decide) (Nat.le_of_ble_eq_true rfl) rfl rfl rfl R9 ?_
    refine q_p rfl rfl rfl ?_
    refine q_p rfl rfl rfl ?_
    obtain ⟨g10, H⟩ := H
    refine q_dd rfl rfl rfl g10 ?_
    refine q_b rfl rfl rfl rfl ?_
    obtain ⟨rfl, rfl, rfl⟩ := H
    exact q_r rfl rfl rfl
def B_Mo_knownReal (d : Nat) (x1 : UInt64) (h : mHp) (σ : Mem) (r : mRes) (h' : mHp) (σ' : Mem) : Prop := (rg (σ 58 63)) ∧ (((0 : Int) ≤ σ 58 63 ∧ σ 58 63 < (502 : Int)) ∧ ((rg ((σ 58 63) + 1)) ∧ ((rg ((mup σ 58 63 ((σ 58 63) + 1)) 58 63)) ∧ (∃ h5 m5, Rh (d + 3) yMo_known [.ref 58, vi 2, vi (((mup σ 58 63 ((σ 58 63) + 1)) 58 63) - 1)] (hSet h 96 (σ 58 63 : Int).toNat (.double x1)) (mup σ 58 63 ((σ 58 63) + 1)) (.inl none) h5 m5 ∧ (r = .inl none ∧ h' = h5 ∧ σ' = m5)))))
theorem M_Mo_knownReal {d : Nat} {x1 : UInt64} {h h' : mHp} {σ σ' : Mem} {r : mRes}  (H : B_Mo_knownReal d x1 h σ r h' σ') : Rh (d + 4) yMo_knownReal [.ref 58, .double x1] h σ r h' σ' := by
  refine q_m (Nat.le_of_ble_eq_true rfl) ?_
  unfold B_Mo_knownReal at H
  refine q_l rfl rfl rfl ?_
  refine q_gr (t := 96) rfl rfl rfl (by decide) rfl ?_
  refine q_l rfl rfl rfl ?_
  obtain ⟨g1, H⟩ := H
  refine q_gi rfl rfl rfl (by decide) rfl rfl ?_
  refine q_l rfl rfl rfl ?_
  obtain ⟨g2, H⟩ := H
  refine q_sv (ok := isD) rfl rfl (fun _ => rfl) rfl rfl g2 (by decide) rfl ?_
  refine q_l rfl rfl rfl ?_
  refine q_p rfl rfl rfl ?_
  refine q_gi rfl rfl rfl (by decide) rfl rfl ?_
  refine q_p rfl rfl rfl ?_
  refine q_add rfl ?_
  obtain ⟨g3, H⟩ := H
  refine q_pi rfl rfl rfl (by decide) rfl rfl rfl rfl g3 ?_
  refine q_l rfl rfl rfl ?_
  refine q_p rfl rfl rfl ?_
  refine q_l rfl rfl rfl ?_
  obtain ⟨g4, H⟩ := H
  refine q_gi rfl rfl rfl (by decide) rfl rfl ?_
  refine q_p rfl rfl rfl ?_
  refine q_sub rfl ?_
  obtain ⟨h5, m5, R5, H⟩ := H
  refine q_iv rfl rfl rfl (fun S => S.t 58 rfl) (by decide) rfl R5 ?_
  obtain ⟨rfl, rfl, rfl⟩ := H
  exact q_r rfl rfl rfl
def B_Mo_worthIs (d : Nat) (x1 : Int) (x3 : Int) (h : mHp) (σ : Mem) (r : mRes) (h' : mHp) (σ' : Mem) : Prop := (rg (σ 58 57)) ∧ ((rg ((σ 58 57) + 1)) ∧ ((rg ((mup σ 58 57 ((σ 58 57) + 1)) 58 57)) ∧ (((0 : Int) ≤ (mup σ 58 57 ((σ 58 57) + 1)) 58 57 ∧ (mup σ 58 57 ((σ 58 57) + 1)) 58 57 < (4300 : Int)) ∧ (((0 : Int) ≤ (mup σ 58 57 ((σ 58 57) + 1)) 58 57 ∧ (mup σ 58 57 ((σ 58 57) + 1)) 58 57 < (4300 : Int)) ∧ ((rg ((mup (mup σ 58 57 ((σ 58 57) + 1)) 93 ((mup σ 58 57 ((σ 58 57) + 1)) 58 57) x3) 58 57)) ∧ (r = .inl none ∧ h' = hSet h 92 ((mup σ 58 57 ((σ 58 57) + 1)) 58 57 : Int).toNat (vlg x1) ∧ σ' = mup (mup (mup σ 58 57 ((σ 58 57) + 1)) 93 ((mup σ 58 57 ((σ 58 57) + 1)) 58 57) x3) 58 58 ((mup (mup σ 58 57 ((σ 58 57) + 1)) 93 ((mup σ 58 57 ((σ 58 57) + 1)) 58 57) x3) 58 57)))))))
theorem M_Mo_worthIs {d : Nat} {x1 : Int} {x3 : Int} {h h' : mHp} {σ σ' : Mem} {r : mRes} (hx3 : rg x3) (H : B_Mo_worthIs d x1 x3 h σ r h' σ') : Rh (d + 2) yMo_worthIs [.ref 58, vlg x1, vi x3] h σ r h' σ' := by
  refine q_m (Nat.le_of_ble_eq_true rfl) ?_
  unfold B_Mo_worthIs at H
  refine q_l rfl rfl rfl ?_
  refine q_p rfl rfl rfl ?_
  obtain ⟨g1, H⟩ := H
  refine q_gi rfl rfl rfl (by decide) rfl rfl ?_
  refine q_p rfl rfl rfl ?_
  refine q_add rfl ?_
  obtain ⟨g2, H⟩ := H
  refine q_pi rfl rfl rfl (by decide) rfl rfl rfl rfl g2 ?_
  refine q_l rfl rfl rfl ?_
  refine q_gr (t := 92) rfl rfl rfl (by decide) rfl ?_
  refine q_l rfl rfl rfl ?_
  obtain ⟨g3, H⟩ := H
  refine q_gi rfl rfl rfl (by decide) rfl rfl ?_
  refine q_l rfl rfl rfl ?_
  obtain ⟨g4, H⟩ := H
  refine q_sv (ok := isL) rfl rfl (fun _ => rfl) rfl rfl g4 (by decide) rfl ?_
  refine q_l rfl rfl rfl ?_
  refine q_gr (t := 93) rfl rfl rfl (by decide) rfl ?_
  refine q_l rfl rfl rfl ?_
  refine q_gi rfl rfl rfl (by decide) rfl rfl ?_
  refine q_l rfl rfl rfl ?_
  obtain ⟨g5, H⟩ := H
  refine q_as (ok := isI) rfl rfl (fun _ => rfl) rfl rfl g5 (by decide) rfl hx3 ?_
  refine q_l rfl rfl rfl ?_
  refine q_l rfl rfl rfl ?_
  obtain ⟨g6, H⟩ := H
  refine q_gi rfl rfl rfl (by decide) rfl rfl ?_
  refine q_pi rfl rfl rfl (by decide) rfl rfl rfl rfl g6 ?_
  obtain ⟨rfl, rfl, rfl⟩ := H
  exact q_r rfl rfl rfl
def B_Mo_isStep_36 (d : Nat)  (h : mHp) (σ : Mem) (r : mRes) (h' : mHp) (σ' : Mem) : Prop := r = .inl (some (vi 1)) ∧ h' = h ∧ σ' = σ
theorem K_Mo_isStep_36 {d : Nat}  {h h' : mHp} {σ σ' : Mem} {r : mRes}  (H : B_Mo_isStep_36 d  h σ r h' σ') : Lh (d + 1) yMo_isStep 36 [] [] h σ r h' σ' := by
  unfold B_Mo_isStep_36 at H
  refine q_p rfl rfl rfl ?_
  refine q_b rfl rfl rfl rfl ?_
  obtain ⟨rfl, rfl, rfl⟩ := H
  exact q_r rfl rfl rfl
def B_Mo_isStep (d : Nat) (x0 : Int) (h : mHp) (σ : Mem) (r : mRes) (h' : mHp) (σ' : Mem) : Prop := if x0 = 8 then (B_Mo_isStep_36 d  h σ r h' σ') else (if x0 = 9 then (B_Mo_isStep_36 d  h σ r h' σ') else (if x0 = 10 then (B_Mo_isStep_36 d  h σ r h' σ') else (if x0 = 11 then (B_Mo_isStep_36 d  h σ r h' σ') else (if x0 = 13 then (B_Mo_isStep_36 d  h σ r h' σ') else (if x0 ≠ 15 then (r = .inl (some (vi 0)) ∧ h' = h ∧ σ' = σ) else (B_Mo_isStep_36 d  h σ r h' σ'))))))
theorem M_Mo_isStep {d : Nat} {x0 : Int} {h h' : mHp} {σ σ' : Mem} {r : mRes} (hx0 : rg x0) (H : B_Mo_isStep d x0 h σ r h' σ') : Rh (d + 2) yMo_isStep [vi x0] h σ r h' σ' := by
  refine q_m (Nat.le_of_ble_eq_true rfl) ?_
  unfold B_Mo_isStep at H
  refine q_l rfl rfl rfl ?_
  refine q_k (x := 8) rfl rfl rfl rfl ?_
  by_cases c1 : x0 = 8
  · rw [if_pos c1] at H
    refine q_c rfl (by decide) hx0 (rgk rfl) (q := true) (decide_eq_true c1) rfl ?_
    exact q_lab (K_Mo_isStep_36  H) lvS_nil
  · rw [if_neg c1] at H
    refine q_c rfl (by decide) hx0 (rgk rfl) (q := false) (decide_eq_false c1) rfl ?_
    refine q_l rfl rfl rfl ?_
    refine q_k (x := 9) rfl rfl rfl rfl ?_
    by_cases c2 : x0 = 9
    · rw [if_pos c2] at H
      refine q_c rfl (by decide) hx0 (rgk rfl) (q := true) (decide_eq_true c2) rfl ?_
      exact q_lab (K_Mo_isStep_36  H) lvS_nil
    · rw [if_neg c2] at H
      refine q_c rfl (by decide) hx0 (rgk rfl) (q := false) (decide_eq_false c2) rfl ?_
      refine q_l rfl rfl rfl ?_
      refine q_k (x := 10) rfl rfl rfl rfl ?_
      by_cases c3 : x0 = 10
      · rw [if_pos c3] at H
        refine q_c rfl (by decide) hx0 (rgk rfl) (q := true) (decide_eq_true c3) rfl ?_
        exact q_lab (K_Mo_isStep_36  H) lvS_nil
      · rw [if_neg c3] at H
        refine q_c rfl (by decide) hx0 (rgk rfl) (q := false) (decide_eq_false c3) rfl ?_
        refine q_l rfl rfl rfl ?_
        refine q_k (x := 11) rfl rfl rfl rfl ?_
        by_cases c4 : x0 = 11
        · rw [if_pos c4] at H
          refine q_c rfl (by decide) hx0 (rgk rfl) (q := true) (decide_eq_true c4) rfl ?_
          exact q_lab (K_Mo_isStep_36  H) lvS_nil
        · rw [if_neg c4] at H
          refine q_c rfl (by decide) hx0 (rgk rfl) (q := false) (decide_eq_false c4) rfl ?_
          refine q_l rfl rfl rfl ?_
          refine q_k (x := 13) rfl rfl rfl rfl ?_
          by_cases c5 : x0 = 13
          · rw [if_pos c5] at H
            refine q_c rfl (by decide) hx0 (rgk rfl) (q := true) (decide_eq_true c5) rfl ?_
            exact q_lab (K_Mo_isStep_36  H) lvS_nil
          · rw [if_neg c5] at H
            refine q_c rfl (by decide) hx0 (rgk rfl) (q := false) (decide_eq_false c5) rfl ?_
            refine q_l rfl rfl rfl ?_
            refine q_k (x := 15) rfl rfl rfl rfl ?_
            by_cases c6 : x0 ≠ 15
            · rw [if_pos c6] at H
              refine q_c rfl (by decide) hx0 (rgk rfl) (q := true) (decide_eq_true c6) rfl ?_
              refine q_p rfl rfl rfl ?_
              obtain ⟨rfl, rfl, rfl⟩ := H
              exact q_r rfl rfl rfl
            · rw [if_neg c6] at H
              refine q_c rfl (by decide) hx0 (rgk rfl) (q := false) (decide_eq_false c6) rfl ?_
              exact q_lab (K_Mo_isStep_36  H) lvS_nil
def B_Mo_stepIsDue (d : Nat)  (h : mHp) (σ : Mem) (r : mRes) (h' : mHp) (σ' : Mem) : Prop := (rg (σ 58 64)) ∧ ((rg (σ 58 11)) ∧ (if σ 58 64 ≥ σ 58 11 then (r = .inl (some (vi 0)) ∧ h' = h ∧ σ' = σ) else (((0 : Int) ≤ σ 58 64 ∧ σ 58 64 < (124 : Int)) ∧ (∃ (v5 : Int) (h5 : mHp) (m5 : Mem), Rh (d + 2) yMo_isStep [vi (σ 63 (σ 58 64))] h σ (.inl (some (vi v5))) h5 m5 ∧ rg v5 ∧ (if v5 = 0 then (r = .inl (some (vi 0)) ∧ h' = h5 ∧ σ' = m5) else (r = .inl (some (vi 1)) ∧ h' = h5 ∧ σ' = m5))))))
theorem M_Mo_stepIsDue {d : Nat}  {h h' : mHp} {σ σ' : Mem} {r : mRes}  (H : B_Mo_stepIsDue d  h σ r h' σ') : Rh (d + 3) yMo_stepIsDue [.ref 58] h σ r h' σ' := by
  refine q_m (Nat.le_of_ble_eq_true rfl) ?_
  unfold B_Mo_stepIsDue at H
  refine q_l rfl rfl rfl ?_
  obtain ⟨g1, H⟩ := H
  refine q_gi rfl rfl rfl (by decide) rfl rfl ?_
  refine q_l rfl rfl rfl ?_
  obtain ⟨g2, H⟩ := H
  refine q_gi rfl rfl rfl (by decide) rfl rfl ?_
  by_cases c3 : σ 58 64 ≥ σ 58 11
  · rw [if_pos c3] at H
    refine q_c rfl (by decide) g1 g2 (q := true) (decide_eq_true c3) rfl ?_
    refine q_p rfl rfl rfl ?_
    obtain ⟨rfl, rfl, rfl⟩ := H
    exact q_r rfl rfl rfl
  · rw [if_neg c3] at H
    refine q_c rfl (by decide) g1 g2 (q := false) (decide_eq_false c3) rfl ?_
    refine q_l rfl rfl rfl ?_
    refine q_gr (t := 63) rfl rfl rfl (by decide) rfl ?_
    refine q_l rfl rfl rfl ?_
    refine q_gi rfl rfl rfl (by decide) rfl rfl ?_
    obtain ⟨g4, H⟩ := H
    refine q_al rfl rfl (fun _ => rfl) rfl rfl g4 (by decide) rfl ?_
    obtain ⟨v5, h5, m5, R5, w5, H⟩ := H
    refine q_is rfl (by decide) (Nat.le_of_ble_eq_true rfl) rfl rfl rfl R5 ?_
    by_cases c6 : v5 = 0
    · rw [if_pos c6] at H
      refine q_z rfl (by decide) w5 (q := true) (decide_eq_true c6) rfl ?_
      refine q_p rfl rfl rfl ?_
      obtain ⟨rfl, rfl, rfl⟩ := H
      exact q_r rfl rfl rfl
    · rw [if_neg c6] at H
      refine q_z rfl (by decide) w5 (q := false) (decide_eq_false c6) rfl ?_
      refine q_p rfl rfl rfl ?_
      refine q_b rfl rfl rfl rfl ?_
      obtain ⟨rfl, rfl, rfl⟩ := H
      exact q_r rfl rfl rfl
def B_Mo_further (d : Nat) (x1 : Int) (h : mHp) (σ : Mem) (r : mRes) (h' : mHp) (σ' : Mem) : Prop := (rg (σ 58 58)) ∧ (Lh (d + 1) yMo_further 7 [(0, .ref 58), (1, vi x1), (2, vi (σ 58 58)), (3, vi 0)] [] h σ r h' σ')
theorem M_Mo_further {d : Nat} {x1 : Int} {h h' : mHp} {σ σ' : Mem} {r : mRes} (hx1 : rg x1) (H : B_Mo_further d x1 h σ r h' σ') : Rh (d + 2) yMo_further [.ref 58, vi x1] h σ r h' σ' := by
  refine q_m (Nat.le_of_ble_eq_true rfl) ?_
  unfold B_Mo_further at H
  refine q_l rfl rfl rfl ?_
  obtain ⟨g1, H⟩ := H
  refine q_gi rfl rfl rfl (by decide) rfl rfl ?_
  refine q_l rfl rfl rfl ?_
  refine q_p rfl rfl rfl ?_
  refine q_l rfl rfl rfl ?_
  exact q_lab H (lvS_cons rfl rfl (lvS_cons rfl rfl (lvS_cons rfl rfl (lvS_cons rfl rfl lvS_nil))))
def B_Mo_further_7 (d : Nat) (x1 : Int) (x2 : Int) (x3 : Int) (h : mHp) (σ : Mem) (r : mRes) (h' : mHp) (σ' : Mem) : Prop := if x3 ≥ x1 then (r = .inl (some (vi x2)) ∧ h' = h ∧ σ' = σ) else (((0 : Int) ≤ x2 ∧ x2 < (4300 : Int)) ∧ ((rg (σ 93 x2)) ∧ ((rg (x3 + 1)) ∧ (Lh (d + 1) yMo_further 7 [(0, .ref 58), (1, vi x1), (2, vi (σ 93 x2)), (3, vi (x3 + 1))] [] h σ r h' σ'))))
theorem K_Mo_further_7 {d : Nat} {x1 : Int} {x2 : Int} {x3 : Int} {h h' : mHp} {σ σ' : Mem} {r : mRes} (hx1 : rg x1) (hx2 : rg x2) (hx3 : rg x3) (H : B_Mo_further_7 d x1 x2 x3 h σ r h' σ') : Lh (d + 1) yMo_further 7 [(0, .ref 58), (1, vi x1), (2, vi x2), (3, vi x3)] [] h σ r h' σ' := by
  unfold B_Mo_further_7 at H
  refine q_l rfl rfl rfl ?_
  refine q_l rfl rfl rfl ?_
  by_cases c1 : x3 ≥ x1
  · rw [if_pos c1] at H
    refine q_c rfl (by decide) hx3 hx1 (q := true) (decide_eq_true c1) rfl ?_
    refine q_l rfl rfl rfl ?_
    obtain ⟨rfl, rfl, rfl⟩ := H
    exact q_r rfl rfl rfl
  · rw [if_neg c1] at H
    refine q_c rfl (by decide) hx3 hx1 (q := false) (decide_eq_false c1) rfl ?_
    refine q_l rfl rfl rfl ?_
    refine q_gr (t := 93) rfl rfl rfl (by decide) rfl ?_
    refine q_l rfl rfl rfl ?_
    obtain ⟨g2, H⟩ := H
    refine q_al rfl rfl (fun _ => rfl) rfl rfl g2 (by decide) rfl ?_
    refine q_l rfl rfl rfl ?_
    refine q_inc (z := x3) rfl rfl (by decide) ?_
    refine q_b rfl rfl rfl rfl ?_
    obtain ⟨g3, H⟩ := H
    obtain ⟨g4, H⟩ := H
    exact q_lab H (lvS_cons rfl rfl (lvS_cons rfl rfl (lvS_cons rfl rfl (lvS_cons rfl rfl lvS_nil))))
def B_Mo_apply (d : Nat)  (h : mHp) (σ : Mem) (r : mRes) (h' : mHp) (σ' : Mem) : Prop := (rg (σ 58 51)) ∧ (((0 : Int) ≤ (σ 58 51) - 1 ∧ (σ 58 51) - 1 < (200 : Int)) ∧ (∃ z3, hAt h 89 ((σ 58 51) - 1 : Int).toNat = vlg z3 ∧ (((0 : Int) ≤ (σ 58 51) - 2 ∧ (σ 58 51) - 2 < (200 : Int)) ∧ (∃ z6, hAt h 89 ((σ 58 51) - 2 : Int).toNat = vlg z6 ∧ ((rg ((σ 58 51) - 2)) ∧ (∃ (v9 : Int) (h9 : mHp) (m9 : Mem), Rh (d + 4) yMo_kind [vlg z6] h (mup σ 58 51 ((σ 58 51) - 2)) (.inl (some (vi v9))) h9 m9 ∧ rg v9 ∧ (if v9 ≠ 5 then ((rg (m9 58 54)) ∧ ((rg (m9 58 64)) ∧ (((0 : Int) ≤ m9 58 54 ∧ m9 58 54 < (502 : Int)) ∧ ((rg ((mup m9 90 (m9 58 54) (m9 58 64)) 58 54)) ∧ ((rg ((mup m9 90 (m9 58 54) (m9 58 64)) 58 58)) ∧ (((0 : Int) ≤ (mup m9 90 (m9 58 54) (m9 58 64)) 58 54 ∧ (mup m9 90 (m9 58 54) (m9 58 64)) 58 54 < (502 : Int)) ∧ ((rg ((mup (mup m9 90 (m9 58 54) (m9 58 64)) 91 ((mup m9 90 (m9 58 54) (m9 58 64)) 58 54) ((mup m9 90 (m9 58 54) (m9 58 64)) 58 58)) 58 54)) ∧ ((rg (((mup (mup m9 90 (m9 58 54) (m9 58 64)) 91 ((mup m9 90 (m9 58 54) (m9 58 64)) 58 54) ((mup m9 90 (m9 58 54) (m9 58 64)) 58 58)) 58 54) + 1)) ∧ (∃ (v19 : Int) (h19 : mHp) (m19 : Mem), Rh (d + 4) yMo_told [vlg z6] h9 (mup (mup (mup m9 90 (m9 58 54) (m9 58 64)) 91 ((mup m9 90 (m9 58 54) (m9 58 64)) 58 54) ((mup m9 90 (m9 58 54) (m9 58 64)) 58 58)) 58 54 (((mup (mup m9 90 (m9 58 54) (m9 58 64)) 91 ((mup m9 90 (m9 58 54) (m9 58 64)) 58 54) ((mup m9 90 (m9 58 54) (m9 58 64)) 58 58)) 58 54) + 1)) (.inl (some (vi v19))) h19 m19 ∧ rg v19 ∧ (∃ h20 m20, Rh (d + 4) yMo_worthIs [.ref 58, vlg z3, vi (zRem v19 8192)] h19 m19 (.inl none) h20 m20 ∧ (∃ (v21 : Int) (h21 : mHp) (m21 : Mem), Rh (d + 4) yMo_told [vlg z6] h20 m20 (.inl (some (vi v21))) h21 m21 ∧ rg v21 ∧ (r = .inl none ∧ h' = h21 ∧ σ' = mup m21 58 64 (zDiv v21 8192))))))))))))) else (∃ (v22 : Int) (h22 : mHp) (m22 : Mem), Rh (d + 4) yMo_told [vlg z6] h9 m9 (.inl (some (vi v22))) h22 m22 ∧ rg v22 ∧ (if v22 ≠ 82 then (∃ (v24 : UInt64) (h24 : mHp) (m24 : Mem), Rh (d + 4) yMo_realOf [.ref 58, vlg z3] h22 m22 (.inl (some (.double v24))) h24 m24 ∧ (∃ h25 m25, Rh (d + 4) yMo_known [.ref 58, vi 0, vi ((FP.d2i v24).toInt)] h24 m24 (.inl none) h25 m25 ∧ (r = .inl none ∧ h' = h25 ∧ σ' = m25))) else (∃ (v26 : Int) (h26 : mHp) (m26 : Mem), Rh (d + 4) yMo_told [vlg z3] h22 m22 (.inl (some (vi v26))) h26 m26 ∧ rg v26 ∧ (∃ h27 m27, Rh (d + 4) yMo_knownReal [.ref 58, .double (FP.i2d (Int32.ofInt v26))] h26 m26 (.inl none) h27 m27 ∧ (r = .inl none ∧ h' = h27 ∧ σ' = m27))))))))))))
theorem M_Mo_apply {d : Nat}  {h h' : mHp} {σ σ' : Mem} {r : mRes}  (H : B_Mo_apply d  h σ r h' σ') : Rh (d + 5) yMo_apply [.ref 58] h σ r h' σ' := by
  refine q_m (Nat.le_of_ble_eq_true rfl) ?_
  unfold B_Mo_apply at H
  refine q_l rfl rfl rfl ?_
  refine q_gr (t := 89) rfl rfl rfl (by decide) rfl ?_
  refine q_l rfl rfl rfl ?_
  obtain ⟨g1, H⟩ := H
  refine q_gi rfl rfl rfl (by decide) rfl rfl ?_
  refine q_p rfl rfl rfl ?_
  refine q_sub rfl ?_
  obtain ⟨g2, H⟩ := H
  obtain ⟨z3, e4, H⟩ := H
  refine q_av rfl rfl (fun _ => rfl) rfl rfl g2 (by decide) e4 ?_
  refine q_l rfl rfl rfl ?_
  refine q_l rfl rfl rfl ?_
  refine q_gr (t := 89) rfl rfl rfl (by decide) rfl ?_
  refine q_l rfl rfl rfl ?_
  refine q_gi rfl rfl rfl (by decide) rfl rfl ?_
  refine q_p rfl rfl rfl ?_
  refine q_sub rfl ?_
  obtain ⟨g5, H⟩ := H
  obtain ⟨z6, e7, H⟩ := H
  refine q_av rfl rfl (fun _ => rfl) rfl rfl g5 (by decide) e7 ?_
  refine q_l rfl rfl rfl ?_
  refine q_l rfl rfl rfl ?_
  refine q_p rfl rfl rfl ?_
  refine q_gi rfl rfl rfl (by decide) rfl rfl ?_
  refine q_p rfl rfl rfl ?_
  refine q_sub rfl ?_
  obtain ⟨g8, H⟩ := H
  refine q_pi rfl rfl rfl (by decide) rfl rfl rfl rfl g8 ?_
  refine q_l rfl rfl rfl ?_
  obtain ⟨v9, h9, m9, R9, w9, H⟩ := H
  refine q_is rfl (by decide) (Nat.le_of_ble_eq_true rfl) rfl rfl rfl R9 ?_
  refine q_p rfl rfl rfl ?_
  by_cases c10 : v9 ≠ 5
  · rw [if_pos c10] at H
    refine q_c rfl (by decide) w9 (rgk rfl) (q := true) (decide_eq_true c10) rfl ?_
    refine q_l rfl rfl rfl ?_
    refine q_gr (t := 90) rfl rfl rfl (by decide) rfl ?_
    refine q_l rfl rfl rfl ?_
    obtain ⟨g11, H⟩ := H
    refine q_gi rfl rfl rfl (by decide) rfl rfl ?_
    refine q_l rfl rfl rfl ?_
    obtain ⟨g12, H⟩ := H
    refine q_gi rfl rfl rfl (by decide) rfl rfl ?_
    obtain ⟨g13, H⟩ := H
    refine q_as (ok := isI) rfl rfl (fun _ => rfl) rfl rfl g13 (by decide) rfl g12 ?_
    refine q_l rfl rfl rfl ?_
    refine q_gr (t := 91) rfl rfl rfl (by decide) rfl ?_
    refine q_l rfl rfl rfl ?_
    obtain ⟨g14, H⟩ := H
    refine q_gi rfl rfl rfl (by decide) rfl rfl ?_
    refine q_l rfl rfl rfl ?_
    obtain ⟨g15, H⟩ := H
    refine q_gi rfl rfl rfl (by decide) rfl rfl ?_
    obtain ⟨g16, H⟩ := H
    refine q_as (ok := isI) rfl rfl (fun _ => rfl) rfl rfl g16 (by decide) rfl g15 ?_
    refine q_l rfl rfl rfl ?_
    refine q_p rfl rfl rfl ?_
    obtain ⟨g17, H⟩ := H
    refine q_gi rfl rfl rfl (by decide) rfl rfl ?_
    refine q_p rfl rfl rfl ?_
    refine q_add rfl ?_
    obtain ⟨g18, H⟩ := H
    refine q_pi rfl rfl rfl (by decide) rfl rfl rfl rfl g18 ?_
    refine q_l rfl rfl rfl ?_
    refine q_l rfl rfl rfl ?_
    refine q_l rfl rfl rfl ?_
    obtain ⟨v19, h19, m19, R19, w19, H⟩ := H
    refine q_is rfl (by decide) (Nat.le_of_ble_eq_true rfl) rfl rfl rfl R19 ?_
    refine q_k (x := 8192) rfl rfl rfl rfl ?_
    refine q_rem rfl (rgk rfl) (by decide) ?_
    obtain ⟨h20, m20, R20, H⟩ := H
    refine q_iv rfl rfl rfl (fun S => S.t 58 rfl) (by decide) rfl R20 ?_
    refine q_l rfl rfl rfl ?_
    refine q_l rfl rfl rfl ?_
    obtain ⟨v21, h21, m21, R21, w21, H⟩ := H
    refine q_is rfl (by decide) (Nat.le_of_ble_eq_true rfl) rfl rfl rfl R21 ?_
    refine q_k (x := 8192) rfl rfl rfl rfl ?_
    refine q_div rfl (rgk rfl) (by decide) ?_
    refine q_pi rfl rfl rfl (by decide) rfl rfl rfl rfl rg_zDiv ?_
    obtain ⟨rfl, rfl, rfl⟩ := H
    exact q_r rfl rfl rfl
  · rw [if_neg c10] at H
    refine q_c rfl (by decide) w9 (rgk rfl) (q := false) (decide_eq_false c10) rfl ?_
    refine q_l rfl rfl rfl ?_
    obtain ⟨v22, h22, m22, R22, w22, H⟩ := H
    refine q_is rfl (by decide) (Nat.le_of_ble_eq_true rfl) rfl rfl rfl R22 ?_
    refine q_k (x := 82) rfl rfl rfl rfl ?_
    by_cases c23 : v22 ≠ 82
    · rw [if_pos c23] at H
      refine q_c rfl (by decide) w22 (rgk rfl) (q := true) (decide_eq_true c23) rfl ?_
      refine q_l rfl rfl rfl ?_
      refine q_p rfl rfl rfl ?_
      refine q_l rfl rfl rfl ?_
      refine q_l rfl rfl rfl ?_
      obtain ⟨v24, h24, m24, R24, H⟩ := H
      refine q_iv rfl rfl rfl (fun S => S.t 58 rfl) (by decide) rfl R24 ?_
      refine q_d2i rfl ?_
      obtain ⟨h25, m25, R25, H⟩ := H
      refine q_iv rfl rfl rfl (fun S => S.t 58 rfl) (by decide) rfl R25 ?_
      obtain ⟨rfl, rfl, rfl⟩ := H
      exact q_r rfl rfl rfl
    · rw [if_neg c23] at H
      refine q_c rfl (by decide) w22 (rgk rfl) (q := false) (decide_eq_false c23) rfl ?_
      refine q_l rfl rfl rfl ?_
      refine q_l rfl rfl rfl ?_
      obtain ⟨v26, h26, m26, R26, w26, H⟩ := H
      refine q_is rfl (by decide) (Nat.le_of_ble_eq_true rfl) rfl rfl rfl R26 ?_
      refine q_p rfl rfl rfl ?_
      obtain ⟨h27, m27, R27, H⟩ := H
      refine q_iv rfl rfl rfl (fun S => S.t 58 rfl) (by decide) rfl R27 ?_
      refine q_b rfl rfl rfl rfl ?_
      obtain ⟨rfl, rfl, rfl⟩ := H
      exact q_r rfl rfl rfl
def B_Mo_workNumbers_90 (d : Nat) (t1 : Int) (t2 : Int) (h : mHp) (σ : Mem) (r : mRes) (h' : mHp) (σ' : Mem) : Prop := ∃ h1 m1, Rh (d + 4) yMo_known [.ref 58, vi t1, vi t2] h σ (.inl none) h1 m1 ∧ (r = .inl none ∧ h' = h1 ∧ σ' = m1)
theorem K_Mo_workNumbers_90 {d : Nat} {t1 : Int} {t2 : Int} {h h' : mHp} {σ σ' : Mem} {r : mRes} (ht1 : rg t1) (ht2 : rg t2) (H : B_Mo_workNumbers_90 d t1 t2 h σ r h' σ') : Lh (d + 4) yMo_workNumbers 90 [] [vi t2, vi t1, .ref 58] h σ r h' σ' := by
  unfold B_Mo_workNumbers_90 at H
  obtain ⟨h1, m1, R1, H⟩ := H
  refine q_iv rfl rfl rfl (fun S => S.t 58 rfl) (by decide) rfl R1 ?_
  obtain ⟨rfl, rfl, rfl⟩ := H
  exact q_r rfl rfl rfl
def B_Mo_workNumbers_89 (d : Nat) (t1 : Int) (h : mHp) (σ : Mem) (r : mRes) (h' : mHp) (σ' : Mem) : Prop := B_Mo_workNumbers_90 d t1 0 h σ r h' σ'
theorem K_Mo_workNumbers_89 {d : Nat} {t1 : Int} {h h' : mHp} {σ σ' : Mem} {r : mRes} (ht1 : rg t1) (H : B_Mo_workNumbers_89 d t1 h σ r h' σ') : Lh (d + 4) yMo_workNumbers 89 [] [vi t1, .ref 58] h σ r h' σ' := by
  unfold B_Mo_workNumbers_89 at H
  refine q_p rfl rfl rfl ?_
  exact q_lab (K_Mo_workNumbers_90 ht1 (rgk rfl) H) lvS_nil
def B_Mo_workNumbers_85 (d : Nat) (t1 : Int) (h : mHp) (σ : Mem) (r : mRes) (h' : mHp) (σ' : Mem) : Prop := B_Mo_workNumbers_90 d t1 1 h σ r h' σ'
theorem K_Mo_workNumbers_85 {d : Nat} {t1 : Int} {h h' : mHp} {σ σ' : Mem} {r : mRes} (ht1 : rg t1) (H : B_Mo_workNumbers_85 d t1 h σ r h' σ') : Lh (d + 4) yMo_workNumbers 85 [] [vi t1, .ref 58] h σ r h' σ' := by
  unfold B_Mo_workNumbers_85 at H
  refine q_p rfl rfl rfl ?_
  refine q_b rfl rfl rfl rfl ?_
  exact q_lab (K_Mo_workNumbers_90 ht1 (rgk rfl) H) lvS_nil
def B_Mo_workNumbers_16 (d : Nat) (x1 : Int) (x2 : Int) (x3 : Int) (h : mHp) (σ : Mem) (r : mRes) (h' : mHp) (σ' : Mem) : Prop := if x1 ≠ 43 then (if x1 ≠ 45 then (if x1 ≠ 42 then (if x1 ≠ 47 then (if x1 ≠ 60 then (if x2 ≠ x3 then (B_Mo_workNumbers_89 d 0 h σ r h' σ') else (B_Mo_workNumbers_85 d 0 h σ r h' σ')) else (if x2 ≥ x3 then (B_Mo_workNumbers_89 d 0 h σ r h' σ') else (B_Mo_workNumbers_85 d 0 h σ r h' σ'))) else ((x3 ≠ 0) ∧ (B_Mo_workNumbers_90 d 0 (zDiv x2 x3) h σ r h' σ'))) else (B_Mo_workNumbers_90 d 0 (i32 (x2 * x3)) h σ r h' σ')) else (B_Mo_workNumbers_90 d 0 (i32 (x2 - x3)) h σ r h' σ')) else (B_Mo_workNumbers_90 d 0 (i32 (x2 + x3)) h σ r h' σ')
theorem K_Mo_workNumbers_16 {d : Nat} {x1 : Int} {x2 : Int} {x3 : Int} {h h' : mHp} {σ σ' : Mem} {r : mRes} (hx1 : rg x1) (hx2 : rg x2) (hx3 : rg x3) (H : B_Mo_workNumbers_16 d x1 x2 x3 h σ r h' σ') : Lh (d + 4) yMo_workNumbers 16 [(0, .ref 58), (1, vi x1), (2, vi x2), (3, vi x3)] [] h σ r h' σ' := by
  unfold B_Mo_workNumbers_16 at H
  refine q_l rfl rfl rfl ?_
  refine q_p rfl rfl rfl ?_
  refine q_l rfl rfl rfl ?_
  refine q_k (x := 43) rfl rfl rfl rfl ?_
  by_cases c1 : x1 ≠ 43
  · rw [if_pos c1] at H
    refine q_c rfl (by decide) hx1 (rgk rfl) (q := true) (decide_eq_true c1) rfl ?_
    refine q_l rfl rfl rfl ?_
    refine q_k (x := 45) rfl rfl rfl rfl ?_
    by_cases c2 : x1 ≠ 45
    · rw [if_pos c2] at H
      refine q_c rfl (by decide) hx1 (rgk rfl) (q := true) (decide_eq_true c2) rfl ?_
      refine q_l rfl rfl rfl ?_
      refine q_k (x := 42) rfl rfl rfl rfl ?_
      by_cases c3 : x1 ≠ 42
      · rw [if_pos c3] at H
        refine q_c rfl (by decide) hx1 (rgk rfl) (q := true) (decide_eq_true c3) rfl ?_
        refine q_l rfl rfl rfl ?_
        refine q_k (x := 47) rfl rfl rfl rfl ?_
        by_cases c4 : x1 ≠ 47
        · rw [if_pos c4] at H
          refine q_c rfl (by decide) hx1 (rgk rfl) (q := true) (decide_eq_true c4) rfl ?_
          refine q_l rfl rfl rfl ?_
          refine q_k (x := 60) rfl rfl rfl rfl ?_
          by_cases c5 : x1 ≠ 60
          · rw [if_pos c5] at H
            refine q_c rfl (by decide) hx1 (rgk rfl) (q := true) (decide_eq_true c5) rfl ?_
            refine q_l rfl rfl rfl ?_
            refine q_l rfl rfl rfl ?_
            by_cases c6 : x2 ≠ x3
            · rw [if_pos c6] at H
              refine q_c rfl (by decide) hx2 hx3 (q := true) (decide_eq_true c6) rfl ?_
              exact q_lab (K_Mo_workNumbers_89 (rgk rfl) H) lvS_nil
            · rw [if_neg c6] at H
              refine q_c rfl (by decide) hx2 hx3 (q := false) (decide_eq_false c6) rfl ?_
              exact q_lab (K_Mo_workNumbers_85 (rgk rfl) H) lvS_nil
          · rw [if_neg c5] at H
            refine q_c rfl (by decide) hx1 (rgk rfl) (q := false) (decide_eq_false c5) rfl ?_
            refine q_l rfl rfl rfl ?_
            refine q_l rfl rfl rfl ?_
            by_cases c7 : x2 ≥ x3
            · rw [if_pos c7] at H
              refine q_c rfl (by decide) hx2 hx3 (q := true) (decide_eq_true c7) rfl ?_
              exact q_lab (K_Mo_workNumbers_89 (rgk rfl) H) lvS_nil
            · rw [if_neg c7] at H
              refine q_c rfl (by decide) hx2 hx3 (q := false) (decide_eq_false c7) rfl ?_
              refine q_b rfl rfl rfl rfl ?_
              exact q_lab (K_Mo_workNumbers_85 (rgk rfl) H) lvS_nil
        · rw [if_neg c4] at H
          refine q_c rfl (by decide) hx1 (rgk rfl) (q := false) (decide_eq_false c4) rfl ?_
          refine q_l rfl rfl rfl ?_
          refine q_l rfl rfl rfl ?_
          obtain ⟨g8, H⟩ := H
          refine q_div rfl hx3 g8 ?_
          refine q_b rfl rfl rfl rfl ?_
          exact q_lab (K_Mo_workNumbers_90 (rgk rfl) rg_zDiv H) lvS_nil
      · rw [if_neg c3] at H
        refine q_c rfl (by decide) hx1 (rgk rfl) (q := false) (decide_eq_false c3) rfl ?_
        refine q_l rfl rfl rfl ?_
        refine q_l rfl rfl rfl ?_
        refine q_mul2 rfl ?_
        refine q_b rfl rfl rfl rfl ?_
        exact q_lab (K_Mo_workNumbers_90 (rgk rfl) rg_i32 H) lvS_nil
    · rw [if_neg c2] at H
      refine q_c rfl (by decide) hx1 (rgk rfl) (q := false) (decide_eq_false c2) rfl ?_
      refine q_l rfl rfl rfl ?_
      refine q_l rfl rfl rfl ?_
      refine q_sub2 rfl ?_
      refine q_b rfl rfl rfl rfl ?_
      exact q_lab (K_Mo_workNumbers_90 (rgk rfl) rg_i32 H) lvS_nil
  · rw [if_neg c1] at H
    refine q_c rfl (by decide) hx1 (rgk rfl) (q := false) (decide_eq_false c1) rfl ?_
    refine q_l rfl rfl rfl ?_
    refine q_l rfl rfl rfl ?_
    refine q_add2 rfl ?_
    refine q_b rfl rfl rfl rfl ?_
    exact q_lab (K_Mo_workNumbers_90 (rgk rfl) rg_i32 H) lvS_nil
def B_Mo_workNumbers (d : Nat) (x1 : Int) (x2 : Int) (x3 : Int) (h : mHp) (σ : Mem) (r : mRes) (h' : mHp) (σ' : Mem) : Prop := if x1 ≠ 47 then (B_Mo_workNumbers_16 d x1 x2 x3 h σ r h' σ') else (if x3 ≠ 0 then (B_Mo_workNumbers_16 d x1 x2 x3 h σ r h' σ') else (∃ h3 m3, Rh (d + 4) yMo_fail [.ref 58, vi 1] h σ (.inl none) h3 m3 ∧ (r = .inl none ∧ h' = h3 ∧ σ' = m3)))
theorem M_Mo_workNumbers {d : Nat} {x1 : Int} {x2 : Int} {x3 : Int} {h h' : mHp} {σ σ' : Mem} {r : mRes} (hx1 : rg x1) (hx2 : rg x2) (hx3 : rg x3) (H : B_Mo_workNumbers d x1 x2 x3 h σ r h' σ') : Rh (d + 5) yMo_workNumbers [.ref 58, vi x1, vi x2, vi x3] h σ r h' σ' := by
  refine q_m (Nat.le_of_ble_eq_true rfl) ?_
  unfold B_Mo_workNumbers at H
  refine q_l rfl rfl rfl ?_
  refine q_k (x := 47) rfl rfl rfl rfl ?_
  by_cases c1 : x1 ≠ 47
  · rw [if_pos c1] at H
    refine q_c rfl (by decide) hx1 (rgk rfl) (q := true) (decide_eq_true c1) rfl ?_
    exact q_lab (K_Mo_workNumbers_16 hx1 hx2 hx3 H) (lvS_cons rfl rfl (lvS_cons rfl rfl (lvS_cons rfl rfl (lvS_cons rfl rfl lvS_nil))))
  · rw [if_neg c1] at H
    refine q_c rfl (by decide) hx1 (rgk rfl) (q := false) (decide_eq_false c1) rfl ?_
    refine q_l rfl rfl rfl ?_
    by_cases c2 : x3 ≠ 0
    · rw [if_pos c2] at H
      refine q_z rfl (by decide) hx3 (q := true) (decide_eq_true c2) rfl ?_
      exact q_lab (K_Mo_workNumbers_16 hx1 hx2 hx3 H) (lvS_cons rfl rfl (lvS_cons rfl rfl (lvS_cons rfl rfl (lvS_cons rfl rfl lvS_nil))))
    · rw [if_neg c2] at H
      refine q_z rfl (by decide) hx3 (q := false) (decide_eq_false c2) rfl ?_
      refine q_l rfl rfl rfl ?_
      refine q_p rfl rfl rfl ?_
      obtain ⟨h3, m3, R3, H⟩ := H
      refine q_iv rfl rfl rfl (fun S => S.t 58 rfl) (by decide) rfl R3 ?_
      obtain ⟨rfl, rfl, rfl⟩ := H
      exact q_r rfl rfl rfl
def B_Mo_workReals_106 (d : Nat)  (h : mHp) (σ : Mem) (r : mRes) (h' : mHp) (σ' : Mem) : Prop := ∃ h1 m1, Rh (d + 4) yMo_fail [.ref 58, vi 3] h σ (.inl none) h1 m1 ∧ (r = .inl none ∧ h' = h1 ∧ σ' = m1)
theorem K_Mo_workReals_106 {d : Nat}  {h h' : mHp} {σ σ' : Mem} {r : mRes}  (H : B_Mo_workReals_106 d  h σ r h' σ') : Lh (d + 4) yMo_workReals 106 [(0, .ref 58)] [] h σ r h' σ' := by
  unfold B_Mo_workReals_106 at H
  refine q_l rfl rfl rfl ?_
  refine q_p rfl rfl rfl ?_
  obtain ⟨h1, m1, R1, H⟩ := H
  refine q_iv rfl rfl rfl (fun S => S.t 58 rfl) (by decide) rfl R1 ?_
  refine q_b rfl rfl rfl rfl ?_
  obtain ⟨rfl, rfl, rfl⟩ := H
  exact q_r rfl rfl rfl
def B_Mo_workReals_86 (d : Nat) (t0 : UInt64) (h : mHp) (σ : Mem) (r : mRes) (h' : mHp) (σ' : Mem) : Prop := if (Op.cmpValue (FP.dcmp t0 ((UInt64.ofNat 4741671816366391296))) .l).toInt > 0 then (B_Mo_workReals_106 d  h σ r h' σ') else (if (Op.cmpValue (FP.dcmp t0 ((UInt64.ofNat 13965043853221167104))) .g).toInt ≥ 0 then (∃ h3 m3, Rh (d + 4) yMo_knownReal [.ref 58, .double t0] h σ (.inl none) h3 m3 ∧ (r = .inl none ∧ h' = h3 ∧ σ' = m3)) else (B_Mo_workReals_106 d  h σ r h' σ'))
theorem K_Mo_workReals_86 {d : Nat} {t0 : UInt64} {h h' : mHp} {σ σ' : Mem} {r : mRes}  (H : B_Mo_workReals_86 d t0 h σ r h' σ') : Lh (d + 4) yMo_workReals 86 [(0, .ref 58)] [.double t0] h σ r h' σ' := by
  unfold B_Mo_workReals_86 at H
  refine q_l rfl rfl rfl ?_
  refine q_l rfl rfl rfl ?_
  refine q_p rfl rfl rfl ?_
  refine q_dcmp rfl ?_
  by_cases c1 : (Op.cmpValue (FP.dcmp t0 ((UInt64.ofNat 4741671816366391296))) .l).toInt > 0
  · rw [if_pos c1] at H
    refine q_z rfl (by decide) rg_toInt (q := true) (decide_eq_true c1) rfl ?_
    exact q_lab (K_Mo_workReals_106  H) (lvS_cons rfl rfl lvS_nil)
  · rw [if_neg c1] at H
    refine q_z rfl (by decide) rg_toInt (q := false) (decide_eq_false c1) rfl ?_
    refine q_l rfl rfl rfl ?_
    refine q_p rfl rfl rfl ?_
    refine q_dcmp rfl ?_
    by_cases c2 : (Op.cmpValue (FP.dcmp t0 ((UInt64.ofNat 13965043853221167104))) .g).toInt ≥ 0
    · rw [if_pos c2] at H
      refine q_z rfl (by decide) rg_toInt (q := true) (decide_eq_true c2) rfl ?_
      refine q_l rfl rfl rfl ?_
      refine q_l rfl rfl rfl ?_
      obtain ⟨h3, m3, R3, H⟩ := H
      refine q_iv rfl rfl rfl (fun S => S.t 58 rfl) (by decide) rfl R3 ?_
      obtain ⟨rfl, rfl, rfl⟩ := H
      exact q_r rfl rfl rfl
    · rw [if_neg c2] at H
      refine q_z rfl (by decide) rg_toInt (q := false) (decide_eq_false c2) rfl ?_
      exact q_lab (K_Mo_workReals_106  H) (lvS_cons rfl rfl lvS_nil)
def B_Mo_workReals_43 (d : Nat) (x1 : Int) (x2 : UInt64) (x4 : UInt64) (h : mHp) (σ : Mem) (r : mRes) (h' : mHp) (σ' : Mem) : Prop := if x1 ≠ 43 then (if x1 ≠ 45 then (if x1 ≠ 42 then ((nn (FP.ddiv x2 x4) = true) ∧ (B_Mo_workReals_86 d (FP.ddiv x2 x4) h σ r h' σ')) else ((nn (FP.dmul x2 x4) = true) ∧ (B_Mo_workReals_86 d (FP.dmul x2 x4) h σ r h' σ'))) else ((nn (FP.dsub x2 x4) = true) ∧ (B_Mo_workReals_86 d (FP.dsub x2 x4) h σ r h' σ'))) else ((nn (FP.dadd x2 x4) = true) ∧ (B_Mo_workReals_86 d (FP.dadd x2 x4) h σ r h' σ'))
theorem K_Mo_workReals_43 {d : Nat} {x1 : Int} {x2 : UInt64} {x4 : UInt64} {h h' : mHp} {σ σ' : Mem} {r : mRes} (hx1 : rg x1) (H : B_Mo_workReals_43 d x1 x2 x4 h σ r h' σ') : Lh (d + 4) yMo_workReals 43 [(0, .ref 58), (1, vi x1), (2, .double x2), (4, .double x4)] [] h σ r h' σ' := by
  unfold B_Mo_workReals_43 at H
  refine q_l rfl rfl rfl ?_
  refine q_k (x := 43) rfl rfl rfl rfl ?_
  by_cases c1 : x1 ≠ 43
  · rw [if_pos c1] at H
    refine q_c rfl (by decide) hx1 (rgk rfl) (q := true) (decide_eq_true c1) rfl ?_
    refine q_l rfl rfl rfl ?_
    refine q_k (x := 45) rfl rfl rfl rfl ?_
    by_cases c2 : x1 ≠ 45
    · rw [if_pos c2] at H
      refine q_c rfl (by decide) hx1 (rgk rfl) (q := true) (decide_eq_true c2) rfl ?_
      refine q_l rfl rfl rfl ?_
      refine q_k (x := 42) rfl rfl rfl rfl ?_
      by_cases c3 : x1 ≠ 42
      · rw [if_pos c3] at H
        refine q_c rfl (by decide) hx1 (rgk rfl) (q := true) (decide_eq_true c3) rfl ?_
        refine q_l rfl rfl rfl ?_
        refine q_l rfl rfl rfl ?_
        obtain ⟨g4, H⟩ := H
        refine q_dd rfl rfl rfl g4 ?_
        exact q_lab (K_Mo_workReals_86  H) (lvS_cons rfl rfl lvS_nil)
      · rw [if_neg c3] at H
        refine q_c rfl (by decide) hx1 (rgk rfl) (q := false) (decide_eq_false c3) rfl ?_
        refine q_l rfl rfl rfl ?_
        refine q_l rfl rfl rfl ?_
        obtain ⟨g5, H⟩ := H
        refine q_dd rfl rfl rfl g5 ?_
        refine q_b rfl rfl rfl rfl ?_
        exact q_lab (K_Mo_workReals_86  H) (lvS_cons rfl rfl lvS_nil)
    · rw [if_neg c2] at H
      refine q_c rfl (by decide) hx1 (rgk rfl) (q := false) (decide_eq_false c2) rfl ?_
      refine q_l rfl rfl rfl ?_
      refine q_l rfl rfl rfl ?_
      obtain ⟨g6, H⟩ := H
      refine q_dd rfl rfl rfl g6 ?_
      refine q_b rfl rfl rfl rfl ?_
      exact q_lab (K_Mo_workReals_86  H) (lvS_cons rfl rfl lvS_nil)
  · rw [if_neg c1] at H
    refine q_c rfl (by decide) hx1 (rgk rfl) (q := false) (decide_eq_false c1) rfl ?_
    refine q_l rfl rfl rfl ?_
    refine q_l rfl rfl rfl ?_
    obtain ⟨g7, H⟩ := H
    refine q_dd rfl rfl rfl g7 ?_
    refine q_b rfl rfl rfl rfl ?_
    exact q_lab (K_Mo_workReals_86  H) (lvS_cons rfl rfl lvS_nil)
def B_Mo_workReals_20 (d : Nat) (t1 : Int) (t2 : Int) (h : mHp) (σ : Mem) (r : mRes) (h' : mHp) (σ' : Mem) : Prop := ∃ h1 m1, Rh (d + 4) yMo_known [.ref 58, vi t1, vi t2] h σ (.inl none) h1 m1 ∧ (r = .inl none ∧ h' = h1 ∧ σ' = m1)
theorem K_Mo_workReals_20 {d : Nat} {t1 : Int} {t2 : Int} {h h' : mHp} {σ σ' : Mem} {r : mRes} (ht1 : rg t1) (ht2 : rg t2) (H : B_Mo_workReals_20 d t1 t2 h σ r h' σ') : Lh (d + 4) yMo_workReals 20 [] [vi t2, vi t1, .ref 58] h σ r h' σ' := by
  unfold B_Mo_workReals_20 at H
  obtain ⟨h1, m1, R1, H⟩ := H
  refine q_iv rfl rfl rfl (fun S => S.t 58 rfl) (by decide) rfl R1 ?_
  obtain ⟨rfl, rfl, rfl⟩ := H
  exact q_r rfl rfl rfl
def B_Mo_workReals (d : Nat) (x1 : Int) (x2 : UInt64) (x4 : UInt64) (h : mHp) (σ : Mem) (r : mRes) (h' : mHp) (σ' : Mem) : Prop := if x1 ≠ 60 then (if x1 ≠ 47 then (B_Mo_workReals_43 d x1 x2 x4 h σ r h' σ') else (if (Op.cmpValue (FP.dcmp x4 (FP.dconst0)) .l).toInt ≠ 0 then (B_Mo_workReals_43 d x1 x2 x4 h σ r h' σ') else (∃ h4 m4, Rh (d + 4) yMo_fail [.ref 58, vi 1] h σ (.inl none) h4 m4 ∧ (r = .inl none ∧ h' = h4 ∧ σ' = m4)))) else (if (Op.cmpValue (FP.dcmp x2 x4) .g).toInt ≥ 0 then (B_Mo_workReals_20 d 0 0 h σ r h' σ') else (B_Mo_workReals_20 d 0 1 h σ r h' σ'))
theorem M_Mo_workReals {d : Nat} {x1 : Int} {x2 : UInt64} {x4 : UInt64} {h h' : mHp} {σ σ' : Mem} {r : mRes} (hx1 : rg x1) (H : B_Mo_workReals d x1 x2 x4 h σ r h' σ') : Rh (d + 5) yMo_workReals [.ref 58, vi x1, .double x2, .double x4] h σ r h' σ' := by
  refine q_m (Nat.le_of_ble_eq_true rfl) ?_
  unfold B_Mo_workReals at H
  refine q_l rfl rfl rfl ?_
  refine q_k (x := 60) rfl rfl rfl rfl ?_
  by_cases c1 : x1 ≠ 60
  · rw [if_pos c1] at H
    refine q_c rfl (by decide) hx1 (rgk rfl) (q := true) (decide_eq_true c1) rfl ?_
    refine q_l rfl rfl rfl ?_
    refine q_k (x := 47) rfl rfl rfl rfl ?_
    by_cases c2 : x1 ≠ 47
    · rw [if_pos c2] at H
      refine q_c rfl (by decide) hx1 (rgk rfl) (q := true) (decide_eq_true c2) rfl ?_
      exact q_lab (K_Mo_workReals_43 hx1 H) (lvS_cons rfl rfl (lvS_cons rfl rfl (lvS_cons rfl rfl (lvS_cons rfl rfl lvS_nil))))
    · rw [if_neg c2] at H
      refine q_c rfl (by decide) hx1 (rgk rfl) (q := false) (decide_eq_false c2) rfl ?_
      refine q_l rfl rfl rfl ?_
      refine q_p rfl rfl rfl ?_
      refine q_dcmp rfl ?_
      by_cases c3 : (Op.cmpValue (FP.dcmp x4 (FP.dconst0)) .l).toInt ≠ 0
      · rw [if_pos c3] at H
        refine q_z rfl (by decide) rg_toInt (q := true) (decide_eq_true c3) rfl ?_
        exact q_lab (K_Mo_workReals_43 hx1 H) (lvS_cons rfl rfl (lvS_cons rfl rfl (lvS_cons rfl rfl (lvS_cons rfl rfl lvS_nil))))
      · rw [if_neg c3] at H
        refine q_z rfl (by decide) rg_toInt (q := false) (decide_eq_false c3) rfl ?_
        refine q_l rfl rfl rfl ?_
        refine q_p rfl rfl rfl ?_
        obtain ⟨h4, m4, R4, H⟩ := H
        refine q_iv rfl rfl rfl (fun S => S.t 58 rfl) (by decide) rfl R4 ?_
        obtain ⟨rfl, rfl, rfl⟩ := H
        exact q_r rfl rfl rfl
  · rw [if_neg c1] at H
    refine q_c rfl (by decide) hx1 (rgk rfl) (q := false) (decide_eq_false c1) rfl ?_
    refine q_l rfl rfl rfl ?_
    refine q_p rfl rfl rfl ?_
    refine q_l rfl rfl rfl ?_
    refine q_l rfl rfl rfl ?_
    refine q_dcmp rfl ?_
    by_cases c5 : (Op.cmpValue (FP.dcmp x2 x4) .g).toInt ≥ 0
    · rw [if_pos c5] at H
      refine q_z rfl (by decide) rg_toInt (q := true) (decide_eq_true c5) rfl ?_
      refine q_p rfl rfl rfl ?_
      exact q_lab (K_Mo_workReals_20 (rgk rfl) (rgk rfl) H) lvS_nil
    · rw [if_neg c5] at H
      refine q_z rfl (by decide) rg_toInt (q := false) (decide_eq_false c5) rfl ?_
      refine q_p rfl rfl rfl ?_
      refine q_b rfl rfl rfl rfl ?_
      exact q_lab (K_Mo_workReals_20 (rgk rfl) (rgk rfl) H) lvS_nil
def B_Mo_work (d : Nat) (x1 : Int) (h : mHp) (σ : Mem) (r : mRes) (h' : mHp) (σ' : Mem) : Prop := (rg (σ 58 51)) ∧ (((0 : Int) ≤ (σ 58 51) - 1 ∧ (σ 58 51) - 1 < (200 : Int)) ∧ (∃ z3, hAt h 89 ((σ 58 51) - 1 : Int).toNat = vlg z3 ∧ ((rg ((σ 58 51) - 1)) ∧ (if x1 ≠ 126 then ((rg ((mup σ 58 51 ((σ 58 51) - 1)) 58 51)) ∧ (((0 : Int) ≤ ((mup σ 58 51 ((σ 58 51) - 1)) 58 51) - 1 ∧ ((mup σ 58 51 ((σ 58 51) - 1)) 58 51) - 1 < (200 : Int)) ∧ (∃ z9, hAt h 89 (((mup σ 58 51 ((σ 58 51) - 1)) 58 51) - 1 : Int).toNat = vlg z9 ∧ ((rg (((mup σ 58 51 ((σ 58 51) - 1)) 58 51) - 1)) ∧ (if x1 ≠ 44 then (if x1 ≤ 128 then (∃ (v14 : Int) (h14 : mHp) (m14 : Mem), Rh (d + 5) yMo_told [vlg z9] h (mup (mup σ 58 51 ((σ 58 51) - 1)) 58 51 (((mup σ 58 51 ((σ 58 51) - 1)) 58 51) - 1)) (.inl (some (vi v14))) h14 m14 ∧ rg v14 ∧ (∃ (v15 : Int) (h15 : mHp) (m15 : Mem), Rh (d + 5) yMo_told [vlg z3] h14 m14 (.inl (some (vi v15))) h15 m15 ∧ rg v15 ∧ (∃ h16 m16, Rh (d + 5) yMo_workNumbers [.ref 58, vi x1, vi v14, vi v15] h15 m15 (.inl none) h16 m16 ∧ (r = .inl none ∧ h' = h16 ∧ σ' = m16)))) else (∃ (v17 : UInt64) (h17 : mHp) (m17 : Mem), Rh (d + 5) yMo_realOf [.ref 58, vlg z9] h (mup (mup σ 58 51 ((σ 58 51) - 1)) 58 51 (((mup σ 58 51 ((σ 58 51) - 1)) 58 51) - 1)) (.inl (some (.double v17))) h17 m17 ∧ (∃ (v18 : UInt64) (h18 : mHp) (m18 : Mem), Rh (d + 5) yMo_realOf [.ref 58, vlg z3] h17 m17 (.inl (some (.double v18))) h18 m18 ∧ (∃ h19 m19, Rh (d + 5) yMo_workReals [.ref 58, vi (x1 - 128), .double v17, .double v18] h18 m18 (.inl none) h19 m19 ∧ (r = .inl none ∧ h' = h19 ∧ σ' = m19))))) else ((rg ((mup (mup σ 58 51 ((σ 58 51) - 1)) 58 51 (((mup σ 58 51 ((σ 58 51) - 1)) 58 51) - 1)) 58 61)) ∧ (((0 : Int) ≤ (mup (mup σ 58 51 ((σ 58 51) - 1)) 58 51 (((mup σ 58 51 ((σ 58 51) - 1)) 58 51) - 1)) 58 61 ∧ (mup (mup σ 58 51 ((σ 58 51) - 1)) 58 51 (((mup σ 58 51 ((σ 58 51) - 1)) 58 51) - 1)) 58 61 < (502 : Int)) ∧ (((0 : Int) ≤ (mup (mup σ 58 51 ((σ 58 51) - 1)) 58 51 (((mup σ 58 51 ((σ 58 51) - 1)) 58 51) - 1)) 58 61 ∧ (mup (mup σ 58 51 ((σ 58 51) - 1)) 58 51 (((mup σ 58 51 ((σ 58 51) - 1)) 58 51) - 1)) 58 61 < (502 : Int)) ∧ ((rg (((mup (mup σ 58 51 ((σ 58 51) - 1)) 58 51 (((mup σ 58 51 ((σ 58 51) - 1)) 58 51) - 1)) 58 61) + 1)) ∧ ((rg ((mup (mup (mup σ 58 51 ((σ 58 51) - 1)) 58 51 (((mup σ 58 51 ((σ 58 51) - 1)) 58 51) - 1)) 58 61 (((mup (mup σ 58 51 ((σ 58 51) - 1)) 58 51 (((mup σ 58 51 ((σ 58 51) - 1)) 58 51) - 1)) 58 61) + 1)) 58 61)) ∧ (∃ h25 m25, Rh (d + 5) yMo_known [.ref 58, vi 4, vi (((mup (mup (mup σ 58 51 ((σ 58 51) - 1)) 58 51 (((mup σ 58 51 ((σ 58 51) - 1)) 58 51) - 1)) 58 61 (((mup (mup σ 58 51 ((σ 58 51) - 1)) 58 51 (((mup σ 58 51 ((σ 58 51) - 1)) 58 51) - 1)) 58 61) + 1)) 58 61) - 1)] (hSet (hSet h 94 ((mup (mup σ 58 51 ((σ 58 51) - 1)) 58 51 (((mup σ 58 51 ((σ 58 51) - 1)) 58 51) - 1)) 58 61 : Int).toNat (vlg z9)) 95 ((mup (mup σ 58 51 ((σ 58 51) - 1)) 58 51 (((mup σ 58 51 ((σ 58 51) - 1)) 58 51) - 1)) 58 61 : Int).toNat (vlg z3)) (mup (mup (mup σ 58 51 ((σ 58 51) - 1)) 58 51 (((mup σ 58 51 ((σ 58 51) - 1)) 58 51) - 1)) 58 61 (((mup (mup σ 58 51 ((σ 58 51) - 1)) 58 51 (((mup σ 58 51 ((σ 58 51) - 1)) 58 51) - 1)) 58 61) + 1)) (.inl none) h25 m25 ∧ (r = .inl none ∧ h' = h25 ∧ σ' = m25)))))))))))) else (∃ (v26 : UInt64) (h26 : mHp) (m26 : Mem), Rh (d + 5) yMo_realOf [.ref 58, vlg z3] h (mup σ 58 51 ((σ 58 51) - 1)) (.inl (some (.double v26))) h26 m26 ∧ (∃ h27 m27, Rh (d + 5) yMo_knownReal [.ref 58, .double (FP.dneg v26)] h26 m26 (.inl none) h27 m27 ∧ (r = .inl none ∧ h' = h27 ∧ σ' = m27)))))))
theorem M_Mo_work {d : Nat} {x1 : Int} {h h' : mHp} {σ σ' : Mem} {r : mRes} (hx1 : rg x1) (H : B_Mo_work d x1 h σ r h' σ') : Rh (d + 6) yMo_work [.ref 58, vi x1] h σ r h' σ' := by
  refine q_m (Nat.le_of_ble_eq_true rfl) ?_
  unfold B_Mo_work at H
  refine q_l rfl rfl rfl ?_
  refine q_gr (t := 89) rfl rfl rfl (by decide) rfl ?_
  refine q_l rfl rfl rfl ?_
  obtain ⟨g1, H⟩ := H
  refine q_gi rfl rfl rfl (by decide) rfl rfl ?_
  refine q_p rfl rfl rfl ?_
  refine q_sub rfl ?_
  obtain ⟨g2, H⟩ := H
  obtain ⟨z3, e4, H⟩ := H
  refine q_av rfl rfl (fun _ => rfl) rfl rfl g2 (by decide) e4 ?_
  refine q_l rfl rfl rfl ?_
  refine q_l rfl rfl rfl ?_
  refine q_p rfl rfl rfl ?_
  refine q_gi rfl rfl rfl (by decide) rfl rfl ?_
  refine q_p rfl rfl rfl ?_
  refine q_sub rfl ?_
  obtain ⟨g5, H⟩ := H
  refine q_pi rfl rfl rfl (by decide) rfl rfl rfl rfl g5 ?_
  refine q_l rfl rfl rfl ?_
  refine q_k (x := 126) rfl rfl rfl rfl ?_
  by_cases c6 : x1 ≠ 126
  · rw [if_pos c6] at H
    refine q_c rfl (by decide) hx1 (rgk rfl) (q := true) (decide_eq_true c6) rfl ?_
    refine q_l rfl rfl rfl ?_
    refine q_gr (t := 89) rfl rfl rfl (by decide) rfl ?_
    refine q_l rfl rfl rfl ?_
    obtain ⟨g7, H⟩ := H
    refine q_gi rfl rfl rfl (by decide) rfl rfl ?_
    refine q_p rfl rfl rfl ?_
    refine q_sub rfl ?_
    obtain ⟨g8, H⟩ := H
    obtain ⟨z9, e10, H⟩ := H
    refine q_av rfl rfl (fun _ => rfl) rfl rfl g8 (by decide) e10 ?_
    refine q_l rfl rfl rfl ?_
    refine q_l rfl rfl rfl ?_
    refine q_p rfl rfl rfl ?_
    refine q_gi rfl rfl rfl (by decide) rfl rfl ?_
    refine q_p rfl rfl rfl ?_
    refine q_sub rfl ?_
    obtain ⟨g11, H⟩ := H
    refine q_pi rfl rfl rfl (by decide) rfl rfl rfl rfl g11 ?_
    refine q_l rfl rfl rfl ?_
    refine q_k (x := 44) rfl rfl rfl rfl ?_
    by_cases c12 : x1 ≠ 44
    · rw [if_pos c12] at H
      refine q_c rfl (by decide) hx1 (rgk rfl) (q := true) (decide_eq_true c12) rfl ?_
      refine q_l rfl rfl rfl ?_
      refine q_k (x := 128) rfl rfl rfl rfl ?_
      by_cases c13 : x1 ≤ 128
      · rw [if_pos c13] at H
        refine q_c rfl (by decide) hx1 (rgk rfl) (q := true) (decide_eq_true c13) rfl ?_
        refine q_l rfl rfl rfl ?_
        refine q_l rfl rfl rfl ?_
        refine q_l rfl rfl rfl ?_
        obtain ⟨v14, h14, m14, R14, w14, H⟩ := H
        refine q_is rfl (by decide) (Nat.le_of_ble_eq_true rfl) rfl rfl rfl R14 ?_
        refine q_l rfl rfl rfl ?_
        obtain ⟨v15, h15, m15, R15, w15, H⟩ := H
        refine q_is rfl (by decide) (Nat.le_of_ble_eq_true rfl) rfl rfl rfl R15 ?_
        obtain ⟨h16, m16, R16, H⟩ := H
        refine q_iv rfl rfl rfl (fun S => S.t 58 rfl) (by decide) rfl R16 ?_
        obtain ⟨rfl, rfl, rfl⟩ := H
        exact q_r rfl rfl rfl
      · rw [if_neg c13] at H
        refine q_c rfl (by decide) hx1 (rgk rfl) (q := false) (decide_eq_false c13) rfl ?_
        refine q_l rfl rfl rfl ?_
        refine q_l rfl rfl rfl ?_
        refine q_k (x := 128) rfl rfl rfl rfl ?_
        refine q_sub rfl ?_
        refine q_l rfl rfl rfl ?_
        refine q_l rfl rfl rfl ?_
        obtain ⟨v17, h17, m17, R17, H⟩ := H
        refine q_iv rfl rfl rfl (fun S => S.t 58 rfl) (by decide) rfl R17 ?_
        refine q_l rfl rfl rfl ?_
        refine q_l rfl rfl rfl ?_
        obtain ⟨v18, h18, m18, R18, H⟩ := H
        refine q_iv rfl rfl rfl (fun S => S.t 58 rfl) (by decide) rfl R18 ?_
        obtain ⟨h19, m19, R19, H⟩ := H
        refine q_iv rfl rfl rfl (fun S => S.t 58 rfl) (by decide) rfl R19 ?_
        refine q_b rfl rfl rfl rfl ?_
        obtain ⟨rfl, rfl, rfl⟩ := H
        exact q_r rfl rfl rfl
    · rw [if_neg c12] at H
      refine q_c rfl (by decide) hx1 (rgk rfl) (q := false) (decide_eq_false c12) rfl ?_
      refine q_l rfl rfl rfl ?_
      refine q_gr (t := 94) rfl rfl rfl (by decide) rfl ?_
      refine q_l rfl rfl rfl ?_
      obtain ⟨g20, H⟩ := H
      refine q_gi rfl rfl rfl (by decide) rfl rfl ?_
      refine q_l rfl rfl rfl ?_
      obtain ⟨g21, H⟩ := H
      refine q_sv (ok := isL) rfl rfl (fun _ => rfl) rfl rfl g21 (by decide) rfl ?_
      refine q_l rfl rfl rfl ?_
      refine q_gr (t := 95) rfl rfl rfl (by decide) rfl ?_
      refine q_l rfl rfl rfl ?_
      refine q_gi rfl rfl rfl (by decide) rfl rfl ?_
      refine q_l rfl rfl rfl ?_
      obtain ⟨g22, H⟩ := H
      refine q_sv (ok := isL) rfl rfl (fun _ => rfl) rfl rfl g22 (by decide) rfl ?_
      refine q_l rfl rfl rfl ?_
      refine q_p rfl rfl rfl ?_
      refine q_gi rfl rfl rfl (by decide) rfl rfl ?_
      refine q_p rfl rfl rfl ?_
      refine q_add rfl ?_
      obtain ⟨g23, H⟩ := H
      refine q_pi rfl rfl rfl (by decide) rfl rfl rfl rfl g23 ?_
      refine q_l rfl rfl rfl ?_
      refine q_p rfl rfl rfl ?_
      refine q_l rfl rfl rfl ?_
      obtain ⟨g24, H⟩ := H
      refine q_gi rfl rfl rfl (by decide) rfl rfl ?_
      refine q_p rfl rfl rfl ?_
      refine q_sub rfl ?_
      obtain ⟨h25, m25, R25, H⟩ := H
      refine q_iv rfl rfl rfl (fun S => S.t 58 rfl) (by decide) rfl R25 ?_
      refine q_b rfl rfl rfl rfl ?_
      obtain ⟨rfl, rfl, rfl⟩ := H
      exact q_r rfl rfl rfl
  · rw [if_neg c6] at H
    refine q_c rfl (by decide) hx1 (rgk rfl) (q := false) (decide_eq_false c6) rfl ?_
    refine q_l rfl rfl rfl ?_
    refine q_l rfl rfl rfl ?_
    refine q_l rfl rfl rfl ?_
    obtain ⟨v26, h26, m26, R26, H⟩ := H
    refine q_iv rfl rfl rfl (fun S => S.t 58 rfl) (by decide) rfl R26 ?_
    refine q_p rfl rfl rfl ?_
    obtain ⟨h27, m27, R27, H⟩ := H
    refine q_iv rfl rfl rfl (fun S => S.t 58 rfl) (by decide) rfl R27 ?_
    obtain ⟨rfl, rfl, rfl⟩ := H
    exact q_r rfl rfl rfl
def B_Mo_bindTop (d : Nat) (x1 : Int) (h : mHp) (σ : Mem) (r : mRes) (h' : mHp) (σ' : Mem) : Prop := (rg (σ 58 51)) ∧ ((rg ((σ 58 51) - 1)) ∧ ((rg ((mup σ 58 51 ((σ 58 51) - 1)) 58 51)) ∧ (((0 : Int) ≤ (mup σ 58 51 ((σ 58 51) - 1)) 58 51 ∧ (mup σ 58 51 ((σ 58 51) - 1)) 58 51 < (200 : Int)) ∧ (∃ z5, hAt h 89 ((mup σ 58 51 ((σ 58 51) - 1)) 58 51 : Int).toNat = vlg z5 ∧ ((rg ((mup σ 58 51 ((σ 58 51) - 1)) 58 58)) ∧ (∃ h8 m8, Rh (d + 4) yMo_worthIs [.ref 58, vlg z5, vi ((mup σ 58 51 ((σ 58 51) - 1)) 58 58)] h (mup σ 58 51 ((σ 58 51) - 1)) (.inl none) h8 m8 ∧ (if x1 = 0 then (r = .inl none ∧ h' = h8 ∧ σ' = m8) else ((rg (m8 58 57)) ∧ (∃ (v11 : Int) (h11 : mHp) (m11 : Mem), Rh (d + 4) yMo_told [vlg z5] h8 m8 (.inl (some (vi v11))) h11 m11 ∧ rg v11 ∧ ((rg (m11 58 57)) ∧ ((rg (((zDiv v11 8192) * 8192) + (m11 58 57))) ∧ (((0 : Int) ≤ m8 58 57 ∧ m8 58 57 < (4300 : Int)) ∧ (r = .inl none ∧ h' = hSet h11 92 (m8 58 57 : Int).toNat (vlg ((8 * (((zDiv v11 8192) * 8192) + (m11 58 57))) + 6)) ∧ σ' = m11)))))))))))))
theorem M_Mo_bindTop {d : Nat} {x1 : Int} {h h' : mHp} {σ σ' : Mem} {r : mRes} (hx1 : rg x1) (H : B_Mo_bindTop d x1 h σ r h' σ') : Rh (d + 5) yMo_bindTop [.ref 58, vi x1] h σ r h' σ' := by
  refine q_m (Nat.le_of_ble_eq_true rfl) ?_
  unfold B_Mo_bindTop at H
  refine q_l rfl rfl rfl ?_
  refine q_p rfl rfl rfl ?_
  obtain ⟨g1, H⟩ := H
  refine q_gi rfl rfl rfl (by decide) rfl rfl ?_
  refine q_p rfl rfl rfl ?_
  refine q_sub rfl ?_
  obtain ⟨g2, H⟩ := H
  refine q_pi rfl rfl rfl (by decide) rfl rfl rfl rfl g2 ?_
  refine q_l rfl rfl rfl ?_
  refine q_gr (t := 89) rfl rfl rfl (by decide) rfl ?_
  refine q_l rfl rfl rfl ?_
  obtain ⟨g3, H⟩ := H
  refine q_gi rfl rfl rfl (by decide) rfl rfl ?_
  obtain ⟨g4, H⟩ := H
  obtain ⟨z5, e6, H⟩ := H
  refine q_av rfl rfl (fun _ => rfl) rfl rfl g4 (by decide) e6 ?_
  refine q_l rfl rfl rfl ?_
  refine q_l rfl rfl rfl ?_
  refine q_l rfl rfl rfl ?_
  refine q_l rfl rfl rfl ?_
  obtain ⟨g7, H⟩ := H
  refine q_gi rfl rfl rfl (by decide) rfl rfl ?_
  obtain ⟨h8, m8, R8, H⟩ := H
  refine q_iv rfl rfl rfl (fun S => S.t 58 rfl) (by decide) rfl R8 ?_
  refine q_l rfl rfl rfl ?_
  by_cases c9 : x1 = 0
  · rw [if_pos c9] at H
    refine q_z rfl (by decide) hx1 (q := true) (decide_eq_true c9) rfl ?_
    obtain ⟨rfl, rfl, rfl⟩ := H
    exact q_r rfl rfl rfl
  · rw [if_neg c9] at H
    refine q_z rfl (by decide) hx1 (q := false) (decide_eq_false c9) rfl ?_
    refine q_l rfl rfl rfl ?_
    refine q_gr (t := 92) rfl rfl rfl (by decide) rfl ?_
    refine q_l rfl rfl rfl ?_
    obtain ⟨g10, H⟩ := H
    refine q_gi rfl rfl rfl (by decide) rfl rfl ?_
    refine q_p (st' := vlg 8 :: _) rfl rfl rfl ?_
    refine q_l rfl rfl rfl ?_
    obtain ⟨v11, h11, m11, R11, w11, H⟩ := H
    refine q_is rfl (by decide) (Nat.le_of_ble_eq_true rfl) rfl rfl rfl R11 ?_
    refine q_k (x := 8192) rfl rfl rfl rfl ?_
    refine q_div rfl (rgk rfl) (by decide) ?_
    refine q_k (x := 8192) rfl rfl rfl rfl ?_
    refine q_mul rfl ?_
    refine q_l rfl rfl rfl ?_
    obtain ⟨g12, H⟩ := H
    refine q_gi rfl rfl rfl (by decide) rfl rfl ?_
    refine q_add rfl ?_
    obtain ⟨g13, H⟩ := H
    refine q_i2l rfl g13 ?_
    refine q_lmul rfl ?_
    refine q_p (st' := vlg 6 :: _) rfl rfl rfl ?_
    refine q_ladd rfl ?_
    obtain ⟨g14, H⟩ := H
    refine q_sv (ok := isL) rfl rfl (fun _ => rfl) rfl rfl g14 (by decide) rfl ?_
    obtain ⟨rfl, rfl, rfl⟩ := H
    exact q_r rfl rfl rfl
def B_Mo_fits (d : Nat) (x1 : Int) (x2 : Int) (h : mHp) (σ : Mem) (r : mRes) (h' : mHp) (σ' : Mem) : Prop := (rg (σ 58 57)) ∧ ((rg (σ 58 58)) ∧ ((rg (σ 58 51)) ∧ (((0 : Int) ≤ (σ 58 51) - 1 ∧ (σ 58 51) - 1 < (200 : Int)) ∧ (∃ z5, hAt h 89 ((σ 58 51) - 1 : Int).toNat = vlg z5 ∧ (((0 : Int) ≤ 0 ∧ 0 < (80 : Int)) ∧ (Lh (d + 4) yMo_fits 34 [(0, .ref 58), (2, vi x2), (3, vi (σ 58 57)), (4, vi (σ 58 58)), (5, vi 1), (6, vi x1)] [] (hSet h 97 (0 : Int).toNat (vlg z5)) σ r h' σ'))))))
theorem M_Mo_fits {d : Nat} {x1 : Int} {x2 : Int} {h h' : mHp} {σ σ' : Mem} {r : mRes} (hx1 : rg x1) (hx2 : rg x2) (H : B_Mo_fits d x1 x2 h σ r h' σ') : Rh (d + 5) yMo_fits [.ref 58, vi x1, vi x2] h σ r h' σ' := by
  refine q_m (Nat.le_of_ble_eq_true rfl) ?_
  unfold B_Mo_fits at H
  refine q_l rfl rfl rfl ?_
  obtain ⟨g1, H⟩ := H
  refine q_gi rfl rfl rfl (by decide) rfl rfl ?_
  refine q_l rfl rfl rfl ?_
  refine q_l rfl rfl rfl ?_
  obtain ⟨g2, H⟩ := H
  refine q_gi rfl rfl rfl (by decide) rfl rfl ?_
  refine q_l rfl rfl rfl ?_
  refine q_p rfl rfl rfl ?_
  refine q_l rfl rfl rfl ?_
  refine q_l rfl rfl rfl ?_
  refine q_gr (t := 97) rfl rfl rfl (by decide) rfl ?_
  refine q_p rfl rfl rfl ?_
  refine q_l rfl rfl rfl ?_
  refine q_gr (t := 89) rfl rfl rfl (by decide) rfl ?_
  refine q_l rfl rfl rfl ?_
  obtain ⟨g3, H⟩ := H
  refine q_gi rfl rfl rfl (by decide) rfl rfl ?_
  refine q_p rfl rfl rfl ?_
  refine q_sub rfl ?_
  obtain ⟨g4, H⟩ := H
  obtain ⟨z5, e6, H⟩ := H
  refine q_av rfl rfl (fun _ => rfl) rfl rfl g4 (by decide) e6 ?_
  obtain ⟨g7, H⟩ := H
  refine q_sv (ok := isL) rfl rfl (fun _ => rfl) rfl rfl g7 (by decide) rfl ?_
  refine q_l rfl rfl rfl ?_
  refine q_l rfl rfl rfl ?_
  exact q_lab H (lvS_cons rfl rfl (lvS_cons rfl rfl (lvS_cons rfl rfl (lvS_cons rfl rfl (lvS_cons rfl rfl (lvS_cons rfl rfl lvS_nil))))))
def B_Mo_fits_244 (d : Nat) (x2 : Int) (x3 : Int) (x4 : Int) (x5 : Int) (x6 : Int) (h : mHp) (σ : Mem) (r : mRes) (h' : mHp) (σ' : Mem) : Prop := (rg (x6 + 1)) ∧ (Lh (d + 4) yMo_fits 34 [(0, .ref 58), (2, vi x2), (3, vi x3), (4, vi x4), (5, vi x5), (6, vi (x6 + 1))] [] h σ r h' σ')
theorem K_Mo_fits_244 {d : Nat} {x2 : Int} {x3 : Int} {x4 : Int} {x5 : Int} {x6 : Int} {h h' : mHp} {σ σ' : Mem} {r : mRes} (hx2 : rg x2) (hx3 : rg x3) (hx4 : rg x4) (hx5 : rg x5) (hx6 : rg x6) (H : B_Mo_fits_244 d x2 x3 x4 x5 x6 h σ r h' σ') : Lh (d + 4) yMo_fits 244 [(0, .ref 58), (2, vi x2), (3, vi x3), (4, vi x4), (5, vi x5), (6, vi x6)] [] h σ r h' σ' := by
  unfold B_Mo_fits_244 at H
  refine q_inc (z := x6) rfl rfl (by decide) ?_
  refine q_b rfl rfl rfl rfl ?_
  obtain ⟨g1, H⟩ := H
  exact q_lab H (lvS_cons rfl rfl (lvS_cons rfl rfl (lvS_cons rfl rfl (lvS_cons rfl rfl (lvS_cons rfl rfl (lvS_cons rfl rfl lvS_nil))))))
def B_Mo_fits_141 (d : Nat) (x2 : Int) (x3 : Int) (x4 : Int) (x5 : Int) (x6 : Int) (x7 : Int) (t0 : Int) (h : mHp) (σ : Mem) (r : mRes) (h' : mHp) (σ' : Mem) : Prop := if t0 ≠ 0 then (((0 : Int) ≤ x6 ∧ x6 < (80 : Int)) ∧ ((rg (σ 68 x6)) ∧ (if σ 68 x6 ≠ 0 then (((0 : Int) ≤ x6 ∧ x6 < (80 : Int)) ∧ (if σ 68 x6 ≠ 1 then (B_Mo_fits_244 d x2 x3 x4 x5 x6 h σ r h' σ') else (((0 : Int) ≤ x6 ∧ x6 < (80 : Int)) ∧ ((rg (σ 69 x6)) ∧ (if σ 69 x6 ≤ 0 then (B_Mo_fits_244 d x2 x3 x4 x5 x6 h σ r h' σ') else ((rg (σ 58 58)) ∧ (∃ h11 m11, Rh (d + 4) yMo_worthIs [.ref 58, vlg x7, vi (σ 58 58)] h σ (.inl none) h11 m11 ∧ (B_Mo_fits_244 d x2 x3 x4 x5 x6 h11 m11 r h' σ')))))))) else (∃ (v12 : Int) (h12 : mHp) (m12 : Mem), Rh (d + 4) yMo_told [vlg x7] h σ (.inl (some (vi v12))) h12 m12 ∧ rg v12 ∧ (((0 : Int) ≤ v12 ∧ v12 < (502 : Int)) ∧ (∃ z14, hAt h12 95 (v12 : Int).toNat = vlg z14 ∧ (((0 : Int) ≤ x5 ∧ x5 < (80 : Int)) ∧ (∃ (v17 : Int) (h17 : mHp) (m17 : Mem), Rh (d + 4) yMo_told [vlg x7] (hSet h12 97 (x5 : Int).toNat (vlg z14)) m12 (.inl (some (vi v17))) h17 m17 ∧ rg v17 ∧ (((0 : Int) ≤ v17 ∧ v17 < (502 : Int)) ∧ (∃ z19, hAt h17 94 (v17 : Int).toNat = vlg z19 ∧ (((0 : Int) ≤ x5 + 1 ∧ x5 + 1 < (80 : Int)) ∧ ((rg (x5 + 2)) ∧ (B_Mo_fits_244 d x2 x3 x4 (x5 + 2) x6 (hSet h17 97 (x5 + 1 : Int).toNat (vlg z19)) m17 r h' σ'))))))))))))) else (r = .inl (some (vi 0)) ∧ h' = h ∧ σ' = mup (mup σ 58 57 x3) 58 58 x4)
theorem K_Mo_fits_141 {d : Nat} {x2 : Int} {x3 : Int} {x4 : Int} {x5 : Int} {x6 : Int} {x7 : Int} {t0 : Int} {h h' : mHp} {σ σ' : Mem} {r : mRes} (hx2 : rg x2) (hx3 : rg x3) (hx4 : rg x4) (hx5 : rg x5) (hx6 : rg x6) (ht0 : rg t0) (H : B_Mo_fits_141 d x2 x3 x4 x5 x6 x7 t0 h σ r h' σ') : Lh (d + 4) yMo_fits 141 [(0, .ref 58), (2, vi x2), (3, vi x3), (4, vi x4), (5, vi x5), (6, vi x6), (7, vlg x7)] [vi t0] h σ r h' σ' := by
  unfold B_Mo_fits_141 at H
  refine q_l rfl rfl rfl ?_
  refine q_l rfl rfl rfl ?_
  by_cases c1 : t0 ≠ 0
  · rw [if_pos c1] at H
    refine q_z rfl (by decide) ht0 (q := true) (decide_eq_true c1) rfl ?_
    refine q_l rfl rfl rfl ?_
    refine q_gr (t := 68) rfl rfl rfl (by decide) rfl ?_
    refine q_l rfl rfl rfl ?_
    obtain ⟨g2, H⟩ := H
    refine q_al rfl rfl (fun _ => rfl) rfl rfl g2 (by decide) rfl ?_
    obtain ⟨g3, H⟩ := H
    by_cases c4 : σ 68 x6 ≠ 0
    · rw [if_pos c4] at H
      refine q_z rfl (by decide) g3 (q := true) (decide_eq_true c4) rfl ?_
      refine q_l rfl rfl rfl ?_
      refine q_gr (t := 68) rfl rfl rfl (by decide) rfl ?_
      refine q_l rfl rfl rfl ?_
      obtain ⟨g5, H⟩ := H
      refine q_al rfl rfl (fun _ => rfl) rfl rfl g5 (by decide) rfl ?_
      refine q_p rfl rfl rfl ?_
      by_cases c6 : σ 68 x6 ≠ 1
      · rw [if_pos c6] at H
        refine q_c rfl (by decide) g3 (rgk rfl) (q := true) (decide_eq_true c6) rfl ?_
        exact q_lab (K_Mo_fits_244 hx2 hx3 hx4 hx5 hx6 H) (lvS_cons rfl rfl (lvS_cons rfl rfl (lvS_cons rfl rfl (lvS_cons rfl rfl (lvS_cons rfl rfl (lvS_cons rfl rfl lvS_nil))))))
      · rw [if_neg c6] at H
        refine q_c rfl (by decide) g3 (rgk rfl) (q := false) (decide_eq_false c6) rfl ?_
        refine q_l rfl rfl rfl ?_
        refine q_gr (t := 69) rfl rfl rfl (by decide) rfl ?_
        refine q_l rfl rfl rfl ?_
        obtain ⟨g7, H⟩ := H
        refine q_al rfl rfl (fun _ => rfl) rfl rfl g7 (by decide) rfl ?_
        obtain ⟨g8, H⟩ := H
        by_cases c9 : σ 69 x6 ≤ 0
        · rw [if_pos c9] at H
          refine q_z rfl (by decide) g8 (q := true) (decide_eq_true c9) rfl ?_
          exact q_lab (K_Mo_fits_244 hx2 hx3 hx4 hx5 hx6 H) (lvS_cons rfl rfl (lvS_cons rfl rfl (lvS_cons rfl rfl (lvS_cons rfl rfl (lvS_cons rfl rfl (lvS_cons rfl rfl lvS_nil))))))
        · rw [if_neg c9] at H
          refine q_z rfl (by decide) g8 (q := false) (decide_eq_false c9) rfl ?_
          refine q_l rfl rfl rfl ?_
          refine q_l rfl rfl rfl ?_
          refine q_l rfl rfl rfl ?_
          obtain ⟨g10, H⟩ := H
          refine q_gi rfl rfl rfl (by decide) rfl rfl ?_
          obtain ⟨h11, m11, R11, H⟩ := H
          refine q_iv rfl rfl rfl (fun S => S.t 58 rfl) (by decide) rfl R11 ?_
          exact q_lab (K_Mo_fits_244 hx2 hx3 hx4 hx5 hx6 H) (lvS_cons rfl rfl (lvS_cons rfl rfl (lvS_cons rfl rfl (lvS_cons rfl rfl (lvS_cons rfl rfl (lvS_cons rfl rfl lvS_nil))))))
    · rw [if_neg c4] at H
      refine q_z rfl (by decide) g3 (q := false) (decide_eq_false c4) rfl ?_
      refine q_l rfl rfl rfl ?_
      refine q_gr (t := 97) rfl rfl rfl (by decide) rfl ?_
      refine q_l rfl rfl rfl ?_
      refine q_l rfl rfl rfl ?_
      refine q_gr (t := 95) rfl rfl rfl (by decide) rfl ?_
      refine q_l rfl rfl rfl ?_
      obtain ⟨v12, h12, m12, R12, w12, H⟩ := H
      refine q_is rfl (by decide) (Nat.le_of_ble_eq_true rfl) rfl rfl rfl R12 ?_
      obtain ⟨g13, H⟩ := H
      obtain ⟨z14, e15, H⟩ := H
      refine q_av rfl rfl (fun _ => rfl) rfl rfl g13 (by decide) e15 ?_
      obtain ⟨g16, H⟩ := H
      refine q_sv (ok := isL) rfl rfl (fun _ => rfl) rfl rfl g16 (by decide) rfl ?_
      refine q_l rfl rfl rfl ?_
      refine q_gr (t := 97) rfl rfl rfl (by decide) rfl ?_
      refine q_l rfl rfl rfl ?_
      refine q_p rfl rfl rfl ?_
      refine q_add rfl ?_
      refine q_l rfl rfl rfl ?_
      refine q_gr (t := 94) rfl rfl rfl (by decide) rfl ?_
      refine q_l rfl rfl rfl ?_
      obtain ⟨v17, h17, m17, R17, w17, H⟩ := H
      refine q_is rfl (by decide) (Nat.le_of_ble_eq_true rfl) rfl rfl rfl R17 ?_
      obtain ⟨g18, H⟩ := H
      obtain ⟨z19, e20, H⟩ := H
      refine q_av rfl rfl (fun _ => rfl) rfl rfl g18 (by decide) e20 ?_
      obtain ⟨g21, H⟩ := H
      refine q_sv (ok := isL) rfl rfl (fun _ => rfl) rfl rfl g21 (by decide) rfl ?_
      refine q_inc (z := x5) rfl rfl (by decide) ?_
      refine q_b rfl rfl rfl rfl ?_
      obtain ⟨g22, H⟩ := H
      exact q_lab (K_Mo_fits_244 hx2 hx3 hx4 g22 hx6 H) (lvS_cons rfl rfl (lvS_cons rfl rfl (lvS_cons rfl rfl (lvS_cons rfl rfl (lvS_cons rfl rfl (lvS_cons rfl rfl lvS_nil))))))
  · rw [if_neg c1] at H
    refine q_z rfl (by decide) ht0 (q := false) (decide_eq_false c1) rfl ?_
    refine q_l rfl rfl rfl ?_
    refine q_l rfl rfl rfl ?_
    refine q_pi rfl rfl rfl (by decide) rfl rfl rfl rfl hx3 ?_
    refine q_l rfl rfl rfl ?_
    refine q_l rfl rfl rfl ?_
    refine q_pi rfl rfl rfl (by decide) rfl rfl rfl rfl hx4 ?_
    refine q_p rfl rfl rfl ?_
    obtain ⟨rfl, rfl, rfl⟩ := H
    exact q_r rfl rfl rfl
def B_Mo_fits_136 (d : Nat) (x2 : Int) (x3 : Int) (x4 : Int) (x5 : Int) (x6 : Int) (x7 : Int) (h : mHp) (σ : Mem) (r : mRes) (h' : mHp) (σ' : Mem) : Prop := B_Mo_fits_141 d x2 x3 x4 x5 x6 x7 1 h σ r h' σ'
theorem K_Mo_fits_136 {d : Nat} {x2 : Int} {x3 : Int} {x4 : Int} {x5 : Int} {x6 : Int} {x7 : Int} {h h' : mHp} {σ σ' : Mem} {r : mRes} (hx2 : rg x2) (hx3 : rg x3) (hx4 : rg x4) (hx5 : rg x5) (hx6 : rg x6) (H : B_Mo_fits_136 d x2 x3 x4 x5 x6 x7 h σ r h' σ') : Lh (d + 4) yMo_fits 136 [(0, .ref 58), (2, vi x2), (3, vi x3), (4, vi x4), (5, vi x5), (6, vi x6), (7, vlg x7)] [] h σ r h' σ' := by
  unfold B_Mo_fits_136 at H
  refine q_p rfl rfl rfl ?_
  refine q_b rfl rfl rfl rfl ?_
  exact q_lab (K_Mo_fits_141 hx2 hx3 hx4 hx5 hx6 (rgk rfl) H) (lvS_cons rfl rfl (lvS_cons rfl rfl (lvS_cons rfl rfl (lvS_cons rfl rfl (lvS_cons rfl rfl (lvS_cons rfl rfl (lvS_cons rfl rfl lvS_nil)))))))
def B_Mo_fits_140 (d : Nat) (x2 : Int) (x3 : Int) (x4 : Int) (x5 : Int) (x6 : Int) (x7 : Int) (h : mHp) (σ : Mem) (r : mRes) (h' : mHp) (σ' : Mem) : Prop := B_Mo_fits_141 d x2 x3 x4 x5 x6 x7 0 h σ r h' σ'
theorem K_Mo_fits_140 {d : Nat} {x2 : Int} {x3 : Int} {x4 : Int} {x5 : Int} {x6 : Int} {x7 : Int} {h h' : mHp} {σ σ' : Mem} {r : mRes} (hx2 : rg x2) (hx3 : rg x3) (hx4 : rg x4) (hx5 : rg x5) (hx6 : rg x6) (H : B_Mo_fits_140 d x2 x3 x4 x5 x6 x7 h σ r h' σ') : Lh (d + 4) yMo_fits 140 [(0, .ref 58), (2, vi x2), (3, vi x3), (4, vi x4), (5, vi x5), (6, vi x6), (7, vlg x7)] [] h σ r h' σ' := by
  unfold B_Mo_fits_140 at H
  refine q_p rfl rfl rfl ?_
  exact q_lab (K_Mo_fits_141 hx2 hx3 hx4 hx5 hx6 (rgk rfl) H) (lvS_cons rfl rfl (lvS_cons rfl rfl (lvS_cons rfl rfl (lvS_cons rfl rfl (lvS_cons rfl rfl (lvS_cons rfl rfl (lvS_cons rfl rfl lvS_nil)))))))
def B_Mo_fits_34 (d : Nat) (x2 : Int) (x3 : Int) (x4 : Int) (x5 : Int) (x6 : Int) (h : mHp) (σ : Mem) (r : mRes) (h' : mHp) (σ' : Mem) : Prop := if x6 ≥ x2 then (r = .inl (some (vi 1)) ∧ h' = h ∧ σ' = σ) else (((0 : Int) ≤ x5 + (-1) ∧ x5 + (-1) < (80 : Int)) ∧ (∃ z3, hAt h 97 (x5 + (-1) : Int).toNat = vlg z3 ∧ (((0 : Int) ≤ x6 ∧ x6 < (80 : Int)) ∧ ((rg (σ 68 x6)) ∧ (if σ 68 x6 ≠ 0 then (((0 : Int) ≤ x6 ∧ x6 < (80 : Int)) ∧ (if σ 68 x6 = 1 then ((rg (x5 + (-1))) ∧ (B_Mo_fits_136 d x2 x3 x4 (x5 + (-1)) x6 z3 h σ r h' σ')) else (((0 : Int) ≤ x6 ∧ x6 < (80 : Int)) ∧ (if σ 68 x6 ≠ 4 then (∃ (v13 : Int) (h13 : mHp) (m13 : Mem), Rh (d + 4) yMo_kind [vlg z3] h σ (.inl (some (vi v13))) h13 m13 ∧ rg v13 ∧ (if v13 ≠ 0 then ((rg (x5 + (-1))) ∧ (B_Mo_fits_140 d x2 x3 x4 (x5 + (-1)) x6 z3 h13 m13 r h' σ')) else (∃ (v16 : Int) (h16 : mHp) (m16 : Mem), Rh (d + 4) yMo_told [vlg z3] h13 m13 (.inl (some (vi v16))) h16 m16 ∧ rg v16 ∧ (((0 : Int) ≤ x6 ∧ x6 < (80 : Int)) ∧ ((rg (m16 69 x6)) ∧ (if v16 ≠ m16 69 x6 then ((rg (x5 + (-1))) ∧ (B_Mo_fits_140 d x2 x3 x4 (x5 + (-1)) x6 z3 h16 m16 r h' σ')) else ((rg (x5 + (-1))) ∧ (B_Mo_fits_136 d x2 x3 x4 (x5 + (-1)) x6 z3 h16 m16 r h' σ')))))))) else (∃ (v22 : Int) (h22 : mHp) (m22 : Mem), Rh (d + 4) yMo_kind [vlg z3] h σ (.inl (some (vi v22))) h22 m22 ∧ rg v22 ∧ (if v22 ≠ 3 then ((rg (x5 + (-1))) ∧ (B_Mo_fits_140 d x2 x3 x4 (x5 + (-1)) x6 z3 h22 m22 r h' σ')) else ((rg (x5 + (-1))) ∧ (B_Mo_fits_136 d x2 x3 x4 (x5 + (-1)) x6 z3 h22 m22 r h' σ')))))))) else (∃ (v26 : Int) (h26 : mHp) (m26 : Mem), Rh (d + 4) yMo_kind [vlg z3] h σ (.inl (some (vi v26))) h26 m26 ∧ rg v26 ∧ (if v26 ≠ 4 then ((rg (x5 + (-1))) ∧ (B_Mo_fits_141 d x2 x3 x4 (x5 + (-1)) x6 z3 0 h26 m26 r h' σ')) else ((rg (x5 + (-1))) ∧ (B_Mo_fits_141 d x2 x3 x4 (x5 + (-1)) x6 z3 1 h26 m26 r h' σ')))))))))
theorem K_Mo_fits_34 {d : Nat} {x2 : Int} {x3 : Int} {x4 : Int} {x5 : Int} {x6 : Int} {h h' : mHp} {σ σ' : Mem} {r : mRes} (hx2 : rg x2) (hx3 : rg x3) (hx4 : rg x4) (hx5 : rg x5) (hx6 : rg x6) (H : B_Mo_fits_34 d x2 x3 x4 x5 x6 h σ r h' σ') : Lh (d + 4) yMo_fits 34 [(0, .ref 58), (2, vi x2), (3, vi x3), (4, vi x4), (5, vi x5), (6, vi x6)] [] h σ r h' σ' := by
  unfold B_Mo_fits_34 at H
  refine q_l rfl rfl rfl ?_
  refine q_l rfl rfl rfl ?_
  by_cases c1 : x6 ≥ x2
  · rw [if_pos c1] at H
    refine q_c rfl (by decide) hx6 hx2 (q := true) (decide_eq_true c1) rfl ?_
    refine q_p rfl rfl rfl ?_
    obtain ⟨rfl, rfl, rfl⟩ := H
    exact q_r rfl rfl rfl
  · rw [if_neg c1] at H
    refine q_c rfl (by decide) hx6 hx2 (q := false) (decide_eq_false c1) rfl ?_
    refine q_inc (z := x5) rfl rfl (by decide) ?_
    refine q_l rfl rfl rfl ?_
    refine q_gr (t := 97) rfl rfl rfl (by decide) rfl ?_
    refine q_l rfl rfl rfl ?_
    obtain ⟨g2, H⟩ := H
    obtain ⟨z3, e4, H⟩ := H
    refine q_av rfl rfl (fun _ => rfl) rfl rfl g2 (by decide) e4 ?_
    refine q_l rfl rfl rfl ?_
    refine q_l rfl rfl rfl ?_
    refine q_gr (t := 68) rfl rfl rfl (by decide) rfl ?_
    refine q_l rfl rfl rfl ?_
    obtain ⟨g5, H⟩ := H
    refine q_al rfl rfl (fun _ => rfl) rfl rfl g5 (by decide) rfl ?_
    obtain ⟨g6, H⟩ := H
    by_cases c7 : σ 68 x6 ≠ 0
    · rw [if_pos c7] at H
      refine q_z rfl (by decide) g6 (q := true) (decide_eq_true c7) rfl ?_
      refine q_l rfl rfl rfl ?_
      refine q_gr (t := 68) rfl rfl rfl (by decide) rfl ?_
      refine q_l rfl rfl rfl ?_
      obtain ⟨g8, H⟩ := H
      refine q_al rfl rfl (fun _ => rfl) rfl rfl g8 (by decide) rfl ?_
      refine q_p rfl rfl rfl ?_
      by_cases c9 : σ 68 x6 = 1
      · rw [if_pos c9] at H
        refine q_c rfl (by decide) g6 (rgk rfl) (q := true) (decide_eq_true c9) rfl ?_
        obtain ⟨g10, H⟩ := H
        exact q_lab (K_Mo_fits_136 hx2 hx3 hx4 g10 hx6 H) (lvS_cons rfl rfl (lvS_cons rfl rfl (lvS_cons rfl rfl (lvS_cons rfl rfl (lvS_cons rfl rfl (lvS_cons rfl rfl (lvS_cons rfl rfl lvS_nil)))))))
      · rw [if_neg c9] at H
        refine q_c rfl (by decide) g6 (rgk rfl) (q := false) (decide_eq_false c9) rfl ?_
        refine q_l rfl rfl rfl ?_
        refine q_gr (t := 68) rfl rfl rfl (by decide) rfl ?_
        refine q_l rfl rfl rfl ?_
        obtain ⟨g11, H⟩ := H
        refine q_al rfl rfl (fun _ => rfl) rfl rfl g11 (by decide) rfl ?_
        refine q_p rfl rfl rfl ?_
        by_cases c12 : σ 68 x6 ≠ 4
        · rw [if_pos c12] at H
          refine q_c rfl (by decide) g6 (rgk rfl) (q := true) (decide_eq_true c12) rfl ?_
          refine q_l rfl rfl rfl ?_
          obtain ⟨v13, h13, m13, R13, w13, H⟩ := H
          refine q_is rfl (by decide) (Nat.le_of_ble_eq_true rfl) rfl rfl rfl R13 ?_
          by_cases c14 : v13 ≠ 0
          · rw [if_pos c14] at H
            refine q_z rfl (by decide) w13 (q := true) (decide_eq_true c14) rfl ?_
            obtain ⟨g15, H⟩ := H
            exact q_lab (K_Mo_fits_140 hx2 hx3 hx4 g15 hx6 H) (lvS_cons rfl rfl (lvS_cons rfl rfl (lvS_cons rfl rfl (lvS_cons rfl rfl (lvS_cons rfl rfl (lvS_cons rfl rfl (lvS_cons rfl rfl lvS_nil)))))))
          · rw [if_neg c14] at H
            refine q_z rfl (by decide) w13 (q := false) (decide_eq_false c14) rfl ?_
            refine q_l rfl rfl rfl ?_
            obtain ⟨v16, h16, m16, R16, w16, H⟩ := H
            refine q_is rfl (by decide) (Nat.le_of_ble_eq_true rfl) rfl rfl rfl R16 ?_
            refine q_l rfl rfl rfl ?_
            refine q_gr (t := 69) rfl rfl rfl (by decide) rfl ?_
            refine q_l rfl rfl rfl ?_
            obtain ⟨g17, H⟩ := H
            refine q_al rfl rfl (fun _ => rfl) rfl rfl g17 (by decide) rfl ?_
            obtain ⟨g18, H⟩ := H
            by_cases c19 : v16 ≠ m16 69 x6
            · rw [if_pos c19] at H
              refine q_c rfl (by decide) w16 g18 (q := true) (decide_eq_true c19) rfl ?_
              obtain ⟨g20, H⟩ := H
              exact q_lab (K_Mo_fits_140 hx2 hx3 hx4 g20 hx6 H) (lvS_cons rfl rfl (lvS_cons rfl rfl (lvS_cons rfl rfl (lvS_cons rfl rfl (lvS_cons rfl rfl (lvS_cons rfl rfl (lvS_cons rfl rfl lvS_nil)))))))
            · rw [if_neg c19] at H
              refine q_c rfl (by decide) w16 g18 (q := false) (decide_eq_false c19) rfl ?_
              obtain ⟨g21, H⟩ := H
              exact q_lab (K_Mo_fits_136 hx2 hx3 hx4 g21 hx6 H) (lvS_cons rfl rfl (lvS_cons rfl rfl (lvS_cons rfl rfl (lvS_cons rfl rfl (lvS_cons rfl rfl (lvS_cons rfl rfl (lvS_cons rfl rfl lvS_nil)))))))
        · rw [if_neg c12] at H
          refine q_c rfl (by decide) g6 (rgk rfl) (q := false) (decide_eq_false c12) rfl ?_
          refine q_l rfl rfl rfl ?_
          obtain ⟨v22, h22, m22, R22, w22, H⟩ := H
          refine q_is rfl (by decide) (Nat.le_of_ble_eq_true rfl) rfl rfl rfl R22 ?_
          refine q_p rfl rfl rfl ?_
          by_cases c23 : v22 ≠ 3
          · rw [if_pos c23] at H
            refine q_c rfl (by decide) w22 (rgk rfl) (q := true) (decide_eq_true c23) rfl ?_
            obtain ⟨g24, H⟩ := H
            exact q_lab (K_Mo_fits_140 hx2 hx3 hx4 g24 hx6 H) (lvS_cons rfl rfl (lvS_cons rfl rfl (lvS_cons rfl rfl (lvS_cons rfl rfl (lvS_cons rfl rfl (lvS_cons rfl rfl (lvS_cons rfl rfl lvS_nil)))))))
          · rw [if_neg c23] at H
            refine q_c rfl (by decide) w22 (rgk rfl) (q := false) (decide_eq_false c23) rfl ?_
            refine q_b rfl rfl rfl rfl ?_
            obtain ⟨g25, H⟩ := H
            exact q_lab (K_Mo_fits_136 hx2 hx3 hx4 g25 hx6 H) (lvS_cons rfl rfl (lvS_cons rfl rfl (lvS_cons rfl rfl (lvS_cons rfl rfl (lvS_cons rfl rfl (lvS_cons rfl rfl (lvS_cons rfl rfl lvS_nil)))))))
    · rw [if_neg c7] at H
      refine q_z rfl (by decide) g6 (q := false) (decide_eq_false c7) rfl ?_
      refine q_l rfl rfl rfl ?_
      obtain ⟨v26, h26, m26, R26, w26, H⟩ := H
      refine q_is rfl (by decide) (Nat.le_of_ble_eq_true rfl) rfl rfl rfl R26 ?_
      refine q_p rfl rfl rfl ?_
      by_cases c27 : v26 ≠ 4
      · rw [if_pos c27] at H
        refine q_c rfl (by decide) w26 (rgk rfl) (q := true) (decide_eq_true c27) rfl ?_
        refine q_p rfl rfl rfl ?_
        refine q_b rfl rfl rfl rfl ?_
        obtain ⟨g28, H⟩ := H
        exact q_lab (K_Mo_fits_141 hx2 hx3 hx4 g28 hx6 (rgk rfl) H) (lvS_cons rfl rfl (lvS_cons rfl rfl (lvS_cons rfl rfl (lvS_cons rfl rfl (lvS_cons rfl rfl (lvS_cons rfl rfl (lvS_cons rfl rfl lvS_nil)))))))
      · rw [if_neg c27] at H
        refine q_c rfl (by decide) w26 (rgk rfl) (q := false) (decide_eq_false c27) rfl ?_
        refine q_p rfl rfl rfl ?_
        refine q_b rfl rfl rfl rfl ?_
        obtain ⟨g29, H⟩ := H
        exact q_lab (K_Mo_fits_141 hx2 hx3 hx4 g29 hx6 (rgk rfl) H) (lvS_cons rfl rfl (lvS_cons rfl rfl (lvS_cons rfl rfl (lvS_cons rfl rfl (lvS_cons rfl rfl (lvS_cons rfl rfl (lvS_cons rfl rfl lvS_nil)))))))
def B_Mo_flow_148 (d : Nat) (t1 : Int) (h : mHp) (σ : Mem) (r : mRes) (h' : mHp) (σ' : Mem) : Prop := r = .inl none ∧ h' = h ∧ σ' = mup σ 58 64 t1
theorem K_Mo_flow_148 {d : Nat} {t1 : Int} {h h' : mHp} {σ σ' : Mem} {r : mRes} (ht1 : rg t1) (H : B_Mo_flow_148 d t1 h σ r h' σ') : Lh (d + 5) yMo_flow 148 [] [vi t1, .ref 58] h σ r h' σ' := by
  unfold B_Mo_flow_148 at H
  refine q_pi rfl rfl rfl (by decide) rfl rfl rfl rfl ht1 ?_
  obtain ⟨rfl, rfl, rfl⟩ := H
  exact q_r rfl rfl rfl
def B_Mo_flow_125 (d : Nat) (x1 : Int) (x4 : Int) (t1 : Int) (t2 : Int) (h : mHp) (σ : Mem) (r : mRes) (h' : mHp) (σ' : Mem) : Prop := (rg (t1 - t2)) ∧ (if x4 = 0 then (((0 : Int) ≤ x1 ∧ x1 < (124 : Int)) ∧ ((rg ((mup σ 58 51 (t1 - t2)) 75 x1)) ∧ (B_Mo_flow_148 d ((mup σ 58 51 (t1 - t2)) 75 x1) h (mup σ 58 51 (t1 - t2)) r h' σ'))) else ((rg ((mup σ 58 51 (t1 - t2)) 58 64)) ∧ (B_Mo_flow_148 d ((mup σ 58 51 (t1 - t2)) 58 64) h (mup σ 58 51 (t1 - t2)) r h' σ')))
theorem K_Mo_flow_125 {d : Nat} {x1 : Int} {x4 : Int} {t1 : Int} {t2 : Int} {h h' : mHp} {σ σ' : Mem} {r : mRes} (hx1 : rg x1) (hx4 : rg x4) (ht1 : rg t1) (ht2 : rg t2) (H : B_Mo_flow_125 d x1 x4 t1 t2 h σ r h' σ') : Lh (d + 5) yMo_flow 125 [(0, .ref 58), (1, vi x1), (4, vi x4)] [vi t2, vi t1, .ref 58] h σ r h' σ' := by
  unfold B_Mo_flow_125 at H
  refine q_sub rfl ?_
  obtain ⟨g1, H⟩ := H
  refine q_pi rfl rfl rfl (by decide) rfl rfl rfl rfl g1 ?_
  refine q_l rfl rfl rfl ?_
  refine q_l rfl rfl rfl ?_
  by_cases c2 : x4 = 0
  · rw [if_pos c2] at H
    refine q_z rfl (by decide) hx4 (q := true) (decide_eq_true c2) rfl ?_
    refine q_l rfl rfl rfl ?_
    refine q_gr (t := 75) rfl rfl rfl (by decide) rfl ?_
    refine q_l rfl rfl rfl ?_
    obtain ⟨g3, H⟩ := H
    refine q_al rfl rfl (fun _ => rfl) rfl rfl g3 (by decide) rfl ?_
    obtain ⟨g4, H⟩ := H
    exact q_lab (K_Mo_flow_148 g4 H) lvS_nil
  · rw [if_neg c2] at H
    refine q_z rfl (by decide) hx4 (q := false) (decide_eq_false c2) rfl ?_
    refine q_l rfl rfl rfl ?_
    obtain ⟨g5, H⟩ := H
    refine q_gi rfl rfl rfl (by decide) rfl rfl ?_
    refine q_b rfl rfl rfl rfl ?_
    exact q_lab (K_Mo_flow_148 g5 H) lvS_nil
def B_Mo_flow_85 (d : Nat) (t1 : Int) (h : mHp) (σ : Mem) (r : mRes) (h' : mHp) (σ' : Mem) : Prop := r = .inl none ∧ h' = h ∧ σ' = mup σ 58 64 t1
theorem K_Mo_flow_85 {d : Nat} {t1 : Int} {h h' : mHp} {σ σ' : Mem} {r : mRes} (ht1 : rg t1) (H : B_Mo_flow_85 d t1 h σ r h' σ') : Lh (d + 5) yMo_flow 85 [] [vi t1, .ref 58] h σ r h' σ' := by
  unfold B_Mo_flow_85 at H
  refine q_pi rfl rfl rfl (by decide) rfl rfl rfl rfl ht1 ?_
  refine q_b rfl rfl rfl rfl ?_
  obtain ⟨rfl, rfl, rfl⟩ := H
  exact q_r rfl rfl rfl
def B_Mo_flow (d : Nat) (x1 : Int) (x2 : Int) (x3 : Int) (h : mHp) (σ : Mem) (r : mRes) (h' : mHp) (σ' : Mem) : Prop := if x3 ≠ 7 then (if x3 ≠ 13 then (if x3 ≠ 16 then (r = .inl none ∧ h' = h ∧ σ' = σ) else (((0 : Int) ≤ x1 ∧ x1 < (124 : Int)) ∧ (∃ (v5 : Int) (h5 : mHp) (m5 : Mem), Rh (d + 5) yMo_fits [.ref 58, vi x2, vi (σ 65 x1)] h σ (.inl (some (vi v5))) h5 m5 ∧ rg v5 ∧ ((rg (m5 58 51)) ∧ (if v5 = 0 then (B_Mo_flow_125 d x1 v5 (m5 58 51) 0 h5 m5 r h' σ') else (B_Mo_flow_125 d x1 v5 (m5 58 51) 1 h5 m5 r h' σ')))))) else ((rg (σ 58 51)) ∧ ((rg ((σ 58 51) - 1)) ∧ ((rg ((mup σ 58 51 ((σ 58 51) - 1)) 58 51)) ∧ (((0 : Int) ≤ (mup σ 58 51 ((σ 58 51) - 1)) 58 51 ∧ (mup σ 58 51 ((σ 58 51) - 1)) 58 51 < (200 : Int)) ∧ (∃ z12, hAt h 89 ((mup σ 58 51 ((σ 58 51) - 1)) 58 51 : Int).toNat = vlg z12 ∧ (∃ (v14 : Int) (h14 : mHp) (m14 : Mem), Rh (d + 5) yMo_told [vlg z12] h (mup σ 58 51 ((σ 58 51) - 1)) (.inl (some (vi v14))) h14 m14 ∧ rg v14 ∧ (if v14 ≠ 0 then ((rg (m14 58 64)) ∧ (B_Mo_flow_85 d (m14 58 64) h14 m14 r h' σ')) else (B_Mo_flow_85 d x2 h14 m14 r h' σ'))))))))) else ((rg (σ 58 54)) ∧ ((rg ((σ 58 54) - 1)) ∧ ((rg ((mup σ 58 54 ((σ 58 54) - 1)) 58 54)) ∧ (((0 : Int) ≤ (mup σ 58 54 ((σ 58 54) - 1)) 58 54 ∧ (mup σ 58 54 ((σ 58 54) - 1)) 58 54 < (502 : Int)) ∧ ((rg ((mup σ 58 54 ((σ 58 54) - 1)) 90 ((mup σ 58 54 ((σ 58 54) - 1)) 58 54))) ∧ ((rg ((mup (mup σ 58 54 ((σ 58 54) - 1)) 58 64 ((mup σ 58 54 ((σ 58 54) - 1)) 90 ((mup σ 58 54 ((σ 58 54) - 1)) 58 54))) 58 54)) ∧ (((0 : Int) ≤ (mup (mup σ 58 54 ((σ 58 54) - 1)) 58 64 ((mup σ 58 54 ((σ 58 54) - 1)) 90 ((mup σ 58 54 ((σ 58 54) - 1)) 58 54))) 58 54 ∧ (mup (mup σ 58 54 ((σ 58 54) - 1)) 58 64 ((mup σ 58 54 ((σ 58 54) - 1)) 90 ((mup σ 58 54 ((σ 58 54) - 1)) 58 54))) 58 54 < (502 : Int)) ∧ ((rg ((mup (mup σ 58 54 ((σ 58 54) - 1)) 58 64 ((mup σ 58 54 ((σ 58 54) - 1)) 90 ((mup σ 58 54 ((σ 58 54) - 1)) 58 54))) 91 ((mup (mup σ 58 54 ((σ 58 54) - 1)) 58 64 ((mup σ 58 54 ((σ 58 54) - 1)) 90 ((mup σ 58 54 ((σ 58 54) - 1)) 58 54))) 58 54))) ∧ (r = .inl none ∧ h' = h ∧ σ' = mup (mup (mup σ 58 54 ((σ 58 54) - 1)) 58 64 ((mup σ 58 54 ((σ 58 54) - 1)) 90 ((mup σ 58 54 ((σ 58 54) - 1)) 58 54))) 58 58 ((mup (mup σ 58 54 ((σ 58 54) - 1)) 58 64 ((mup σ 58 54 ((σ 58 54) - 1)) 90 ((mup σ 58 54 ((σ 58 54) - 1)) 58 54))) 91 ((mup (mup σ 58 54 ((σ 58 54) - 1)) 58 64 ((mup σ 58 54 ((σ 58 54) - 1)) 90 ((mup σ 58 54 ((σ 58 54) - 1)) 58 54))) 58 54)))))))))))
theorem M_Mo_flow {d : Nat} {x1 : Int} {x2 : Int} {x3 : Int} {h h' : mHp} {σ σ' : Mem} {r : mRes} (hx1 : rg x1) (hx2 : rg x2) (hx3 : rg x3) (H : B_Mo_flow d x1 x2 x3 h σ r h' σ') : Rh (d + 6) yMo_flow [.ref 58, vi x1, vi x2, vi x3] h σ r h' σ' := by
  refine q_m (Nat.le_of_ble_eq_true rfl) ?_
  unfold B_Mo_flow at H
  refine q_l rfl rfl rfl ?_
  refine q_k (x := 7) rfl rfl rfl rfl ?_
  by_cases c1 : x3 ≠ 7
  · rw [if_pos c1] at H
    refine q_c rfl (by decide) hx3 (rgk rfl) (q := true) (decide_eq_true c1) rfl ?_
    refine q_l rfl rfl rfl ?_
    refine q_k (x := 13) rfl rfl rfl rfl ?_
    by_cases c2 : x3 ≠ 13
    · rw [if_pos c2] at H
      refine q_c rfl (by decide) hx3 (rgk rfl) (q := true) (decide_eq_true c2) rfl ?_
      refine q_l rfl rfl rfl ?_
      refine q_k (x := 16) rfl rfl rfl rfl ?_
      by_cases c3 : x3 ≠ 16
      · rw [if_pos c3] at H
        refine q_c rfl (by decide) hx3 (rgk rfl) (q := true) (decide_eq_true c3) rfl ?_
        obtain ⟨rfl, rfl, rfl⟩ := H
        exact q_r rfl rfl rfl
      · rw [if_neg c3] at H
        refine q_c rfl (by decide) hx3 (rgk rfl) (q := false) (decide_eq_false c3) rfl ?_
        refine q_l rfl rfl rfl ?_
        refine q_l rfl rfl rfl ?_
        refine q_l rfl rfl rfl ?_
        refine q_gr (t := 65) rfl rfl rfl (by decide) rfl ?_
        refine q_l rfl rfl rfl ?_
        obtain ⟨g4, H⟩ := H
        refine q_al rfl rfl (fun _ => rfl) rfl rfl g4 (by decide) rfl ?_
        obtain ⟨v5, h5, m5, R5, w5, H⟩ := H
        refine q_iv rfl rfl rfl (fun S => S.t 58 rfl) (by decide) rfl R5 ?_
        refine q_l rfl rfl rfl ?_
        refine q_l rfl rfl rfl ?_
        refine q_p rfl rfl rfl ?_
        obtain ⟨g6, H⟩ := H
        refine q_gi rfl rfl rfl (by decide) rfl rfl ?_
        refine q_l rfl rfl rfl ?_
        by_cases c7 : v5 = 0
        · rw [if_pos c7] at H
          refine q_z rfl (by decide) w5 (q := true) (decide_eq_true c7) rfl ?_
          refine q_p rfl rfl rfl ?_
          exact q_lab (K_Mo_flow_125 hx1 w5 g6 (rgk rfl) H) (lvS_cons rfl rfl (lvS_cons rfl rfl (lvS_cons rfl rfl lvS_nil)))
        · rw [if_neg c7] at H
          refine q_z rfl (by decide) w5 (q := false) (decide_eq_false c7) rfl ?_
          refine q_p rfl rfl rfl ?_
          refine q_b rfl rfl rfl rfl ?_
          exact q_lab (K_Mo_flow_125 hx1 w5 g6 (rgk rfl) H) (lvS_cons rfl rfl (lvS_cons rfl rfl (lvS_cons rfl rfl lvS_nil)))
    · rw [if_neg c2] at H
      refine q_c rfl (by decide) hx3 (rgk rfl) (q := false) (decide_eq_false c2) rfl ?_
      refine q_l rfl rfl rfl ?_
      refine q_p rfl rfl rfl ?_
      obtain ⟨g8, H⟩ := H
      refine q_gi rfl rfl rfl (by decide) rfl rfl ?_
      refine q_p rfl rfl rfl ?_
      refine q_sub rfl ?_
      obtain ⟨g9, H⟩ := H
      refine q_pi rfl rfl rfl (by decide) rfl rfl rfl rfl g9 ?_
      refine q_l rfl rfl rfl ?_
      refine q_l rfl rfl rfl ?_
      refine q_gr (t := 89) rfl rfl rfl (by decide) rfl ?_
      refine q_l rfl rfl rfl ?_
      obtain ⟨g10, H⟩ := H
      refine q_gi rfl rfl rfl (by decide) rfl rfl ?_
      obtain ⟨g11, H⟩ := H
      obtain ⟨z12, e13, H⟩ := H
      refine q_av rfl rfl (fun _ => rfl) rfl rfl g11 (by decide) e13 ?_
      obtain ⟨v14, h14, m14, R14, w14, H⟩ := H
      refine q_is rfl (by decide) (Nat.le_of_ble_eq_true rfl) rfl rfl rfl R14 ?_
      by_cases c15 : v14 ≠ 0
      · rw [if_pos c15] at H
        refine q_z rfl (by decide) w14 (q := true) (decide_eq_true c15) rfl ?_
        refine q_l rfl rfl rfl ?_
        obtain ⟨g16, H⟩ := H
        refine q_gi rfl rfl rfl (by decide) rfl rfl ?_
        exact q_lab (K_Mo_flow_85 g16 H) lvS_nil
      · rw [if_neg c15] at H
        refine q_z rfl (by decide) w14 (q := false) (decide_eq_false c15) rfl ?_
        refine q_l rfl rfl rfl ?_
        refine q_b rfl rfl rfl rfl ?_
        exact q_lab (K_Mo_flow_85 hx2 H) lvS_nil
  · rw [if_neg c1] at H
    refine q_c rfl (by decide) hx3 (rgk rfl) (q := false) (decide_eq_false c1) rfl ?_
    refine q_l rfl rfl rfl ?_
    refine q_p rfl rfl rfl ?_
    obtain ⟨g17, H⟩ := H
    refine q_gi rfl rfl rfl (by decide) rfl rfl ?_
    refine q_p rfl rfl rfl ?_
    refine q_sub rfl ?_
    obtain ⟨g18, H⟩ := H
    refine q_pi rfl rfl rfl (by decide) rfl rfl rfl rfl g18 ?_
    refine q_l rfl rfl rfl ?_
    refine q_l rfl rfl rfl ?_
    refine q_gr (t := 90) rfl rfl rfl (by decide) rfl ?_
    refine q_l rfl rfl rfl ?_
    obtain ⟨g19, H⟩ := H
    refine q_gi rfl rfl rfl (by decide) rfl rfl ?_
    obtain ⟨g20, H⟩ := H
    refine q_al rfl rfl (fun _ => rfl) rfl rfl g20 (by decide) rfl ?_
    obtain ⟨g21, H⟩ := H
    refine q_pi rfl rfl rfl (by decide) rfl rfl rfl rfl g21 ?_
    refine q_l rfl rfl rfl ?_
    refine q_l rfl rfl rfl ?_
    refine q_gr (t := 91) rfl rfl rfl (by decide) rfl ?_
    refine q_l rfl rfl rfl ?_
    obtain ⟨g22, H⟩ := H
    refine q_gi rfl rfl rfl (by decide) rfl rfl ?_
    obtain ⟨g23, H⟩ := H
    refine q_al rfl rfl (fun _ => rfl) rfl rfl g23 (by decide) rfl ?_
    obtain ⟨g24, H⟩ := H
    refine q_pi rfl rfl rfl (by decide) rfl rfl rfl rfl g24 ?_
    refine q_b rfl rfl rfl rfl ?_
    obtain ⟨rfl, rfl, rfl⟩ := H
    exact q_r rfl rfl rfl
def B_Mo_execute_243 (d : Nat) (x2 : Int) (h : mHp) (σ : Mem) (r : mRes) (h' : mHp) (σ' : Mem) : Prop := r = .inl none ∧ h' = h ∧ σ' = mup σ 58 64 x2
theorem K_Mo_execute_243 {d : Nat} {x2 : Int} {h h' : mHp} {σ σ' : Mem} {r : mRes} (hx2 : rg x2) (H : B_Mo_execute_243 d x2 h σ r h' σ') : Lh (d + 6) yMo_execute 243 [(0, .ref 58), (2, vi x2)] [] h σ r h' σ' := by
  unfold B_Mo_execute_243 at H
  refine q_l rfl rfl rfl ?_
  refine q_l rfl rfl rfl ?_
  refine q_pi rfl rfl rfl (by decide) rfl rfl rfl rfl hx2 ?_
  obtain ⟨rfl, rfl, rfl⟩ := H
  exact q_r rfl rfl rfl
def B_Mo_execute_231 (d : Nat) (x2 : Int) (x3 : Int) (h : mHp) (σ : Mem) (r : mRes) (h' : mHp) (σ' : Mem) : Prop := if x3 = 6 then (B_Mo_execute_243 d x2 h σ r h' σ') else (if x3 ≠ 14 then (r = .inl none ∧ h' = h ∧ σ' = σ) else (B_Mo_execute_243 d x2 h σ r h' σ'))
theorem K_Mo_execute_231 {d : Nat} {x2 : Int} {x3 : Int} {h h' : mHp} {σ σ' : Mem} {r : mRes} (hx2 : rg x2) (hx3 : rg x3) (H : B_Mo_execute_231 d x2 x3 h σ r h' σ') : Lh (d + 6) yMo_execute 231 [(0, .ref 58), (2, vi x2), (3, vi x3)] [] h σ r h' σ' := by
  unfold B_Mo_execute_231 at H
  refine q_l rfl rfl rfl ?_
  refine q_k (x := 6) rfl rfl rfl rfl ?_
  by_cases c1 : x3 = 6
  · rw [if_pos c1] at H
    refine q_c rfl (by decide) hx3 (rgk rfl) (q := true) (decide_eq_true c1) rfl ?_
    exact q_lab (K_Mo_execute_243 hx2 H) (lvS_cons rfl rfl (lvS_cons rfl rfl lvS_nil))
  · rw [if_neg c1] at H
    refine q_c rfl (by decide) hx3 (rgk rfl) (q := false) (decide_eq_false c1) rfl ?_
    refine q_l rfl rfl rfl ?_
    refine q_k (x := 14) rfl rfl rfl rfl ?_
    by_cases c2 : x3 ≠ 14
    · rw [if_pos c2] at H
      refine q_c rfl (by decide) hx3 (rgk rfl) (q := true) (decide_eq_true c2) rfl ?_
      obtain ⟨rfl, rfl, rfl⟩ := H
      exact q_r rfl rfl rfl
    · rw [if_neg c2] at H
      refine q_c rfl (by decide) hx3 (rgk rfl) (q := false) (decide_eq_false c2) rfl ?_
      exact q_lab (K_Mo_execute_243 hx2 H) (lvS_cons rfl rfl (lvS_cons rfl rfl lvS_nil))
def B_Mo_execute_186 (d : Nat) (x2 : Int) (x3 : Int) (t1 : Int) (h : mHp) (σ : Mem) (r : mRes) (h' : mHp) (σ' : Mem) : Prop := ∃ h1 m1, Rh (d + 6) yMo_bindTop [.ref 58, vi t1] h σ (.inl none) h1 m1 ∧ (B_Mo_execute_231 d x2 x3 h1 m1 r h' σ')
theorem K_Mo_execute_186 {d : Nat} {x2 : Int} {x3 : Int} {t1 : Int} {h h' : mHp} {σ σ' : Mem} {r : mRes} (hx2 : rg x2) (hx3 : rg x3) (ht1 : rg t1) (H : B_Mo_execute_186 d x2 x3 t1 h σ r h' σ') : Lh (d + 6) yMo_execute 186 [(0, .ref 58), (2, vi x2), (3, vi x3)] [vi t1, .ref 58] h σ r h' σ' := by
  unfold B_Mo_execute_186 at H
  obtain ⟨h1, m1, R1, H⟩ := H
  refine q_iv rfl rfl rfl (fun S => S.t 58 rfl) (by decide) rfl R1 ?_
  refine q_b rfl rfl rfl rfl ?_
  exact q_lab (K_Mo_execute_231 hx2 hx3 H) (lvS_cons rfl rfl (lvS_cons rfl rfl (lvS_cons rfl rfl lvS_nil)))
def B_Mo_execute_174 (d : Nat) (x2 : Int) (x3 : Int) (h : mHp) (σ : Mem) (r : mRes) (h' : mHp) (σ' : Mem) : Prop := if x3 ≠ 11 then (B_Mo_execute_186 d x2 x3 0 h σ r h' σ') else (B_Mo_execute_186 d x2 x3 1 h σ r h' σ')
theorem K_Mo_execute_174 {d : Nat} {x2 : Int} {x3 : Int} {h h' : mHp} {σ σ' : Mem} {r : mRes} (hx2 : rg x2) (hx3 : rg x3) (H : B_Mo_execute_174 d x2 x3 h σ r h' σ') : Lh (d + 6) yMo_execute 174 [(0, .ref 58), (2, vi x2), (3, vi x3)] [] h σ r h' σ' := by
  unfold B_Mo_execute_174 at H
  refine q_l rfl rfl rfl ?_
  refine q_l rfl rfl rfl ?_
  refine q_k (x := 11) rfl rfl rfl rfl ?_
  by_cases c1 : x3 ≠ 11
  · rw [if_pos c1] at H
    refine q_c rfl (by decide) hx3 (rgk rfl) (q := true) (decide_eq_true c1) rfl ?_
    refine q_p rfl rfl rfl ?_
    exact q_lab (K_Mo_execute_186 hx2 hx3 (rgk rfl) H) (lvS_cons rfl rfl (lvS_cons rfl rfl (lvS_cons rfl rfl lvS_nil)))
  · rw [if_neg c1] at H
    refine q_c rfl (by decide) hx3 (rgk rfl) (q := false) (decide_eq_false c1) rfl ?_
    refine q_p rfl rfl rfl ?_
    refine q_b rfl rfl rfl rfl ?_
    exact q_lab (K_Mo_execute_186 hx2 hx3 (rgk rfl) H) (lvS_cons rfl rfl (lvS_cons rfl rfl (lvS_cons rfl rfl lvS_nil)))
def B_Mo_execute (d : Nat)  (h : mHp) (σ : Mem) (r : mRes) (h' : mHp) (σ' : Mem) : Prop := (rg (σ 58 64)) ∧ (((0 : Int) ≤ σ 58 64 ∧ σ 58 64 < (124 : Int)) ∧ (((0 : Int) ≤ σ 58 64 ∧ σ 58 64 < (124 : Int)) ∧ ((rg ((σ 58 64) + 1)) ∧ ((rg (σ 63 (σ 58 64))) ∧ (if σ 63 (σ 58 64) ≥ 2 then (if σ 63 (σ 58 64) ≠ 2 then (if σ 63 (σ 58 64) ≠ 3 then (if σ 63 (σ 58 64) ≠ 4 then (if σ 63 (σ 58 64) ≠ 5 then (if σ 63 (σ 58 64) ≠ 6 then (if σ 63 (σ 58 64) ≠ 8 then (if σ 63 (σ 58 64) ≠ 9 then (if σ 63 (σ 58 64) = 10 then ((rg (σ 64 (σ 58 64))) ∧ (B_Mo_execute_174 d (σ 64 (σ 58 64)) (σ 63 (σ 58 64)) h (mup σ 58 64 ((σ 58 64) + 1)) r h' σ')) else (if σ 63 (σ 58 64) ≠ 11 then (if σ 63 (σ 58 64) ≠ 12 then (if σ 63 (σ 58 64) ≠ 17 then (∃ h19 m19, Rh (d + 6) yMo_flow [.ref 58, vi (σ 58 64), vi (σ 64 (σ 58 64)), vi (σ 63 (σ 58 64))] h (mup σ 58 64 ((σ 58 64) + 1)) (.inl none) h19 m19 ∧ ((rg (σ 64 (σ 58 64))) ∧ (B_Mo_execute_231 d (σ 64 (σ 58 64)) (σ 63 (σ 58 64)) h19 m19 r h' σ'))) else (∃ h21 m21, Rh (d + 6) yMo_fail [.ref 58, vi 2] h (mup σ 58 64 ((σ 58 64) + 1)) (.inl none) h21 m21 ∧ ((rg (σ 64 (σ 58 64))) ∧ (B_Mo_execute_231 d (σ 64 (σ 58 64)) (σ 63 (σ 58 64)) h21 m21 r h' σ')))) else (∃ (v23 : Int) (h23 : mHp) (m23 : Mem), Rh (d + 6) yMo_further [.ref 58, vi (σ 64 (σ 58 64))] h (mup σ 58 64 ((σ 58 64) + 1)) (.inl (some (vi v23))) h23 m23 ∧ rg v23 ∧ ((rg (σ 64 (σ 58 64))) ∧ (B_Mo_execute_231 d (σ 64 (σ 58 64)) (σ 63 (σ 58 64)) h23 (mup m23 58 58 v23) r h' σ')))) else ((rg (σ 64 (σ 58 64))) ∧ (B_Mo_execute_174 d (σ 64 (σ 58 64)) (σ 63 (σ 58 64)) h (mup σ 58 64 ((σ 58 64) + 1)) r h' σ')))) else (∃ h26 m26, Rh (d + 6) yMo_work [.ref 58, vi (σ 64 (σ 58 64))] h (mup σ 58 64 ((σ 58 64) + 1)) (.inl none) h26 m26 ∧ ((rg (σ 64 (σ 58 64))) ∧ (B_Mo_execute_231 d (σ 64 (σ 58 64)) (σ 63 (σ 58 64)) h26 m26 r h' σ')))) else (∃ h28 m28, Rh (d + 6) yMo_apply [.ref 58] h (mup σ 58 64 ((σ 58 64) + 1)) (.inl none) h28 m28 ∧ ((rg (σ 64 (σ 58 64))) ∧ (B_Mo_execute_231 d (σ 64 (σ 58 64)) (σ 63 (σ 58 64)) h28 m28 r h' σ')))) else ((rg ((mup σ 58 64 ((σ 58 64) + 1)) 58 64)) ∧ ((rg ((mup σ 58 64 ((σ 58 64) + 1)) 58 58)) ∧ (∃ h32 m32, Rh (d + 6) yMo_known [.ref 58, vi 6, vi ((8192 * ((mup σ 58 64 ((σ 58 64) + 1)) 58 64)) + ((mup σ 58 64 ((σ 58 64) + 1)) 58 58))] h (mup σ 58 64 ((σ 58 64) + 1)) (.inl none) h32 m32 ∧ ((rg (σ 64 (σ 58 64))) ∧ (B_Mo_execute_231 d (σ 64 (σ 58 64)) (σ 63 (σ 58 64)) h32 m32 r h' σ')))))) else (∃ (v34 : Int) (h34 : mHp) (m34 : Mem), Rh (d + 6) yMo_further [.ref 58, vi (σ 64 (σ 58 64))] h (mup σ 58 64 ((σ 58 64) + 1)) (.inl (some (vi v34))) h34 m34 ∧ rg v34 ∧ (((0 : Int) ≤ v34 ∧ v34 < (4300 : Int)) ∧ (∃ z36, hAt h34 92 (v34 : Int).toNat = vlg z36 ∧ (∃ h38 m38, Rh (d + 6) yMo_knownValue [.ref 58, vlg z36] h34 m34 (.inl none) h38 m38 ∧ ((rg (σ 64 (σ 58 64))) ∧ (B_Mo_execute_231 d (σ 64 (σ 58 64)) (σ 63 (σ 58 64)) h38 m38 r h' σ'))))))) else (∃ h40 m40, Rh (d + 6) yMo_known [.ref 58, vi 5, vi (σ 64 (σ 58 64))] h (mup σ 58 64 ((σ 58 64) + 1)) (.inl none) h40 m40 ∧ ((rg (σ 64 (σ 58 64))) ∧ (B_Mo_execute_231 d (σ 64 (σ 58 64)) (σ 63 (σ 58 64)) h40 m40 r h' σ')))) else (∃ h42 m42, Rh (d + 6) yMo_known [.ref 58, vi 3, vi 0] h (mup σ 58 64 ((σ 58 64) + 1)) (.inl none) h42 m42 ∧ ((rg (σ 64 (σ 58 64))) ∧ (B_Mo_execute_231 d (σ 64 (σ 58 64)) (σ 63 (σ 58 64)) h42 m42 r h' σ')))) else (∃ h44 m44, Rh (d + 6) yMo_known [.ref 58, vi 1, vi (σ 64 (σ 58 64))] h (mup σ 58 64 ((σ 58 64) + 1)) (.inl none) h44 m44 ∧ ((rg (σ 64 (σ 58 64))) ∧ (B_Mo_execute_231 d (σ 64 (σ 58 64)) (σ 63 (σ 58 64)) h44 m44 r h' σ')))) else (∃ h46 m46, Rh (d + 6) yMo_known [.ref 58, vi 0, vi (σ 64 (σ 58 64))] h (mup σ 58 64 ((σ 58 64) + 1)) (.inl none) h46 m46 ∧ ((rg (σ 64 (σ 58 64))) ∧ (B_Mo_execute_231 d (σ 64 (σ 58 64)) (σ 63 (σ 58 64)) h46 m46 r h' σ'))))))))
theorem M_Mo_execute {d : Nat}  {h h' : mHp} {σ σ' : Mem} {r : mRes}  (H : B_Mo_execute d  h σ r h' σ') : Rh (d + 7) yMo_execute [.ref 58] h σ r h' σ' := by
  refine q_m (Nat.le_of_ble_eq_true rfl) ?_
  unfold B_Mo_execute at H
  refine q_l rfl rfl rfl ?_
  obtain ⟨g1, H⟩ := H
  refine q_gi rfl rfl rfl (by decide) rfl rfl ?_
  refine q_l rfl rfl rfl ?_
  refine q_l rfl rfl rfl ?_
  refine q_gr (t := 64) rfl rfl rfl (by decide) rfl ?_
  refine q_l rfl rfl rfl ?_
  obtain ⟨g2, H⟩ := H
  refine q_al rfl rfl (fun _ => rfl) rfl rfl g2 (by decide) rfl ?_
  refine q_l rfl rfl rfl ?_
  refine q_l rfl rfl rfl ?_
  refine q_gr (t := 63) rfl rfl rfl (by decide) rfl ?_
  refine q_l rfl rfl rfl ?_
  obtain ⟨g3, H⟩ := H
  refine q_al rfl rfl (fun _ => rfl) rfl rfl g3 (by decide) rfl ?_
  refine q_l rfl rfl rfl ?_
  refine q_l rfl rfl rfl ?_
  refine q_p rfl rfl rfl ?_
  refine q_gi rfl rfl rfl (by decide) rfl rfl ?_
  refine q_p rfl rfl rfl ?_
  refine q_add rfl ?_
  obtain ⟨g4, H⟩ := H
  refine q_pi rfl rfl rfl (by decide) rfl rfl rfl rfl g4 ?_
  refine q_l rfl rfl rfl ?_
  refine q_p rfl rfl rfl ?_
  obtain ⟨g5, H⟩ := H
  by_cases c6 : σ 63 (σ 58 64) ≥ 2
  · rw [if_pos c6] at H
    refine q_c rfl (by decide) g5 (rgk rfl) (q := true) (decide_eq_true c6) rfl ?_
    refine q_l rfl rfl rfl ?_
    refine q_p rfl rfl rfl ?_
    by_cases c7 : σ 63 (σ 58 64) ≠ 2
    · rw [if_pos c7] at H
      refine q_c rfl (by decide) g5 (rgk rfl) (q := true) (decide_eq_true c7) rfl ?_
      refine q_l rfl rfl rfl ?_
      refine q_p rfl rfl rfl ?_
      by_cases c8 : σ 63 (σ 58 64) ≠ 3
      · rw [if_pos c8] at H
        refine q_c rfl (by decide) g5 (rgk rfl) (q := true) (decide_eq_true c8) rfl ?_
        refine q_l rfl rfl rfl ?_
        refine q_p rfl rfl rfl ?_
        by_cases c9 : σ 63 (σ 58 64) ≠ 4
        · rw [if_pos c9] at H
          refine q_c rfl (by decide) g5 (rgk rfl) (q := true) (decide_eq_true c9) rfl ?_
          refine q_l rfl rfl rfl ?_
          refine q_p rfl rfl rfl ?_
          by_cases c10 : σ 63 (σ 58 64) ≠ 5
          · rw [if_pos c10] at H
            refine q_c rfl (by decide) g5 (rgk rfl) (q := true) (decide_eq_true c10) rfl ?_
            refine q_l rfl rfl rfl ?_
            refine q_k (x := 6) rfl rfl rfl rfl ?_
            by_cases c11 : σ 63 (σ 58 64) ≠ 6
            · rw [if_pos c11] at H
              refine q_c rfl (by decide) g5 (rgk rfl) (q := true) (decide_eq_true c11) rfl ?_
              refine q_l rfl rfl rfl ?_
              refine q_k (x := 8) rfl rfl rfl rfl ?_
              by_cases c12 : σ 63 (σ 58 64) ≠ 8
              · rw [if_pos c12] at H
                refine q_c rfl (by decide) g5 (rgk rfl) (q := true) (decide_eq_true c12) rfl ?_
                refine q_l rfl rfl rfl ?_
                refine q_k (x := 9) rfl rfl rfl rfl ?_
                by_cases c13 : σ 63 (σ 58 64) ≠ 9
                · rw [if_pos c13] at H
                  refine q_c rfl (by decide) g5 (rgk rfl) (q := true) (decide_eq_true c13) rfl ?_
                  refine q_l rfl rfl rfl ?_
                  refine q_k (x := 10) rfl rfl rfl rfl ?_
                  by_cases c14 : σ 63 (σ 58 64) = 10
                  · rw [if_pos c14] at H
                    refine q_c rfl (by decide) g5 (rgk rfl) (q := true) (decide_eq_true c14) rfl ?_
                    obtain ⟨g15, H⟩ := H
                    exact q_lab (K_Mo_execute_174 g15 g5 H) (lvS_cons rfl rfl (lvS_cons rfl rfl (lvS_cons rfl rfl lvS_nil)))
                  · rw [if_neg c14] at H
                    refine q_c rfl (by decide) g5 (rgk rfl) (q := false) (decide_eq_false c14) rfl ?_
                    refine q_l rfl rfl rfl ?_
                    refine q_k (x := 11) rfl rfl rfl rfl ?_
                    by_cases c16 : σ 63 (σ 58 64) ≠ 11
                    · rw [if_pos c16] at H
                      refine q_c rfl (by decide) g5 (rgk rfl) (q := true) (decide_eq_true c16) rfl ?_
                      refine q_l rfl rfl rfl ?_
                      refine q_k (x := 12) rfl rfl rfl rfl ?_
                      by_cases c17 : σ 63 (σ 58 64) ≠ 12
                      · rw [if_pos c17] at H
                        refine q_c rfl (by decide) g5 (rgk rfl) (q := true) (decide_eq_true c17) rfl ?_
                        refine q_l rfl rfl rfl ?_
                        refine q_k (x := 17) rfl rfl rfl rfl ?_
                        by_cases c18 : σ 63 (σ 58 64) ≠ 17
                        · rw [if_pos c18] at H
                          refine q_c rfl (by decide) g5 (rgk rfl) (q := true) (decide_eq_true c18) rfl ?_
                          refine q_l rfl rfl rfl ?_
                          refine q_l rfl rfl rfl ?_
                          refine q_l rfl rfl rfl ?_
                          refine q_l rfl rfl rfl ?_
                          obtain ⟨h19, m19, R19, H⟩ := H
                          refine q_iv rfl rfl rfl (fun S => S.t 58 rfl) (by decide) rfl R19 ?_
                          obtain ⟨g20, H⟩ := H
                          exact q_lab (K_Mo_execute_231 g20 g5 H) (lvS_cons rfl rfl (lvS_cons rfl rfl (lvS_cons rfl rfl lvS_nil)))
                        · rw [if_neg c18] at H
                          refine q_c rfl (by decide) g5 (rgk rfl) (q := false) (decide_eq_false c18) rfl ?_
                          refine q_l rfl rfl rfl ?_
                          refine q_p rfl rfl rfl ?_
                          obtain ⟨h21, m21, R21, H⟩ := H
                          refine q_iv rfl rfl rfl (fun S => S.t 58 rfl) (by decide) rfl R21 ?_
                          refine q_b rfl rfl rfl rfl ?_
                          obtain ⟨g22, H⟩ := H
                          exact q_lab (K_Mo_execute_231 g22 g5 H) (lvS_cons rfl rfl (lvS_cons rfl rfl (lvS_cons rfl rfl lvS_nil)))
                      · rw [if_neg c17] at H
                        refine q_c rfl (by decide) g5 (rgk rfl) (q := false) (decide_eq_false c17) rfl ?_
                        refine q_l rfl rfl rfl ?_
                        refine q_l rfl rfl rfl ?_
                        refine q_l rfl rfl rfl ?_
                        obtain ⟨v23, h23, m23, R23, w23, H⟩ := H
                        refine q_iv rfl rfl rfl (fun S => S.t 58 rfl) (by decide) rfl R23 ?_
                        refine q_pi rfl rfl rfl (by decide) rfl rfl rfl rfl w23 ?_
                        refine q_b rfl rfl rfl rfl ?_
                        obtain ⟨g24, H⟩ := H
                        exact q_lab (K_Mo_execute_231 g24 g5 H) (lvS_cons rfl rfl (lvS_cons rfl rfl (lvS_cons rfl rfl lvS_nil)))
                    · rw [if_neg c16] at H
                      refine q_c rfl (by decide) g5 (rgk rfl) (q := false) (decide_eq_false c16) rfl ?_
                      obtain ⟨g25, H⟩ := H
                      exact q_lab (K_Mo_execute_174 g25 g5 H) (lvS_cons rfl rfl (lvS_cons rfl rfl (lvS_cons rfl rfl lvS_nil)))
                · rw [if_neg c13] at H
                  refine q_c rfl (by decide) g5 (rgk rfl) (q := false) (decide_eq_false c13) rfl ?_
                  refine q_l rfl rfl rfl ?_
                  refine q_l rfl rfl rfl ?_
                  obtain ⟨h26, m26, R26, H⟩ := H
                  refine q_iv rfl rfl rfl (fun S => S.t 58 rfl) (by decide) rfl R26 ?_
                  refine q_b rfl rfl rfl rfl ?_
                  obtain ⟨g27, H⟩ := H
                  exact q_lab (K_Mo_execute_231 g27 g5 H) (lvS_cons rfl rfl (lvS_cons rfl rfl (lvS_cons rfl rfl lvS_nil)))
              · rw [if_neg c12] at H
                refine q_c rfl (by decide) g5 (rgk rfl) (q := false) (decide_eq_false c12) rfl ?_
                refine q_l rfl rfl rfl ?_
                obtain ⟨h28, m28, R28, H⟩ := H
                refine q_iv rfl rfl rfl (fun S => S.t 58 rfl) (by decide) rfl R28 ?_
                refine q_b rfl rfl rfl rfl ?_
                obtain ⟨g29, H⟩ := H
                exact q_lab (K_Mo_execute_231 g29 g5 H) (lvS_cons rfl rfl (lvS_cons rfl rfl (lvS_cons rfl rfl lvS_nil)))
            · rw [if_neg c11] at H
              refine q_c rfl (by decide) g5 (rgk rfl) (q := false) (decide_eq_false c11) rfl ?_
              refine q_l rfl rfl rfl ?_
              refine q_k (x := 6) rfl rfl rfl rfl ?_
              refine q_k (x := 8192) rfl rfl rfl rfl ?_
              refine q_l rfl rfl rfl ?_
              obtain ⟨g30, H⟩ := H
              refine q_gi rfl rfl rfl (by decide) rfl rfl ?_
              refine q_mul rfl ?_
              refine q_l rfl rfl rfl ?_
              obtain ⟨g31, H⟩ := H
              refine q_gi rfl rfl rfl (by decide) rfl rfl ?_
              refine q_add rfl ?_
              obtain ⟨h32, m32, R32, H⟩ := H
              refine q_iv rfl rfl rfl (fun S => S.t 58 rfl) (by decide) rfl R32 ?_
              refine q_b rfl rfl rfl rfl ?_
              obtain ⟨g33, H⟩ := H
              exact q_lab (K_Mo_execute_231 g33 g5 H) (lvS_cons rfl rfl (lvS_cons rfl rfl (lvS_cons rfl rfl lvS_nil)))
          · rw [if_neg c10] at H
            refine q_c rfl (by decide) g5 (rgk rfl) (q := false) (decide_eq_false c10) rfl ?_
            refine q_l rfl rfl rfl ?_
            refine q_l rfl rfl rfl ?_
            refine q_gr (t := 92) rfl rfl rfl (by decide) rfl ?_
            refine q_l rfl rfl rfl ?_
            refine q_l rfl rfl rfl ?_
            obtain ⟨v34, h34, m34, R34, w34, H⟩ := H
            refine q_iv rfl rfl rfl (fun S => S.t 58 rfl) (by decide) rfl R34 ?_
            obtain ⟨g35, H⟩ := H
            obtain ⟨z36, e37, H⟩ := H
            refine q_av rfl rfl (fun _ => rfl) rfl rfl g35 (by decide) e37 ?_
            obtain ⟨h38, m38, R38, H⟩ := H
            refine q_iv rfl rfl rfl (fun S => S.t 58 rfl) (by decide) rfl R38 ?_
            refine q_b rfl rfl rfl rfl ?_
            obtain ⟨g39, H⟩ := H
            exact q_lab (K_Mo_execute_231 g39 g5 H) (lvS_cons rfl rfl (lvS_cons rfl rfl (lvS_cons rfl rfl lvS_nil)))
        · rw [if_neg c9] at H
          refine q_c rfl (by decide) g5 (rgk rfl) (q := false) (decide_eq_false c9) rfl ?_
          refine q_l rfl rfl rfl ?_
          refine q_p rfl rfl rfl ?_
          refine q_l rfl rfl rfl ?_
          obtain ⟨h40, m40, R40, H⟩ := H
          refine q_iv rfl rfl rfl (fun S => S.t 58 rfl) (by decide) rfl R40 ?_
          refine q_b rfl rfl rfl rfl ?_
          obtain ⟨g41, H⟩ := H
          exact q_lab (K_Mo_execute_231 g41 g5 H) (lvS_cons rfl rfl (lvS_cons rfl rfl (lvS_cons rfl rfl lvS_nil)))
      · rw [if_neg c8] at H
        refine q_c rfl (by decide) g5 (rgk rfl) (q := false) (decide_eq_false c8) rfl ?_
        refine q_l rfl rfl rfl ?_
        refine q_p rfl rfl rfl ?_
        refine q_p rfl rfl rfl ?_
        obtain ⟨h42, m42, R42, H⟩ := H
        refine q_iv rfl rfl rfl (fun S => S.t 58 rfl) (by decide) rfl R42 ?_
        refine q_b rfl rfl rfl rfl ?_
        obtain ⟨g43, H⟩ := H
        exact q_lab (K_Mo_execute_231 g43 g5 H) (lvS_cons rfl rfl (lvS_cons rfl rfl (lvS_cons rfl rfl lvS_nil)))
    · rw [if_neg c7] at H
      refine q_c rfl (by decide) g5 (rgk rfl) (q := false) (decide_eq_false c7) rfl ?_
      refine q_l rfl rfl rfl ?_
      refine q_p rfl rfl rfl ?_
      refine q_l rfl rfl rfl ?_
      obtain ⟨h44, m44, R44, H⟩ := H
      refine q_iv rfl rfl rfl (fun S => S.t 58 rfl) (by decide) rfl R44 ?_
      refine q_b rfl rfl rfl rfl ?_
      obtain ⟨g45, H⟩ := H
      exact q_lab (K_Mo_execute_231 g45 g5 H) (lvS_cons rfl rfl (lvS_cons rfl rfl (lvS_cons rfl rfl lvS_nil)))
  · rw [if_neg c6] at H
    refine q_c rfl (by decide) g5 (rgk rfl) (q := false) (decide_eq_false c6) rfl ?_
    refine q_l rfl rfl rfl ?_
    refine q_p rfl rfl rfl ?_
    refine q_l rfl rfl rfl ?_
    obtain ⟨h46, m46, R46, H⟩ := H
    refine q_iv rfl rfl rfl (fun S => S.t 58 rfl) (by decide) rfl R46 ?_
    refine q_b rfl rfl rfl rfl ?_
    obtain ⟨g47, H⟩ := H
    exact q_lab (K_Mo_execute_231 g47 g5 H) (lvS_cons rfl rfl (lvS_cons rfl rfl (lvS_cons rfl rfl lvS_nil)))
def B_Mo_run (d : Nat) (x1 : Int) (h : mHp) (σ : Mem) (r : mRes) (h' : mHp) (σ' : Mem) : Prop := if x1 < 0 then (r = .inl (some (vi ((-1)))) ∧ h' = h ∧ σ' = mup σ 58 0 0) else (if x1 > 100 then (r = .inl (some (vi ((-1)))) ∧ h' = h ∧ σ' = mup σ 58 0 0) else ((rg ((mup σ 58 0 0) 58 65)) ∧ (if (mup σ 58 0 0) 58 65 = 1 then (Lh (d + 7) yMo_run 27 [(0, .ref 58), (1, vi x1), (2, vi 0)] [] h (mup σ 58 0 0) r h' σ') else (r = .inl (some (vi ((-1)))) ∧ h' = h ∧ σ' = mup σ 58 0 0))))
theorem M_Mo_run {d : Nat} {x1 : Int} {h h' : mHp} {σ σ' : Mem} {r : mRes} (hx1 : rg x1) (H : B_Mo_run d x1 h σ r h' σ') : Rh (d + 8) yMo_run [.ref 58, vi x1] h σ r h' σ' := by
  refine q_m (Nat.le_of_ble_eq_true rfl) ?_
  unfold B_Mo_run at H
  refine q_l rfl rfl rfl ?_
  refine q_p rfl rfl rfl ?_
  refine q_pi rfl rfl rfl (by decide) rfl rfl rfl rfl (rgk rfl) ?_
  refine q_l rfl rfl rfl ?_
  by_cases c1 : x1 < 0
  · rw [if_pos c1] at H
    refine q_z rfl (by decide) hx1 (q := true) (decide_eq_true c1) rfl ?_
    refine q_p rfl rfl rfl ?_
    obtain ⟨rfl, rfl, rfl⟩ := H
    exact q_r rfl rfl rfl
  · rw [if_neg c1] at H
    refine q_z rfl (by decide) hx1 (q := false) (decide_eq_false c1) rfl ?_
    refine q_l rfl rfl rfl ?_
    refine q_k (x := 100) rfl rfl rfl rfl ?_
    by_cases c2 : x1 > 100
    · rw [if_pos c2] at H
      refine q_c rfl (by decide) hx1 (rgk rfl) (q := true) (decide_eq_true c2) rfl ?_
      refine q_p rfl rfl rfl ?_
      obtain ⟨rfl, rfl, rfl⟩ := H
      exact q_r rfl rfl rfl
    · rw [if_neg c2] at H
      refine q_c rfl (by decide) hx1 (rgk rfl) (q := false) (decide_eq_false c2) rfl ?_
      refine q_l rfl rfl rfl ?_
      obtain ⟨g3, H⟩ := H
      refine q_gi rfl rfl rfl (by decide) rfl rfl ?_
      refine q_p rfl rfl rfl ?_
      by_cases c4 : (mup σ 58 0 0) 58 65 = 1
      · rw [if_pos c4] at H
        refine q_c rfl (by decide) g3 (rgk rfl) (q := true) (decide_eq_true c4) rfl ?_
        refine q_p rfl rfl rfl ?_
        refine q_l rfl rfl rfl ?_
        exact q_lab H (lvS_cons rfl rfl (lvS_cons rfl rfl (lvS_cons rfl rfl lvS_nil)))
      · rw [if_neg c4] at H
        refine q_c rfl (by decide) g3 (rgk rfl) (q := false) (decide_eq_false c4) rfl ?_
        refine q_p rfl rfl rfl ?_
        obtain ⟨rfl, rfl, rfl⟩ := H
        exact q_r rfl rfl rfl
def B_Mo_run_115 (d : Nat) (x1 : Int) (x2 : Int) (h : mHp) (σ : Mem) (r : mRes) (h' : mHp) (σ' : Mem) : Prop := ∃ h1 m1, Rh (d + 7) yMo_fail [.ref 58, vi 4] h σ (.inl none) h1 m1 ∧ (Lh (d + 7) yMo_run 27 [(0, .ref 58), (1, vi x1), (2, vi x2)] [] h1 m1 r h' σ')
theorem K_Mo_run_115 {d : Nat} {x1 : Int} {x2 : Int} {h h' : mHp} {σ σ' : Mem} {r : mRes} (hx1 : rg x1) (hx2 : rg x2) (H : B_Mo_run_115 d x1 x2 h σ r h' σ') : Lh (d + 7) yMo_run 115 [(0, .ref 58), (1, vi x1), (2, vi x2)] [] h σ r h' σ' := by
  unfold B_Mo_run_115 at H
  refine q_l rfl rfl rfl ?_
  refine q_p rfl rfl rfl ?_
  obtain ⟨h1, m1, R1, H⟩ := H
  refine q_iv rfl rfl rfl (fun S => S.t 58 rfl) (by decide) rfl R1 ?_
  refine q_b rfl rfl rfl rfl ?_
  exact q_lab H (lvS_cons rfl rfl (lvS_cons rfl rfl (lvS_cons rfl rfl lvS_nil)))
def B_Mo_run_47 (d : Nat) (x1 : Int) (x2 : Int) (h : mHp) (σ : Mem) (r : mRes) (h' : mHp) (σ' : Mem) : Prop := (rg (σ 58 64)) ∧ ((rg (σ 58 11)) ∧ (if σ 58 64 ≠ σ 58 11 then (∃ (v4 : Int) (h4 : mHp) (m4 : Mem), Rh (d + 7) yMo_stepIsDue [.ref 58] h σ (.inl (some (vi v4))) h4 m4 ∧ rg v4 ∧ (if v4 ≠ 0 then ((rg (m4 58 67)) ∧ (if m4 58 67 = 500 then (B_Mo_run_115 d x1 x2 h4 m4 r h' σ') else ((rg (m4 58 68)) ∧ (if m4 58 68 ≠ 1000 then ((rg ((m4 58 67) + 1)) ∧ ((rg ((mup m4 58 67 ((m4 58 67) + 1)) 58 68)) ∧ ((rg (((mup m4 58 67 ((m4 58 67) + 1)) 58 68) + 1)) ∧ (∃ h13 m13, Rh (d + 7) yMo_execute [.ref 58] h4 (mup (mup m4 58 67 ((m4 58 67) + 1)) 58 68 (((mup m4 58 67 ((m4 58 67) + 1)) 58 68) + 1)) (.inl none) h13 m13 ∧ ((rg (x2 + 1)) ∧ (Lh (d + 7) yMo_run 27 [(0, .ref 58), (1, vi x1), (2, vi (x2 + 1))] [] h13 m13 r h' σ')))))) else (B_Mo_run_115 d x1 x2 h4 m4 r h' σ'))))) else (∃ h15 m15, Rh (d + 7) yMo_execute [.ref 58] h4 m4 (.inl none) h15 m15 ∧ (Lh (d + 7) yMo_run 27 [(0, .ref 58), (1, vi x1), (2, vi x2)] [] h15 m15 r h' σ')))) else (((0 : Int) ≤ 0 ∧ 0 < (200 : Int)) ∧ (∃ z17, hAt h 89 (0 : Int).toNat = vlg z17 ∧ (Lh (d + 7) yMo_run 27 [(0, .ref 58), (1, vi x1), (2, vi x2)] [] (hSet h 58 69 (vlg z17)) (mup (mup σ 58 65 2) 58 70 0) r h' σ')))))
theorem K_Mo_run_47 {d : Nat} {x1 : Int} {x2 : Int} {h h' : mHp} {σ σ' : Mem} {r : mRes} (hx1 : rg x1) (hx2 : rg x2) (H : B_Mo_run_47 d x1 x2 h σ r h' σ') : Lh (d + 7) yMo_run 47 [(0, .ref 58), (1, vi x1), (2, vi x2)] [] h σ r h' σ' := by
  unfold B_Mo_run_47 at H
  refine q_l rfl rfl rfl ?_
  obtain ⟨g1, H⟩ := H
  refine q_gi rfl rfl rfl (by decide) rfl rfl ?_
  refine q_l rfl rfl rfl ?_
  obtain ⟨g2, H⟩ := H
  refine q_gi rfl rfl rfl (by decide) rfl rfl ?_
  by_cases c3 : σ 58 64 ≠ σ 58 11
  · rw [if_pos c3] at H
    refine q_c rfl (by decide) g1 g2 (q := true) (decide_eq_true c3) rfl ?_
    refine q_l rfl rfl rfl ?_
    obtain ⟨v4, h4, m4, R4, w4, H⟩ := H
    refine q_iv rfl rfl rfl (fun S => S.t 58 rfl) (by decide) rfl R4 ?_
    by_cases c5 : v4 ≠ 0
    · rw [if_pos c5] at H
      refine q_z rfl (by decide) w4 (q := true) (decide_eq_true c5) rfl ?_
      refine q_l rfl rfl rfl ?_
      obtain ⟨g6, H⟩ := H
      refine q_gi rfl rfl rfl (by decide) rfl rfl ?_
      refine q_k (x := 500) rfl rfl rfl rfl ?_
      by_cases c7 : m4 58 67 = 500
      · rw [if_pos c7] at H
        refine q_c rfl (by decide) g6 (rgk rfl) (q := true) (decide_eq_true c7) rfl ?_
        exact q_lab (K_Mo_run_115 hx1 hx2 H) (lvS_cons rfl rfl (lvS_cons rfl rfl (lvS_cons rfl rfl lvS_nil)))
      · rw [if_neg c7] at H
        refine q_c rfl (by decide) g6 (rgk rfl) (q := false) (decide_eq_false c7) rfl ?_
        refine q_l rfl rfl rfl ?_
        obtain ⟨g8, H⟩ := H
        refine q_gi rfl rfl rfl (by decide) rfl rfl ?_
        refine q_k (x := 1000) rfl rfl rfl rfl ?_
        by_cases c9 : m4 58 68 ≠ 1000
        · rw [if_pos c9] at H
          refine q_c rfl (by decide) g8 (rgk rfl) (q := true) (decide_eq_true c9) rfl ?_
          refine q_inc (z := x2) rfl rfl (by decide) ?_
          refine q_l rfl rfl rfl ?_
          refine q_p rfl rfl rfl ?_
          refine q_gi rfl rfl rfl (by decide) rfl rfl ?_
          refine q_p rfl rfl rfl ?_
          refine q_add rfl ?_
          obtain ⟨g10, H⟩ := H
          refine q_pi rfl rfl rfl (by decide) rfl rfl rfl rfl g10 ?_
          refine q_l rfl rfl rfl ?_
          refine q_p rfl rfl rfl ?_
          obtain ⟨g11, H⟩ := H
          refine q_gi rfl rfl rfl (by decide) rfl rfl ?_
          refine q_p rfl rfl rfl ?_
          refine q_add rfl ?_
          obtain ⟨g12, H⟩ := H
          refine q_pi rfl rfl rfl (by decide) rfl rfl rfl rfl g12 ?_
          refine q_l rfl rfl rfl ?_
          obtain ⟨h13, m13, R13, H⟩ := H
          refine q_iv rfl rfl rfl (fun S => S.t 58 rfl) (by decide) rfl R13 ?_
          refine q_b rfl rfl rfl rfl ?_
          obtain ⟨g14, H⟩ := H
          exact q_lab H (lvS_cons rfl rfl (lvS_cons rfl rfl (lvS_cons rfl rfl lvS_nil)))
        · rw [if_neg c9] at H
          refine q_c rfl (by decide) g8 (rgk rfl) (q := false) (decide_eq_false c9) rfl ?_
          exact q_lab (K_Mo_run_115 hx1 hx2 H) (lvS_cons rfl rfl (lvS_cons rfl rfl (lvS_cons rfl rfl lvS_nil)))
    · rw [if_neg c5] at H
      refine q_z rfl (by decide) w4 (q := false) (decide_eq_false c5) rfl ?_
      refine q_l rfl rfl rfl ?_
      obtain ⟨h15, m15, R15, H⟩ := H
      refine q_iv rfl rfl rfl (fun S => S.t 58 rfl) (by decide) rfl R15 ?_
      refine q_b rfl rfl rfl rfl ?_
      exact q_lab H (lvS_cons rfl rfl (lvS_cons rfl rfl (lvS_cons rfl rfl lvS_nil)))
  · rw [if_neg c3] at H
    refine q_c rfl (by decide) g1 g2 (q := false) (decide_eq_false c3) rfl ?_
    refine q_l rfl rfl rfl ?_
    refine q_p rfl rfl rfl ?_
    refine q_pi rfl rfl rfl (by decide) rfl rfl rfl rfl (rgk rfl) ?_
    refine q_l rfl rfl rfl ?_
    refine q_l rfl rfl rfl ?_
    refine q_gr (t := 89) rfl rfl rfl (by decide) rfl ?_
    refine q_p rfl rfl rfl ?_
    obtain ⟨g16, H⟩ := H
    obtain ⟨z17, e18, H⟩ := H
    refine q_av rfl rfl (fun _ => rfl) rfl rfl g16 (by decide) e18 ?_
    refine q_pv rfl rfl rfl (by decide) rfl rfl rfl rfl rfl ?_
    refine q_l rfl rfl rfl ?_
    refine q_p rfl rfl rfl ?_
    refine q_pi rfl rfl rfl (by decide) rfl rfl rfl rfl (rgk rfl) ?_
    refine q_b rfl rfl rfl rfl ?_
    exact q_lab H (lvS_cons rfl rfl (lvS_cons rfl rfl (lvS_cons rfl rfl lvS_nil)))
def B_Mo_run_27 (d : Nat) (x1 : Int) (x2 : Int) (h : mHp) (σ : Mem) (r : mRes) (h' : mHp) (σ' : Mem) : Prop := (rg (σ 58 65)) ∧ (if σ 58 65 ≠ 1 then (r = .inl (some (vi x2)) ∧ h' = h ∧ σ' = σ) else (if x2 < x1 then (B_Mo_run_47 d x1 x2 h σ r h' σ') else (∃ (v4 : Int) (h4 : mHp) (m4 : Mem), Rh (d + 7) yMo_stepIsDue [.ref 58] h σ (.inl (some (vi v4))) h4 m4 ∧ rg v4 ∧ (if v4 ≠ 0 then (r = .inl (some (vi x2)) ∧ h' = h4 ∧ σ' = m4) else (B_Mo_run_47 d x1 x2 h4 m4 r h' σ')))))
theorem K_Mo_run_27 {d : Nat} {x1 : Int} {x2 : Int} {h h' : mHp} {σ σ' : Mem} {r : mRes} (hx1 : rg x1) (hx2 : rg x2) (H : B_Mo_run_27 d x1 x2 h σ r h' σ') : Lh (d + 7) yMo_run 27 [(0, .ref 58), (1, vi x1), (2, vi x2)] [] h σ r h' σ' := by
  unfold B_Mo_run_27 at H
  refine q_l rfl rfl rfl ?_
  obtain ⟨g1, H⟩ := H
  refine q_gi rfl rfl rfl (by decide) rfl rfl ?_
  refine q_p rfl rfl rfl ?_
  by_cases c2 : σ 58 65 ≠ 1
  · rw [if_pos c2] at H
    refine q_c rfl (by decide) g1 (rgk rfl) (q := true) (decide_eq_true c2) rfl ?_
    refine q_l rfl rfl rfl ?_
    obtain ⟨rfl, rfl, rfl⟩ := H
    exact q_r rfl rfl rfl
  · rw [if_neg c2] at H
    refine q_c rfl (by decide) g1 (rgk rfl) (q := false) (decide_eq_false c2) rfl ?_
    refine q_l rfl rfl rfl ?_
    refine q_l rfl rfl rfl ?_
    by_cases c3 : x2 < x1
    · rw [if_pos c3] at H
      refine q_c rfl (by decide) hx2 hx1 (q := true) (decide_eq_true c3) rfl ?_
      exact q_lab (K_Mo_run_47 hx1 hx2 H) (lvS_cons rfl rfl (lvS_cons rfl rfl (lvS_cons rfl rfl lvS_nil)))
    · rw [if_neg c3] at H
      refine q_c rfl (by decide) hx2 hx1 (q := false) (decide_eq_false c3) rfl ?_
      refine q_l rfl rfl rfl ?_
      obtain ⟨v4, h4, m4, R4, w4, H⟩ := H
      refine q_iv rfl rfl rfl (fun S => S.t 58 rfl) (by decide) rfl R4 ?_
      by_cases c5 : v4 ≠ 0
      · rw [if_pos c5] at H
        refine q_z rfl (by decide) w4 (q := true) (decide_eq_true c5) rfl ?_
        refine q_l rfl rfl rfl ?_
        obtain ⟨rfl, rfl, rfl⟩ := H
        exact q_r rfl rfl rfl
      · rw [if_neg c5] at H
        refine q_z rfl (by decide) w4 (q := false) (decide_eq_false c5) rfl ?_
        exact q_lab (K_Mo_run_47 hx1 hx2 H) (lvS_cons rfl rfl (lvS_cons rfl rfl (lvS_cons rfl rfl lvS_nil)))
def B_Mo_items (d : Nat) (x1 : Int) (h : mHp) (σ : Mem) (r : mRes) (h' : mHp) (σ' : Mem) : Prop := Lh (d + 2) yMo_items 5 [(0, .ref 58), (3, vi 0), (4, vlg x1)] [] h σ r h' σ'
theorem M_Mo_items {d : Nat} {x1 : Int} {h h' : mHp} {σ σ' : Mem} {r : mRes}  (H : B_Mo_items d x1 h σ r h' σ') : Rh (d + 3) yMo_items [.ref 58, vlg x1] h σ r h' σ' := by
  refine q_m (Nat.le_of_ble_eq_true rfl) ?_
  unfold B_Mo_items at H
  refine q_p rfl rfl rfl ?_
  refine q_l rfl rfl rfl ?_
  refine q_l rfl rfl rfl ?_
  refine q_l rfl rfl rfl ?_
  exact q_lab H (lvS_cons rfl rfl (lvS_cons rfl rfl (lvS_cons rfl rfl lvS_nil)))
def B_Mo_items_5 (d : Nat) (x3 : Int) (x4 : Int) (h : mHp) (σ : Mem) (r : mRes) (h' : mHp) (σ' : Mem) : Prop := ∃ (v1 : Int) (h1 : mHp) (m1 : Mem), Rh (d + 2) yMo_kind [vlg x4] h σ (.inl (some (vi v1))) h1 m1 ∧ rg v1 ∧ (if v1 ≠ 4 then (r = .inl (some (vi x3)) ∧ h' = h1 ∧ σ' = m1) else (∃ (v3 : Int) (h3 : mHp) (m3 : Mem), Rh (d + 2) yMo_told [vlg x4] h1 m1 (.inl (some (vi v3))) h3 m3 ∧ rg v3 ∧ (((0 : Int) ≤ v3 ∧ v3 < (502 : Int)) ∧ (∃ z5, hAt h3 95 (v3 : Int).toNat = vlg z5 ∧ ((rg (x3 + 1)) ∧ (Lh (d + 2) yMo_items 5 [(0, .ref 58), (3, vi (x3 + 1)), (4, vlg z5)] [] h3 m3 r h' σ'))))))
theorem K_Mo_items_5 {d : Nat} {x3 : Int} {x4 : Int} {h h' : mHp} {σ σ' : Mem} {r : mRes} (hx3 : rg x3) (H : B_Mo_items_5 d x3 x4 h σ r h' σ') : Lh (d + 2) yMo_items 5 [(0, .ref 58), (3, vi x3), (4, vlg x4)] [] h σ r h' σ' := by
  unfold B_Mo_items_5 at H
  refine q_l rfl rfl rfl ?_
  obtain ⟨v1, h1, m1, R1, w1, H⟩ := H
  refine q_is rfl (by decide) (Nat.le_of_ble_eq_true rfl) rfl rfl rfl R1 ?_
  refine q_p rfl rfl rfl ?_
  by_cases c2 : v1 ≠ 4
  · rw [if_pos c2] at H
    refine q_c rfl (by decide) w1 (rgk rfl) (q := true) (decide_eq_true c2) rfl ?_
    refine q_l rfl rfl rfl ?_
    obtain ⟨rfl, rfl, rfl⟩ := H
    exact q_r rfl rfl rfl
  · rw [if_neg c2] at H
    refine q_c rfl (by decide) w1 (rgk rfl) (q := false) (decide_eq_false c2) rfl ?_
    refine q_l rfl rfl rfl ?_
    refine q_gr (t := 95) rfl rfl rfl (by decide) rfl ?_
    refine q_l rfl rfl rfl ?_
    obtain ⟨v3, h3, m3, R3, w3, H⟩ := H
    refine q_is rfl (by decide) (Nat.le_of_ble_eq_true rfl) rfl rfl rfl R3 ?_
    obtain ⟨g4, H⟩ := H
    obtain ⟨z5, e6, H⟩ := H
    refine q_av rfl rfl (fun _ => rfl) rfl rfl g4 (by decide) e6 ?_
    refine q_l rfl rfl rfl ?_
    refine q_inc (z := x3) rfl rfl (by decide) ?_
    refine q_b rfl rfl rfl rfl ?_
    obtain ⟨g7, H⟩ := H
    exact q_lab H (lvS_cons rfl rfl (lvS_cons rfl rfl (lvS_cons rfl rfl lvS_nil)))
def B_Mo_value_27 (d : Nat) (x1 : Int) (t1 : Int) (h : mHp) (σ : Mem) (r : mRes) (h' : mHp) (σ' : Mem) : Prop := (rg ((mup σ 58 0 t1) 58 0)) ∧ (if (mup σ 58 0 t1) 58 0 ≤ 0 then (∃ z3, hAt h 58 69 = vlg z3 ∧ (∃ (v5 : Int) (h5 : mHp) (m5 : Mem), Rh (d + 3) yMo_kind [vlg z3] h (mup σ 58 0 t1) (.inl (some (vi v5))) h5 m5 ∧ rg v5 ∧ (if x1 ≤ 0 then (if v5 ≠ 0 then (if v5 ≥ 3 then (if v5 ≥ 5 then (r = .inl (some (vi 4)) ∧ h' = h5 ∧ σ' = m5) else (r = .inl (some (vi 3)) ∧ h' = h5 ∧ σ' = m5)) else (r = .inl (some (vi 2)) ∧ h' = h5 ∧ σ' = m5)) else ((rg (m5 58 70)) ∧ (((0 : Int) ≤ m5 58 70 ∧ m5 58 70 < (80 : Int)) ∧ ((rg (m5 88 (m5 58 70))) ∧ (if m5 88 (m5 58 70) ≠ 98 then (r = .inl (some (vi 0)) ∧ h' = h5 ∧ σ' = m5) else (r = .inl (some (vi 1)) ∧ h' = h5 ∧ σ' = m5)))))) else (if x1 ≠ 2 then (if v5 ≠ 0 then (r = .inl (some (vi 0)) ∧ h' = h5 ∧ σ' = m5) else (∃ z16, hAt h5 58 69 = vlg z16 ∧ (∃ (v18 : Int) (h18 : mHp) (m18 : Mem), Rh (d + 3) yMo_told [vlg z16] h5 m5 (.inl (some (vi v18))) h18 m18 ∧ rg v18 ∧ (r = .inl (some (vi v18)) ∧ h' = h18 ∧ σ' = m18)))) else (∃ z19, hAt h5 58 69 = vlg z19 ∧ (∃ (v21 : Int) (h21 : mHp) (m21 : Mem), Rh (d + 3) yMo_items [.ref 58, vlg z19] h5 m5 (.inl (some (vi v21))) h21 m21 ∧ rg v21 ∧ (r = .inl (some (vi v21)) ∧ h' = h21 ∧ σ' = m21))))))) else (r = .inl (some (vi 0)) ∧ h' = h ∧ σ' = mup σ 58 0 t1))
theorem K_Mo_value_27 {d : Nat} {x1 : Int} {t1 : Int} {h h' : mHp} {σ σ' : Mem} {r : mRes} (hx1 : rg x1) (ht1 : rg t1) (H : B_Mo_value_27 d x1 t1 h σ r h' σ') : Lh (d + 3) yMo_value 27 [(0, .ref 58), (1, vi x1)] [vi t1, .ref 58] h σ r h' σ' := by
  unfold B_Mo_value_27 at H
  refine q_pi rfl rfl rfl (by decide) rfl rfl rfl rfl ht1 ?_
  refine q_l rfl rfl rfl ?_
  obtain ⟨g1, H⟩ := H
  refine q_gi rfl rfl rfl (by decide) rfl rfl ?_
  by_cases c2 : (mup σ 58 0 t1) 58 0 ≤ 0
  · rw [if_pos c2] at H
    refine q_z rfl (by decide) g1 (q := true) (decide_eq_true c2) rfl ?_
    refine q_l rfl rfl rfl ?_
    obtain ⟨z3, e4, H⟩ := H
    refine q_gv rfl rfl rfl (by decide) rfl e4 ?_
    obtain ⟨v5, h5, m5, R5, w5, H⟩ := H
    refine q_is rfl (by decide) (Nat.le_of_ble_eq_true rfl) rfl rfl rfl R5 ?_
    refine q_l rfl rfl rfl ?_
    refine q_l rfl rfl rfl ?_
    by_cases c6 : x1 ≤ 0
    · rw [if_pos c6] at H
      refine q_z rfl (by decide) hx1 (q := true) (decide_eq_true c6) rfl ?_
      refine q_l rfl rfl rfl ?_
      by_cases c7 : v5 ≠ 0
      · rw [if_pos c7] at H
        refine q_z rfl (by decide) w5 (q := true) (decide_eq_true c7) rfl ?_
        refine q_l rfl rfl rfl ?_
        refine q_p rfl rfl rfl ?_
        by_cases c8 : v5 ≥ 3
        · rw [if_pos c8] at H
          refine q_c rfl (by decide) w5 (rgk rfl) (q := true) (decide_eq_true c8) rfl ?_
          refine q_l rfl rfl rfl ?_
          refine q_p rfl rfl rfl ?_
          by_cases c9 : v5 ≥ 5
          · rw [if_pos c9] at H
            refine q_c rfl (by decide) w5 (rgk rfl) (q := true) (decide_eq_true c9) rfl ?_
            refine q_p rfl rfl rfl ?_
            obtain ⟨rfl, rfl, rfl⟩ := H
            exact q_r rfl rfl rfl
          · rw [if_neg c9] at H
            refine q_c rfl (by decide) w5 (rgk rfl) (q := false) (decide_eq_false c9) rfl ?_
            refine q_p rfl rfl rfl ?_
            refine q_b rfl rfl rfl rfl ?_
            obtain ⟨rfl, rfl, rfl⟩ := H
            exact q_r rfl rfl rfl
        · rw [if_neg c8] at H
          refine q_c rfl (by decide) w5 (rgk rfl) (q := false) (decide_eq_false c8) rfl ?_
          refine q_p rfl rfl rfl ?_
          refine q_b rfl rfl rfl rfl ?_
          obtain ⟨rfl, rfl, rfl⟩ := H
          exact q_r rfl rfl rfl
      · rw [if_neg c7] at H
        refine q_z rfl (by decide) w5 (q := false) (decide_eq_false c7) rfl ?_
        refine q_l rfl rfl rfl ?_
        refine q_gr (t := 88) rfl rfl rfl (by decide) rfl ?_
        refine q_l rfl rfl rfl ?_
        obtain ⟨g10, H⟩ := H
        refine q_gi rfl rfl rfl (by decide) rfl rfl ?_
        obtain ⟨g11, H⟩ := H
        refine q_al rfl rfl (fun _ => rfl) rfl rfl g11 (by decide) rfl ?_
        refine q_k (x := 98) rfl rfl rfl rfl ?_
        obtain ⟨g12, H⟩ := H
        by_cases c13 : m5 88 (m5 58 70) ≠ 98
        · rw [if_pos c13] at H
          refine q_c rfl (by decide) g12 (rgk rfl) (q := true) (decide_eq_true c13) rfl ?_
          refine q_p rfl rfl rfl ?_
          refine q_b rfl rfl rfl rfl ?_
          obtain ⟨rfl, rfl, rfl⟩ := H
          exact q_r rfl rfl rfl
        · rw [if_neg c13] at H
          refine q_c rfl (by decide) g12 (rgk rfl) (q := false) (decide_eq_false c13) rfl ?_
          refine q_p rfl rfl rfl ?_
          refine q_b rfl rfl rfl rfl ?_
          obtain ⟨rfl, rfl, rfl⟩ := H
          exact q_r rfl rfl rfl
    · rw [if_neg c6] at H
      refine q_z rfl (by decide) hx1 (q := false) (decide_eq_false c6) rfl ?_
      refine q_l rfl rfl rfl ?_
      refine q_p rfl rfl rfl ?_
      by_cases c14 : x1 ≠ 2
      · rw [if_pos c14] at H
        refine q_c rfl (by decide) hx1 (rgk rfl) (q := true) (decide_eq_true c14) rfl ?_
        refine q_l rfl rfl rfl ?_
        by_cases c15 : v5 ≠ 0
        · rw [if_pos c15] at H
          refine q_z rfl (by decide) w5 (q := true) (decide_eq_true c15) rfl ?_
          refine q_p rfl rfl rfl ?_
          obtain ⟨rfl, rfl, rfl⟩ := H
          exact q_r rfl rfl rfl
        · rw [if_neg c15] at H
          refine q_z rfl (by decide) w5 (q := false) (decide_eq_false c15) rfl ?_
          refine q_l rfl rfl rfl ?_
          obtain ⟨z16, e17, H⟩ := H
          refine q_gv rfl rfl rfl (by decide) rfl e17 ?_
          obtain ⟨v18, h18, m18, R18, w18, H⟩ := H
          refine q_is rfl (by decide) (Nat.le_of_ble_eq_true rfl) rfl rfl rfl R18 ?_
          refine q_b rfl rfl rfl rfl ?_
          obtain ⟨rfl, rfl, rfl⟩ := H
          exact q_r rfl rfl rfl
      · rw [if_neg c14] at H
        refine q_c rfl (by decide) hx1 (rgk rfl) (q := false) (decide_eq_false c14) rfl ?_
        refine q_l rfl rfl rfl ?_
        refine q_l rfl rfl rfl ?_
        obtain ⟨z19, e20, H⟩ := H
        refine q_gv rfl rfl rfl (by decide) rfl e20 ?_
        obtain ⟨v21, h21, m21, R21, w21, H⟩ := H
        refine q_iv rfl rfl rfl (fun S => S.t 58 rfl) (by decide) rfl R21 ?_
        refine q_b rfl rfl rfl rfl ?_
        obtain ⟨rfl, rfl, rfl⟩ := H
        exact q_r rfl rfl rfl
  · rw [if_neg c2] at H
    refine q_z rfl (by decide) g1 (q := false) (decide_eq_false c2) rfl ?_
    refine q_p rfl rfl rfl ?_
    obtain ⟨rfl, rfl, rfl⟩ := H
    exact q_r rfl rfl rfl
def B_Mo_value_22 (d : Nat) (x1 : Int) (h : mHp) (σ : Mem) (r : mRes) (h' : mHp) (σ' : Mem) : Prop := B_Mo_value_27 d x1 2 h σ r h' σ'
theorem K_Mo_value_22 {d : Nat} {x1 : Int} {h h' : mHp} {σ σ' : Mem} {r : mRes} (hx1 : rg x1) (H : B_Mo_value_22 d x1 h σ r h' σ') : Lh (d + 3) yMo_value 22 [(0, .ref 58), (1, vi x1)] [.ref 58] h σ r h' σ' := by
  unfold B_Mo_value_22 at H
  refine q_p rfl rfl rfl ?_
  refine q_b rfl rfl rfl rfl ?_
  exact q_lab (K_Mo_value_27 hx1 (rgk rfl) H) (lvS_cons rfl rfl (lvS_cons rfl rfl lvS_nil))
def B_Mo_value (d : Nat) (x1 : Int) (h : mHp) (σ : Mem) (r : mRes) (h' : mHp) (σ' : Mem) : Prop := (rg (σ 58 65)) ∧ (if σ 58 65 = 2 then (if x1 < 0 then (B_Mo_value_22 d x1 h σ r h' σ') else (if x1 ≤ 2 then (B_Mo_value_27 d x1 0 h σ r h' σ') else (B_Mo_value_22 d x1 h σ r h' σ'))) else (B_Mo_value_27 d x1 1 h σ r h' σ'))
theorem M_Mo_value {d : Nat} {x1 : Int} {h h' : mHp} {σ σ' : Mem} {r : mRes} (hx1 : rg x1) (H : B_Mo_value d x1 h σ r h' σ') : Rh (d + 4) yMo_value [.ref 58, vi x1] h σ r h' σ' := by
  refine q_m (Nat.le_of_ble_eq_true rfl) ?_
  unfold B_Mo_value at H
  refine q_l rfl rfl rfl ?_
  refine q_l rfl rfl rfl ?_
  obtain ⟨g1, H⟩ := H
  refine q_gi rfl rfl rfl (by decide) rfl rfl ?_
  refine q_p rfl rfl rfl ?_
  by_cases c2 : σ 58 65 = 2
  · rw [if_pos c2] at H
    refine q_c rfl (by decide) g1 (rgk rfl) (q := true) (decide_eq_true c2) rfl ?_
    refine q_l rfl rfl rfl ?_
    by_cases c3 : x1 < 0
    · rw [if_pos c3] at H
      refine q_z rfl (by decide) hx1 (q := true) (decide_eq_true c3) rfl ?_
      exact q_lab (K_Mo_value_22 hx1 H) (lvS_cons rfl rfl (lvS_cons rfl rfl lvS_nil))
    · rw [if_neg c3] at H
      refine q_z rfl (by decide) hx1 (q := false) (decide_eq_false c3) rfl ?_
      refine q_l rfl rfl rfl ?_
      refine q_p rfl rfl rfl ?_
      by_cases c4 : x1 ≤ 2
      · rw [if_pos c4] at H
        refine q_c rfl (by decide) hx1 (rgk rfl) (q := true) (decide_eq_true c4) rfl ?_
        refine q_p rfl rfl rfl ?_
        exact q_lab (K_Mo_value_27 hx1 (rgk rfl) H) (lvS_cons rfl rfl (lvS_cons rfl rfl lvS_nil))
      · rw [if_neg c4] at H
        refine q_c rfl (by decide) hx1 (rgk rfl) (q := false) (decide_eq_false c4) rfl ?_
        exact q_lab (K_Mo_value_22 hx1 H) (lvS_cons rfl rfl (lvS_cons rfl rfl lvS_nil))
  · rw [if_neg c2] at H
    refine q_c rfl (by decide) g1 (rgk rfl) (q := false) (decide_eq_false c2) rfl ?_
    refine q_p rfl rfl rfl ?_
    refine q_b rfl rfl rfl rfl ?_
    exact q_lab (K_Mo_value_27 hx1 (rgk rfl) H) (lvS_cons rfl rfl (lvS_cons rfl rfl lvS_nil))
def B_Mo_real_14 (d : Nat) (t1 : Int) (h : mHp) (σ : Mem) (r : mRes) (h' : mHp) (σ' : Mem) : Prop := (rg ((mup σ 58 0 t1) 58 0)) ∧ (if (mup σ 58 0 t1) 58 0 ≠ 0 then (r = .inl (some (.double (FP.dconst0))) ∧ h' = h ∧ σ' = mup σ 58 0 t1) else (∃ z3, hAt h 58 69 = vlg z3 ∧ (∃ (v5 : UInt64) (h5 : mHp) (m5 : Mem), Rh (d + 3) yMo_realOf [.ref 58, vlg z3] h (mup σ 58 0 t1) (.inl (some (.double v5))) h5 m5 ∧ (r = .inl (some (.double v5)) ∧ h' = h5 ∧ σ' = m5))))
theorem K_Mo_real_14 {d : Nat} {t1 : Int} {h h' : mHp} {σ σ' : Mem} {r : mRes} (ht1 : rg t1) (H : B_Mo_real_14 d t1 h σ r h' σ') : Lh (d + 3) yMo_real 14 [(0, .ref 58)] [vi t1, .ref 58] h σ r h' σ' := by
  unfold B_Mo_real_14 at H
  refine q_pi rfl rfl rfl (by decide) rfl rfl rfl rfl ht1 ?_
  refine q_l rfl rfl rfl ?_
  obtain ⟨g1, H⟩ := H
  refine q_gi rfl rfl rfl (by decide) rfl rfl ?_
  by_cases c2 : (mup σ 58 0 t1) 58 0 ≠ 0
  · rw [if_pos c2] at H
    refine q_z rfl (by decide) g1 (q := true) (decide_eq_true c2) rfl ?_
    refine q_p rfl rfl rfl ?_
    obtain ⟨rfl, rfl, rfl⟩ := H
    exact q_r rfl rfl rfl
  · rw [if_neg c2] at H
    refine q_z rfl (by decide) g1 (q := false) (decide_eq_false c2) rfl ?_
    refine q_l rfl rfl rfl ?_
    refine q_l rfl rfl rfl ?_
    obtain ⟨z3, e4, H⟩ := H
    refine q_gv rfl rfl rfl (by decide) rfl e4 ?_
    obtain ⟨v5, h5, m5, R5, H⟩ := H
    refine q_iv rfl rfl rfl (fun S => S.t 58 rfl) (by decide) rfl R5 ?_
    refine q_b rfl rfl rfl rfl ?_
    obtain ⟨rfl, rfl, rfl⟩ := H
    exact q_r rfl rfl rfl
def B_Mo_real (d : Nat)  (h : mHp) (σ : Mem) (r : mRes) (h' : mHp) (σ' : Mem) : Prop := (rg (σ 58 65)) ∧ (if σ 58 65 = 2 then (B_Mo_real_14 d 0 h σ r h' σ') else (B_Mo_real_14 d 1 h σ r h' σ'))
theorem M_Mo_real {d : Nat}  {h h' : mHp} {σ σ' : Mem} {r : mRes}  (H : B_Mo_real d  h σ r h' σ') : Rh (d + 4) yMo_real [.ref 58] h σ r h' σ' := by
  refine q_m (Nat.le_of_ble_eq_true rfl) ?_
  unfold B_Mo_real at H
  refine q_l rfl rfl rfl ?_
  refine q_l rfl rfl rfl ?_
  obtain ⟨g1, H⟩ := H
  refine q_gi rfl rfl rfl (by decide) rfl rfl ?_
  refine q_p rfl rfl rfl ?_
  by_cases c2 : σ 58 65 = 2
  · rw [if_pos c2] at H
    refine q_c rfl (by decide) g1 (rgk rfl) (q := true) (decide_eq_true c2) rfl ?_
    refine q_p rfl rfl rfl ?_
    exact q_lab (K_Mo_real_14 (rgk rfl) H) (lvS_cons rfl rfl lvS_nil)
  · rw [if_neg c2] at H
    refine q_c rfl (by decide) g1 (rgk rfl) (q := false) (decide_eq_false c2) rfl ?_
    refine q_p rfl rfl rfl ?_
    refine q_b rfl rfl rfl rfl ?_
    exact q_lab (K_Mo_real_14 (rgk rfl) H) (lvS_cons rfl rfl lvS_nil)
def B_Mo_item_34 (d : Nat) (x1 : Int) (t1 : Int) (h : mHp) (σ : Mem) (r : mRes) (h' : mHp) (σ' : Mem) : Prop := (rg ((mup σ 58 0 t1) 58 0)) ∧ (if (mup σ 58 0 t1) 58 0 ≤ 0 then (∃ z3, hAt h 58 69 = vlg z3 ∧ (Lh (d + 3) yMo_item 53 [(0, .ref 58), (1, vi x1), (2, vlg z3), (4, vi 0)] [] h (mup σ 58 0 t1) r h' σ')) else (r = .inl none ∧ h' = h ∧ σ' = mup σ 58 0 t1))
theorem K_Mo_item_34 {d : Nat} {x1 : Int} {t1 : Int} {h h' : mHp} {σ σ' : Mem} {r : mRes} (hx1 : rg x1) (ht1 : rg t1) (H : B_Mo_item_34 d x1 t1 h σ r h' σ') : Lh (d + 3) yMo_item 34 [(0, .ref 58), (1, vi x1)] [vi t1, .ref 58] h σ r h' σ' := by
  unfold B_Mo_item_34 at H
  refine q_pi rfl rfl rfl (by decide) rfl rfl rfl rfl ht1 ?_
  refine q_l rfl rfl rfl ?_
  obtain ⟨g1, H⟩ := H
  refine q_gi rfl rfl rfl (by decide) rfl rfl ?_
  by_cases c2 : (mup σ 58 0 t1) 58 0 ≤ 0
  · rw [if_pos c2] at H
    refine q_z rfl (by decide) g1 (q := true) (decide_eq_true c2) rfl ?_
    refine q_l rfl rfl rfl ?_
    obtain ⟨z3, e4, H⟩ := H
    refine q_gv rfl rfl rfl (by decide) rfl e4 ?_
    refine q_l rfl rfl rfl ?_
    refine q_p rfl rfl rfl ?_
    refine q_l rfl rfl rfl ?_
    exact q_lab H (lvS_cons rfl rfl (lvS_cons rfl rfl (lvS_cons rfl rfl (lvS_cons rfl rfl lvS_nil))))
  · rw [if_neg c2] at H
    refine q_z rfl (by decide) g1 (q := false) (decide_eq_false c2) rfl ?_
    obtain ⟨rfl, rfl, rfl⟩ := H
    exact q_r rfl rfl rfl
def B_Mo_item_29 (d : Nat) (x1 : Int) (h : mHp) (σ : Mem) (r : mRes) (h' : mHp) (σ' : Mem) : Prop := B_Mo_item_34 d x1 2 h σ r h' σ'
theorem K_Mo_item_29 {d : Nat} {x1 : Int} {h h' : mHp} {σ σ' : Mem} {r : mRes} (hx1 : rg x1) (H : B_Mo_item_29 d x1 h σ r h' σ') : Lh (d + 3) yMo_item 29 [(0, .ref 58), (1, vi x1)] [.ref 58] h σ r h' σ' := by
  unfold B_Mo_item_29 at H
  refine q_p rfl rfl rfl ?_
  refine q_b rfl rfl rfl rfl ?_
  exact q_lab (K_Mo_item_34 hx1 (rgk rfl) H) (lvS_cons rfl rfl (lvS_cons rfl rfl lvS_nil))
def B_Mo_item (d : Nat) (x1 : Int) (h : mHp) (σ : Mem) (r : mRes) (h' : mHp) (σ' : Mem) : Prop := (rg (σ 58 65)) ∧ (if σ 58 65 = 2 then (if x1 < 0 then (B_Mo_item_29 d x1 h σ r h' σ') else (∃ z4, hAt h 58 69 = vlg z4 ∧ (∃ (v6 : Int) (h6 : mHp) (m6 : Mem), Rh (d + 3) yMo_items [.ref 58, vlg z4] h σ (.inl (some (vi v6))) h6 m6 ∧ rg v6 ∧ (if x1 < v6 then (B_Mo_item_34 d x1 0 h6 m6 r h' σ') else (B_Mo_item_29 d x1 h6 m6 r h' σ'))))) else (B_Mo_item_34 d x1 1 h σ r h' σ'))
theorem M_Mo_item {d : Nat} {x1 : Int} {h h' : mHp} {σ σ' : Mem} {r : mRes} (hx1 : rg x1) (H : B_Mo_item d x1 h σ r h' σ') : Rh (d + 4) yMo_item [.ref 58, vi x1] h σ r h' σ' := by
  refine q_m (Nat.le_of_ble_eq_true rfl) ?_
  unfold B_Mo_item at H
  refine q_l rfl rfl rfl ?_
  refine q_l rfl rfl rfl ?_
  obtain ⟨g1, H⟩ := H
  refine q_gi rfl rfl rfl (by decide) rfl rfl ?_
  refine q_p rfl rfl rfl ?_
  by_cases c2 : σ 58 65 = 2
  · rw [if_pos c2] at H
    refine q_c rfl (by decide) g1 (rgk rfl) (q := true) (decide_eq_true c2) rfl ?_
    refine q_l rfl rfl rfl ?_
    by_cases c3 : x1 < 0
    · rw [if_pos c3] at H
      refine q_z rfl (by decide) hx1 (q := true) (decide_eq_true c3) rfl ?_
      exact q_lab (K_Mo_item_29 hx1 H) (lvS_cons rfl rfl (lvS_cons rfl rfl lvS_nil))
    · rw [if_neg c3] at H
      refine q_z rfl (by decide) hx1 (q := false) (decide_eq_false c3) rfl ?_
      refine q_l rfl rfl rfl ?_
      refine q_l rfl rfl rfl ?_
      refine q_l rfl rfl rfl ?_
      obtain ⟨z4, e5, H⟩ := H
      refine q_gv rfl rfl rfl (by decide) rfl e5 ?_
      obtain ⟨v6, h6, m6, R6, w6, H⟩ := H
      refine q_iv rfl rfl rfl (fun S => S.t 58 rfl) (by decide) rfl R6 ?_
      by_cases c7 : x1 < v6
      · rw [if_pos c7] at H
        refine q_c rfl (by decide) hx1 w6 (q := true) (decide_eq_true c7) rfl ?_
        refine q_p rfl rfl rfl ?_
        exact q_lab (K_Mo_item_34 hx1 (rgk rfl) H) (lvS_cons rfl rfl (lvS_cons rfl rfl lvS_nil))
      · rw [if_neg c7] at H
        refine q_c rfl (by decide) hx1 w6 (q := false) (decide_eq_false c7) rfl ?_
        exact q_lab (K_Mo_item_29 hx1 H) (lvS_cons rfl rfl (lvS_cons rfl rfl lvS_nil))
  · rw [if_neg c2] at H
    refine q_c rfl (by decide) g1 (rgk rfl) (q := false) (decide_eq_false c2) rfl ?_
    refine q_p rfl rfl rfl ?_
    refine q_b rfl rfl rfl rfl ?_
    exact q_lab (K_Mo_item_34 hx1 (rgk rfl) H) (lvS_cons rfl rfl (lvS_cons rfl rfl lvS_nil))
def B_Mo_item_53 (d : Nat) (x1 : Int) (x2 : Int) (x4 : Int) (h : mHp) (σ : Mem) (r : mRes) (h' : mHp) (σ' : Mem) : Prop := if x4 ≥ x1 then (∃ (v2 : Int) (h2 : mHp) (m2 : Mem), Rh (d + 3) yMo_told [vlg x2] h σ (.inl (some (vi v2))) h2 m2 ∧ rg v2 ∧ (((0 : Int) ≤ v2 ∧ v2 < (502 : Int)) ∧ (∃ z4, hAt h2 94 (v2 : Int).toNat = vlg z4 ∧ ((rg (m2 58 70)) ∧ ((rg ((m2 58 70) + 1)) ∧ (r = .inl none ∧ h' = hSet h2 58 69 (vlg z4) ∧ σ' = mup m2 58 70 ((m2 58 70) + 1))))))) else (∃ (v8 : Int) (h8 : mHp) (m8 : Mem), Rh (d + 3) yMo_told [vlg x2] h σ (.inl (some (vi v8))) h8 m8 ∧ rg v8 ∧ (((0 : Int) ≤ v8 ∧ v8 < (502 : Int)) ∧ (∃ z10, hAt h8 95 (v8 : Int).toNat = vlg z10 ∧ ((rg (x4 + 1)) ∧ (Lh (d + 3) yMo_item 53 [(0, .ref 58), (1, vi x1), (2, vlg z10), (4, vi (x4 + 1))] [] h8 m8 r h' σ')))))
theorem K_Mo_item_53 {d : Nat} {x1 : Int} {x2 : Int} {x4 : Int} {h h' : mHp} {σ σ' : Mem} {r : mRes} (hx1 : rg x1) (hx4 : rg x4) (H : B_Mo_item_53 d x1 x2 x4 h σ r h' σ') : Lh (d + 3) yMo_item 53 [(0, .ref 58), (1, vi x1), (2, vlg x2), (4, vi x4)] [] h σ r h' σ' := by
  unfold B_Mo_item_53 at H
  refine q_l rfl rfl rfl ?_
  refine q_l rfl rfl rfl ?_
  by_cases c1 : x4 ≥ x1
  · rw [if_pos c1] at H
    refine q_c rfl (by decide) hx4 hx1 (q := true) (decide_eq_true c1) rfl ?_
    refine q_l rfl rfl rfl ?_
    refine q_l rfl rfl rfl ?_
    refine q_gr (t := 94) rfl rfl rfl (by decide) rfl ?_
    refine q_l rfl rfl rfl ?_
    obtain ⟨v2, h2, m2, R2, w2, H⟩ := H
    refine q_is rfl (by decide) (Nat.le_of_ble_eq_true rfl) rfl rfl rfl R2 ?_
    obtain ⟨g3, H⟩ := H
    obtain ⟨z4, e5, H⟩ := H
    refine q_av rfl rfl (fun _ => rfl) rfl rfl g3 (by decide) e5 ?_
    refine q_pv rfl rfl rfl (by decide) rfl rfl rfl rfl rfl ?_
    refine q_l rfl rfl rfl ?_
    refine q_p rfl rfl rfl ?_
    obtain ⟨g6, H⟩ := H
    refine q_gi rfl rfl rfl (by decide) rfl rfl ?_
    refine q_p rfl rfl rfl ?_
    refine q_add rfl ?_
    obtain ⟨g7, H⟩ := H
    refine q_pi rfl rfl rfl (by decide) rfl rfl rfl rfl g7 ?_
    obtain ⟨rfl, rfl, rfl⟩ := H
    exact q_r rfl rfl rfl
  · rw [if_neg c1] at H
    refine q_c rfl (by decide) hx4 hx1 (q := false) (decide_eq_false c1) rfl ?_
    refine q_l rfl rfl rfl ?_
    refine q_gr (t := 95) rfl rfl rfl (by decide) rfl ?_
    refine q_l rfl rfl rfl ?_
    obtain ⟨v8, h8, m8, R8, w8, H⟩ := H
    refine q_is rfl (by decide) (Nat.le_of_ble_eq_true rfl) rfl rfl rfl R8 ?_
    obtain ⟨g9, H⟩ := H
    obtain ⟨z10, e11, H⟩ := H
    refine q_av rfl rfl (fun _ => rfl) rfl rfl g9 (by decide) e11 ?_
    refine q_l rfl rfl rfl ?_
    refine q_inc (z := x4) rfl rfl (by decide) ?_
    refine q_b rfl rfl rfl rfl ?_
    obtain ⟨g12, H⟩ := H
    exact q_lab H (lvS_cons rfl rfl (lvS_cons rfl rfl (lvS_cons rfl rfl (lvS_cons rfl rfl lvS_nil))))
def B_Mo_top_14 (d : Nat) (t1 : Int) (h : mHp) (σ : Mem) (r : mRes) (h' : mHp) (σ' : Mem) : Prop := (rg ((mup σ 58 0 t1) 58 0)) ∧ (if (mup σ 58 0 t1) 58 0 ≠ 0 then (r = .inl none ∧ h' = h ∧ σ' = mup σ 58 0 t1) else (((0 : Int) ≤ 0 ∧ 0 < (200 : Int)) ∧ (∃ z4, hAt h 89 (0 : Int).toNat = vlg z4 ∧ (r = .inl none ∧ h' = hSet h 58 69 (vlg z4) ∧ σ' = mup (mup σ 58 0 t1) 58 70 0))))
theorem K_Mo_top_14 {d : Nat} {t1 : Int} {h h' : mHp} {σ σ' : Mem} {r : mRes} (ht1 : rg t1) (H : B_Mo_top_14 d t1 h σ r h' σ') : Lh (d + 3) yMo_top 14 [(0, .ref 58)] [vi t1, .ref 58] h σ r h' σ' := by
  unfold B_Mo_top_14 at H
  refine q_pi rfl rfl rfl (by decide) rfl rfl rfl rfl ht1 ?_
  refine q_l rfl rfl rfl ?_
  obtain ⟨g1, H⟩ := H
  refine q_gi rfl rfl rfl (by decide) rfl rfl ?_
  by_cases c2 : (mup σ 58 0 t1) 58 0 ≠ 0
  · rw [if_pos c2] at H
    refine q_z rfl (by decide) g1 (q := true) (decide_eq_true c2) rfl ?_
    obtain ⟨rfl, rfl, rfl⟩ := H
    exact q_r rfl rfl rfl
  · rw [if_neg c2] at H
    refine q_z rfl (by decide) g1 (q := false) (decide_eq_false c2) rfl ?_
    refine q_l rfl rfl rfl ?_
    refine q_l rfl rfl rfl ?_
    refine q_gr (t := 89) rfl rfl rfl (by decide) rfl ?_
    refine q_p rfl rfl rfl ?_
    obtain ⟨g3, H⟩ := H
    obtain ⟨z4, e5, H⟩ := H
    refine q_av rfl rfl (fun _ => rfl) rfl rfl g3 (by decide) e5 ?_
    refine q_pv rfl rfl rfl (by decide) rfl rfl rfl rfl rfl ?_
    refine q_l rfl rfl rfl ?_
    refine q_p rfl rfl rfl ?_
    refine q_pi rfl rfl rfl (by decide) rfl rfl rfl rfl (rgk rfl) ?_
    obtain ⟨rfl, rfl, rfl⟩ := H
    exact q_r rfl rfl rfl
def B_Mo_top (d : Nat)  (h : mHp) (σ : Mem) (r : mRes) (h' : mHp) (σ' : Mem) : Prop := (rg (σ 58 65)) ∧ (if σ 58 65 = 2 then (B_Mo_top_14 d 0 h σ r h' σ') else (B_Mo_top_14 d 1 h σ r h' σ'))
theorem M_Mo_top {d : Nat}  {h h' : mHp} {σ σ' : Mem} {r : mRes}  (H : B_Mo_top d  h σ r h' σ') : Rh (d + 4) yMo_top [.ref 58] h σ r h' σ' := by
  refine q_m (Nat.le_of_ble_eq_true rfl) ?_
  unfold B_Mo_top at H
  refine q_l rfl rfl rfl ?_
  refine q_l rfl rfl rfl ?_
  obtain ⟨g1, H⟩ := H
  refine q_gi rfl rfl rfl (by decide) rfl rfl ?_
  refine q_p rfl rfl rfl ?_
  by_cases c2 : σ 58 65 = 2
  · rw [if_pos c2] at H
    refine q_c rfl (by decide) g1 (rgk rfl) (q := true) (decide_eq_true c2) rfl ?_
    refine q_p rfl rfl rfl ?_
    exact q_lab (K_Mo_top_14 (rgk rfl) H) (lvS_cons rfl rfl lvS_nil)
  · rw [if_neg c2] at H
    refine q_c rfl (by decide) g1 (rgk rfl) (q := false) (decide_eq_false c2) rfl ?_
    refine q_p rfl rfl rfl ?_
    refine q_b rfl rfl rfl rfl ?_
    exact q_lab (K_Mo_top_14 (rgk rfl) H) (lvS_cons rfl rfl lvS_nil)
