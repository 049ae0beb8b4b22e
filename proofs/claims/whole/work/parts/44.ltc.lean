/-! Lifted methods: types and checker. -/
def B_Ty_make (d : Nat) (x1 x2 x3 : Int) (σ : Mem) (o : Option Int) (s' : Mem) : Prop := if σ 38 5 < 3000 then ((rg ((σ 38 5) + 1)) ∧ (o = some (σ 38 5) ∧ s' = rows 3000 (rows 3000 (rows 3000 (mup σ 38 5 ((σ 38 5) + 1)) 40 (σ 38 5) x1) 42 (σ 38 5) x2) 44 (σ 38 5) x3)) else (o = some ((-1)) ∧ s' = σ)
theorem M_Ty_make {d : Nat} {x1 x2 x3 : Int} {σ s' : Mem} {o : Option Int} (hx1 : rg x1) (hx2 : rg x2) (hx3 : rg x3) (H : B_Ty_make d x1 x2 x3 σ o s') : Rn (d + 4) yTy_make [.ref 38, vi x1, vi x2, vi x3] σ o s' := by
  refine k_m (Nat.le_of_ble_eq_true rfl) (fun hM => ?_)
  unfold B_Ty_make at H
  refine k_l rfl rfl rfl ?_
  refine k_gf rfl rfl rfl (by decide) rfl rfl ?_
  refine k_k (x := 3000) rfl rfl rfl rfl ?_
  by_cases c1 : σ 38 5 < 3000
  · rw [if_pos c1] at H
    refine k_c rfl (by decide) (hM _ _) (rgk rfl) (q := true) (decide_eq_true c1) rfl ?_
    refine k_l rfl rfl rfl ?_
    refine k_gf rfl rfl rfl (by decide) rfl rfl ?_
    refine k_l rfl rfl rfl ?_
    refine k_l rfl rfl rfl ?_
    refine k_p rfl rfl rfl ?_
    refine k_gf rfl rfl rfl (by decide) rfl rfl ?_
    refine k_p rfl rfl rfl ?_
    refine k_add rfl ?_
    obtain ⟨g2, H⟩ := H
    refine k_pf rfl rfl rfl (by decide) rfl rfl rfl rfl ?_
    refine k_l rfl rfl rfl ?_
    refine k_gr (t := 39) rfl rfl rfl (by decide) rfl ?_
    refine k_l rfl rfl rfl ?_
    refine k_l rfl rfl rfl ?_
    refine k_iw (σ1 := rows 3000 (mup σ 38 5 ((σ 38 5) + 1)) 40 (σ 38 5) x1) rfl rfl rfl rfl rfl (by decide) rfl (hM.up g2) (rn_set rfl rfl rfl rfl rfl (by decide) (hM _ _) hx1) (fun _ => ?_)
    refine k_l rfl rfl rfl ?_
    refine k_gr (t := 41) rfl rfl rfl (by decide) rfl ?_
    refine k_l rfl rfl rfl ?_
    refine k_l rfl rfl rfl ?_
    refine k_iw (σ1 := rows 3000 (rows 3000 (mup σ 38 5 ((σ 38 5) + 1)) 40 (σ 38 5) x1) 42 (σ 38 5) x2) rfl rfl rfl rfl rfl (by decide) rfl ((hM.up g2).rs hx1) (rn_set rfl rfl rfl rfl rfl (by decide) (hM _ _) hx2) (fun _ => ?_)
    refine k_l rfl rfl rfl ?_
    refine k_gr (t := 43) rfl rfl rfl (by decide) rfl ?_
    refine k_l rfl rfl rfl ?_
    refine k_l rfl rfl rfl ?_
    refine k_iw (σ1 := rows 3000 (rows 3000 (rows 3000 (mup σ 38 5 ((σ 38 5) + 1)) 40 (σ 38 5) x1) 42 (σ 38 5) x2) 44 (σ 38 5) x3) rfl rfl rfl rfl rfl (by decide) rfl (((hM.up g2).rs hx1).rs hx2) (rn_set rfl rfl rfl rfl rfl (by decide) (hM _ _) hx3) (fun _ => ?_)
    refine k_l rfl rfl rfl ?_
    obtain ⟨rfl, rfl⟩ := H
    exact k_r1 ((((hM.up g2).rs hx1).rs hx2).rs hx3) (hM _ _) rfl rfl rfl
  · rw [if_neg c1] at H
    refine k_c rfl (by decide) (hM _ _) (rgk rfl) (q := false) (decide_eq_false c1) rfl ?_
    refine k_p rfl rfl rfl ?_
    obtain ⟨rfl, rfl⟩ := H
    exact k_r1 hM (rgk rfl) rfl rfl rfl
def B_Ty_clear (d : Nat) (σ : Mem) (o : Option Int) (s' : Mem) : Prop := ∃ (v1 : Int) (m1 : Mem), Rn (d + 3) yTy_make [.ref 38, vi 105, vi ((-1)), vi ((-1))] (mup σ 38 5 0) (some v1) m1 ∧ (∃ (v2 : Int) (m2 : Mem), Rn (d + 3) yTy_make [.ref 38, vi 98, vi ((-1)), vi ((-1))] m1 (some v2) m2 ∧ (∃ (v3 : Int) (m3 : Mem), Rn (d + 3) yTy_make [.ref 38, vi 114, vi ((-1)), vi ((-1))] m2 (some v3) m3 ∧ (o = none ∧ s' = m3)))
theorem M_Ty_clear {d : Nat} {σ s' : Mem} {o : Option Int}  (H : B_Ty_clear d  σ o s') : Rn (d + 4) yTy_clear [.ref 38] σ o s' := by
  refine k_m (Nat.le_of_ble_eq_true rfl) (fun hM => ?_)
  unfold B_Ty_clear at H
  refine k_l rfl rfl rfl ?_
  refine k_p rfl rfl rfl ?_
  refine k_pf rfl rfl rfl (by decide) rfl rfl rfl rfl ?_
  refine k_l rfl rfl rfl ?_
  refine k_k (x := 105) rfl rfl rfl rfl ?_
  refine k_p rfl rfl rfl ?_
  refine k_p rfl rfl rfl ?_
  obtain ⟨v1, m1, R1, H⟩ := H
  refine k_iv rfl rfl rfl rfl rfl (by decide) rfl (hM.up (rgk rfl)) R1 (fun hM1 hv1 => ?_)
  refine k_p rfl rfl rfl ?_
  refine k_l rfl rfl rfl ?_
  refine k_k (x := 98) rfl rfl rfl rfl ?_
  refine k_p rfl rfl rfl ?_
  refine k_p rfl rfl rfl ?_
  obtain ⟨v2, m2, R2, H⟩ := H
  refine k_iv rfl rfl rfl rfl rfl (by decide) rfl hM1 R2 (fun hM2 hv2 => ?_)
  refine k_p rfl rfl rfl ?_
  refine k_l rfl rfl rfl ?_
  refine k_k (x := 114) rfl rfl rfl rfl ?_
  refine k_p rfl rfl rfl ?_
  refine k_p rfl rfl rfl ?_
  obtain ⟨v3, m3, R3, H⟩ := H
  refine k_iv rfl rfl rfl rfl rfl (by decide) rfl hM2 R3 (fun hM3 hv3 => ?_)
  refine k_p rfl rfl rfl ?_
  obtain ⟨rfl, rfl⟩ := H
  exact k_r0 hM3 rfl rfl rfl
def B_Ty_fresh (d : Nat) (x1 : Int) (σ : Mem) (o : Option Int) (s' : Mem) : Prop := ∃ (v1 : Int) (m1 : Mem), Rn (d + 3) yTy_make [.ref 38, vi 63, vi ((-1)), vi x1] σ (some v1) m1 ∧ (o = some v1 ∧ s' = m1)
theorem M_Ty_fresh {d : Nat} {x1 : Int} {σ s' : Mem} {o : Option Int} (hx1 : rg x1) (H : B_Ty_fresh d x1 σ o s') : Rn (d + 4) yTy_fresh [.ref 38, vi x1] σ o s' := by
  refine k_m (Nat.le_of_ble_eq_true rfl) (fun hM => ?_)
  unfold B_Ty_fresh at H
  refine k_l rfl rfl rfl ?_
  refine k_k (x := 63) rfl rfl rfl rfl ?_
  refine k_p rfl rfl rfl ?_
  refine k_l rfl rfl rfl ?_
  obtain ⟨v1, m1, R1, H⟩ := H
  refine k_iv rfl rfl rfl rfl rfl (by decide) rfl hM R1 (fun hM1 hv1 => ?_)
  obtain ⟨rfl, rfl⟩ := H
  exact k_r1 hM1 hv1 rfl rfl rfl
def B_Ty_list (d : Nat) (x1 : Int) (σ : Mem) (o : Option Int) (s' : Mem) : Prop := ∃ (v1 : Int) (m1 : Mem), Rn (d + 3) yTy_make [.ref 38, vi 91, vi x1, vi ((-1))] σ (some v1) m1 ∧ (o = some v1 ∧ s' = m1)
theorem M_Ty_list {d : Nat} {x1 : Int} {σ s' : Mem} {o : Option Int} (hx1 : rg x1) (H : B_Ty_list d x1 σ o s') : Rn (d + 4) yTy_list [.ref 38, vi x1] σ o s' := by
  refine k_m (Nat.le_of_ble_eq_true rfl) (fun hM => ?_)
  unfold B_Ty_list at H
  refine k_l rfl rfl rfl ?_
  refine k_k (x := 91) rfl rfl rfl rfl ?_
  refine k_l rfl rfl rfl ?_
  refine k_p rfl rfl rfl ?_
  obtain ⟨v1, m1, R1, H⟩ := H
  refine k_iv rfl rfl rfl rfl rfl (by decide) rfl hM R1 (fun hM1 hv1 => ?_)
  obtain ⟨rfl, rfl⟩ := H
  exact k_r1 hM1 hv1 rfl rfl rfl
def B_Ty_arrow (d : Nat) (x1 x2 : Int) (σ : Mem) (o : Option Int) (s' : Mem) : Prop := ∃ (v1 : Int) (m1 : Mem), Rn (d + 3) yTy_make [.ref 38, vi 62, vi x1, vi x2] σ (some v1) m1 ∧ (o = some v1 ∧ s' = m1)
theorem M_Ty_arrow {d : Nat} {x1 x2 : Int} {σ s' : Mem} {o : Option Int} (hx1 : rg x1) (hx2 : rg x2) (H : B_Ty_arrow d x1 x2 σ o s') : Rn (d + 4) yTy_arrow [.ref 38, vi x1, vi x2] σ o s' := by
  refine k_m (Nat.le_of_ble_eq_true rfl) (fun hM => ?_)
  unfold B_Ty_arrow at H
  refine k_l rfl rfl rfl ?_
  refine k_k (x := 62) rfl rfl rfl rfl ?_
  refine k_l rfl rfl rfl ?_
  refine k_l rfl rfl rfl ?_
  obtain ⟨v1, m1, R1, H⟩ := H
  refine k_iv rfl rfl rfl rfl rfl (by decide) rfl hM R1 (fun hM1 hv1 => ?_)
  obtain ⟨rfl, rfl⟩ := H
  exact k_r1 hM1 hv1 rfl rfl rfl
def B_Ty_resolve (d : Nat) (x1 : Int) (σ : Mem) (o : Option Int) (s' : Mem) : Prop := Lb (d + 3) yTy_resolve 4 [(0, .ref 38), (2, vi x1), (3, vi 0)] [] σ o s'
theorem M_Ty_resolve {d : Nat} {x1 : Int} {σ s' : Mem} {o : Option Int} (hx1 : rg x1) (H : B_Ty_resolve d x1 σ o s') : Rn (d + 4) yTy_resolve [.ref 38, vi x1] σ o s' := by
  refine k_m (Nat.le_of_ble_eq_true rfl) (fun hM => ?_)
  unfold B_Ty_resolve at H
  refine k_l rfl rfl rfl ?_
  refine k_l rfl rfl rfl ?_
  refine k_p rfl rfl rfl ?_
  refine k_l rfl rfl rfl ?_
  exact k_lab H hM (lvS_cons rfl rfl (lvS_cons rfl rfl (lvS_cons rfl rfl lvS_nil)))
def B_Ty_resolve_4 (d : Nat) (x2 x3 : Int) (σ : Mem) (o : Option Int) (s' : Mem) : Prop := if x3 ≥ 3000 then (o = some x2 ∧ s' = σ) else (if rowv 3000 σ 40 x2 ≠ 63 then (o = some x2 ∧ s' = σ) else (if rowv 3000 σ 42 x2 = (-1) then (o = some x2 ∧ s' = σ) else ((rg (x3 + 1)) ∧ (Lb (d + 3) yTy_resolve 4 [(0, .ref 38), (2, vi (rowv 3000 σ 42 x2)), (3, vi (x3 + 1))] [] σ o s'))))
theorem K_Ty_resolve_4 {d : Nat} {x2 x3 : Int} {σ s' : Mem} {o : Option Int} (hx2 : rg x2) (hx3 : rg x3) (H : B_Ty_resolve_4 d x2 x3 σ o s') : Lb (d + 3) yTy_resolve 4 [(0, .ref 38), (2, vi x2), (3, vi x3)] [] σ o s' := by
  intro hM
  unfold B_Ty_resolve_4 at H
  refine k_l rfl rfl rfl ?_
  refine k_k (x := 3000) rfl rfl rfl rfl ?_
  by_cases c1 : x3 ≥ 3000
  · rw [if_pos c1] at H
    refine k_c rfl (by decide) hx3 (rgk rfl) (q := true) (decide_eq_true c1) rfl ?_
    refine k_l rfl rfl rfl ?_
    obtain ⟨rfl, rfl⟩ := H
    exact k_r1 hM hx2 rfl rfl rfl
  · rw [if_neg c1] at H
    refine k_c rfl (by decide) hx3 (rgk rfl) (q := false) (decide_eq_false c1) rfl ?_
    refine k_l rfl rfl rfl ?_
    refine k_gr (t := 39) rfl rfl rfl (by decide) rfl ?_
    refine k_l rfl rfl rfl ?_
    refine k_iv (v := rowv 3000 σ 40 x2) rfl rfl rfl rfl rfl (by decide) rfl hM (rn_get rfl rfl rfl rfl rfl (by decide) hx2) (fun _ q2 => ?_)
    refine k_k (x := 63) rfl rfl rfl rfl ?_
    by_cases c3 : rowv 3000 σ 40 x2 ≠ 63
    · rw [if_pos c3] at H
      refine k_c rfl (by decide) q2 (rgk rfl) (q := true) (decide_eq_true c3) rfl ?_
      refine k_l rfl rfl rfl ?_
      obtain ⟨rfl, rfl⟩ := H
      exact k_r1 hM hx2 rfl rfl rfl
    · rw [if_neg c3] at H
      refine k_c rfl (by decide) q2 (rgk rfl) (q := false) (decide_eq_false c3) rfl ?_
      refine k_l rfl rfl rfl ?_
      refine k_gr (t := 41) rfl rfl rfl (by decide) rfl ?_
      refine k_l rfl rfl rfl ?_
      refine k_iv (v := rowv 3000 σ 42 x2) rfl rfl rfl rfl rfl (by decide) rfl hM (rn_get rfl rfl rfl rfl rfl (by decide) hx2) (fun _ q4 => ?_)
      refine k_p rfl rfl rfl ?_
      by_cases c5 : rowv 3000 σ 42 x2 = (-1)
      · rw [if_pos c5] at H
        refine k_c rfl (by decide) q4 (rgk rfl) (q := true) (decide_eq_true c5) rfl ?_
        refine k_l rfl rfl rfl ?_
        obtain ⟨rfl, rfl⟩ := H
        exact k_r1 hM hx2 rfl rfl rfl
      · rw [if_neg c5] at H
        refine k_c rfl (by decide) q4 (rgk rfl) (q := false) (decide_eq_false c5) rfl ?_
        refine k_l rfl rfl rfl ?_
        refine k_gr (t := 41) rfl rfl rfl (by decide) rfl ?_
        refine k_l rfl rfl rfl ?_
        refine k_iv (v := rowv 3000 σ 42 x2) rfl rfl rfl rfl rfl (by decide) rfl hM (rn_get rfl rfl rfl rfl rfl (by decide) hx2) (fun _ q6 => ?_)
        refine k_l rfl rfl rfl ?_
        refine k_inc rfl rfl (by decide) ?_
        refine k_b rfl rfl rfl rfl ?_
        obtain ⟨g7, H⟩ := H
        exact k_lab H hM (lvS_cons rfl rfl (lvS_cons rfl rfl (lvS_cons rfl rfl lvS_nil)))
def B_Ty_length (d : Nat) (x1 x2 : Int) (σ : Mem) (o : Option Int) (s' : Mem) : Prop := if x2 ≤ 40 then (∃ (v2 : Int) (m2 : Mem), Rn (d + 3) yTy_resolve [.ref 38, vi x1] σ (some v2) m2 ∧ (if rowv 3000 m2 40 v2 = 62 then (∃ (v6 : Int) (m6 : Mem), Rn (d + 3) yTy_length [.ref 38, vi (rowv 3000 m2 42 v2), vi (x2 + 1)] m2 (some v6) m6 ∧ (if v6 ≤ 80 then (∃ (v9 : Int) (m9 : Mem), Rn (d + 3) yTy_length [.ref 38, vi (rowv 3000 m6 44 v2), vi (x2 + 1)] m6 (some v9) m9 ∧ ((rg ((3 + v6) + v9)) ∧ (o = some ((3 + v6) + v9) ∧ s' = m9))) else (o = some v6 ∧ s' = m6))) else (if rowv 3000 m2 40 v2 = 91 then (∃ (v13 : Int) (m13 : Mem), Rn (d + 3) yTy_length [.ref 38, vi (rowv 3000 m2 42 v2), vi (x2 + 1)] m2 (some v13) m13 ∧ ((rg (2 + v13)) ∧ (o = some (2 + v13) ∧ s' = m13))) else (o = some 1 ∧ s' = m2)))) else (o = some 81 ∧ s' = σ)
theorem M_Ty_length {d : Nat} {x1 x2 : Int} {σ s' : Mem} {o : Option Int} (hx1 : rg x1) (hx2 : rg x2) (H : B_Ty_length d x1 x2 σ o s') : Rn (d + 4) yTy_length [.ref 38, vi x1, vi x2] σ o s' := by
  refine k_m (Nat.le_of_ble_eq_true rfl) (fun hM => ?_)
  unfold B_Ty_length at H
  refine k_l rfl rfl rfl ?_
  refine k_k (x := 40) rfl rfl rfl rfl ?_
  by_cases c1 : x2 ≤ 40
  · rw [if_pos c1] at H
    refine k_c rfl (by decide) hx2 (rgk rfl) (q := true) (decide_eq_true c1) rfl ?_
    refine k_l rfl rfl rfl ?_
    refine k_l rfl rfl rfl ?_
    obtain ⟨v2, m2, R2, H⟩ := H
    refine k_iv rfl rfl rfl rfl rfl (by decide) rfl hM R2 (fun hM2 hv2 => ?_)
    refine k_l rfl rfl rfl ?_
    refine k_l rfl rfl rfl ?_
    refine k_gr (t := 39) rfl rfl rfl (by decide) rfl ?_
    refine k_l rfl rfl rfl ?_
    refine k_iv (v := rowv 3000 m2 40 v2) rfl rfl rfl rfl rfl (by decide) rfl hM2 (rn_get rfl rfl rfl rfl rfl (by decide) hv2) (fun _ q3 => ?_)
    by_cases c4 : rowv 3000 m2 40 v2 = 62
    · rw [if_pos c4] at H
      refine k_sw rfl rfl c4 rfl rfl ?_
      refine k_l rfl rfl rfl ?_
      refine k_l rfl rfl rfl ?_
      refine k_gr (t := 41) rfl rfl rfl (by decide) rfl ?_
      refine k_l rfl rfl rfl ?_
      refine k_iv (v := rowv 3000 m2 42 v2) rfl rfl rfl rfl rfl (by decide) rfl hM2 (rn_get rfl rfl rfl rfl rfl (by decide) hv2) (fun _ q5 => ?_)
      refine k_l rfl rfl rfl ?_
      refine k_p rfl rfl rfl ?_
      refine k_add rfl ?_
      obtain ⟨v6, m6, R6, H⟩ := H
      refine k_iv rfl rfl rfl rfl rfl (by decide) rfl hM2 R6 (fun hM6 hv6 => ?_)
      refine k_l rfl rfl rfl ?_
      refine k_l rfl rfl rfl ?_
      refine k_k (x := 80) rfl rfl rfl rfl ?_
      by_cases c7 : v6 ≤ 80
      · rw [if_pos c7] at H
        refine k_c rfl (by decide) hv6 (rgk rfl) (q := true) (decide_eq_true c7) rfl ?_
        refine k_p rfl rfl rfl ?_
        refine k_l rfl rfl rfl ?_
        refine k_add rfl ?_
        refine k_l rfl rfl rfl ?_
        refine k_l rfl rfl rfl ?_
        refine k_gr (t := 43) rfl rfl rfl (by decide) rfl ?_
        refine k_l rfl rfl rfl ?_
        refine k_iv (v := rowv 3000 m6 44 v2) rfl rfl rfl rfl rfl (by decide) rfl hM6 (rn_get rfl rfl rfl rfl rfl (by decide) hv2) (fun _ q8 => ?_)
        refine k_l rfl rfl rfl ?_
        refine k_p rfl rfl rfl ?_
        refine k_add rfl ?_
        obtain ⟨v9, m9, R9, H⟩ := H
        refine k_iv rfl rfl rfl rfl rfl (by decide) rfl hM6 R9 (fun hM9 hv9 => ?_)
        refine k_add rfl ?_
        obtain ⟨g10, H⟩ := H
        obtain ⟨rfl, rfl⟩ := H
        exact k_r1 hM9 g10 rfl rfl rfl
      · rw [if_neg c7] at H
        refine k_c rfl (by decide) hv6 (rgk rfl) (q := false) (decide_eq_false c7) rfl ?_
        refine k_l rfl rfl rfl ?_
        refine k_b rfl rfl rfl rfl ?_
        obtain ⟨rfl, rfl⟩ := H
        exact k_r1 hM6 hv6 rfl rfl rfl
    rw [if_neg c4] at H
    by_cases c11 : rowv 3000 m2 40 v2 = 91
    · rw [if_pos c11] at H
      refine k_sw rfl rfl c11 rfl rfl ?_
      refine k_p rfl rfl rfl ?_
      refine k_l rfl rfl rfl ?_
      refine k_l rfl rfl rfl ?_
      refine k_gr (t := 41) rfl rfl rfl (by decide) rfl ?_
      refine k_l rfl rfl rfl ?_
      refine k_iv (v := rowv 3000 m2 42 v2) rfl rfl rfl rfl rfl (by decide) rfl hM2 (rn_get rfl rfl rfl rfl rfl (by decide) hv2) (fun _ q12 => ?_)
      refine k_l rfl rfl rfl ?_
      refine k_p rfl rfl rfl ?_
      refine k_add rfl ?_
      obtain ⟨v13, m13, R13, H⟩ := H
      refine k_iv rfl rfl rfl rfl rfl (by decide) rfl hM2 R13 (fun hM13 hv13 => ?_)
      refine k_add rfl ?_
      obtain ⟨g14, H⟩ := H
      obtain ⟨rfl, rfl⟩ := H
      exact k_r1 hM13 g14 rfl rfl rfl
    rw [if_neg c11] at H
    refine k_lsd rfl q3 (by decide) (fun q hq => ?_) rfl ?_
    · simp only [List.mem_cons, List.not_mem_nil, or_false] at hq
      rcases hq with rfl | rfl
      · exact c4
      · exact c11
    refine k_p rfl rfl rfl ?_
    obtain ⟨rfl, rfl⟩ := H
    exact k_r1 hM2 (rgk rfl) rfl rfl rfl
  · rw [if_neg c1] at H
    refine k_c rfl (by decide) hx2 (rgk rfl) (q := false) (decide_eq_false c1) rfl ?_
    refine k_k (x := 81) rfl rfl rfl rfl ?_
    obtain ⟨rfl, rfl⟩ := H
    exact k_r1 hM (rgk rfl) rfl rfl rfl
def B_Ty_tooLong (d : Nat) (x1 : Int) (σ : Mem) (o : Option Int) (s' : Mem) : Prop := ∃ (v1 : Int) (m1 : Mem), Rn (d + 3) yTy_length [.ref 38, vi x1, vi 0] σ (some v1) m1 ∧ (if v1 ≤ 80 then (o = some 0 ∧ s' = m1) else (o = some 1 ∧ s' = m1))
theorem M_Ty_tooLong {d : Nat} {x1 : Int} {σ s' : Mem} {o : Option Int} (hx1 : rg x1) (H : B_Ty_tooLong d x1 σ o s') : Rn (d + 4) yTy_tooLong [.ref 38, vi x1] σ o s' := by
  refine k_m (Nat.le_of_ble_eq_true rfl) (fun hM => ?_)
  unfold B_Ty_tooLong at H
  refine k_l rfl rfl rfl ?_
  refine k_l rfl rfl rfl ?_
  refine k_p rfl rfl rfl ?_
  obtain ⟨v1, m1, R1, H⟩ := H
  refine k_iv rfl rfl rfl rfl rfl (by decide) rfl hM R1 (fun hM1 hv1 => ?_)
  refine k_k (x := 80) rfl rfl rfl rfl ?_
  by_cases c2 : v1 ≤ 80
  · rw [if_pos c2] at H
    refine k_c rfl (by decide) hv1 (rgk rfl) (q := true) (decide_eq_true c2) rfl ?_
    refine k_p rfl rfl rfl ?_
    obtain ⟨rfl, rfl⟩ := H
    exact k_r1 hM1 (rgk rfl) rfl rfl rfl
  · rw [if_neg c2] at H
    refine k_c rfl (by decide) hv1 (rgk rfl) (q := false) (decide_eq_false c2) rfl ?_
    refine k_p rfl rfl rfl ?_
    refine k_b rfl rfl rfl rfl ?_
    obtain ⟨rfl, rfl⟩ := H
    exact k_r1 hM1 (rgk rfl) rfl rfl rfl
def B_Ty_takesIn (d : Nat) (x1 x2 x3 : Int) (σ : Mem) (o : Option Int) (s' : Mem) : Prop := ∃ (v1 : Int) (m1 : Mem), Rn (d + 3) yTy_resolve [.ref 38, vi x2] σ (some v1) m1 ∧ (if v1 = x1 then (o = some 0 ∧ s' = m1) else (if x3 ≤ 40 then (if rowv 3000 m1 40 v1 = 62 then (∃ (v7 : Int) (m7 : Mem), Rn (d + 3) yTy_takesIn [.ref 38, vi x1, vi (rowv 3000 m1 42 v1), vi (x3 + 1)] m1 (some v7) m7 ∧ (if v7 = 0 then (o = some 0 ∧ s' = m7) else (∃ (v10 : Int) (m10 : Mem), Rn (d + 3) yTy_takesIn [.ref 38, vi x1, vi (rowv 3000 m7 44 v1), vi (x3 + 1)] m7 (some v10) m10 ∧ (if v10 = 0 then (o = some 0 ∧ s' = m10) else (o = some 1 ∧ s' = m10))))) else (if rowv 3000 m1 40 v1 = 63 then (o = some 1 ∧ s' = rows 3000 m1 44 v1 (zMin (rowv 3000 m1 44 v1) (rowv 3000 m1 44 x1))) else (if rowv 3000 m1 40 v1 = 91 then (∃ (v17 : Int) (m17 : Mem), Rn (d + 3) yTy_takesIn [.ref 38, vi x1, vi (rowv 3000 m1 42 v1), vi (x3 + 1)] m1 (some v17) m17 ∧ ((v17 = 0 ∨ v17 = 1) ∧ (o = some v17 ∧ s' = m17))) else (o = some 1 ∧ s' = m1)))) else (o = some 0 ∧ s' = m1)))
theorem M_Ty_takesIn {d : Nat} {x1 x2 x3 : Int} {σ s' : Mem} {o : Option Int} (hx1 : rg x1) (hx2 : rg x2) (hx3 : rg x3) (H : B_Ty_takesIn d x1 x2 x3 σ o s') : Rn (d + 4) yTy_takesIn [.ref 38, vi x1, vi x2, vi x3] σ o s' := by
  refine k_m (Nat.le_of_ble_eq_true rfl) (fun hM => ?_)
  unfold B_Ty_takesIn at H
  refine k_l rfl rfl rfl ?_
  refine k_l rfl rfl rfl ?_
  obtain ⟨v1, m1, R1, H⟩ := H
  refine k_iv rfl rfl rfl rfl rfl (by decide) rfl hM R1 (fun hM1 hv1 => ?_)
  refine k_l rfl rfl rfl ?_
  refine k_l rfl rfl rfl ?_
  refine k_l rfl rfl rfl ?_
  by_cases c2 : v1 = x1
  · rw [if_pos c2] at H
    refine k_c rfl (by decide) hv1 hx1 (q := true) (decide_eq_true c2) rfl ?_
    refine k_p rfl rfl rfl ?_
    obtain ⟨rfl, rfl⟩ := H
    exact k_r1 hM1 (rgk rfl) rfl rfl rfl
  · rw [if_neg c2] at H
    refine k_c rfl (by decide) hv1 hx1 (q := false) (decide_eq_false c2) rfl ?_
    refine k_l rfl rfl rfl ?_
    refine k_k (x := 40) rfl rfl rfl rfl ?_
    by_cases c3 : x3 ≤ 40
    · rw [if_pos c3] at H
      refine k_c rfl (by decide) hx3 (rgk rfl) (q := true) (decide_eq_true c3) rfl ?_
      refine k_l rfl rfl rfl ?_
      refine k_gr (t := 39) rfl rfl rfl (by decide) rfl ?_
      refine k_l rfl rfl rfl ?_
      refine k_iv (v := rowv 3000 m1 40 v1) rfl rfl rfl rfl rfl (by decide) rfl hM1 (rn_get rfl rfl rfl rfl rfl (by decide) hv1) (fun _ q4 => ?_)
      by_cases c5 : rowv 3000 m1 40 v1 = 62
      · rw [if_pos c5] at H
        refine k_sw rfl rfl c5 rfl rfl ?_
        refine k_l rfl rfl rfl ?_
        refine k_l rfl rfl rfl ?_
        refine k_l rfl rfl rfl ?_
        refine k_gr (t := 41) rfl rfl rfl (by decide) rfl ?_
        refine k_l rfl rfl rfl ?_
        refine k_iv (v := rowv 3000 m1 42 v1) rfl rfl rfl rfl rfl (by decide) rfl hM1 (rn_get rfl rfl rfl rfl rfl (by decide) hv1) (fun _ q6 => ?_)
        refine k_l rfl rfl rfl ?_
        refine k_p rfl rfl rfl ?_
        refine k_add rfl ?_
        obtain ⟨v7, m7, R7, H⟩ := H
        refine k_iv rfl rfl rfl rfl rfl (by decide) rfl hM1 R7 (fun hM7 hv7 => ?_)
        by_cases c8 : v7 = 0
        · rw [if_pos c8] at H
          refine k_z rfl (by decide) hv7 (q := true) (decide_eq_true c8) rfl ?_
          refine k_p rfl rfl rfl ?_
          obtain ⟨rfl, rfl⟩ := H
          exact k_r1 hM7 (rgk rfl) rfl rfl rfl
        · rw [if_neg c8] at H
          refine k_z rfl (by decide) hv7 (q := false) (decide_eq_false c8) rfl ?_
          refine k_l rfl rfl rfl ?_
          refine k_l rfl rfl rfl ?_
          refine k_l rfl rfl rfl ?_
          refine k_gr (t := 43) rfl rfl rfl (by decide) rfl ?_
          refine k_l rfl rfl rfl ?_
          refine k_iv (v := rowv 3000 m7 44 v1) rfl rfl rfl rfl rfl (by decide) rfl hM7 (rn_get rfl rfl rfl rfl rfl (by decide) hv1) (fun _ q9 => ?_)
          refine k_l rfl rfl rfl ?_
          refine k_p rfl rfl rfl ?_
          refine k_add rfl ?_
          obtain ⟨v10, m10, R10, H⟩ := H
          refine k_iv rfl rfl rfl rfl rfl (by decide) rfl hM7 R10 (fun hM10 hv10 => ?_)
          by_cases c11 : v10 = 0
          · rw [if_pos c11] at H
            refine k_z rfl (by decide) hv10 (q := true) (decide_eq_true c11) rfl ?_
            refine k_p rfl rfl rfl ?_
            obtain ⟨rfl, rfl⟩ := H
            exact k_r1 hM10 (rgk rfl) rfl rfl rfl
          · rw [if_neg c11] at H
            refine k_z rfl (by decide) hv10 (q := false) (decide_eq_false c11) rfl ?_
            refine k_p rfl rfl rfl ?_
            refine k_b rfl rfl rfl rfl ?_
            obtain ⟨rfl, rfl⟩ := H
            exact k_r1 hM10 (rgk rfl) rfl rfl rfl
      rw [if_neg c5] at H
      by_cases c12 : rowv 3000 m1 40 v1 = 63
      · rw [if_pos c12] at H
        refine k_sw rfl rfl c12 rfl rfl ?_
        refine k_l rfl rfl rfl ?_
        refine k_gr (t := 43) rfl rfl rfl (by decide) rfl ?_
        refine k_l rfl rfl rfl ?_
        refine k_l rfl rfl rfl ?_
        refine k_gr (t := 43) rfl rfl rfl (by decide) rfl ?_
        refine k_l rfl rfl rfl ?_
        refine k_iv (v := rowv 3000 m1 44 v1) rfl rfl rfl rfl rfl (by decide) rfl hM1 (rn_get rfl rfl rfl rfl rfl (by decide) hv1) (fun _ q13 => ?_)
        refine k_l rfl rfl rfl ?_
        refine k_gr (t := 43) rfl rfl rfl (by decide) rfl ?_
        refine k_l rfl rfl rfl ?_
        refine k_iv (v := rowv 3000 m1 44 x1) rfl rfl rfl rfl rfl (by decide) rfl hM1 (rn_get rfl rfl rfl rfl rfl (by decide) hx1) (fun _ q14 => ?_)
        refine k_min rfl rfl q13 q14 ?_
        refine k_iw (σ1 := rows 3000 m1 44 v1 (zMin (rowv 3000 m1 44 v1) (rowv 3000 m1 44 x1))) rfl rfl rfl rfl rfl (by decide) rfl hM1 (rn_set rfl rfl rfl rfl rfl (by decide) hv1 (rg_zMin q13 q14)) (fun _ => ?_)
        refine k_p rfl rfl rfl ?_
        obtain ⟨rfl, rfl⟩ := H
        exact k_r1 (hM1.rs (rg_zMin q13 q14)) (rgk rfl) rfl rfl rfl
      rw [if_neg c12] at H
      by_cases c15 : rowv 3000 m1 40 v1 = 91
      · rw [if_pos c15] at H
        refine k_sw rfl rfl c15 rfl rfl ?_
        refine k_l rfl rfl rfl ?_
        refine k_l rfl rfl rfl ?_
        refine k_l rfl rfl rfl ?_
        refine k_gr (t := 41) rfl rfl rfl (by decide) rfl ?_
        refine k_l rfl rfl rfl ?_
        refine k_iv (v := rowv 3000 m1 42 v1) rfl rfl rfl rfl rfl (by decide) rfl hM1 (rn_get rfl rfl rfl rfl rfl (by decide) hv1) (fun _ q16 => ?_)
        refine k_l rfl rfl rfl ?_
        refine k_p rfl rfl rfl ?_
        refine k_add rfl ?_
        obtain ⟨v17, m17, R17, H⟩ := H
        refine k_iv rfl rfl rfl rfl rfl (by decide) rfl hM1 R17 (fun hM17 hv17 => ?_)
        obtain ⟨g18, H⟩ := H
        obtain ⟨rfl, rfl⟩ := H
        exact k_r1 hM17 hv17 rfl rfl (ret_b rfl g18)
      rw [if_neg c15] at H
      refine k_lsd rfl q4 (by decide) (fun q hq => ?_) rfl ?_
      · simp only [List.mem_cons, List.not_mem_nil, or_false] at hq
        rcases hq with rfl | rfl | rfl
        · exact c5
        · exact c12
        · exact c15
      refine k_p rfl rfl rfl ?_
      obtain ⟨rfl, rfl⟩ := H
      exact k_r1 hM1 (rgk rfl) rfl rfl rfl
    · rw [if_neg c3] at H
      refine k_c rfl (by decide) hx3 (rgk rfl) (q := false) (decide_eq_false c3) rfl ?_
      refine k_p rfl rfl rfl ?_
      obtain ⟨rfl, rfl⟩ := H
      exact k_r1 hM1 (rgk rfl) rfl rfl rfl
def B_Ty_link (d : Nat) (x1 x2 : Int) (σ : Mem) (o : Option Int) (s' : Mem) : Prop := ∃ (v1 : Int) (m1 : Mem), Rn (d + 3) yTy_takesIn [.ref 38, vi x1, vi x2, vi 0] σ (some v1) m1 ∧ (if v1 ≠ 0 then (o = some 1 ∧ s' = rows 3000 m1 42 x1 x2) else (o = some 0 ∧ s' = m1))
theorem M_Ty_link {d : Nat} {x1 x2 : Int} {σ s' : Mem} {o : Option Int} (hx1 : rg x1) (hx2 : rg x2) (H : B_Ty_link d x1 x2 σ o s') : Rn (d + 4) yTy_link [.ref 38, vi x1, vi x2] σ o s' := by
  refine k_m (Nat.le_of_ble_eq_true rfl) (fun hM => ?_)
  unfold B_Ty_link at H
  refine k_l rfl rfl rfl ?_
  refine k_l rfl rfl rfl ?_
  refine k_l rfl rfl rfl ?_
  refine k_p rfl rfl rfl ?_
  obtain ⟨v1, m1, R1, H⟩ := H
  refine k_iv rfl rfl rfl rfl rfl (by decide) rfl hM R1 (fun hM1 hv1 => ?_)
  by_cases c2 : v1 ≠ 0
  · rw [if_pos c2] at H
    refine k_z rfl (by decide) hv1 (q := true) (decide_eq_true c2) rfl ?_
    refine k_l rfl rfl rfl ?_
    refine k_gr (t := 41) rfl rfl rfl (by decide) rfl ?_
    refine k_l rfl rfl rfl ?_
    refine k_l rfl rfl rfl ?_
    refine k_iw (σ1 := rows 3000 m1 42 x1 x2) rfl rfl rfl rfl rfl (by decide) rfl hM1 (rn_set rfl rfl rfl rfl rfl (by decide) hx1 hx2) (fun _ => ?_)
    refine k_p rfl rfl rfl ?_
    obtain ⟨rfl, rfl⟩ := H
    exact k_r1 (hM1.rs hx2) (rgk rfl) rfl rfl rfl
  · rw [if_neg c2] at H
    refine k_z rfl (by decide) hv1 (q := false) (decide_eq_false c2) rfl ?_
    refine k_p rfl rfl rfl ?_
    obtain ⟨rfl, rfl⟩ := H
    exact k_r1 hM1 (rgk rfl) rfl rfl rfl
def B_Ty_unify_162 (d : Nat) (x3 x4 x5 : Int) (σ : Mem) (o : Option Int) (s' : Mem) : Prop := if rowv 3000 σ 40 x4 ≠ 62 then (∃ (v5 : Int) (m5 : Mem), Rn (d + 3) yTy_unify [.ref 38, vi (rowv 3000 σ 42 x4), vi (rowv 3000 σ 42 x5), vi (x3 + 1)] σ (some v5) m5 ∧ ((v5 = 0 ∨ v5 = 1) ∧ (o = some v5 ∧ s' = m5))) else (∃ (v9 : Int) (m9 : Mem), Rn (d + 3) yTy_unify [.ref 38, vi (rowv 3000 σ 44 x4), vi (rowv 3000 σ 44 x5), vi (x3 + 1)] σ (some v9) m9 ∧ ((v9 = 0 ∨ v9 = 1) ∧ (o = some v9 ∧ s' = m9)))
theorem K_Ty_unify_162 {d : Nat} {x3 x4 x5 : Int} {σ s' : Mem} {o : Option Int} (hx3 : rg x3) (hx4 : rg x4) (hx5 : rg x5) (H : B_Ty_unify_162 d x3 x4 x5 σ o s') : Lb (d + 3) yTy_unify 162 [(0, .ref 38), (3, vi x3), (4, vi x4), (5, vi x5)] [] σ o s' := by
  intro hM
  unfold B_Ty_unify_162 at H
  refine k_l rfl rfl rfl ?_
  refine k_gr (t := 39) rfl rfl rfl (by decide) rfl ?_
  refine k_l rfl rfl rfl ?_
  refine k_iv (v := rowv 3000 σ 40 x4) rfl rfl rfl rfl rfl (by decide) rfl hM (rn_get rfl rfl rfl rfl rfl (by decide) hx4) (fun _ q1 => ?_)
  refine k_k (x := 62) rfl rfl rfl rfl ?_
  by_cases c2 : rowv 3000 σ 40 x4 ≠ 62
  · rw [if_pos c2] at H
    refine k_c rfl (by decide) q1 (rgk rfl) (q := true) (decide_eq_true c2) rfl ?_
    refine k_l rfl rfl rfl ?_
    refine k_l rfl rfl rfl ?_
    refine k_gr (t := 41) rfl rfl rfl (by decide) rfl ?_
    refine k_l rfl rfl rfl ?_
    refine k_iv (v := rowv 3000 σ 42 x4) rfl rfl rfl rfl rfl (by decide) rfl hM (rn_get rfl rfl rfl rfl rfl (by decide) hx4) (fun _ q3 => ?_)
    refine k_l rfl rfl rfl ?_
    refine k_gr (t := 41) rfl rfl rfl (by decide) rfl ?_
    refine k_l rfl rfl rfl ?_
    refine k_iv (v := rowv 3000 σ 42 x5) rfl rfl rfl rfl rfl (by decide) rfl hM (rn_get rfl rfl rfl rfl rfl (by decide) hx5) (fun _ q4 => ?_)
    refine k_l rfl rfl rfl ?_
    refine k_p rfl rfl rfl ?_
    refine k_add rfl ?_
    obtain ⟨v5, m5, R5, H⟩ := H
    refine k_iv rfl rfl rfl rfl rfl (by decide) rfl hM R5 (fun hM5 hv5 => ?_)
    obtain ⟨g6, H⟩ := H
    obtain ⟨rfl, rfl⟩ := H
    exact k_r1 hM5 hv5 rfl rfl (ret_b rfl g6)
  · rw [if_neg c2] at H
    refine k_c rfl (by decide) q1 (rgk rfl) (q := false) (decide_eq_false c2) rfl ?_
    refine k_l rfl rfl rfl ?_
    refine k_l rfl rfl rfl ?_
    refine k_gr (t := 43) rfl rfl rfl (by decide) rfl ?_
    refine k_l rfl rfl rfl ?_
    refine k_iv (v := rowv 3000 σ 44 x4) rfl rfl rfl rfl rfl (by decide) rfl hM (rn_get rfl rfl rfl rfl rfl (by decide) hx4) (fun _ q7 => ?_)
    refine k_l rfl rfl rfl ?_
    refine k_gr (t := 43) rfl rfl rfl (by decide) rfl ?_
    refine k_l rfl rfl rfl ?_
    refine k_iv (v := rowv 3000 σ 44 x5) rfl rfl rfl rfl rfl (by decide) rfl hM (rn_get rfl rfl rfl rfl rfl (by decide) hx5) (fun _ q8 => ?_)
    refine k_l rfl rfl rfl ?_
    refine k_p rfl rfl rfl ?_
    refine k_add rfl ?_
    obtain ⟨v9, m9, R9, H⟩ := H
    refine k_iv rfl rfl rfl rfl rfl (by decide) rfl hM R9 (fun hM9 hv9 => ?_)
    refine k_b rfl rfl rfl rfl ?_
    obtain ⟨g10, H⟩ := H
    obtain ⟨rfl, rfl⟩ := H
    exact k_r1 hM9 hv9 rfl rfl (ret_b rfl g10)
def B_Ty_unify (d : Nat) (x1 x2 x3 : Int) (σ : Mem) (o : Option Int) (s' : Mem) : Prop := ∃ (v1 : Int) (m1 : Mem), Rn (d + 3) yTy_resolve [.ref 38, vi x1] σ (some v1) m1 ∧ (∃ (v2 : Int) (m2 : Mem), Rn (d + 3) yTy_resolve [.ref 38, vi x2] m1 (some v2) m2 ∧ (if v1 ≠ v2 then (if x3 > 40 then (o = some 0 ∧ s' = m2) else (∃ (v5 : Int) (m5 : Mem), Rn (d + 3) yTy_tooLong [.ref 38, vi v1] m2 (some v5) m5 ∧ (if v5 ≠ 0 then (o = some 0 ∧ s' = m5) else (∃ (v7 : Int) (m7 : Mem), Rn (d + 3) yTy_tooLong [.ref 38, vi v2] m5 (some v7) m7 ∧ (if v7 = 0 then (if rowv 3000 m7 40 v1 ≠ 63 then (if rowv 3000 m7 40 v2 ≠ 63 then (if rowv 3000 m7 40 v1 = rowv 3000 m7 40 v2 then (if rowv 3000 m7 40 v1 ≠ 62 then (B_Ty_unify_162 d x3 v1 v2 m7 o s') else (∃ (v20 : Int) (m20 : Mem), Rn (d + 3) yTy_unify [.ref 38, vi (rowv 3000 m7 42 v1), vi (rowv 3000 m7 42 v2), vi (x3 + 1)] m7 (some v20) m20 ∧ (if v20 ≠ 0 then (B_Ty_unify_162 d x3 v1 v2 m20 o s') else (o = some 0 ∧ s' = m20)))) else (o = some 0 ∧ s' = m7)) else (∃ (v22 : Int) (m22 : Mem), Rn (d + 3) yTy_link [.ref 38, vi v2, vi v1] m7 (some v22) m22 ∧ ((v22 = 0 ∨ v22 = 1) ∧ (o = some v22 ∧ s' = m22)))) else (∃ (v24 : Int) (m24 : Mem), Rn (d + 3) yTy_link [.ref 38, vi v1, vi v2] m7 (some v24) m24 ∧ ((v24 = 0 ∨ v24 = 1) ∧ (o = some v24 ∧ s' = m24)))) else (o = some 0 ∧ s' = m7)))))) else (o = some 1 ∧ s' = m2)))
theorem M_Ty_unify {d : Nat} {x1 x2 x3 : Int} {σ s' : Mem} {o : Option Int} (hx1 : rg x1) (hx2 : rg x2) (hx3 : rg x3) (H : B_Ty_unify d x1 x2 x3 σ o s') : Rn (d + 4) yTy_unify [.ref 38, vi x1, vi x2, vi x3] σ o s' := by
  refine k_m (Nat.le_of_ble_eq_true rfl) (fun hM => ?_)
  unfold B_Ty_unify at H
  refine k_l rfl rfl rfl ?_
  refine k_l rfl rfl rfl ?_
  obtain ⟨v1, m1, R1, H⟩ := H
  refine k_iv rfl rfl rfl rfl rfl (by decide) rfl hM R1 (fun hM1 hv1 => ?_)
  refine k_l rfl rfl rfl ?_
  refine k_l rfl rfl rfl ?_
  refine k_l rfl rfl rfl ?_
  obtain ⟨v2, m2, R2, H⟩ := H
  refine k_iv rfl rfl rfl rfl rfl (by decide) rfl hM1 R2 (fun hM2 hv2 => ?_)
  refine k_l rfl rfl rfl ?_
  refine k_l rfl rfl rfl ?_
  refine k_l rfl rfl rfl ?_
  by_cases c3 : v1 ≠ v2
  · rw [if_pos c3] at H
    refine k_c rfl (by decide) hv1 hv2 (q := true) (decide_eq_true c3) rfl ?_
    refine k_l rfl rfl rfl ?_
    refine k_k (x := 40) rfl rfl rfl rfl ?_
    by_cases c4 : x3 > 40
    · rw [if_pos c4] at H
      refine k_c rfl (by decide) hx3 (rgk rfl) (q := true) (decide_eq_true c4) rfl ?_
      refine k_p rfl rfl rfl ?_
      obtain ⟨rfl, rfl⟩ := H
      exact k_r1 hM2 (rgk rfl) rfl rfl rfl
    · rw [if_neg c4] at H
      refine k_c rfl (by decide) hx3 (rgk rfl) (q := false) (decide_eq_false c4) rfl ?_
      refine k_l rfl rfl rfl ?_
      refine k_l rfl rfl rfl ?_
      obtain ⟨v5, m5, R5, H⟩ := H
      refine k_iv rfl rfl rfl rfl rfl (by decide) rfl hM2 R5 (fun hM5 hv5 => ?_)
      by_cases c6 : v5 ≠ 0
      · rw [if_pos c6] at H
        refine k_z rfl (by decide) hv5 (q := true) (decide_eq_true c6) rfl ?_
        refine k_p rfl rfl rfl ?_
        obtain ⟨rfl, rfl⟩ := H
        exact k_r1 hM5 (rgk rfl) rfl rfl rfl
      · rw [if_neg c6] at H
        refine k_z rfl (by decide) hv5 (q := false) (decide_eq_false c6) rfl ?_
        refine k_l rfl rfl rfl ?_
        refine k_l rfl rfl rfl ?_
        obtain ⟨v7, m7, R7, H⟩ := H
        refine k_iv rfl rfl rfl rfl rfl (by decide) rfl hM5 R7 (fun hM7 hv7 => ?_)
        by_cases c8 : v7 = 0
        · rw [if_pos c8] at H
          refine k_z rfl (by decide) hv7 (q := true) (decide_eq_true c8) rfl ?_
          refine k_l rfl rfl rfl ?_
          refine k_gr (t := 39) rfl rfl rfl (by decide) rfl ?_
          refine k_l rfl rfl rfl ?_
          refine k_iv (v := rowv 3000 m7 40 v1) rfl rfl rfl rfl rfl (by decide) rfl hM7 (rn_get rfl rfl rfl rfl rfl (by decide) hv1) (fun _ q9 => ?_)
          refine k_k (x := 63) rfl rfl rfl rfl ?_
          by_cases c10 : rowv 3000 m7 40 v1 ≠ 63
          · rw [if_pos c10] at H
            refine k_c rfl (by decide) q9 (rgk rfl) (q := true) (decide_eq_true c10) rfl ?_
            refine k_l rfl rfl rfl ?_
            refine k_gr (t := 39) rfl rfl rfl (by decide) rfl ?_
            refine k_l rfl rfl rfl ?_
            refine k_iv (v := rowv 3000 m7 40 v2) rfl rfl rfl rfl rfl (by decide) rfl hM7 (rn_get rfl rfl rfl rfl rfl (by decide) hv2) (fun _ q11 => ?_)
            refine k_k (x := 63) rfl rfl rfl rfl ?_
            by_cases c12 : rowv 3000 m7 40 v2 ≠ 63
            · rw [if_pos c12] at H
              refine k_c rfl (by decide) q11 (rgk rfl) (q := true) (decide_eq_true c12) rfl ?_
              refine k_l rfl rfl rfl ?_
              refine k_gr (t := 39) rfl rfl rfl (by decide) rfl ?_
              refine k_l rfl rfl rfl ?_
              refine k_iv (v := rowv 3000 m7 40 v1) rfl rfl rfl rfl rfl (by decide) rfl hM7 (rn_get rfl rfl rfl rfl rfl (by decide) hv1) (fun _ q13 => ?_)
              refine k_l rfl rfl rfl ?_
              refine k_gr (t := 39) rfl rfl rfl (by decide) rfl ?_
              refine k_l rfl rfl rfl ?_
              refine k_iv (v := rowv 3000 m7 40 v2) rfl rfl rfl rfl rfl (by decide) rfl hM7 (rn_get rfl rfl rfl rfl rfl (by decide) hv2) (fun _ q14 => ?_)
              by_cases c15 : rowv 3000 m7 40 v1 = rowv 3000 m7 40 v2
              · rw [if_pos c15] at H
                refine k_c rfl (by decide) q13 q14 (q := true) (decide_eq_true c15) rfl ?_
                refine k_l rfl rfl rfl ?_
                refine k_gr (t := 39) rfl rfl rfl (by decide) rfl ?_
                refine k_l rfl rfl rfl ?_
                refine k_iv (v := rowv 3000 m7 40 v1) rfl rfl rfl rfl rfl (by decide) rfl hM7 (rn_get rfl rfl rfl rfl rfl (by decide) hv1) (fun _ q16 => ?_)
                refine k_k (x := 62) rfl rfl rfl rfl ?_
                by_cases c17 : rowv 3000 m7 40 v1 ≠ 62
                · rw [if_pos c17] at H
                  refine k_c rfl (by decide) q16 (rgk rfl) (q := true) (decide_eq_true c17) rfl ?_
                  exact k_lab (K_Ty_unify_162 hx3 hv1 hv2 H) hM7 (lvS_cons rfl rfl (lvS_cons rfl rfl (lvS_cons rfl rfl (lvS_cons rfl rfl lvS_nil))))
                · rw [if_neg c17] at H
                  refine k_c rfl (by decide) q16 (rgk rfl) (q := false) (decide_eq_false c17) rfl ?_
                  refine k_l rfl rfl rfl ?_
                  refine k_l rfl rfl rfl ?_
                  refine k_gr (t := 41) rfl rfl rfl (by decide) rfl ?_
                  refine k_l rfl rfl rfl ?_
                  refine k_iv (v := rowv 3000 m7 42 v1) rfl rfl rfl rfl rfl (by decide) rfl hM7 (rn_get rfl rfl rfl rfl rfl (by decide) hv1) (fun _ q18 => ?_)
                  refine k_l rfl rfl rfl ?_
                  refine k_gr (t := 41) rfl rfl rfl (by decide) rfl ?_
                  refine k_l rfl rfl rfl ?_
                  refine k_iv (v := rowv 3000 m7 42 v2) rfl rfl rfl rfl rfl (by decide) rfl hM7 (rn_get rfl rfl rfl rfl rfl (by decide) hv2) (fun _ q19 => ?_)
                  refine k_l rfl rfl rfl ?_
                  refine k_p rfl rfl rfl ?_
                  refine k_add rfl ?_
                  obtain ⟨v20, m20, R20, H⟩ := H
                  refine k_iv rfl rfl rfl rfl rfl (by decide) rfl hM7 R20 (fun hM20 hv20 => ?_)
                  by_cases c21 : v20 ≠ 0
                  · rw [if_pos c21] at H
                    refine k_z rfl (by decide) hv20 (q := true) (decide_eq_true c21) rfl ?_
                    exact k_lab (K_Ty_unify_162 hx3 hv1 hv2 H) hM20 (lvS_cons rfl rfl (lvS_cons rfl rfl (lvS_cons rfl rfl (lvS_cons rfl rfl lvS_nil))))
                  · rw [if_neg c21] at H
                    refine k_z rfl (by decide) hv20 (q := false) (decide_eq_false c21) rfl ?_
                    refine k_p rfl rfl rfl ?_
                    obtain ⟨rfl, rfl⟩ := H
                    exact k_r1 hM20 (rgk rfl) rfl rfl rfl
              · rw [if_neg c15] at H
                refine k_c rfl (by decide) q13 q14 (q := false) (decide_eq_false c15) rfl ?_
                refine k_p rfl rfl rfl ?_
                obtain ⟨rfl, rfl⟩ := H
                exact k_r1 hM7 (rgk rfl) rfl rfl rfl
            · rw [if_neg c12] at H
              refine k_c rfl (by decide) q11 (rgk rfl) (q := false) (decide_eq_false c12) rfl ?_
              refine k_l rfl rfl rfl ?_
              refine k_l rfl rfl rfl ?_
              refine k_l rfl rfl rfl ?_
              obtain ⟨v22, m22, R22, H⟩ := H
              refine k_iv rfl rfl rfl rfl rfl (by decide) rfl hM7 R22 (fun hM22 hv22 => ?_)
              obtain ⟨g23, H⟩ := H
              obtain ⟨rfl, rfl⟩ := H
              exact k_r1 hM22 hv22 rfl rfl (ret_b rfl g23)
          · rw [if_neg c10] at H
            refine k_c rfl (by decide) q9 (rgk rfl) (q := false) (decide_eq_false c10) rfl ?_
            refine k_l rfl rfl rfl ?_
            refine k_l rfl rfl rfl ?_
            refine k_l rfl rfl rfl ?_
            obtain ⟨v24, m24, R24, H⟩ := H
            refine k_iv rfl rfl rfl rfl rfl (by decide) rfl hM7 R24 (fun hM24 hv24 => ?_)
            obtain ⟨g25, H⟩ := H
            obtain ⟨rfl, rfl⟩ := H
            exact k_r1 hM24 hv24 rfl rfl (ret_b rfl g25)
        · rw [if_neg c8] at H
          refine k_z rfl (by decide) hv7 (q := false) (decide_eq_false c8) rfl ?_
          refine k_p rfl rfl rfl ?_
          obtain ⟨rfl, rfl⟩ := H
          exact k_r1 hM7 (rgk rfl) rfl rfl rfl
  · rw [if_neg c3] at H
    refine k_c rfl (by decide) hv1 hv2 (q := false) (decide_eq_false c3) rfl ?_
    refine k_p rfl rfl rfl ?_
    obtain ⟨rfl, rfl⟩ := H
    exact k_r1 hM2 (rgk rfl) rfl rfl rfl
def B_Ty_generalise (d : Nat) (x1 x2 x3 : Int) (σ : Mem) (o : Option Int) (s' : Mem) : Prop := ∃ (v1 : Int) (m1 : Mem), Rn (d + 3) yTy_resolve [.ref 38, vi x1] σ (some v1) m1 ∧ (if x3 ≤ 40 then (if rowv 3000 m1 40 v1 = 62 then (∃ (m6 : Mem), Rn (d + 3) yTy_generalise [.ref 38, vi (rowv 3000 m1 42 v1), vi x2, vi (x3 + 1)] m1 none m6 ∧ (∃ (m8 : Mem), Rn (d + 3) yTy_generalise [.ref 38, vi (rowv 3000 m6 44 v1), vi x2, vi (x3 + 1)] m6 none m8 ∧ (o = none ∧ s' = m8))) else (if rowv 3000 m1 40 v1 = 63 then (if rowv 3000 m1 44 v1 ≤ x2 then (o = none ∧ s' = m1) else (o = none ∧ s' = rows 3000 m1 44 v1 1000)) else (if rowv 3000 m1 40 v1 = 91 then (∃ (m14 : Mem), Rn (d + 3) yTy_generalise [.ref 38, vi (rowv 3000 m1 42 v1), vi x2, vi (x3 + 1)] m1 none m14 ∧ (o = none ∧ s' = m14)) else (o = none ∧ s' = m1)))) else (o = none ∧ s' = m1))
theorem M_Ty_generalise {d : Nat} {x1 x2 x3 : Int} {σ s' : Mem} {o : Option Int} (hx1 : rg x1) (hx2 : rg x2) (hx3 : rg x3) (H : B_Ty_generalise d x1 x2 x3 σ o s') : Rn (d + 4) yTy_generalise [.ref 38, vi x1, vi x2, vi x3] σ o s' := by
  refine k_m (Nat.le_of_ble_eq_true rfl) (fun hM => ?_)
  unfold B_Ty_generalise at H
  refine k_l rfl rfl rfl ?_
  refine k_l rfl rfl rfl ?_
  obtain ⟨v1, m1, R1, H⟩ := H
  refine k_iv rfl rfl rfl rfl rfl (by decide) rfl hM R1 (fun hM1 hv1 => ?_)
  refine k_l rfl rfl rfl ?_
  refine k_l rfl rfl rfl ?_
  refine k_k (x := 40) rfl rfl rfl rfl ?_
  by_cases c2 : x3 ≤ 40
  · rw [if_pos c2] at H
    refine k_c rfl (by decide) hx3 (rgk rfl) (q := true) (decide_eq_true c2) rfl ?_
    refine k_l rfl rfl rfl ?_
    refine k_gr (t := 39) rfl rfl rfl (by decide) rfl ?_
    refine k_l rfl rfl rfl ?_
    refine k_iv (v := rowv 3000 m1 40 v1) rfl rfl rfl rfl rfl (by decide) rfl hM1 (rn_get rfl rfl rfl rfl rfl (by decide) hv1) (fun _ q3 => ?_)
    by_cases c4 : rowv 3000 m1 40 v1 = 62
    · rw [if_pos c4] at H
      refine k_sw rfl rfl c4 rfl rfl ?_
      refine k_l rfl rfl rfl ?_
      refine k_l rfl rfl rfl ?_
      refine k_gr (t := 41) rfl rfl rfl (by decide) rfl ?_
      refine k_l rfl rfl rfl ?_
      refine k_iv (v := rowv 3000 m1 42 v1) rfl rfl rfl rfl rfl (by decide) rfl hM1 (rn_get rfl rfl rfl rfl rfl (by decide) hv1) (fun _ q5 => ?_)
      refine k_l rfl rfl rfl ?_
      refine k_l rfl rfl rfl ?_
      refine k_p rfl rfl rfl ?_
      refine k_add rfl ?_
      obtain ⟨m6, R6, H⟩ := H
      refine k_iw rfl rfl rfl rfl rfl (by decide) rfl hM1 R6 (fun hM6 => ?_)
      refine k_l rfl rfl rfl ?_
      refine k_l rfl rfl rfl ?_
      refine k_gr (t := 43) rfl rfl rfl (by decide) rfl ?_
      refine k_l rfl rfl rfl ?_
      refine k_iv (v := rowv 3000 m6 44 v1) rfl rfl rfl rfl rfl (by decide) rfl hM6 (rn_get rfl rfl rfl rfl rfl (by decide) hv1) (fun _ q7 => ?_)
      refine k_l rfl rfl rfl ?_
      refine k_l rfl rfl rfl ?_
      refine k_p rfl rfl rfl ?_
      refine k_add rfl ?_
      obtain ⟨m8, R8, H⟩ := H
      refine k_iw rfl rfl rfl rfl rfl (by decide) rfl hM6 R8 (fun hM8 => ?_)
      refine k_b rfl rfl rfl rfl ?_
      obtain ⟨rfl, rfl⟩ := H
      exact k_r0 hM8 rfl rfl rfl
    rw [if_neg c4] at H
    by_cases c9 : rowv 3000 m1 40 v1 = 63
    · rw [if_pos c9] at H
      refine k_sw rfl rfl c9 rfl rfl ?_
      refine k_l rfl rfl rfl ?_
      refine k_gr (t := 43) rfl rfl rfl (by decide) rfl ?_
      refine k_l rfl rfl rfl ?_
      refine k_iv (v := rowv 3000 m1 44 v1) rfl rfl rfl rfl rfl (by decide) rfl hM1 (rn_get rfl rfl rfl rfl rfl (by decide) hv1) (fun _ q10 => ?_)
      refine k_l rfl rfl rfl ?_
      by_cases c11 : rowv 3000 m1 44 v1 ≤ x2
      · rw [if_pos c11] at H
        refine k_c rfl (by decide) q10 hx2 (q := true) (decide_eq_true c11) rfl ?_
        obtain ⟨rfl, rfl⟩ := H
        exact k_r0 hM1 rfl rfl rfl
      · rw [if_neg c11] at H
        refine k_c rfl (by decide) q10 hx2 (q := false) (decide_eq_false c11) rfl ?_
        refine k_l rfl rfl rfl ?_
        refine k_gr (t := 43) rfl rfl rfl (by decide) rfl ?_
        refine k_l rfl rfl rfl ?_
        refine k_k (x := 1000) rfl rfl rfl rfl ?_
        refine k_iw (σ1 := rows 3000 m1 44 v1 1000) rfl rfl rfl rfl rfl (by decide) rfl hM1 (rn_set rfl rfl rfl rfl rfl (by decide) hv1 (rgk rfl)) (fun _ => ?_)
        refine k_b rfl rfl rfl rfl ?_
        obtain ⟨rfl, rfl⟩ := H
        exact k_r0 (hM1.rs (rgk rfl)) rfl rfl rfl
    rw [if_neg c9] at H
    by_cases c12 : rowv 3000 m1 40 v1 = 91
    · rw [if_pos c12] at H
      refine k_sw rfl rfl c12 rfl rfl ?_
      refine k_l rfl rfl rfl ?_
      refine k_l rfl rfl rfl ?_
      refine k_gr (t := 41) rfl rfl rfl (by decide) rfl ?_
      refine k_l rfl rfl rfl ?_
      refine k_iv (v := rowv 3000 m1 42 v1) rfl rfl rfl rfl rfl (by decide) rfl hM1 (rn_get rfl rfl rfl rfl rfl (by decide) hv1) (fun _ q13 => ?_)
      refine k_l rfl rfl rfl ?_
      refine k_l rfl rfl rfl ?_
      refine k_p rfl rfl rfl ?_
      refine k_add rfl ?_
      obtain ⟨m14, R14, H⟩ := H
      refine k_iw rfl rfl rfl rfl rfl (by decide) rfl hM1 R14 (fun hM14 => ?_)
      refine k_b rfl rfl rfl rfl ?_
      obtain ⟨rfl, rfl⟩ := H
      exact k_r0 hM14 rfl rfl rfl
    rw [if_neg c12] at H
    refine k_lsd rfl q3 (by decide) (fun q hq => ?_) rfl ?_
    · simp only [List.mem_cons, List.not_mem_nil, or_false] at hq
      rcases hq with rfl | rfl | rfl
      · exact c4
      · exact c9
      · exact c12
    obtain ⟨rfl, rfl⟩ := H
    exact k_r0 hM1 rfl rfl rfl
  · rw [if_neg c2] at H
    refine k_c rfl (by decide) hx3 (rgk rfl) (q := false) (decide_eq_false c2) rfl ?_
    obtain ⟨rfl, rfl⟩ := H
    exact k_r0 hM1 rfl rfl rfl
def B_Ty_instance (d : Nat) (x1 x2 : Int) (σ : Mem) (o : Option Int) (s' : Mem) : Prop := ∃ (v1 : Int) (m1 : Mem), Rn (d + 3) yTy_tooLong [.ref 38, vi x1] (mup σ 38 6 0) (some v1) m1 ∧ (if v1 = 0 then (∃ (v3 : Int) (m3 : Mem), Rn (d + 3) yTy_copy [.ref 38, vi x1, vi x2, vi 0] m1 (some v3) m3 ∧ (o = some v3 ∧ s' = m3)) else (o = some ((-1)) ∧ s' = m1))
theorem M_Ty_instance {d : Nat} {x1 x2 : Int} {σ s' : Mem} {o : Option Int} (hx1 : rg x1) (hx2 : rg x2) (H : B_Ty_instance d x1 x2 σ o s') : Rn (d + 4) yTy_instance [.ref 38, vi x1, vi x2] σ o s' := by
  refine k_m (Nat.le_of_ble_eq_true rfl) (fun hM => ?_)
  unfold B_Ty_instance at H
  refine k_l rfl rfl rfl ?_
  refine k_p rfl rfl rfl ?_
  refine k_pf rfl rfl rfl (by decide) rfl rfl rfl rfl ?_
  refine k_l rfl rfl rfl ?_
  refine k_l rfl rfl rfl ?_
  obtain ⟨v1, m1, R1, H⟩ := H
  refine k_iv rfl rfl rfl rfl rfl (by decide) rfl (hM.up (rgk rfl)) R1 (fun hM1 hv1 => ?_)
  by_cases c2 : v1 = 0
  · rw [if_pos c2] at H
    refine k_z rfl (by decide) hv1 (q := true) (decide_eq_true c2) rfl ?_
    refine k_l rfl rfl rfl ?_
    refine k_l rfl rfl rfl ?_
    refine k_l rfl rfl rfl ?_
    refine k_p rfl rfl rfl ?_
    obtain ⟨v3, m3, R3, H⟩ := H
    refine k_iv rfl rfl rfl rfl rfl (by decide) rfl hM1 R3 (fun hM3 hv3 => ?_)
    obtain ⟨rfl, rfl⟩ := H
    exact k_r1 hM3 hv3 rfl rfl rfl
  · rw [if_neg c2] at H
    refine k_z rfl (by decide) hv1 (q := false) (decide_eq_false c2) rfl ?_
    refine k_p rfl rfl rfl ?_
    refine k_b rfl rfl rfl rfl ?_
    obtain ⟨rfl, rfl⟩ := H
    exact k_r1 hM1 (rgk rfl) rfl rfl rfl
def B_Ty_copy_169 (d : Nat) (x8 x9 : Int) (σ : Mem) (o : Option Int) (s' : Mem) : Prop := ∃ (v1 : Int) (m1 : Mem), Rn (d + 3) yTy_arrow [.ref 38, vi x8, vi x9] σ (some v1) m1 ∧ (o = some v1 ∧ s' = m1)
theorem K_Ty_copy_169 {d : Nat} {x8 x9 : Int} {σ s' : Mem} {o : Option Int} (hx8 : rg x8) (hx9 : rg x9) (H : B_Ty_copy_169 d x8 x9 σ o s') : Lb (d + 3) yTy_copy 169 [(0, .ref 38), (8, vi x8), (9, vi x9)] [] σ o s' := by
  intro hM
  unfold B_Ty_copy_169 at H
  refine k_l rfl rfl rfl ?_
  refine k_l rfl rfl rfl ?_
  refine k_l rfl rfl rfl ?_
  obtain ⟨v1, m1, R1, H⟩ := H
  refine k_iv rfl rfl rfl rfl rfl (by decide) rfl hM R1 (fun hM1 hv1 => ?_)
  obtain ⟨rfl, rfl⟩ := H
  exact k_r1 hM1 hv1 rfl rfl rfl
def B_Ty_copy (d : Nat) (x1 x2 x3 : Int) (σ : Mem) (o : Option Int) (s' : Mem) : Prop := ∃ (v1 : Int) (m1 : Mem), Rn (d + 3) yTy_resolve [.ref 38, vi x1] σ (some v1) m1 ∧ (if x3 ≤ 40 then (if rowv 3000 m1 40 v1 = 62 then (∃ (v7 : Int) (m7 : Mem), Rn (d + 3) yTy_copy [.ref 38, vi (rowv 3000 m1 42 v1), vi x2, vi (x3 + 1)] m1 (some v7) m7 ∧ (∃ (v8 : Int) (m8 : Mem), Rn (d + 3) yTy_copy [.ref 38, vi (rowv 3000 m1 44 v1), vi x2, vi (x3 + 1)] m7 (some v8) m8 ∧ (∃ (v9 : Int) (m9 : Mem), Rn (d + 3) yTy_resolve [.ref 38, vi (rowv 3000 m1 42 v1)] m8 (some v9) m9 ∧ (if v7 ≠ v9 then (B_Ty_copy_169 d v7 v8 m9 o s') else (∃ (v11 : Int) (m11 : Mem), Rn (d + 3) yTy_resolve [.ref 38, vi (rowv 3000 m1 44 v1)] m9 (some v11) m11 ∧ (if v8 ≠ v11 then (B_Ty_copy_169 d v7 v8 m11 o s') else (o = some v1 ∧ s' = m11))))))) else (if rowv 3000 m1 40 v1 = 63 then (if rowv 3000 m1 44 v1 ≠ 1000 then (o = some v1 ∧ s' = m1) else (∃ (v16 : Int) (m16 : Mem), Rn (d + 3) yTy_copyOf [.ref 38, vi v1, vi x2] m1 (some v16) m16 ∧ (o = some v16 ∧ s' = m16))) else (if rowv 3000 m1 40 v1 = 91 then (∃ (v18 : Int) (m18 : Mem), Rn (d + 3) yTy_copy [.ref 38, vi (rowv 3000 m1 42 v1), vi x2, vi (x3 + 1)] m1 (some v18) m18 ∧ (∃ (v19 : Int) (m19 : Mem), Rn (d + 3) yTy_resolve [.ref 38, vi (rowv 3000 m1 42 v1)] m18 (some v19) m19 ∧ (if v18 ≠ v19 then (∃ (v21 : Int) (m21 : Mem), Rn (d + 3) yTy_list [.ref 38, vi v18] m19 (some v21) m21 ∧ (o = some v21 ∧ s' = m21)) else (o = some v1 ∧ s' = m19)))) else (o = some v1 ∧ s' = m1)))) else (o = some v1 ∧ s' = m1))
theorem M_Ty_copy {d : Nat} {x1 x2 x3 : Int} {σ s' : Mem} {o : Option Int} (hx1 : rg x1) (hx2 : rg x2) (hx3 : rg x3) (H : B_Ty_copy d x1 x2 x3 σ o s') : Rn (d + 4) yTy_copy [.ref 38, vi x1, vi x2, vi x3] σ o s' := by
  refine k_m (Nat.le_of_ble_eq_true rfl) (fun hM => ?_)
  unfold B_Ty_copy at H
  refine k_l rfl rfl rfl ?_
  refine k_l rfl rfl rfl ?_
  obtain ⟨v1, m1, R1, H⟩ := H
  refine k_iv rfl rfl rfl rfl rfl (by decide) rfl hM R1 (fun hM1 hv1 => ?_)
  refine k_l rfl rfl rfl ?_
  refine k_l rfl rfl rfl ?_
  refine k_k (x := 40) rfl rfl rfl rfl ?_
  by_cases c2 : x3 ≤ 40
  · rw [if_pos c2] at H
    refine k_c rfl (by decide) hx3 (rgk rfl) (q := true) (decide_eq_true c2) rfl ?_
    refine k_l rfl rfl rfl ?_
    refine k_gr (t := 41) rfl rfl rfl (by decide) rfl ?_
    refine k_l rfl rfl rfl ?_
    refine k_iv (v := rowv 3000 m1 42 v1) rfl rfl rfl rfl rfl (by decide) rfl hM1 (rn_get rfl rfl rfl rfl rfl (by decide) hv1) (fun _ q3 => ?_)
    refine k_l rfl rfl rfl ?_
    refine k_l rfl rfl rfl ?_
    refine k_gr (t := 39) rfl rfl rfl (by decide) rfl ?_
    refine k_l rfl rfl rfl ?_
    refine k_iv (v := rowv 3000 m1 40 v1) rfl rfl rfl rfl rfl (by decide) rfl hM1 (rn_get rfl rfl rfl rfl rfl (by decide) hv1) (fun _ q4 => ?_)
    by_cases c5 : rowv 3000 m1 40 v1 = 62
    · rw [if_pos c5] at H
      refine k_sw rfl rfl c5 rfl rfl ?_
      refine k_l rfl rfl rfl ?_
      refine k_gr (t := 43) rfl rfl rfl (by decide) rfl ?_
      refine k_l rfl rfl rfl ?_
      refine k_iv (v := rowv 3000 m1 44 v1) rfl rfl rfl rfl rfl (by decide) rfl hM1 (rn_get rfl rfl rfl rfl rfl (by decide) hv1) (fun _ q6 => ?_)
      refine k_l rfl rfl rfl ?_
      refine k_l rfl rfl rfl ?_
      refine k_l rfl rfl rfl ?_
      refine k_l rfl rfl rfl ?_
      refine k_l rfl rfl rfl ?_
      refine k_p rfl rfl rfl ?_
      refine k_add rfl ?_
      obtain ⟨v7, m7, R7, H⟩ := H
      refine k_iv rfl rfl rfl rfl rfl (by decide) rfl hM1 R7 (fun hM7 hv7 => ?_)
      refine k_l rfl rfl rfl ?_
      refine k_l rfl rfl rfl ?_
      refine k_l rfl rfl rfl ?_
      refine k_l rfl rfl rfl ?_
      refine k_l rfl rfl rfl ?_
      refine k_p rfl rfl rfl ?_
      refine k_add rfl ?_
      obtain ⟨v8, m8, R8, H⟩ := H
      refine k_iv rfl rfl rfl rfl rfl (by decide) rfl hM7 R8 (fun hM8 hv8 => ?_)
      refine k_l rfl rfl rfl ?_
      refine k_l rfl rfl rfl ?_
      refine k_l rfl rfl rfl ?_
      refine k_l rfl rfl rfl ?_
      obtain ⟨v9, m9, R9, H⟩ := H
      refine k_iv rfl rfl rfl rfl rfl (by decide) rfl hM8 R9 (fun hM9 hv9 => ?_)
      by_cases c10 : v7 ≠ v9
      · rw [if_pos c10] at H
        refine k_c rfl (by decide) hv7 hv9 (q := true) (decide_eq_true c10) rfl ?_
        exact k_lab (K_Ty_copy_169 hv7 hv8 H) hM9 (lvS_cons rfl rfl (lvS_cons rfl rfl (lvS_cons rfl rfl lvS_nil)))
      · rw [if_neg c10] at H
        refine k_c rfl (by decide) hv7 hv9 (q := false) (decide_eq_false c10) rfl ?_
        refine k_l rfl rfl rfl ?_
        refine k_l rfl rfl rfl ?_
        refine k_l rfl rfl rfl ?_
        obtain ⟨v11, m11, R11, H⟩ := H
        refine k_iv rfl rfl rfl rfl rfl (by decide) rfl hM9 R11 (fun hM11 hv11 => ?_)
        by_cases c12 : v8 ≠ v11
        · rw [if_pos c12] at H
          refine k_c rfl (by decide) hv8 hv11 (q := true) (decide_eq_true c12) rfl ?_
          exact k_lab (K_Ty_copy_169 hv7 hv8 H) hM11 (lvS_cons rfl rfl (lvS_cons rfl rfl (lvS_cons rfl rfl lvS_nil)))
        · rw [if_neg c12] at H
          refine k_c rfl (by decide) hv8 hv11 (q := false) (decide_eq_false c12) rfl ?_
          refine k_l rfl rfl rfl ?_
          refine k_b rfl rfl rfl rfl ?_
          obtain ⟨rfl, rfl⟩ := H
          exact k_r1 hM11 hv1 rfl rfl rfl
    rw [if_neg c5] at H
    by_cases c13 : rowv 3000 m1 40 v1 = 63
    · rw [if_pos c13] at H
      refine k_sw rfl rfl c13 rfl rfl ?_
      refine k_l rfl rfl rfl ?_
      refine k_gr (t := 43) rfl rfl rfl (by decide) rfl ?_
      refine k_l rfl rfl rfl ?_
      refine k_iv (v := rowv 3000 m1 44 v1) rfl rfl rfl rfl rfl (by decide) rfl hM1 (rn_get rfl rfl rfl rfl rfl (by decide) hv1) (fun _ q14 => ?_)
      refine k_k (x := 1000) rfl rfl rfl rfl ?_
      by_cases c15 : rowv 3000 m1 44 v1 ≠ 1000
      · rw [if_pos c15] at H
        refine k_c rfl (by decide) q14 (rgk rfl) (q := true) (decide_eq_true c15) rfl ?_
        refine k_l rfl rfl rfl ?_
        obtain ⟨rfl, rfl⟩ := H
        exact k_r1 hM1 hv1 rfl rfl rfl
      · rw [if_neg c15] at H
        refine k_c rfl (by decide) q14 (rgk rfl) (q := false) (decide_eq_false c15) rfl ?_
        refine k_l rfl rfl rfl ?_
        refine k_l rfl rfl rfl ?_
        refine k_l rfl rfl rfl ?_
        obtain ⟨v16, m16, R16, H⟩ := H
        refine k_iv rfl rfl rfl rfl rfl (by decide) rfl hM1 R16 (fun hM16 hv16 => ?_)
        refine k_b rfl rfl rfl rfl ?_
        obtain ⟨rfl, rfl⟩ := H
        exact k_r1 hM16 hv16 rfl rfl rfl
    rw [if_neg c13] at H
    by_cases c17 : rowv 3000 m1 40 v1 = 91
    · rw [if_pos c17] at H
      refine k_sw rfl rfl c17 rfl rfl ?_
      refine k_l rfl rfl rfl ?_
      refine k_l rfl rfl rfl ?_
      refine k_l rfl rfl rfl ?_
      refine k_l rfl rfl rfl ?_
      refine k_p rfl rfl rfl ?_
      refine k_add rfl ?_
      obtain ⟨v18, m18, R18, H⟩ := H
      refine k_iv rfl rfl rfl rfl rfl (by decide) rfl hM1 R18 (fun hM18 hv18 => ?_)
      refine k_l rfl rfl rfl ?_
      refine k_l rfl rfl rfl ?_
      refine k_l rfl rfl rfl ?_
      refine k_l rfl rfl rfl ?_
      obtain ⟨v19, m19, R19, H⟩ := H
      refine k_iv rfl rfl rfl rfl rfl (by decide) rfl hM18 R19 (fun hM19 hv19 => ?_)
      by_cases c20 : v18 ≠ v19
      · rw [if_pos c20] at H
        refine k_c rfl (by decide) hv18 hv19 (q := true) (decide_eq_true c20) rfl ?_
        refine k_l rfl rfl rfl ?_
        refine k_l rfl rfl rfl ?_
        obtain ⟨v21, m21, R21, H⟩ := H
        refine k_iv rfl rfl rfl rfl rfl (by decide) rfl hM19 R21 (fun hM21 hv21 => ?_)
        obtain ⟨rfl, rfl⟩ := H
        exact k_r1 hM21 hv21 rfl rfl rfl
      · rw [if_neg c20] at H
        refine k_c rfl (by decide) hv18 hv19 (q := false) (decide_eq_false c20) rfl ?_
        refine k_l rfl rfl rfl ?_
        refine k_b rfl rfl rfl rfl ?_
        obtain ⟨rfl, rfl⟩ := H
        exact k_r1 hM19 hv1 rfl rfl rfl
    rw [if_neg c17] at H
    refine k_lsd rfl q4 (by decide) (fun q hq => ?_) rfl ?_
    · simp only [List.mem_cons, List.not_mem_nil, or_false] at hq
      rcases hq with rfl | rfl | rfl
      · exact c5
      · exact c13
      · exact c17
    refine k_l rfl rfl rfl ?_
    obtain ⟨rfl, rfl⟩ := H
    exact k_r1 hM1 hv1 rfl rfl rfl
  · rw [if_neg c2] at H
    refine k_c rfl (by decide) hx3 (rgk rfl) (q := false) (decide_eq_false c2) rfl ?_
    refine k_l rfl rfl rfl ?_
    obtain ⟨rfl, rfl⟩ := H
    exact k_r1 hM1 hv1 rfl rfl rfl
def B_Ty_copyOf_34 (d : Nat) (x3 : Int) (σ : Mem) (o : Option Int) (s' : Mem) : Prop := o = some (rowv 20 σ 48 x3) ∧ s' = σ
theorem K_Ty_copyOf_34 {d : Nat} {x3 : Int} {σ s' : Mem} {o : Option Int} (hx3 : rg x3) (H : B_Ty_copyOf_34 d x3 σ o s') : Lb (d + 3) yTy_copyOf 34 [(0, .ref 38), (3, vi x3)] [] σ o s' := by
  intro hM
  unfold B_Ty_copyOf_34 at H
  refine k_l rfl rfl rfl ?_
  refine k_gr (t := 47) rfl rfl rfl (by decide) rfl ?_
  refine k_l rfl rfl rfl ?_
  refine k_iv (v := rowv 20 σ 48 x3) rfl rfl rfl rfl rfl (by decide) rfl hM (rn_get rfl rfl rfl rfl rfl (by decide) hx3) (fun _ q1 => ?_)
  obtain ⟨rfl, rfl⟩ := H
  exact k_r1 hM q1 rfl rfl rfl
def B_Ty_copyOf (d : Nat) (x1 x2 : Int) (σ : Mem) (o : Option Int) (s' : Mem) : Prop := ∃ (v1 : Int) (m1 : Mem), Rn (d + 3) yTy_placeOf [.ref 38, vi x1] σ (some v1) m1 ∧ (if rowv 20 m1 48 v1 ≠ (-1) then (B_Ty_copyOf_34 d v1 m1 o s') else (∃ (v4 : Int) (m4 : Mem), Rn (d + 3) yTy_make [.ref 38, vi 63, vi ((-1)), vi x2] m1 (some v4) m4 ∧ (B_Ty_copyOf_34 d v1 (rows 20 m4 48 v1 v4) o s')))
theorem M_Ty_copyOf {d : Nat} {x1 x2 : Int} {σ s' : Mem} {o : Option Int} (hx1 : rg x1) (hx2 : rg x2) (H : B_Ty_copyOf d x1 x2 σ o s') : Rn (d + 4) yTy_copyOf [.ref 38, vi x1, vi x2] σ o s' := by
  refine k_m (Nat.le_of_ble_eq_true rfl) (fun hM => ?_)
  unfold B_Ty_copyOf at H
  refine k_l rfl rfl rfl ?_
  refine k_l rfl rfl rfl ?_
  obtain ⟨v1, m1, R1, H⟩ := H
  refine k_iv rfl rfl rfl rfl rfl (by decide) rfl hM R1 (fun hM1 hv1 => ?_)
  refine k_l rfl rfl rfl ?_
  refine k_l rfl rfl rfl ?_
  refine k_gr (t := 47) rfl rfl rfl (by decide) rfl ?_
  refine k_l rfl rfl rfl ?_
  refine k_iv (v := rowv 20 m1 48 v1) rfl rfl rfl rfl rfl (by decide) rfl hM1 (rn_get rfl rfl rfl rfl rfl (by decide) hv1) (fun _ q2 => ?_)
  refine k_p rfl rfl rfl ?_
  by_cases c3 : rowv 20 m1 48 v1 ≠ (-1)
  · rw [if_pos c3] at H
    refine k_c rfl (by decide) q2 (rgk rfl) (q := true) (decide_eq_true c3) rfl ?_
    exact k_lab (K_Ty_copyOf_34 hv1 H) hM1 (lvS_cons rfl rfl (lvS_cons rfl rfl lvS_nil))
  · rw [if_neg c3] at H
    refine k_c rfl (by decide) q2 (rgk rfl) (q := false) (decide_eq_false c3) rfl ?_
    refine k_l rfl rfl rfl ?_
    refine k_gr (t := 47) rfl rfl rfl (by decide) rfl ?_
    refine k_l rfl rfl rfl ?_
    refine k_l rfl rfl rfl ?_
    refine k_k (x := 63) rfl rfl rfl rfl ?_
    refine k_p rfl rfl rfl ?_
    refine k_l rfl rfl rfl ?_
    obtain ⟨v4, m4, R4, H⟩ := H
    refine k_iv rfl rfl rfl rfl rfl (by decide) rfl hM1 R4 (fun hM4 hv4 => ?_)
    refine k_iw (σ1 := rows 20 m4 48 v1 v4) rfl rfl rfl rfl rfl (by decide) rfl hM4 (rn_set rfl rfl rfl rfl rfl (by decide) hv1 hv4) (fun _ => ?_)
    exact k_lab (K_Ty_copyOf_34 hv1 H) (hM4.rs hv4) (lvS_cons rfl rfl (lvS_cons rfl rfl lvS_nil))
def B_Ty_placeOf (d : Nat) (x1 : Int) (σ : Mem) (o : Option Int) (s' : Mem) : Prop := Lb (d + 3) yTy_placeOf 2 [(0, .ref 38), (1, vi x1), (2, vi 0)] [] σ o s'
theorem M_Ty_placeOf {d : Nat} {x1 : Int} {σ s' : Mem} {o : Option Int} (hx1 : rg x1) (H : B_Ty_placeOf d x1 σ o s') : Rn (d + 4) yTy_placeOf [.ref 38, vi x1] σ o s' := by
  refine k_m (Nat.le_of_ble_eq_true rfl) (fun hM => ?_)
  unfold B_Ty_placeOf at H
  refine k_p rfl rfl rfl ?_
  refine k_l rfl rfl rfl ?_
  exact k_lab H hM (lvS_cons rfl rfl (lvS_cons rfl rfl (lvS_cons rfl rfl lvS_nil)))
def B_Ty_placeOf_2 (d : Nat) (x1 x2 : Int) (σ : Mem) (o : Option Int) (s' : Mem) : Prop := if x2 ≥ σ 38 6 then ((rg ((σ 38 6) + 1)) ∧ ((rg (((σ 38 6) + 1) - 1)) ∧ (o = some (((σ 38 6) + 1) - 1) ∧ s' = mup (rows 20 (rows 20 σ 46 (σ 38 6) x1) 48 (σ 38 6) ((-1))) 38 6 ((σ 38 6) + 1)))) else (if rowv 20 σ 46 x2 ≠ x1 then ((rg (x2 + 1)) ∧ (Lb (d + 3) yTy_placeOf 2 [(0, .ref 38), (1, vi x1), (2, vi (x2 + 1))] [] σ o s')) else (o = some x2 ∧ s' = σ))
theorem K_Ty_placeOf_2 {d : Nat} {x1 x2 : Int} {σ s' : Mem} {o : Option Int} (hx1 : rg x1) (hx2 : rg x2) (H : B_Ty_placeOf_2 d x1 x2 σ o s') : Lb (d + 3) yTy_placeOf 2 [(0, .ref 38), (1, vi x1), (2, vi x2)] [] σ o s' := by
  intro hM
  unfold B_Ty_placeOf_2 at H
  refine k_l rfl rfl rfl ?_
  refine k_l rfl rfl rfl ?_
  refine k_gf rfl rfl rfl (by decide) rfl rfl ?_
  by_cases c1 : x2 ≥ σ 38 6
  · rw [if_pos c1] at H
    refine k_c rfl (by decide) hx2 (hM _ _) (q := true) (decide_eq_true c1) rfl ?_
    refine k_l rfl rfl rfl ?_
    refine k_gr (t := 45) rfl rfl rfl (by decide) rfl ?_
    refine k_l rfl rfl rfl ?_
    refine k_gf rfl rfl rfl (by decide) rfl rfl ?_
    refine k_l rfl rfl rfl ?_
    refine k_iw (σ1 := rows 20 σ 46 (σ 38 6) x1) rfl rfl rfl rfl rfl (by decide) rfl hM (rn_set rfl rfl rfl rfl rfl (by decide) (hM _ _) hx1) (fun _ => ?_)
    refine k_l rfl rfl rfl ?_
    refine k_gr (t := 47) rfl rfl rfl (by decide) rfl ?_
    refine k_l rfl rfl rfl ?_
    refine k_gf rfl rfl rfl (by decide) rfl (rows_ne (by decide)) ?_
    refine k_p rfl rfl rfl ?_
    refine k_iw (σ1 := rows 20 (rows 20 σ 46 (σ 38 6) x1) 48 (σ 38 6) ((-1))) rfl rfl rfl rfl rfl (by decide) rfl (hM.rs hx1) (rn_set rfl rfl rfl rfl rfl (by decide) (hM _ _) (rgk rfl)) (fun _ => ?_)
    refine k_l rfl rfl rfl ?_
    refine k_p rfl rfl rfl ?_
    refine k_gf rfl rfl rfl (by decide) rfl ((rows_ne (by decide)).trans (rows_ne (by decide))) ?_
    refine k_p rfl rfl rfl ?_
    refine k_add rfl ?_
    obtain ⟨g2, H⟩ := H
    refine k_pf rfl rfl rfl (by decide) rfl rfl rfl rfl ?_
    refine k_l rfl rfl rfl ?_
    refine k_gf rfl rfl rfl (by decide) rfl mup_eq ?_
    refine k_p rfl rfl rfl ?_
    refine k_sub rfl ?_
    obtain ⟨g3, H⟩ := H
    obtain ⟨rfl, rfl⟩ := H
    exact k_r1 (((hM.rs hx1).rs (rgk rfl)).up g2) g3 rfl rfl rfl
  · rw [if_neg c1] at H
    refine k_c rfl (by decide) hx2 (hM _ _) (q := false) (decide_eq_false c1) rfl ?_
    refine k_l rfl rfl rfl ?_
    refine k_gr (t := 45) rfl rfl rfl (by decide) rfl ?_
    refine k_l rfl rfl rfl ?_
    refine k_iv (v := rowv 20 σ 46 x2) rfl rfl rfl rfl rfl (by decide) rfl hM (rn_get rfl rfl rfl rfl rfl (by decide) hx2) (fun _ q4 => ?_)
    refine k_l rfl rfl rfl ?_
    by_cases c5 : rowv 20 σ 46 x2 ≠ x1
    · rw [if_pos c5] at H
      refine k_c rfl (by decide) q4 hx1 (q := true) (decide_eq_true c5) rfl ?_
      refine k_inc rfl rfl (by decide) ?_
      refine k_b rfl rfl rfl rfl ?_
      obtain ⟨g6, H⟩ := H
      exact k_lab H hM (lvS_cons rfl rfl (lvS_cons rfl rfl (lvS_cons rfl rfl lvS_nil)))
    · rw [if_neg c5] at H
      refine k_c rfl (by decide) q4 hx1 (q := false) (decide_eq_false c5) rfl ?_
      refine k_l rfl rfl rfl ?_
      obtain ⟨rfl, rfl⟩ := H
      exact k_r1 hM hx2 rfl rfl rfl
def B_Ty_put (d : Nat) (x1 : Int) (σ : Mem) (o : Option Int) (s' : Mem) : Prop := (rg ((σ 38 7) + 1)) ∧ (o = none ∧ s' = mup (rows 80 σ 57 (σ 38 7) x1) 38 7 ((σ 38 7) + 1))
theorem M_Ty_put {d : Nat} {x1 : Int} {σ s' : Mem} {o : Option Int} (hx1 : rg x1) (H : B_Ty_put d x1 σ o s') : Rn (d + 4) yTy_put [.ref 38, vi x1, .ref 56] σ o s' := by
  refine k_m (Nat.le_of_ble_eq_true rfl) (fun hM => ?_)
  unfold B_Ty_put at H
  refine k_l rfl rfl rfl ?_
  refine k_l rfl rfl rfl ?_
  refine k_gf rfl rfl rfl (by decide) rfl rfl ?_
  refine k_l rfl rfl rfl ?_
  refine k_iw (σ1 := rows 80 σ 57 (σ 38 7) x1) rfl rfl rfl rfl rfl (by decide) rfl hM (rn_set rfl rfl rfl rfl rfl (by decide) (hM _ _) hx1) (fun _ => ?_)
  refine k_l rfl rfl rfl ?_
  refine k_p rfl rfl rfl ?_
  refine k_gf rfl rfl rfl (by decide) rfl (rows_ne (by decide)) ?_
  refine k_p rfl rfl rfl ?_
  refine k_add rfl ?_
  obtain ⟨g1, H⟩ := H
  refine k_pf rfl rfl rfl (by decide) rfl rfl rfl rfl ?_
  obtain ⟨rfl, rfl⟩ := H
  exact k_r0 ((hM.rs hx1).up g1) rfl rfl rfl
def B_Ty_writePart (d : Nat) (x1 x3 : Int) (σ : Mem) (o : Option Int) (s' : Mem) : Prop := if x3 ≤ 40 then (∃ (v2 : Int) (m2 : Mem), Rn (d + 3) yTy_resolve [.ref 38, vi x1] σ (some v2) m2 ∧ (if rowv 3000 m2 40 v2 = 62 then (∃ (m5 : Mem), Rn (d + 3) yTy_put [.ref 38, vi 40, .ref 56] m2 none m5 ∧ (∃ (m7 : Mem), Rn (d + 3) yTy_writePart [.ref 38, vi (rowv 3000 m5 42 v2), .ref 56, vi (x3 + 1)] m5 none m7 ∧ (∃ (m8 : Mem), Rn (d + 3) yTy_put [.ref 38, vi 62, .ref 56] m7 none m8 ∧ (∃ (m10 : Mem), Rn (d + 3) yTy_writePart [.ref 38, vi (rowv 3000 m8 44 v2), .ref 56, vi (x3 + 1)] m8 none m10 ∧ (∃ (m11 : Mem), Rn (d + 3) yTy_put [.ref 38, vi 41, .ref 56] m10 none m11 ∧ (o = none ∧ s' = m11)))))) else (if rowv 3000 m2 40 v2 = 63 then (∃ (v13 : Int) (m13 : Mem), Rn (d + 3) yTy_placeOf [.ref 38, vi v2] m2 (some v13) m13 ∧ (∃ (m14 : Mem), Rn (d + 3) yTy_put [.ref 38, vi (97 + v13), .ref 56] m13 none m14 ∧ (o = none ∧ s' = m14))) else (if rowv 3000 m2 40 v2 = 91 then (∃ (m16 : Mem), Rn (d + 3) yTy_put [.ref 38, vi 91, .ref 56] m2 none m16 ∧ (∃ (m18 : Mem), Rn (d + 3) yTy_writePart [.ref 38, vi (rowv 3000 m16 42 v2), .ref 56, vi (x3 + 1)] m16 none m18 ∧ (∃ (m19 : Mem), Rn (d + 3) yTy_put [.ref 38, vi 93, .ref 56] m18 none m19 ∧ (o = none ∧ s' = m19)))) else (∃ (m21 : Mem), Rn (d + 3) yTy_put [.ref 38, vi (rowv 3000 m2 40 v2), .ref 56] m2 none m21 ∧ (o = none ∧ s' = m21)))))) else (o = none ∧ s' = σ)
theorem M_Ty_writePart {d : Nat} {x1 x3 : Int} {σ s' : Mem} {o : Option Int} (hx1 : rg x1) (hx3 : rg x3) (H : B_Ty_writePart d x1 x3 σ o s') : Rn (d + 4) yTy_writePart [.ref 38, vi x1, .ref 56, vi x3] σ o s' := by
  refine k_m (Nat.le_of_ble_eq_true rfl) (fun hM => ?_)
  unfold B_Ty_writePart at H
  refine k_l rfl rfl rfl ?_
  refine k_k (x := 40) rfl rfl rfl rfl ?_
  by_cases c1 : x3 ≤ 40
  · rw [if_pos c1] at H
    refine k_c rfl (by decide) hx3 (rgk rfl) (q := true) (decide_eq_true c1) rfl ?_
    refine k_l rfl rfl rfl ?_
    refine k_l rfl rfl rfl ?_
    obtain ⟨v2, m2, R2, H⟩ := H
    refine k_iv rfl rfl rfl rfl rfl (by decide) rfl hM R2 (fun hM2 hv2 => ?_)
    refine k_l rfl rfl rfl ?_
    refine k_l rfl rfl rfl ?_
    refine k_gr (t := 39) rfl rfl rfl (by decide) rfl ?_
    refine k_l rfl rfl rfl ?_
    refine k_iv (v := rowv 3000 m2 40 v2) rfl rfl rfl rfl rfl (by decide) rfl hM2 (rn_get rfl rfl rfl rfl rfl (by decide) hv2) (fun _ q3 => ?_)
    by_cases c4 : rowv 3000 m2 40 v2 = 62
    · rw [if_pos c4] at H
      refine k_sw rfl rfl c4 rfl rfl ?_
      refine k_l rfl rfl rfl ?_
      refine k_k (x := 40) rfl rfl rfl rfl ?_
      refine k_l rfl rfl rfl ?_
      obtain ⟨m5, R5, H⟩ := H
      refine k_iw rfl rfl rfl rfl rfl (by decide) rfl hM2 R5 (fun hM5 => ?_)
      refine k_l rfl rfl rfl ?_
      refine k_l rfl rfl rfl ?_
      refine k_gr (t := 41) rfl rfl rfl (by decide) rfl ?_
      refine k_l rfl rfl rfl ?_
      refine k_iv (v := rowv 3000 m5 42 v2) rfl rfl rfl rfl rfl (by decide) rfl hM5 (rn_get rfl rfl rfl rfl rfl (by decide) hv2) (fun _ q6 => ?_)
      refine k_l rfl rfl rfl ?_
      refine k_l rfl rfl rfl ?_
      refine k_p rfl rfl rfl ?_
      refine k_add rfl ?_
      obtain ⟨m7, R7, H⟩ := H
      refine k_iw rfl rfl rfl rfl rfl (by decide) rfl hM5 R7 (fun hM7 => ?_)
      refine k_l rfl rfl rfl ?_
      refine k_k (x := 62) rfl rfl rfl rfl ?_
      refine k_l rfl rfl rfl ?_
      obtain ⟨m8, R8, H⟩ := H
      refine k_iw rfl rfl rfl rfl rfl (by decide) rfl hM7 R8 (fun hM8 => ?_)
      refine k_l rfl rfl rfl ?_
      refine k_l rfl rfl rfl ?_
      refine k_gr (t := 43) rfl rfl rfl (by decide) rfl ?_
      refine k_l rfl rfl rfl ?_
      refine k_iv (v := rowv 3000 m8 44 v2) rfl rfl rfl rfl rfl (by decide) rfl hM8 (rn_get rfl rfl rfl rfl rfl (by decide) hv2) (fun _ q9 => ?_)
      refine k_l rfl rfl rfl ?_
      refine k_l rfl rfl rfl ?_
      refine k_p rfl rfl rfl ?_
      refine k_add rfl ?_
      obtain ⟨m10, R10, H⟩ := H
      refine k_iw rfl rfl rfl rfl rfl (by decide) rfl hM8 R10 (fun hM10 => ?_)
      refine k_l rfl rfl rfl ?_
      refine k_k (x := 41) rfl rfl rfl rfl ?_
      refine k_l rfl rfl rfl ?_
      obtain ⟨m11, R11, H⟩ := H
      refine k_iw rfl rfl rfl rfl rfl (by decide) rfl hM10 R11 (fun hM11 => ?_)
      refine k_b rfl rfl rfl rfl ?_
      obtain ⟨rfl, rfl⟩ := H
      exact k_r0 hM11 rfl rfl rfl
    rw [if_neg c4] at H
    by_cases c12 : rowv 3000 m2 40 v2 = 63
    · rw [if_pos c12] at H
      refine k_sw rfl rfl c12 rfl rfl ?_
      refine k_l rfl rfl rfl ?_
      refine k_k (x := 97) rfl rfl rfl rfl ?_
      refine k_l rfl rfl rfl ?_
      refine k_l rfl rfl rfl ?_
      obtain ⟨v13, m13, R13, H⟩ := H
      refine k_iv rfl rfl rfl rfl rfl (by decide) rfl hM2 R13 (fun hM13 hv13 => ?_)
      refine k_add rfl ?_
      refine k_l rfl rfl rfl ?_
      obtain ⟨m14, R14, H⟩ := H
      refine k_iw rfl rfl rfl rfl rfl (by decide) rfl hM13 R14 (fun hM14 => ?_)
      refine k_b rfl rfl rfl rfl ?_
      obtain ⟨rfl, rfl⟩ := H
      exact k_r0 hM14 rfl rfl rfl
    rw [if_neg c12] at H
    by_cases c15 : rowv 3000 m2 40 v2 = 91
    · rw [if_pos c15] at H
      refine k_sw rfl rfl c15 rfl rfl ?_
      refine k_l rfl rfl rfl ?_
      refine k_k (x := 91) rfl rfl rfl rfl ?_
      refine k_l rfl rfl rfl ?_
      obtain ⟨m16, R16, H⟩ := H
      refine k_iw rfl rfl rfl rfl rfl (by decide) rfl hM2 R16 (fun hM16 => ?_)
      refine k_l rfl rfl rfl ?_
      refine k_l rfl rfl rfl ?_
      refine k_gr (t := 41) rfl rfl rfl (by decide) rfl ?_
      refine k_l rfl rfl rfl ?_
      refine k_iv (v := rowv 3000 m16 42 v2) rfl rfl rfl rfl rfl (by decide) rfl hM16 (rn_get rfl rfl rfl rfl rfl (by decide) hv2) (fun _ q17 => ?_)
      refine k_l rfl rfl rfl ?_
      refine k_l rfl rfl rfl ?_
      refine k_p rfl rfl rfl ?_
      refine k_add rfl ?_
      obtain ⟨m18, R18, H⟩ := H
      refine k_iw rfl rfl rfl rfl rfl (by decide) rfl hM16 R18 (fun hM18 => ?_)
      refine k_l rfl rfl rfl ?_
      refine k_k (x := 93) rfl rfl rfl rfl ?_
      refine k_l rfl rfl rfl ?_
      obtain ⟨m19, R19, H⟩ := H
      refine k_iw rfl rfl rfl rfl rfl (by decide) rfl hM18 R19 (fun hM19 => ?_)
      refine k_b rfl rfl rfl rfl ?_
      obtain ⟨rfl, rfl⟩ := H
      exact k_r0 hM19 rfl rfl rfl
    rw [if_neg c15] at H
    refine k_lsd rfl q3 (by decide) (fun q hq => ?_) rfl ?_
    · simp only [List.mem_cons, List.not_mem_nil, or_false] at hq
      rcases hq with rfl | rfl | rfl
      · exact c4
      · exact c12
      · exact c15
    refine k_l rfl rfl rfl ?_
    refine k_l rfl rfl rfl ?_
    refine k_gr (t := 39) rfl rfl rfl (by decide) rfl ?_
    refine k_l rfl rfl rfl ?_
    refine k_iv (v := rowv 3000 m2 40 v2) rfl rfl rfl rfl rfl (by decide) rfl hM2 (rn_get rfl rfl rfl rfl rfl (by decide) hv2) (fun _ q20 => ?_)
    refine k_l rfl rfl rfl ?_
    obtain ⟨m21, R21, H⟩ := H
    refine k_iw rfl rfl rfl rfl rfl (by decide) rfl hM2 R21 (fun hM21 => ?_)
    obtain ⟨rfl, rfl⟩ := H
    exact k_r0 hM21 rfl rfl rfl
  · rw [if_neg c1] at H
    refine k_c rfl (by decide) hx3 (rgk rfl) (q := false) (decide_eq_false c1) rfl ?_
    obtain ⟨rfl, rfl⟩ := H
    exact k_r0 hM rfl rfl rfl
def B_Ty_write (d : Nat) (x1 : Int) (σ : Mem) (o : Option Int) (s' : Mem) : Prop := ∃ (m1 : Mem), Rn (d + 3) yTy_writePart [.ref 38, vi x1, .ref 56, vi 0] (mup (mup σ 38 6 0) 38 7 0) none m1 ∧ (o = some (m1 38 7) ∧ s' = m1)
theorem M_Ty_write {d : Nat} {x1 : Int} {σ s' : Mem} {o : Option Int} (hx1 : rg x1) (H : B_Ty_write d x1 σ o s') : Rn (d + 4) yTy_write [.ref 38, vi x1, .ref 56] σ o s' := by
  refine k_m (Nat.le_of_ble_eq_true rfl) (fun hM => ?_)
  unfold B_Ty_write at H
  refine k_l rfl rfl rfl ?_
  refine k_p rfl rfl rfl ?_
  refine k_pf rfl rfl rfl (by decide) rfl rfl rfl rfl ?_
  refine k_l rfl rfl rfl ?_
  refine k_p rfl rfl rfl ?_
  refine k_pf rfl rfl rfl (by decide) rfl rfl rfl rfl ?_
  refine k_l rfl rfl rfl ?_
  refine k_l rfl rfl rfl ?_
  refine k_l rfl rfl rfl ?_
  refine k_p rfl rfl rfl ?_
  obtain ⟨m1, R1, H⟩ := H
  refine k_iw rfl rfl rfl rfl rfl (by decide) rfl ((hM.up (rgk rfl)).up (rgk rfl)) R1 (fun hM1 => ?_)
  refine k_l rfl rfl rfl ?_
  refine k_gf rfl rfl rfl (by decide) rfl rfl ?_
  obtain ⟨rfl, rfl⟩ := H
  exact k_r1 hM1 (hM1 _ _) rfl rfl rfl
def B_Ck_enter (d : Nat) (x1 x2 : Int) (σ : Mem) (o : Option Int) (s' : Mem) : Prop := (rg ((σ 49 4) + 1)) ∧ (o = none ∧ s' = mup (rows 64 (rows 64 σ 51 (σ 49 4) x1) 53 (σ 49 4) x2) 49 4 ((σ 49 4) + 1))
theorem M_Ck_enter {d : Nat} {x1 x2 : Int} {σ s' : Mem} {o : Option Int} (hx1 : rg x1) (hx2 : rg x2) (H : B_Ck_enter d x1 x2 σ o s') : Rn (d + 4) yCk_enter [.ref 49, vi x1, vi x2] σ o s' := by
  refine k_m (Nat.le_of_ble_eq_true rfl) (fun hM => ?_)
  unfold B_Ck_enter at H
  refine k_l rfl rfl rfl ?_
  refine k_gr (t := 50) rfl rfl rfl (by decide) rfl ?_
  refine k_l rfl rfl rfl ?_
  refine k_gf rfl rfl rfl (by decide) rfl rfl ?_
  refine k_l rfl rfl rfl ?_
  refine k_iw (σ1 := rows 64 σ 51 (σ 49 4) x1) rfl rfl rfl rfl rfl (by decide) rfl hM (rn_set rfl rfl rfl rfl rfl (by decide) (hM _ _) hx1) (fun _ => ?_)
  refine k_l rfl rfl rfl ?_
  refine k_gr (t := 52) rfl rfl rfl (by decide) rfl ?_
  refine k_l rfl rfl rfl ?_
  refine k_gf rfl rfl rfl (by decide) rfl (rows_ne (by decide)) ?_
  refine k_l rfl rfl rfl ?_
  refine k_iw (σ1 := rows 64 (rows 64 σ 51 (σ 49 4) x1) 53 (σ 49 4) x2) rfl rfl rfl rfl rfl (by decide) rfl (hM.rs hx1) (rn_set rfl rfl rfl rfl rfl (by decide) (hM _ _) hx2) (fun _ => ?_)
  refine k_l rfl rfl rfl ?_
  refine k_p rfl rfl rfl ?_
  refine k_gf rfl rfl rfl (by decide) rfl ((rows_ne (by decide)).trans (rows_ne (by decide))) ?_
  refine k_p rfl rfl rfl ?_
  refine k_add rfl ?_
  obtain ⟨g1, H⟩ := H
  refine k_pf rfl rfl rfl (by decide) rfl rfl rfl rfl ?_
  obtain ⟨rfl, rfl⟩ := H
  exact k_r0 (((hM.rs hx1).rs hx2).up g1) rfl rfl rfl
def B_Ck_typeOfName (d : Nat) (x1 : Int) (σ : Mem) (o : Option Int) (s' : Mem) : Prop := (rg ((σ 49 4) - 1)) ∧ (Lb (d + 3) yCk_typeOfName 7 [(0, .ref 49), (1, vi x1), (2, vi ((σ 49 4) - 1))] [] σ o s')
theorem M_Ck_typeOfName {d : Nat} {x1 : Int} {σ s' : Mem} {o : Option Int} (hx1 : rg x1) (H : B_Ck_typeOfName d x1 σ o s') : Rn (d + 4) yCk_typeOfName [.ref 49, vi x1] σ o s' := by
  refine k_m (Nat.le_of_ble_eq_true rfl) (fun hM => ?_)
  unfold B_Ck_typeOfName at H
  refine k_l rfl rfl rfl ?_
  refine k_gf rfl rfl rfl (by decide) rfl rfl ?_
  refine k_p rfl rfl rfl ?_
  refine k_sub rfl ?_
  refine k_l rfl rfl rfl ?_
  obtain ⟨g1, H⟩ := H
  exact k_lab H hM (lvS_cons rfl rfl (lvS_cons rfl rfl (lvS_cons rfl rfl lvS_nil)))
def B_Ck_typeOfName_7 (d : Nat) (x1 x2 : Int) (σ : Mem) (o : Option Int) (s' : Mem) : Prop := if x2 < 0 then (o = some ((-1)) ∧ s' = σ) else (if rowv 64 σ 51 x2 ≠ x1 then ((rg (x2 + (-1))) ∧ (Lb (d + 3) yCk_typeOfName 7 [(0, .ref 49), (1, vi x1), (2, vi (x2 + (-1)))] [] σ o s')) else (o = some (rowv 64 σ 53 x2) ∧ s' = σ))
theorem K_Ck_typeOfName_7 {d : Nat} {x1 x2 : Int} {σ s' : Mem} {o : Option Int} (hx1 : rg x1) (hx2 : rg x2) (H : B_Ck_typeOfName_7 d x1 x2 σ o s') : Lb (d + 3) yCk_typeOfName 7 [(0, .ref 49), (1, vi x1), (2, vi x2)] [] σ o s' := by
  intro hM
  unfold B_Ck_typeOfName_7 at H
  refine k_l rfl rfl rfl ?_
  by_cases c1 : x2 < 0
  · rw [if_pos c1] at H
    refine k_z rfl (by decide) hx2 (q := true) (decide_eq_true c1) rfl ?_
    refine k_p rfl rfl rfl ?_
    obtain ⟨rfl, rfl⟩ := H
    exact k_r1 hM (rgk rfl) rfl rfl rfl
  · rw [if_neg c1] at H
    refine k_z rfl (by decide) hx2 (q := false) (decide_eq_false c1) rfl ?_
    refine k_l rfl rfl rfl ?_
    refine k_gr (t := 50) rfl rfl rfl (by decide) rfl ?_
    refine k_l rfl rfl rfl ?_
    refine k_iv (v := rowv 64 σ 51 x2) rfl rfl rfl rfl rfl (by decide) rfl hM (rn_get rfl rfl rfl rfl rfl (by decide) hx2) (fun _ q2 => ?_)
    refine k_l rfl rfl rfl ?_
    by_cases c3 : rowv 64 σ 51 x2 ≠ x1
    · rw [if_pos c3] at H
      refine k_c rfl (by decide) q2 hx1 (q := true) (decide_eq_true c3) rfl ?_
      refine k_inc rfl rfl (by decide) ?_
      refine k_b rfl rfl rfl rfl ?_
      obtain ⟨g4, H⟩ := H
      exact k_lab H hM (lvS_cons rfl rfl (lvS_cons rfl rfl (lvS_cons rfl rfl lvS_nil)))
    · rw [if_neg c3] at H
      refine k_c rfl (by decide) q2 hx1 (q := false) (decide_eq_false c3) rfl ?_
      refine k_l rfl rfl rfl ?_
      refine k_gr (t := 52) rfl rfl rfl (by decide) rfl ?_
      refine k_l rfl rfl rfl ?_
      refine k_iv (v := rowv 64 σ 53 x2) rfl rfl rfl rfl rfl (by decide) rfl hM (rn_get rfl rfl rfl rfl rfl (by decide) hx2) (fun _ q5 => ?_)
      obtain ⟨rfl, rfl⟩ := H
      exact k_r1 hM q5 rfl rfl rfl
def B_Ck_demand (d : Nat) (x1 x2 : Int) (σ : Mem) (o : Option Int) (s' : Mem) : Prop := if σ 49 6 ≠ 0 then (o = none ∧ s' = σ) else (∃ (v2 : Int) (m2 : Mem), Rn (d + 3) yTy_unify [.ref 38, vi x1, vi x2, vi 0] σ (some v2) m2 ∧ (if v2 ≠ 0 then (o = none ∧ s' = m2) else (o = none ∧ s' = mup m2 49 6 1)))
theorem M_Ck_demand {d : Nat} {x1 x2 : Int} {σ s' : Mem} {o : Option Int} (hx1 : rg x1) (hx2 : rg x2) (H : B_Ck_demand d x1 x2 σ o s') : Rn (d + 4) yCk_demand [.ref 49, vi x1, vi x2] σ o s' := by
  refine k_m (Nat.le_of_ble_eq_true rfl) (fun hM => ?_)
  unfold B_Ck_demand at H
  refine k_l rfl rfl rfl ?_
  refine k_gf rfl rfl rfl (by decide) rfl rfl ?_
  by_cases c1 : σ 49 6 ≠ 0
  · rw [if_pos c1] at H
    refine k_z rfl (by decide) (hM _ _) (q := true) (decide_eq_true c1) rfl ?_
    obtain ⟨rfl, rfl⟩ := H
    exact k_r0 hM rfl rfl rfl
  · rw [if_neg c1] at H
    refine k_z rfl (by decide) (hM _ _) (q := false) (decide_eq_false c1) rfl ?_
    refine k_l rfl rfl rfl ?_
    refine k_gr (t := 38) rfl rfl rfl (by decide) rfl ?_
    refine k_l rfl rfl rfl ?_
    refine k_l rfl rfl rfl ?_
    refine k_p rfl rfl rfl ?_
    obtain ⟨v2, m2, R2, H⟩ := H
    refine k_iv rfl rfl rfl rfl rfl (by decide) rfl hM R2 (fun hM2 hv2 => ?_)
    by_cases c3 : v2 ≠ 0
    · rw [if_pos c3] at H
      refine k_z rfl (by decide) hv2 (q := true) (decide_eq_true c3) rfl ?_
      obtain ⟨rfl, rfl⟩ := H
      exact k_r0 hM2 rfl rfl rfl
    · rw [if_neg c3] at H
      refine k_z rfl (by decide) hv2 (q := false) (decide_eq_false c3) rfl ?_
      refine k_l rfl rfl rfl ?_
      refine k_p rfl rfl rfl ?_
      refine k_pf rfl rfl rfl (by decide) rfl rfl rfl rfl ?_
      obtain ⟨rfl, rfl⟩ := H
      exact k_r0 (hM2.up (rgk rfl)) rfl rfl rfl
def B_Ck_infer_57 (d : Nat) (x1 x3 : Int) (σ : Mem) (o : Option Int) (s' : Mem) : Prop := ∃ (m1 : Mem), Rn (d + 3) yTr_setType [.ref 5, vi x1, vi x3] σ none m1 ∧ (o = some x3 ∧ s' = m1)
theorem K_Ck_infer_57 {d : Nat} {x1 x3 : Int} {σ s' : Mem} {o : Option Int} (hx1 : rg x1) (hx3 : rg x3) (H : B_Ck_infer_57 d x1 x3 σ o s') : Lb (d + 3) yCk_infer 57 [(0, .ref 49), (1, vi x1), (3, vi x3)] [] σ o s' := by
  intro hM
  unfold B_Ck_infer_57 at H
  refine k_l rfl rfl rfl ?_
  refine k_gr (t := 5) rfl rfl rfl (by decide) rfl ?_
  refine k_l rfl rfl rfl ?_
  refine k_l rfl rfl rfl ?_
  obtain ⟨m1, R1, H⟩ := H
  refine k_iw rfl rfl rfl rfl rfl (by decide) rfl hM R1 (fun hM1 => ?_)
  refine k_l rfl rfl rfl ?_
  obtain ⟨rfl, rfl⟩ := H
  exact k_r1 hM1 hx3 rfl rfl rfl
def B_Ck_infer_46 (d : Nat) (x1 t0 : Int) (σ : Mem) (o : Option Int) (s' : Mem) : Prop := if t0 ≠ (-1) then (B_Ck_infer_57 d x1 t0 σ o s') else (B_Ck_infer_57 d x1 t0 (mup σ 49 6 1) o s')
theorem K_Ck_infer_46 {d : Nat} {x1 t0 : Int} {σ s' : Mem} {o : Option Int} (hx1 : rg x1) (ht0 : rg t0) (H : B_Ck_infer_46 d x1 t0 σ o s') : Lb (d + 3) yCk_infer 46 [(0, .ref 49), (1, vi x1)] [vi t0] σ o s' := by
  intro hM
  unfold B_Ck_infer_46 at H
  refine k_l rfl rfl rfl ?_
  refine k_l rfl rfl rfl ?_
  refine k_p rfl rfl rfl ?_
  by_cases c1 : t0 ≠ (-1)
  · rw [if_pos c1] at H
    refine k_c rfl (by decide) ht0 (rgk rfl) (q := true) (decide_eq_true c1) rfl ?_
    exact k_lab (K_Ck_infer_57 hx1 ht0 H) hM (lvS_cons rfl rfl (lvS_cons rfl rfl (lvS_cons rfl rfl lvS_nil)))
  · rw [if_neg c1] at H
    refine k_c rfl (by decide) ht0 (rgk rfl) (q := false) (decide_eq_false c1) rfl ?_
    refine k_l rfl rfl rfl ?_
    refine k_p rfl rfl rfl ?_
    refine k_pf rfl rfl rfl (by decide) rfl rfl rfl rfl ?_
    exact k_lab (K_Ck_infer_57 hx1 ht0 H) (hM.up (rgk rfl)) (lvS_cons rfl rfl (lvS_cons rfl rfl (lvS_cons rfl rfl lvS_nil)))
def B_Ck_infer_11 (d : Nat) (x1 x2 : Int) (σ : Mem) (o : Option Int) (s' : Mem) : Prop := if σ 49 6 = 0 then (if rowv 128 σ 11 x1 ≠ (-1) then (∃ (v4 : Int) (m4 : Mem), Rn (d + 3) yCk_inferWhole [.ref 49, vi x1, vi x2] σ (some v4) m4 ∧ (B_Ck_infer_46 d x1 v4 m4 o s')) else (∃ (v5 : Int) (m5 : Mem), Rn (d + 3) yCk_leaf [.ref 49, vi x1] σ (some v5) m5 ∧ (B_Ck_infer_46 d x1 v5 m5 o s'))) else (o = some ((-1)) ∧ s' = σ)
theorem K_Ck_infer_11 {d : Nat} {x1 x2 : Int} {σ s' : Mem} {o : Option Int} (hx1 : rg x1) (hx2 : rg x2) (H : B_Ck_infer_11 d x1 x2 σ o s') : Lb (d + 3) yCk_infer 11 [(0, .ref 49), (1, vi x1), (2, vi x2)] [] σ o s' := by
  intro hM
  unfold B_Ck_infer_11 at H
  refine k_l rfl rfl rfl ?_
  refine k_gf rfl rfl rfl (by decide) rfl rfl ?_
  by_cases c1 : σ 49 6 = 0
  · rw [if_pos c1] at H
    refine k_z rfl (by decide) (hM _ _) (q := true) (decide_eq_true c1) rfl ?_
    refine k_l rfl rfl rfl ?_
    refine k_gr (t := 5) rfl rfl rfl (by decide) rfl ?_
    refine k_l rfl rfl rfl ?_
    refine k_iv (v := rowv 128 σ 11 x1) rfl rfl rfl rfl rfl (by decide) rfl hM (R_Tr_first5 hx1) (fun _ q2 => ?_)
    refine k_p rfl rfl rfl ?_
    by_cases c3 : rowv 128 σ 11 x1 ≠ (-1)
    · rw [if_pos c3] at H
      refine k_c rfl (by decide) q2 (rgk rfl) (q := true) (decide_eq_true c3) rfl ?_
      refine k_l rfl rfl rfl ?_
      refine k_l rfl rfl rfl ?_
      refine k_l rfl rfl rfl ?_
      obtain ⟨v4, m4, R4, H⟩ := H
      refine k_iv rfl rfl rfl rfl rfl (by decide) rfl hM R4 (fun hM4 hv4 => ?_)
      exact k_lab (K_Ck_infer_46 hx1 hv4 H) hM4 (lvS_cons rfl rfl (lvS_cons rfl rfl lvS_nil))
    · rw [if_neg c3] at H
      refine k_c rfl (by decide) q2 (rgk rfl) (q := false) (decide_eq_false c3) rfl ?_
      refine k_l rfl rfl rfl ?_
      refine k_l rfl rfl rfl ?_
      obtain ⟨v5, m5, R5, H⟩ := H
      refine k_iv rfl rfl rfl rfl rfl (by decide) rfl hM R5 (fun hM5 hv5 => ?_)
      refine k_b rfl rfl rfl rfl ?_
      exact k_lab (K_Ck_infer_46 hx1 hv5 H) hM5 (lvS_cons rfl rfl (lvS_cons rfl rfl lvS_nil))
  · rw [if_neg c1] at H
    refine k_z rfl (by decide) (hM _ _) (q := false) (decide_eq_false c1) rfl ?_
    refine k_p rfl rfl rfl ?_
    obtain ⟨rfl, rfl⟩ := H
    exact k_r1 hM (rgk rfl) rfl rfl rfl
def B_Ck_infer (d : Nat) (x1 x2 : Int) (σ : Mem) (o : Option Int) (s' : Mem) : Prop := if x2 ≤ 64 then (B_Ck_infer_11 d x1 x2 σ o s') else (B_Ck_infer_11 d x1 x2 (mup σ 49 6 1) o s')
theorem M_Ck_infer {d : Nat} {x1 x2 : Int} {σ s' : Mem} {o : Option Int} (hx1 : rg x1) (hx2 : rg x2) (H : B_Ck_infer d x1 x2 σ o s') : Rn (d + 4) yCk_infer [.ref 49, vi x1, vi x2] σ o s' := by
  refine k_m (Nat.le_of_ble_eq_true rfl) (fun hM => ?_)
  unfold B_Ck_infer at H
  refine k_l rfl rfl rfl ?_
  refine k_k (x := 64) rfl rfl rfl rfl ?_
  by_cases c1 : x2 ≤ 64
  · rw [if_pos c1] at H
    refine k_c rfl (by decide) hx2 (rgk rfl) (q := true) (decide_eq_true c1) rfl ?_
    exact k_lab (K_Ck_infer_11 hx1 hx2 H) hM (lvS_cons rfl rfl (lvS_cons rfl rfl (lvS_cons rfl rfl lvS_nil)))
  · rw [if_neg c1] at H
    refine k_c rfl (by decide) hx2 (rgk rfl) (q := false) (decide_eq_false c1) rfl ?_
    refine k_l rfl rfl rfl ?_
    refine k_p rfl rfl rfl ?_
    refine k_pf rfl rfl rfl (by decide) rfl rfl rfl rfl ?_
    exact k_lab (K_Ck_infer_11 hx1 hx2 H) (hM.up (rgk rfl)) (lvS_cons rfl rfl (lvS_cons rfl rfl (lvS_cons rfl rfl lvS_nil)))
def B_Ck_leaf (d : Nat) (x1 : Int) (σ : Mem) (o : Option Int) (s' : Mem) : Prop := if rowv 128 σ 7 x1 = 0 then (o = some 0 ∧ s' = σ) else (if rowv 128 σ 7 x1 = 1 then (o = some 2 ∧ s' = σ) else (if rowv 128 σ 7 x1 = 2 then (o = some 1 ∧ s' = σ) else (if rowv 128 σ 7 x1 = 3 then (∃ (v6 : Int) (m6 : Mem), Rn (d + 3) yTy_fresh [.ref 38, vi (σ 49 5)] σ (some v6) m6 ∧ (∃ (v7 : Int) (m7 : Mem), Rn (d + 3) yTy_list [.ref 38, vi v6] m6 (some v7) m7 ∧ (o = some v7 ∧ s' = m7))) else (if rowv 128 σ 7 x1 = 4 then (if rowv 128 σ 9 x1 ≠ 82 then (∃ (v11 : Int) (m11 : Mem), Rn (d + 3) yTy_arrow [.ref 38, vi 2, vi 0] σ (some v11) m11 ∧ (o = some v11 ∧ s' = m11)) else (∃ (v12 : Int) (m12 : Mem), Rn (d + 3) yTy_arrow [.ref 38, vi 0, vi 2] σ (some v12) m12 ∧ (o = some v12 ∧ s' = m12))) else (if rowv 128 σ 7 x1 = 5 then (∃ (v15 : Int) (m15 : Mem), Rn (d + 3) yCk_typeOfName [.ref 49, vi (rowv 128 σ 9 x1)] σ (some v15) m15 ∧ (∃ (v16 : Int) (m16 : Mem), Rn (d + 3) yTy_instance [.ref 38, vi v15, vi (m15 49 5)] m15 (some v16) m16 ∧ (o = some v16 ∧ s' = m16))) else (if rowv 128 σ 7 x1 = 6 then (∃ (v18 : Int) (m18 : Mem), Rn (d + 3) yTy_fresh [.ref 38, vi (σ 49 5)] σ (some v18) m18 ∧ (∃ (m20 : Mem), Rn (d + 3) yCk_enter [.ref 49, vi (rowv 128 m18 9 x1), vi v18] m18 none m20 ∧ (o = some v18 ∧ s' = m20))) else (∃ (v21 : Int) (m21 : Mem), Rn (d + 3) yTy_fresh [.ref 38, vi (σ 49 5)] σ (some v21) m21 ∧ (o = some v21 ∧ s' = m21))))))))
theorem M_Ck_leaf {d : Nat} {x1 : Int} {σ s' : Mem} {o : Option Int} (hx1 : rg x1) (H : B_Ck_leaf d x1 σ o s') : Rn (d + 4) yCk_leaf [.ref 49, vi x1] σ o s' := by
  refine k_m (Nat.le_of_ble_eq_true rfl) (fun hM => ?_)
  unfold B_Ck_leaf at H
  refine k_l rfl rfl rfl ?_
  refine k_gr (t := 5) rfl rfl rfl (by decide) rfl ?_
  refine k_l rfl rfl rfl ?_
  refine k_iv (v := rowv 128 σ 7 x1) rfl rfl rfl rfl rfl (by decide) rfl hM (R_Tr_kind5 hx1) (fun _ q1 => ?_)
  by_cases c2 : rowv 128 σ 7 x1 = 0
  · rw [if_pos c2] at H
    refine k_sw rfl rfl c2 rfl rfl ?_
    refine k_p rfl rfl rfl ?_
    obtain ⟨rfl, rfl⟩ := H
    exact k_r1 hM (rgk rfl) rfl rfl rfl
  rw [if_neg c2] at H
  by_cases c3 : rowv 128 σ 7 x1 = 1
  · rw [if_pos c3] at H
    refine k_sw rfl rfl c3 rfl rfl ?_
    refine k_p rfl rfl rfl ?_
    obtain ⟨rfl, rfl⟩ := H
    exact k_r1 hM (rgk rfl) rfl rfl rfl
  rw [if_neg c3] at H
  by_cases c4 : rowv 128 σ 7 x1 = 2
  · rw [if_pos c4] at H
    refine k_sw rfl rfl c4 rfl rfl ?_
    refine k_p rfl rfl rfl ?_
    obtain ⟨rfl, rfl⟩ := H
    exact k_r1 hM (rgk rfl) rfl rfl rfl
  rw [if_neg c4] at H
  by_cases c5 : rowv 128 σ 7 x1 = 3
  · rw [if_pos c5] at H
    refine k_sw rfl rfl c5 rfl rfl ?_
    refine k_l rfl rfl rfl ?_
    refine k_gr (t := 38) rfl rfl rfl (by decide) rfl ?_
    refine k_l rfl rfl rfl ?_
    refine k_gr (t := 38) rfl rfl rfl (by decide) rfl ?_
    refine k_l rfl rfl rfl ?_
    refine k_gf rfl rfl rfl (by decide) rfl rfl ?_
    obtain ⟨v6, m6, R6, H⟩ := H
    refine k_iv rfl rfl rfl rfl rfl (by decide) rfl hM R6 (fun hM6 hv6 => ?_)
    obtain ⟨v7, m7, R7, H⟩ := H
    refine k_iv rfl rfl rfl rfl rfl (by decide) rfl hM6 R7 (fun hM7 hv7 => ?_)
    obtain ⟨rfl, rfl⟩ := H
    exact k_r1 hM7 hv7 rfl rfl rfl
  rw [if_neg c5] at H
  by_cases c8 : rowv 128 σ 7 x1 = 4
  · rw [if_pos c8] at H
    refine k_sw rfl rfl c8 rfl rfl ?_
    refine k_l rfl rfl rfl ?_
    refine k_gr (t := 5) rfl rfl rfl (by decide) rfl ?_
    refine k_l rfl rfl rfl ?_
    refine k_iv (v := rowv 128 σ 9 x1) rfl rfl rfl rfl rfl (by decide) rfl hM (R_Tr_number5 hx1) (fun _ q9 => ?_)
    refine k_k (x := 82) rfl rfl rfl rfl ?_
    by_cases c10 : rowv 128 σ 9 x1 ≠ 82
    · rw [if_pos c10] at H
      refine k_c rfl (by decide) q9 (rgk rfl) (q := true) (decide_eq_true c10) rfl ?_
      refine k_l rfl rfl rfl ?_
      refine k_gr (t := 38) rfl rfl rfl (by decide) rfl ?_
      refine k_p rfl rfl rfl ?_
      refine k_p rfl rfl rfl ?_
      obtain ⟨v11, m11, R11, H⟩ := H
      refine k_iv rfl rfl rfl rfl rfl (by decide) rfl hM R11 (fun hM11 hv11 => ?_)
      obtain ⟨rfl, rfl⟩ := H
      exact k_r1 hM11 hv11 rfl rfl rfl
    · rw [if_neg c10] at H
      refine k_c rfl (by decide) q9 (rgk rfl) (q := false) (decide_eq_false c10) rfl ?_
      refine k_l rfl rfl rfl ?_
      refine k_gr (t := 38) rfl rfl rfl (by decide) rfl ?_
      refine k_p rfl rfl rfl ?_
      refine k_p rfl rfl rfl ?_
      obtain ⟨v12, m12, R12, H⟩ := H
      refine k_iv rfl rfl rfl rfl rfl (by decide) rfl hM R12 (fun hM12 hv12 => ?_)
      refine k_b rfl rfl rfl rfl ?_
      obtain ⟨rfl, rfl⟩ := H
      exact k_r1 hM12 hv12 rfl rfl rfl
  rw [if_neg c8] at H
  by_cases c13 : rowv 128 σ 7 x1 = 5
  · rw [if_pos c13] at H
    refine k_sw rfl rfl c13 rfl rfl ?_
    refine k_l rfl rfl rfl ?_
    refine k_gr (t := 38) rfl rfl rfl (by decide) rfl ?_
    refine k_l rfl rfl rfl ?_
    refine k_l rfl rfl rfl ?_
    refine k_gr (t := 5) rfl rfl rfl (by decide) rfl ?_
    refine k_l rfl rfl rfl ?_
    refine k_iv (v := rowv 128 σ 9 x1) rfl rfl rfl rfl rfl (by decide) rfl hM (R_Tr_number5 hx1) (fun _ q14 => ?_)
    obtain ⟨v15, m15, R15, H⟩ := H
    refine k_iv rfl rfl rfl rfl rfl (by decide) rfl hM R15 (fun hM15 hv15 => ?_)
    refine k_l rfl rfl rfl ?_
    refine k_gf rfl rfl rfl (by decide) rfl rfl ?_
    obtain ⟨v16, m16, R16, H⟩ := H
    refine k_iv rfl rfl rfl rfl rfl (by decide) rfl hM15 R16 (fun hM16 hv16 => ?_)
    obtain ⟨rfl, rfl⟩ := H
    exact k_r1 hM16 hv16 rfl rfl rfl
  rw [if_neg c13] at H
  by_cases c17 : rowv 128 σ 7 x1 = 6
  · rw [if_pos c17] at H
    refine k_sw rfl rfl c17 rfl rfl ?_
    refine k_l rfl rfl rfl ?_
    refine k_gr (t := 38) rfl rfl rfl (by decide) rfl ?_
    refine k_l rfl rfl rfl ?_
    refine k_gf rfl rfl rfl (by decide) rfl rfl ?_
    obtain ⟨v18, m18, R18, H⟩ := H
    refine k_iv rfl rfl rfl rfl rfl (by decide) rfl hM R18 (fun hM18 hv18 => ?_)
    refine k_l rfl rfl rfl ?_
    refine k_l rfl rfl rfl ?_
    refine k_l rfl rfl rfl ?_
    refine k_gr (t := 5) rfl rfl rfl (by decide) rfl ?_
    refine k_l rfl rfl rfl ?_
    refine k_iv (v := rowv 128 m18 9 x1) rfl rfl rfl rfl rfl (by decide) rfl hM18 (R_Tr_number5 hx1) (fun _ q19 => ?_)
    refine k_l rfl rfl rfl ?_
    obtain ⟨m20, R20, H⟩ := H
    refine k_iw rfl rfl rfl rfl rfl (by decide) rfl hM18 R20 (fun hM20 => ?_)
    refine k_l rfl rfl rfl ?_
    obtain ⟨rfl, rfl⟩ := H
    exact k_r1 hM20 hv18 rfl rfl rfl
  rw [if_neg c17] at H
  refine k_tsd rfl q1 (by omega) rfl ?_
  refine k_l rfl rfl rfl ?_
  refine k_gr (t := 38) rfl rfl rfl (by decide) rfl ?_
  refine k_l rfl rfl rfl ?_
  refine k_gf rfl rfl rfl (by decide) rfl rfl ?_
  obtain ⟨v21, m21, R21, H⟩ := H
  refine k_iv rfl rfl rfl rfl rfl (by decide) rfl hM R21 (fun hM21 hv21 => ?_)
  obtain ⟨rfl, rfl⟩ := H
  exact k_r1 hM21 hv21 rfl rfl rfl
def B_Ck_compares_19 (d : Nat) (σ : Mem) (o : Option Int) (s' : Mem) : Prop := o = some 1 ∧ s' = σ
theorem K_Ck_compares_19 {d : Nat} {σ s' : Mem} {o : Option Int}  (H : B_Ck_compares_19 d  σ o s') : Lb (d + 3) yCk_compares 19 [] [] σ o s' := by
  intro hM
  unfold B_Ck_compares_19 at H
  refine k_p rfl rfl rfl ?_
  refine k_b rfl rfl rfl rfl ?_
  obtain ⟨rfl, rfl⟩ := H
  exact k_r1 hM (rgk rfl) rfl rfl rfl
def B_Ck_compares (d : Nat) (x0 : Int) (σ : Mem) (o : Option Int) (s' : Mem) : Prop := if x0 = 61 then (B_Ck_compares_19 d  σ o s') else (if x0 = 60 then (B_Ck_compares_19 d  σ o s') else (if x0 ≠ 188 then (o = some 0 ∧ s' = σ) else (B_Ck_compares_19 d  σ o s')))
theorem M_Ck_compares {d : Nat} {x0 : Int} {σ s' : Mem} {o : Option Int} (hx0 : rg x0) (H : B_Ck_compares d x0 σ o s') : Rn (d + 4) yCk_compares [vi x0] σ o s' := by
  refine k_m (Nat.le_of_ble_eq_true rfl) (fun hM => ?_)
  unfold B_Ck_compares at H
  refine k_l rfl rfl rfl ?_
  refine k_k (x := 61) rfl rfl rfl rfl ?_
  by_cases c1 : x0 = 61
  · rw [if_pos c1] at H
    refine k_c rfl (by decide) hx0 (rgk rfl) (q := true) (decide_eq_true c1) rfl ?_
    exact k_lab (K_Ck_compares_19  H) hM lvS_nil
  · rw [if_neg c1] at H
    refine k_c rfl (by decide) hx0 (rgk rfl) (q := false) (decide_eq_false c1) rfl ?_
    refine k_l rfl rfl rfl ?_
    refine k_k (x := 60) rfl rfl rfl rfl ?_
    by_cases c2 : x0 = 60
    · rw [if_pos c2] at H
      refine k_c rfl (by decide) hx0 (rgk rfl) (q := true) (decide_eq_true c2) rfl ?_
      exact k_lab (K_Ck_compares_19  H) hM lvS_nil
    · rw [if_neg c2] at H
      refine k_c rfl (by decide) hx0 (rgk rfl) (q := false) (decide_eq_false c2) rfl ?_
      refine k_l rfl rfl rfl ?_
      refine k_k (x := 188) rfl rfl rfl rfl ?_
      by_cases c3 : x0 ≠ 188
      · rw [if_pos c3] at H
        refine k_c rfl (by decide) hx0 (rgk rfl) (q := true) (decide_eq_true c3) rfl ?_
        refine k_p rfl rfl rfl ?_
        obtain ⟨rfl, rfl⟩ := H
        exact k_r1 hM (rgk rfl) rfl rfl rfl
      · rw [if_neg c3] at H
        refine k_c rfl (by decide) hx0 (rgk rfl) (q := false) (decide_eq_false c3) rfl ?_
        exact k_lab (K_Ck_compares_19  H) hM lvS_nil
def B_Ck_operandOf (d : Nat) (x0 : Int) (σ : Mem) (o : Option Int) (s' : Mem) : Prop := if x0 < 128 then (o = some 0 ∧ s' = σ) else (o = some 2 ∧ s' = σ)
theorem M_Ck_operandOf {d : Nat} {x0 : Int} {σ s' : Mem} {o : Option Int} (hx0 : rg x0) (H : B_Ck_operandOf d x0 σ o s') : Rn (d + 4) yCk_operandOf [vi x0] σ o s' := by
  refine k_m (Nat.le_of_ble_eq_true rfl) (fun hM => ?_)
  unfold B_Ck_operandOf at H
  refine k_l rfl rfl rfl ?_
  refine k_k (x := 128) rfl rfl rfl rfl ?_
  by_cases c1 : x0 < 128
  · rw [if_pos c1] at H
    refine k_c rfl (by decide) hx0 (rgk rfl) (q := true) (decide_eq_true c1) rfl ?_
    refine k_p rfl rfl rfl ?_
    obtain ⟨rfl, rfl⟩ := H
    exact k_r1 hM (rgk rfl) rfl rfl rfl
  · rw [if_neg c1] at H
    refine k_c rfl (by decide) hx0 (rgk rfl) (q := false) (decide_eq_false c1) rfl ?_
    refine k_p rfl rfl rfl ?_
    refine k_b rfl rfl rfl rfl ?_
    obtain ⟨rfl, rfl⟩ := H
    exact k_r1 hM (rgk rfl) rfl rfl rfl
def B_Ck_inferWhole (d : Nat) (x1 x2 : Int) (σ : Mem) (o : Option Int) (s' : Mem) : Prop := if rowv 128 σ 7 x1 = 8 then (∃ (v4 : Int) (m4 : Mem), Rn (d + 3) yCk_infer [.ref 49, vi (rowv 128 σ 11 x1), vi (x2 + 1)] σ (some v4) m4 ∧ (∃ (m5 : Mem), Rn (d + 3) yCk_demand [.ref 49, vi v4, vi 2] m4 none m5 ∧ (o = some 2 ∧ s' = m5))) else (if rowv 128 σ 7 x1 = 9 then (∃ (v8 : Int) (m8 : Mem), Rn (d + 3) yCk_operandOf [vi (rowv 128 σ 9 x1)] σ (some v8) m8 ∧ (∃ (v10 : Int) (m10 : Mem), Rn (d + 3) yCk_infer [.ref 49, vi (rowv 128 m8 11 x1), vi (x2 + 1)] m8 (some v10) m10 ∧ (∃ (m11 : Mem), Rn (d + 3) yCk_demand [.ref 49, vi v10, vi v8] m10 none m11 ∧ (∃ (v13 : Int) (m13 : Mem), Rn (d + 3) yCk_infer [.ref 49, vi (rowv 128 m11 13 x1), vi (x2 + 1)] m11 (some v13) m13 ∧ (∃ (m14 : Mem), Rn (d + 3) yCk_demand [.ref 49, vi v13, vi v8] m13 none m14 ∧ (∃ (v16 : Int) (m16 : Mem), Rn (d + 3) yCk_compares [vi (rowv 128 m14 9 x1)] m14 (some v16) m16 ∧ (if v16 = 0 then (o = some v8 ∧ s' = m16) else (o = some 1 ∧ s' = m16)))))))) else (if rowv 128 σ 7 x1 = 10 then (∃ (v20 : Int) (m20 : Mem), Rn (d + 3) yCk_infer [.ref 49, vi (rowv 128 σ 11 x1), vi (x2 + 1)] σ (some v20) m20 ∧ (∃ (v21 : Int) (m21 : Mem), Rn (d + 3) yTy_list [.ref 38, vi v20] m20 (some v21) m21 ∧ (∃ (v23 : Int) (m23 : Mem), Rn (d + 3) yCk_infer [.ref 49, vi (rowv 128 m21 13 x1), vi (x2 + 1)] m21 (some v23) m23 ∧ (∃ (m24 : Mem), Rn (d + 3) yCk_demand [.ref 49, vi v23, vi v21] m23 none m24 ∧ (o = some v21 ∧ s' = m24))))) else (if rowv 128 σ 7 x1 = 11 then (∃ (v27 : Int) (m27 : Mem), Rn (d + 3) yCk_infer [.ref 49, vi (rowv 128 σ 11 x1), vi (x2 + 1)] σ (some v27) m27 ∧ (∃ (v29 : Int) (m29 : Mem), Rn (d + 3) yCk_infer [.ref 49, vi (rowv 128 m27 13 x1), vi (x2 + 1)] m27 (some v29) m29 ∧ (∃ (v30 : Int) (m30 : Mem), Rn (d + 3) yTy_fresh [.ref 38, vi (m29 49 5)] m29 (some v30) m30 ∧ (∃ (v31 : Int) (m31 : Mem), Rn (d + 3) yTy_arrow [.ref 38, vi v29, vi v30] m30 (some v31) m31 ∧ (∃ (m32 : Mem), Rn (d + 3) yCk_demand [.ref 49, vi v27, vi v31] m31 none m32 ∧ (o = some v30 ∧ s' = m32)))))) else (if rowv 128 σ 7 x1 = 12 then (∃ (v34 : Int) (m34 : Mem), Rn (d + 3) yTy_fresh [.ref 38, vi (σ 49 5)] σ (some v34) m34 ∧ (∃ (m36 : Mem), Rn (d + 3) yCk_enter [.ref 49, vi (rowv 128 m34 9 x1), vi v34] m34 none m36 ∧ (∃ (v38 : Int) (m38 : Mem), Rn (d + 3) yCk_infer [.ref 49, vi (rowv 128 m36 11 x1), vi (x2 + 1)] m36 (some v38) m38 ∧ ((rg ((m38 49 4) - 1)) ∧ (∃ (v40 : Int) (m40 : Mem), Rn (d + 3) yTy_arrow [.ref 38, vi v34, vi v38] (mup m38 49 4 ((m38 49 4) - 1)) (some v40) m40 ∧ (o = some v40 ∧ s' = m40)))))) else (if rowv 128 σ 7 x1 = 13 then (∃ (v42 : Int) (m42 : Mem), Rn (d + 3) yCk_inferLet [.ref 49, vi x1, vi x2] σ (some v42) m42 ∧ (o = some v42 ∧ s' = m42)) else (if rowv 128 σ 7 x1 = 14 then (∃ (v44 : Int) (m44 : Mem), Rn (d + 3) yCk_inferRecursion [.ref 49, vi x1, vi x2] σ (some v44) m44 ∧ (o = some v44 ∧ s' = m44)) else (if rowv 128 σ 7 x1 = 15 then (∃ (v46 : Int) (m46 : Mem), Rn (d + 3) yCk_inferCondition [.ref 49, vi x1, vi x2] σ (some v46) m46 ∧ (o = some v46 ∧ s' = m46)) else (∃ (v47 : Int) (m47 : Mem), Rn (d + 3) yCk_inferChoice [.ref 49, vi x1, vi x2] σ (some v47) m47 ∧ (o = some v47 ∧ s' = m47)))))))))
theorem M_Ck_inferWhole {d : Nat} {x1 x2 : Int} {σ s' : Mem} {o : Option Int} (hx1 : rg x1) (hx2 : rg x2) (H : B_Ck_inferWhole d x1 x2 σ o s') : Rn (d + 4) yCk_inferWhole [.ref 49, vi x1, vi x2] σ o s' := by
  refine k_m (Nat.le_of_ble_eq_true rfl) (fun hM => ?_)
  unfold B_Ck_inferWhole at H
  refine k_l rfl rfl rfl ?_
  refine k_gr (t := 5) rfl rfl rfl (by decide) rfl ?_
  refine k_l rfl rfl rfl ?_
  refine k_iv (v := rowv 128 σ 7 x1) rfl rfl rfl rfl rfl (by decide) rfl hM (R_Tr_kind5 hx1) (fun _ q1 => ?_)
  by_cases c2 : rowv 128 σ 7 x1 = 8
  · rw [if_pos c2] at H
    refine k_sw rfl rfl c2 rfl rfl ?_
    refine k_l rfl rfl rfl ?_
    refine k_l rfl rfl rfl ?_
    refine k_l rfl rfl rfl ?_
    refine k_gr (t := 5) rfl rfl rfl (by decide) rfl ?_
    refine k_l rfl rfl rfl ?_
    refine k_iv (v := rowv 128 σ 11 x1) rfl rfl rfl rfl rfl (by decide) rfl hM (R_Tr_first5 hx1) (fun _ q3 => ?_)
    refine k_l rfl rfl rfl ?_
    refine k_p rfl rfl rfl ?_
    refine k_add rfl ?_
    obtain ⟨v4, m4, R4, H⟩ := H
    refine k_iv rfl rfl rfl rfl rfl (by decide) rfl hM R4 (fun hM4 hv4 => ?_)
    refine k_p rfl rfl rfl ?_
    obtain ⟨m5, R5, H⟩ := H
    refine k_iw rfl rfl rfl rfl rfl (by decide) rfl hM4 R5 (fun hM5 => ?_)
    refine k_p rfl rfl rfl ?_
    obtain ⟨rfl, rfl⟩ := H
    exact k_r1 hM5 (rgk rfl) rfl rfl rfl
  rw [if_neg c2] at H
  by_cases c6 : rowv 128 σ 7 x1 = 9
  · rw [if_pos c6] at H
    refine k_sw rfl rfl c6 rfl rfl ?_
    refine k_l rfl rfl rfl ?_
    refine k_gr (t := 5) rfl rfl rfl (by decide) rfl ?_
    refine k_l rfl rfl rfl ?_
    refine k_iv (v := rowv 128 σ 9 x1) rfl rfl rfl rfl rfl (by decide) rfl hM (R_Tr_number5 hx1) (fun _ q7 => ?_)
    obtain ⟨v8, m8, R8, H⟩ := H
    refine k_is rfl (by decide) (Nat.le_of_ble_eq_true rfl) rfl rfl rfl hM R8 (fun hM8 hv8 => ?_)
    refine k_l rfl rfl rfl ?_
    refine k_l rfl rfl rfl ?_
    refine k_l rfl rfl rfl ?_
    refine k_l rfl rfl rfl ?_
    refine k_gr (t := 5) rfl rfl rfl (by decide) rfl ?_
    refine k_l rfl rfl rfl ?_
    refine k_iv (v := rowv 128 m8 11 x1) rfl rfl rfl rfl rfl (by decide) rfl hM8 (R_Tr_first5 hx1) (fun _ q9 => ?_)
    refine k_l rfl rfl rfl ?_
    refine k_p rfl rfl rfl ?_
    refine k_add rfl ?_
    obtain ⟨v10, m10, R10, H⟩ := H
    refine k_iv rfl rfl rfl rfl rfl (by decide) rfl hM8 R10 (fun hM10 hv10 => ?_)
    refine k_l rfl rfl rfl ?_
    obtain ⟨m11, R11, H⟩ := H
    refine k_iw rfl rfl rfl rfl rfl (by decide) rfl hM10 R11 (fun hM11 => ?_)
    refine k_l rfl rfl rfl ?_
    refine k_l rfl rfl rfl ?_
    refine k_l rfl rfl rfl ?_
    refine k_gr (t := 5) rfl rfl rfl (by decide) rfl ?_
    refine k_l rfl rfl rfl ?_
    refine k_iv (v := rowv 128 m11 13 x1) rfl rfl rfl rfl rfl (by decide) rfl hM11 (R_Tr_second5 hx1) (fun _ q12 => ?_)
    refine k_l rfl rfl rfl ?_
    refine k_p rfl rfl rfl ?_
    refine k_add rfl ?_
    obtain ⟨v13, m13, R13, H⟩ := H
    refine k_iv rfl rfl rfl rfl rfl (by decide) rfl hM11 R13 (fun hM13 hv13 => ?_)
    refine k_l rfl rfl rfl ?_
    obtain ⟨m14, R14, H⟩ := H
    refine k_iw rfl rfl rfl rfl rfl (by decide) rfl hM13 R14 (fun hM14 => ?_)
    refine k_l rfl rfl rfl ?_
    refine k_gr (t := 5) rfl rfl rfl (by decide) rfl ?_
    refine k_l rfl rfl rfl ?_
    refine k_iv (v := rowv 128 m14 9 x1) rfl rfl rfl rfl rfl (by decide) rfl hM14 (R_Tr_number5 hx1) (fun _ q15 => ?_)
    obtain ⟨v16, m16, R16, H⟩ := H
    refine k_is rfl (by decide) (Nat.le_of_ble_eq_true rfl) rfl rfl rfl hM14 R16 (fun hM16 hv16 => ?_)
    by_cases c17 : v16 = 0
    · rw [if_pos c17] at H
      refine k_z rfl (by decide) hv16 (q := true) (decide_eq_true c17) rfl ?_
      refine k_l rfl rfl rfl ?_
      obtain ⟨rfl, rfl⟩ := H
      exact k_r1 hM16 hv8 rfl rfl rfl
    · rw [if_neg c17] at H
      refine k_z rfl (by decide) hv16 (q := false) (decide_eq_false c17) rfl ?_
      refine k_p rfl rfl rfl ?_
      refine k_b rfl rfl rfl rfl ?_
      obtain ⟨rfl, rfl⟩ := H
      exact k_r1 hM16 (rgk rfl) rfl rfl rfl
  rw [if_neg c6] at H
  by_cases c18 : rowv 128 σ 7 x1 = 10
  · rw [if_pos c18] at H
    refine k_sw rfl rfl c18 rfl rfl ?_
    refine k_l rfl rfl rfl ?_
    refine k_gr (t := 38) rfl rfl rfl (by decide) rfl ?_
    refine k_l rfl rfl rfl ?_
    refine k_l rfl rfl rfl ?_
    refine k_gr (t := 5) rfl rfl rfl (by decide) rfl ?_
    refine k_l rfl rfl rfl ?_
    refine k_iv (v := rowv 128 σ 11 x1) rfl rfl rfl rfl rfl (by decide) rfl hM (R_Tr_first5 hx1) (fun _ q19 => ?_)
    refine k_l rfl rfl rfl ?_
    refine k_p rfl rfl rfl ?_
    refine k_add rfl ?_
    obtain ⟨v20, m20, R20, H⟩ := H
    refine k_iv rfl rfl rfl rfl rfl (by decide) rfl hM R20 (fun hM20 hv20 => ?_)
    obtain ⟨v21, m21, R21, H⟩ := H
    refine k_iv rfl rfl rfl rfl rfl (by decide) rfl hM20 R21 (fun hM21 hv21 => ?_)
    refine k_l rfl rfl rfl ?_
    refine k_l rfl rfl rfl ?_
    refine k_l rfl rfl rfl ?_
    refine k_l rfl rfl rfl ?_
    refine k_gr (t := 5) rfl rfl rfl (by decide) rfl ?_
    refine k_l rfl rfl rfl ?_
    refine k_iv (v := rowv 128 m21 13 x1) rfl rfl rfl rfl rfl (by decide) rfl hM21 (R_Tr_second5 hx1) (fun _ q22 => ?_)
    refine k_l rfl rfl rfl ?_
    refine k_p rfl rfl rfl ?_
    refine k_add rfl ?_
    obtain ⟨v23, m23, R23, H⟩ := H
    refine k_iv rfl rfl rfl rfl rfl (by decide) rfl hM21 R23 (fun hM23 hv23 => ?_)
    refine k_l rfl rfl rfl ?_
    obtain ⟨m24, R24, H⟩ := H
    refine k_iw rfl rfl rfl rfl rfl (by decide) rfl hM23 R24 (fun hM24 => ?_)
    refine k_l rfl rfl rfl ?_
    obtain ⟨rfl, rfl⟩ := H
    exact k_r1 hM24 hv21 rfl rfl rfl
  rw [if_neg c18] at H
  by_cases c25 : rowv 128 σ 7 x1 = 11
  · rw [if_pos c25] at H
    refine k_sw rfl rfl c25 rfl rfl ?_
    refine k_l rfl rfl rfl ?_
    refine k_l rfl rfl rfl ?_
    refine k_gr (t := 5) rfl rfl rfl (by decide) rfl ?_
    refine k_l rfl rfl rfl ?_
    refine k_iv (v := rowv 128 σ 11 x1) rfl rfl rfl rfl rfl (by decide) rfl hM (R_Tr_first5 hx1) (fun _ q26 => ?_)
    refine k_l rfl rfl rfl ?_
    refine k_p rfl rfl rfl ?_
    refine k_add rfl ?_
    obtain ⟨v27, m27, R27, H⟩ := H
    refine k_iv rfl rfl rfl rfl rfl (by decide) rfl hM R27 (fun hM27 hv27 => ?_)
    refine k_l rfl rfl rfl ?_
    refine k_l rfl rfl rfl ?_
    refine k_l rfl rfl rfl ?_
    refine k_gr (t := 5) rfl rfl rfl (by decide) rfl ?_
    refine k_l rfl rfl rfl ?_
    refine k_iv (v := rowv 128 m27 13 x1) rfl rfl rfl rfl rfl (by decide) rfl hM27 (R_Tr_second5 hx1) (fun _ q28 => ?_)
    refine k_l rfl rfl rfl ?_
    refine k_p rfl rfl rfl ?_
    refine k_add rfl ?_
    obtain ⟨v29, m29, R29, H⟩ := H
    refine k_iv rfl rfl rfl rfl rfl (by decide) rfl hM27 R29 (fun hM29 hv29 => ?_)
    refine k_l rfl rfl rfl ?_
    refine k_l rfl rfl rfl ?_
    refine k_gr (t := 38) rfl rfl rfl (by decide) rfl ?_
    refine k_l rfl rfl rfl ?_
    refine k_gf rfl rfl rfl (by decide) rfl rfl ?_
    obtain ⟨v30, m30, R30, H⟩ := H
    refine k_iv rfl rfl rfl rfl rfl (by decide) rfl hM29 R30 (fun hM30 hv30 => ?_)
    refine k_l rfl rfl rfl ?_
    refine k_l rfl rfl rfl ?_
    refine k_l rfl rfl rfl ?_
    refine k_l rfl rfl rfl ?_
    refine k_gr (t := 38) rfl rfl rfl (by decide) rfl ?_
    refine k_l rfl rfl rfl ?_
    refine k_l rfl rfl rfl ?_
    obtain ⟨v31, m31, R31, H⟩ := H
    refine k_iv rfl rfl rfl rfl rfl (by decide) rfl hM30 R31 (fun hM31 hv31 => ?_)
    obtain ⟨m32, R32, H⟩ := H
    refine k_iw rfl rfl rfl rfl rfl (by decide) rfl hM31 R32 (fun hM32 => ?_)
    refine k_l rfl rfl rfl ?_
    obtain ⟨rfl, rfl⟩ := H
    exact k_r1 hM32 hv30 rfl rfl rfl
  rw [if_neg c25] at H
  by_cases c33 : rowv 128 σ 7 x1 = 12
  · rw [if_pos c33] at H
    refine k_sw rfl rfl c33 rfl rfl ?_
    refine k_l rfl rfl rfl ?_
    refine k_gr (t := 38) rfl rfl rfl (by decide) rfl ?_
    refine k_l rfl rfl rfl ?_
    refine k_gf rfl rfl rfl (by decide) rfl rfl ?_
    obtain ⟨v34, m34, R34, H⟩ := H
    refine k_iv rfl rfl rfl rfl rfl (by decide) rfl hM R34 (fun hM34 hv34 => ?_)
    refine k_l rfl rfl rfl ?_
    refine k_l rfl rfl rfl ?_
    refine k_l rfl rfl rfl ?_
    refine k_gr (t := 5) rfl rfl rfl (by decide) rfl ?_
    refine k_l rfl rfl rfl ?_
    refine k_iv (v := rowv 128 m34 9 x1) rfl rfl rfl rfl rfl (by decide) rfl hM34 (R_Tr_number5 hx1) (fun _ q35 => ?_)
    refine k_l rfl rfl rfl ?_
    obtain ⟨m36, R36, H⟩ := H
    refine k_iw rfl rfl rfl rfl rfl (by decide) rfl hM34 R36 (fun hM36 => ?_)
    refine k_l rfl rfl rfl ?_
    refine k_l rfl rfl rfl ?_
    refine k_gr (t := 5) rfl rfl rfl (by decide) rfl ?_
    refine k_l rfl rfl rfl ?_
    refine k_iv (v := rowv 128 m36 11 x1) rfl rfl rfl rfl rfl (by decide) rfl hM36 (R_Tr_first5 hx1) (fun _ q37 => ?_)
    refine k_l rfl rfl rfl ?_
    refine k_p rfl rfl rfl ?_
    refine k_add rfl ?_
    obtain ⟨v38, m38, R38, H⟩ := H
    refine k_iv rfl rfl rfl rfl rfl (by decide) rfl hM36 R38 (fun hM38 hv38 => ?_)
    refine k_l rfl rfl rfl ?_
    refine k_l rfl rfl rfl ?_
    refine k_p rfl rfl rfl ?_
    refine k_gf rfl rfl rfl (by decide) rfl rfl ?_
    refine k_p rfl rfl rfl ?_
    refine k_sub rfl ?_
    obtain ⟨g39, H⟩ := H
    refine k_pf rfl rfl rfl (by decide) rfl rfl rfl rfl ?_
    refine k_l rfl rfl rfl ?_
    refine k_gr (t := 38) rfl rfl rfl (by decide) rfl ?_
    refine k_l rfl rfl rfl ?_
    refine k_l rfl rfl rfl ?_
    obtain ⟨v40, m40, R40, H⟩ := H
    refine k_iv rfl rfl rfl rfl rfl (by decide) rfl (hM38.up g39) R40 (fun hM40 hv40 => ?_)
    obtain ⟨rfl, rfl⟩ := H
    exact k_r1 hM40 hv40 rfl rfl rfl
  rw [if_neg c33] at H
  by_cases c41 : rowv 128 σ 7 x1 = 13
  · rw [if_pos c41] at H
    refine k_sw rfl rfl c41 rfl rfl ?_
    refine k_l rfl rfl rfl ?_
    refine k_l rfl rfl rfl ?_
    refine k_l rfl rfl rfl ?_
    obtain ⟨v42, m42, R42, H⟩ := H
    refine k_iv rfl rfl rfl rfl rfl (by decide) rfl hM R42 (fun hM42 hv42 => ?_)
    obtain ⟨rfl, rfl⟩ := H
    exact k_r1 hM42 hv42 rfl rfl rfl
  rw [if_neg c41] at H
  by_cases c43 : rowv 128 σ 7 x1 = 14
  · rw [if_pos c43] at H
    refine k_sw rfl rfl c43 rfl rfl ?_
    refine k_l rfl rfl rfl ?_
    refine k_l rfl rfl rfl ?_
    refine k_l rfl rfl rfl ?_
    obtain ⟨v44, m44, R44, H⟩ := H
    refine k_iv rfl rfl rfl rfl rfl (by decide) rfl hM R44 (fun hM44 hv44 => ?_)
    obtain ⟨rfl, rfl⟩ := H
    exact k_r1 hM44 hv44 rfl rfl rfl
  rw [if_neg c43] at H
  by_cases c45 : rowv 128 σ 7 x1 = 15
  · rw [if_pos c45] at H
    refine k_sw rfl rfl c45 rfl rfl ?_
    refine k_l rfl rfl rfl ?_
    refine k_l rfl rfl rfl ?_
    refine k_l rfl rfl rfl ?_
    obtain ⟨v46, m46, R46, H⟩ := H
    refine k_iv rfl rfl rfl rfl rfl (by decide) rfl hM R46 (fun hM46 hv46 => ?_)
    obtain ⟨rfl, rfl⟩ := H
    exact k_r1 hM46 hv46 rfl rfl rfl
  rw [if_neg c45] at H
  refine k_tsd rfl q1 (by omega) rfl ?_
  refine k_l rfl rfl rfl ?_
  refine k_l rfl rfl rfl ?_
  refine k_l rfl rfl rfl ?_
  obtain ⟨v47, m47, R47, H⟩ := H
  refine k_iv rfl rfl rfl rfl rfl (by decide) rfl hM R47 (fun hM47 hv47 => ?_)
  obtain ⟨rfl, rfl⟩ := H
  exact k_r1 hM47 hv47 rfl rfl rfl
def B_Ck_inferLet (d : Nat) (x1 x2 : Int) (σ : Mem) (o : Option Int) (s' : Mem) : Prop := (rg ((σ 49 5) + 1)) ∧ (∃ (v3 : Int) (m3 : Mem), Rn (d + 3) yCk_infer [.ref 49, vi (rowv 128 (mup σ 49 5 ((σ 49 5) + 1)) 11 x1), vi (x2 + 1)] (mup σ 49 5 ((σ 49 5) + 1)) (some v3) m3 ∧ ((rg ((m3 49 5) - 1)) ∧ (∃ (v5 : Int) (m5 : Mem), Rn (d + 3) yCk_inferBound [.ref 49, vi x1, vi v3, vi x2] (mup m3 49 5 ((m3 49 5) - 1)) (some v5) m5 ∧ (o = some v5 ∧ s' = m5))))
theorem M_Ck_inferLet {d : Nat} {x1 x2 : Int} {σ s' : Mem} {o : Option Int} (hx1 : rg x1) (hx2 : rg x2) (H : B_Ck_inferLet d x1 x2 σ o s') : Rn (d + 4) yCk_inferLet [.ref 49, vi x1, vi x2] σ o s' := by
  refine k_m (Nat.le_of_ble_eq_true rfl) (fun hM => ?_)
  unfold B_Ck_inferLet at H
  refine k_l rfl rfl rfl ?_
  refine k_p rfl rfl rfl ?_
  refine k_gf rfl rfl rfl (by decide) rfl rfl ?_
  refine k_p rfl rfl rfl ?_
  refine k_add rfl ?_
  obtain ⟨g1, H⟩ := H
  refine k_pf rfl rfl rfl (by decide) rfl rfl rfl rfl ?_
  refine k_l rfl rfl rfl ?_
  refine k_l rfl rfl rfl ?_
  refine k_gr (t := 5) rfl rfl rfl (by decide) rfl ?_
  refine k_l rfl rfl rfl ?_
  refine k_iv (v := rowv 128 (mup σ 49 5 ((σ 49 5) + 1)) 11 x1) rfl rfl rfl rfl rfl (by decide) rfl (hM.up g1) (R_Tr_first5 hx1) (fun _ q2 => ?_)
  refine k_l rfl rfl rfl ?_
  refine k_p rfl rfl rfl ?_
  refine k_add rfl ?_
  obtain ⟨v3, m3, R3, H⟩ := H
  refine k_iv rfl rfl rfl rfl rfl (by decide) rfl (hM.up g1) R3 (fun hM3 hv3 => ?_)
  refine k_l rfl rfl rfl ?_
  refine k_l rfl rfl rfl ?_
  refine k_p rfl rfl rfl ?_
  refine k_gf rfl rfl rfl (by decide) rfl rfl ?_
  refine k_p rfl rfl rfl ?_
  refine k_sub rfl ?_
  obtain ⟨g4, H⟩ := H
  refine k_pf rfl rfl rfl (by decide) rfl rfl rfl rfl ?_
  refine k_l rfl rfl rfl ?_
  refine k_l rfl rfl rfl ?_
  refine k_l rfl rfl rfl ?_
  refine k_l rfl rfl rfl ?_
  obtain ⟨v5, m5, R5, H⟩ := H
  refine k_iv rfl rfl rfl rfl rfl (by decide) rfl (hM3.up g4) R5 (fun hM5 hv5 => ?_)
  obtain ⟨rfl, rfl⟩ := H
  exact k_r1 hM5 hv5 rfl rfl rfl
def B_Ck_inferRecursion (d : Nat) (x1 x2 : Int) (σ : Mem) (o : Option Int) (s' : Mem) : Prop := (rg ((σ 49 5) + 1)) ∧ (∃ (v2 : Int) (m2 : Mem), Rn (d + 3) yTy_fresh [.ref 38, vi ((σ 49 5) + 1)] (mup σ 49 5 ((σ 49 5) + 1)) (some v2) m2 ∧ (∃ (m4 : Mem), Rn (d + 3) yCk_enter [.ref 49, vi (rowv 128 m2 9 x1), vi v2] m2 none m4 ∧ (∃ (v6 : Int) (m6 : Mem), Rn (d + 3) yCk_infer [.ref 49, vi (rowv 128 m4 11 x1), vi (x2 + 1)] m4 (some v6) m6 ∧ (∃ (m7 : Mem), Rn (d + 3) yCk_demand [.ref 49, vi v2, vi v6] m6 none m7 ∧ ((rg ((m7 49 4) - 1)) ∧ ((rg ((m7 49 5) - 1)) ∧ (∃ (v10 : Int) (m10 : Mem), Rn (d + 3) yCk_inferBound [.ref 49, vi x1, vi v6, vi x2] (mup (mup m7 49 4 ((m7 49 4) - 1)) 49 5 ((m7 49 5) - 1)) (some v10) m10 ∧ (o = some v10 ∧ s' = m10))))))))
theorem M_Ck_inferRecursion {d : Nat} {x1 x2 : Int} {σ s' : Mem} {o : Option Int} (hx1 : rg x1) (hx2 : rg x2) (H : B_Ck_inferRecursion d x1 x2 σ o s') : Rn (d + 4) yCk_inferRecursion [.ref 49, vi x1, vi x2] σ o s' := by
  refine k_m (Nat.le_of_ble_eq_true rfl) (fun hM => ?_)
  unfold B_Ck_inferRecursion at H
  refine k_l rfl rfl rfl ?_
  refine k_p rfl rfl rfl ?_
  refine k_gf rfl rfl rfl (by decide) rfl rfl ?_
  refine k_p rfl rfl rfl ?_
  refine k_add rfl ?_
  obtain ⟨g1, H⟩ := H
  refine k_pf rfl rfl rfl (by decide) rfl rfl rfl rfl ?_
  refine k_l rfl rfl rfl ?_
  refine k_gr (t := 38) rfl rfl rfl (by decide) rfl ?_
  refine k_l rfl rfl rfl ?_
  refine k_gf rfl rfl rfl (by decide) rfl mup_eq ?_
  obtain ⟨v2, m2, R2, H⟩ := H
  refine k_iv rfl rfl rfl rfl rfl (by decide) rfl (hM.up g1) R2 (fun hM2 hv2 => ?_)
  refine k_l rfl rfl rfl ?_
  refine k_l rfl rfl rfl ?_
  refine k_l rfl rfl rfl ?_
  refine k_gr (t := 5) rfl rfl rfl (by decide) rfl ?_
  refine k_l rfl rfl rfl ?_
  refine k_iv (v := rowv 128 m2 9 x1) rfl rfl rfl rfl rfl (by decide) rfl hM2 (R_Tr_number5 hx1) (fun _ q3 => ?_)
  refine k_l rfl rfl rfl ?_
  obtain ⟨m4, R4, H⟩ := H
  refine k_iw rfl rfl rfl rfl rfl (by decide) rfl hM2 R4 (fun hM4 => ?_)
  refine k_l rfl rfl rfl ?_
  refine k_l rfl rfl rfl ?_
  refine k_gr (t := 5) rfl rfl rfl (by decide) rfl ?_
  refine k_l rfl rfl rfl ?_
  refine k_iv (v := rowv 128 m4 11 x1) rfl rfl rfl rfl rfl (by decide) rfl hM4 (R_Tr_first5 hx1) (fun _ q5 => ?_)
  refine k_l rfl rfl rfl ?_
  refine k_p rfl rfl rfl ?_
  refine k_add rfl ?_
  obtain ⟨v6, m6, R6, H⟩ := H
  refine k_iv rfl rfl rfl rfl rfl (by decide) rfl hM4 R6 (fun hM6 hv6 => ?_)
  refine k_l rfl rfl rfl ?_
  refine k_l rfl rfl rfl ?_
  refine k_l rfl rfl rfl ?_
  refine k_l rfl rfl rfl ?_
  obtain ⟨m7, R7, H⟩ := H
  refine k_iw rfl rfl rfl rfl rfl (by decide) rfl hM6 R7 (fun hM7 => ?_)
  refine k_l rfl rfl rfl ?_
  refine k_p rfl rfl rfl ?_
  refine k_gf rfl rfl rfl (by decide) rfl rfl ?_
  refine k_p rfl rfl rfl ?_
  refine k_sub rfl ?_
  obtain ⟨g8, H⟩ := H
  refine k_pf rfl rfl rfl (by decide) rfl rfl rfl rfl ?_
  refine k_l rfl rfl rfl ?_
  refine k_p rfl rfl rfl ?_
  refine k_gf rfl rfl rfl (by decide) rfl (mup_nk (by decide)) ?_
  refine k_p rfl rfl rfl ?_
  refine k_sub rfl ?_
  obtain ⟨g9, H⟩ := H
  refine k_pf rfl rfl rfl (by decide) rfl rfl rfl rfl ?_
  refine k_l rfl rfl rfl ?_
  refine k_l rfl rfl rfl ?_
  refine k_l rfl rfl rfl ?_
  refine k_l rfl rfl rfl ?_
  obtain ⟨v10, m10, R10, H⟩ := H
  refine k_iv rfl rfl rfl rfl rfl (by decide) rfl ((hM7.up g8).up g9) R10 (fun hM10 hv10 => ?_)
  obtain ⟨rfl, rfl⟩ := H
  exact k_r1 hM10 hv10 rfl rfl rfl
def B_Ck_inferBound_18 (d : Nat) (σ : Mem) (o : Option Int) (s' : Mem) : Prop := o = some ((-1)) ∧ s' = mup σ 49 6 1
theorem K_Ck_inferBound_18 {d : Nat} {σ s' : Mem} {o : Option Int}  (H : B_Ck_inferBound_18 d  σ o s') : Lb (d + 3) yCk_inferBound 18 [(0, .ref 49)] [] σ o s' := by
  intro hM
  unfold B_Ck_inferBound_18 at H
  refine k_l rfl rfl rfl ?_
  refine k_p rfl rfl rfl ?_
  refine k_pf rfl rfl rfl (by decide) rfl rfl rfl rfl ?_
  refine k_p rfl rfl rfl ?_
  obtain ⟨rfl, rfl⟩ := H
  exact k_r1 (hM.up (rgk rfl)) (rgk rfl) rfl rfl rfl
def B_Ck_inferBound (d : Nat) (x1 x2 x3 : Int) (σ : Mem) (o : Option Int) (s' : Mem) : Prop := if σ 49 6 ≠ 0 then (B_Ck_inferBound_18 d  σ o s') else (∃ (v2 : Int) (m2 : Mem), Rn (d + 3) yTy_tooLong [.ref 38, vi x2] σ (some v2) m2 ∧ (if v2 = 0 then (∃ (m4 : Mem), Rn (d + 3) yTy_generalise [.ref 38, vi x2, vi (m2 49 5), vi 0] m2 none m4 ∧ (∃ (m6 : Mem), Rn (d + 3) yCk_enter [.ref 49, vi (rowv 128 m4 9 x1), vi x2] m4 none m6 ∧ (∃ (v8 : Int) (m8 : Mem), Rn (d + 3) yCk_infer [.ref 49, vi (rowv 128 m6 13 x1), vi (x3 + 1)] m6 (some v8) m8 ∧ ((rg ((m8 49 4) - 1)) ∧ (o = some v8 ∧ s' = mup m8 49 4 ((m8 49 4) - 1)))))) else (B_Ck_inferBound_18 d  m2 o s')))
theorem M_Ck_inferBound {d : Nat} {x1 x2 x3 : Int} {σ s' : Mem} {o : Option Int} (hx1 : rg x1) (hx2 : rg x2) (hx3 : rg x3) (H : B_Ck_inferBound d x1 x2 x3 σ o s') : Rn (d + 4) yCk_inferBound [.ref 49, vi x1, vi x2, vi x3] σ o s' := by
  refine k_m (Nat.le_of_ble_eq_true rfl) (fun hM => ?_)
  unfold B_Ck_inferBound at H
  refine k_l rfl rfl rfl ?_
  refine k_gf rfl rfl rfl (by decide) rfl rfl ?_
  by_cases c1 : σ 49 6 ≠ 0
  · rw [if_pos c1] at H
    refine k_z rfl (by decide) (hM _ _) (q := true) (decide_eq_true c1) rfl ?_
    exact k_lab (K_Ck_inferBound_18  H) hM (lvS_cons rfl rfl lvS_nil)
  · rw [if_neg c1] at H
    refine k_z rfl (by decide) (hM _ _) (q := false) (decide_eq_false c1) rfl ?_
    refine k_l rfl rfl rfl ?_
    refine k_gr (t := 38) rfl rfl rfl (by decide) rfl ?_
    refine k_l rfl rfl rfl ?_
    obtain ⟨v2, m2, R2, H⟩ := H
    refine k_iv rfl rfl rfl rfl rfl (by decide) rfl hM R2 (fun hM2 hv2 => ?_)
    by_cases c3 : v2 = 0
    · rw [if_pos c3] at H
      refine k_z rfl (by decide) hv2 (q := true) (decide_eq_true c3) rfl ?_
      refine k_l rfl rfl rfl ?_
      refine k_gr (t := 38) rfl rfl rfl (by decide) rfl ?_
      refine k_l rfl rfl rfl ?_
      refine k_l rfl rfl rfl ?_
      refine k_gf rfl rfl rfl (by decide) rfl rfl ?_
      refine k_p rfl rfl rfl ?_
      obtain ⟨m4, R4, H⟩ := H
      refine k_iw rfl rfl rfl rfl rfl (by decide) rfl hM2 R4 (fun hM4 => ?_)
      refine k_l rfl rfl rfl ?_
      refine k_l rfl rfl rfl ?_
      refine k_gr (t := 5) rfl rfl rfl (by decide) rfl ?_
      refine k_l rfl rfl rfl ?_
      refine k_iv (v := rowv 128 m4 9 x1) rfl rfl rfl rfl rfl (by decide) rfl hM4 (R_Tr_number5 hx1) (fun _ q5 => ?_)
      refine k_l rfl rfl rfl ?_
      obtain ⟨m6, R6, H⟩ := H
      refine k_iw rfl rfl rfl rfl rfl (by decide) rfl hM4 R6 (fun hM6 => ?_)
      refine k_l rfl rfl rfl ?_
      refine k_l rfl rfl rfl ?_
      refine k_gr (t := 5) rfl rfl rfl (by decide) rfl ?_
      refine k_l rfl rfl rfl ?_
      refine k_iv (v := rowv 128 m6 13 x1) rfl rfl rfl rfl rfl (by decide) rfl hM6 (R_Tr_second5 hx1) (fun _ q7 => ?_)
      refine k_l rfl rfl rfl ?_
      refine k_p rfl rfl rfl ?_
      refine k_add rfl ?_
      obtain ⟨v8, m8, R8, H⟩ := H
      refine k_iv rfl rfl rfl rfl rfl (by decide) rfl hM6 R8 (fun hM8 hv8 => ?_)
      refine k_l rfl rfl rfl ?_
      refine k_l rfl rfl rfl ?_
      refine k_p rfl rfl rfl ?_
      refine k_gf rfl rfl rfl (by decide) rfl rfl ?_
      refine k_p rfl rfl rfl ?_
      refine k_sub rfl ?_
      obtain ⟨g9, H⟩ := H
      refine k_pf rfl rfl rfl (by decide) rfl rfl rfl rfl ?_
      refine k_l rfl rfl rfl ?_
      obtain ⟨rfl, rfl⟩ := H
      exact k_r1 (hM8.up g9) hv8 rfl rfl rfl
    · rw [if_neg c3] at H
      refine k_z rfl (by decide) hv2 (q := false) (decide_eq_false c3) rfl ?_
      exact k_lab (K_Ck_inferBound_18  H) hM2 (lvS_cons rfl rfl lvS_nil)
def B_Ck_inferCondition (d : Nat) (x1 x2 : Int) (σ : Mem) (o : Option Int) (s' : Mem) : Prop := ∃ (v2 : Int) (m2 : Mem), Rn (d + 3) yCk_infer [.ref 49, vi (rowv 128 σ 11 x1), vi (x2 + 1)] σ (some v2) m2 ∧ (∃ (m3 : Mem), Rn (d + 3) yCk_demand [.ref 49, vi v2, vi 1] m2 none m3 ∧ (∃ (v5 : Int) (m5 : Mem), Rn (d + 3) yCk_infer [.ref 49, vi (rowv 128 m3 13 x1), vi (x2 + 1)] m3 (some v5) m5 ∧ (∃ (v7 : Int) (m7 : Mem), Rn (d + 3) yCk_infer [.ref 49, vi (rowv 128 m5 15 x1), vi (x2 + 1)] m5 (some v7) m7 ∧ (∃ (m8 : Mem), Rn (d + 3) yCk_demand [.ref 49, vi v7, vi v5] m7 none m8 ∧ (o = some v5 ∧ s' = m8)))))
theorem M_Ck_inferCondition {d : Nat} {x1 x2 : Int} {σ s' : Mem} {o : Option Int} (hx1 : rg x1) (hx2 : rg x2) (H : B_Ck_inferCondition d x1 x2 σ o s') : Rn (d + 4) yCk_inferCondition [.ref 49, vi x1, vi x2] σ o s' := by
  refine k_m (Nat.le_of_ble_eq_true rfl) (fun hM => ?_)
  unfold B_Ck_inferCondition at H
  refine k_l rfl rfl rfl ?_
  refine k_l rfl rfl rfl ?_
  refine k_l rfl rfl rfl ?_
  refine k_gr (t := 5) rfl rfl rfl (by decide) rfl ?_
  refine k_l rfl rfl rfl ?_
  refine k_iv (v := rowv 128 σ 11 x1) rfl rfl rfl rfl rfl (by decide) rfl hM (R_Tr_first5 hx1) (fun _ q1 => ?_)
  refine k_l rfl rfl rfl ?_
  refine k_p rfl rfl rfl ?_
  refine k_add rfl ?_
  obtain ⟨v2, m2, R2, H⟩ := H
  refine k_iv rfl rfl rfl rfl rfl (by decide) rfl hM R2 (fun hM2 hv2 => ?_)
  refine k_p rfl rfl rfl ?_
  obtain ⟨m3, R3, H⟩ := H
  refine k_iw rfl rfl rfl rfl rfl (by decide) rfl hM2 R3 (fun hM3 => ?_)
  refine k_l rfl rfl rfl ?_
  refine k_l rfl rfl rfl ?_
  refine k_gr (t := 5) rfl rfl rfl (by decide) rfl ?_
  refine k_l rfl rfl rfl ?_
  refine k_iv (v := rowv 128 m3 13 x1) rfl rfl rfl rfl rfl (by decide) rfl hM3 (R_Tr_second5 hx1) (fun _ q4 => ?_)
  refine k_l rfl rfl rfl ?_
  refine k_p rfl rfl rfl ?_
  refine k_add rfl ?_
  obtain ⟨v5, m5, R5, H⟩ := H
  refine k_iv rfl rfl rfl rfl rfl (by decide) rfl hM3 R5 (fun hM5 hv5 => ?_)
  refine k_l rfl rfl rfl ?_
  refine k_l rfl rfl rfl ?_
  refine k_l rfl rfl rfl ?_
  refine k_l rfl rfl rfl ?_
  refine k_gr (t := 5) rfl rfl rfl (by decide) rfl ?_
  refine k_l rfl rfl rfl ?_
  refine k_iv (v := rowv 128 m5 15 x1) rfl rfl rfl rfl rfl (by decide) rfl hM5 (R_Tr_third5 hx1) (fun _ q6 => ?_)
  refine k_l rfl rfl rfl ?_
  refine k_p rfl rfl rfl ?_
  refine k_add rfl ?_
  obtain ⟨v7, m7, R7, H⟩ := H
  refine k_iv rfl rfl rfl rfl rfl (by decide) rfl hM5 R7 (fun hM7 hv7 => ?_)
  refine k_l rfl rfl rfl ?_
  obtain ⟨m8, R8, H⟩ := H
  refine k_iw rfl rfl rfl rfl rfl (by decide) rfl hM7 R8 (fun hM8 => ?_)
  refine k_l rfl rfl rfl ?_
  obtain ⟨rfl, rfl⟩ := H
  exact k_r1 hM8 hv5 rfl rfl rfl
def B_Ck_inferChoice (d : Nat) (x1 x2 : Int) (σ : Mem) (o : Option Int) (s' : Mem) : Prop := ∃ (v2 : Int) (m2 : Mem), Rn (d + 3) yCk_infer [.ref 49, vi (rowv 128 σ 11 x1), vi (x2 + 1)] σ (some v2) m2 ∧ (∃ (v3 : Int) (m3 : Mem), Rn (d + 3) yTy_fresh [.ref 38, vi (m2 49 5)] m2 (some v3) m3 ∧ (Lb (d + 3) yCk_inferChoice 42 [(0, .ref 49), (2, vi x2), (3, vi v2), (4, vi v3), (5, vi (rowv 128 m3 13 x1)), (6, vi 0)] [] m3 o s'))
theorem M_Ck_inferChoice {d : Nat} {x1 x2 : Int} {σ s' : Mem} {o : Option Int} (hx1 : rg x1) (hx2 : rg x2) (H : B_Ck_inferChoice d x1 x2 σ o s') : Rn (d + 4) yCk_inferChoice [.ref 49, vi x1, vi x2] σ o s' := by
  refine k_m (Nat.le_of_ble_eq_true rfl) (fun hM => ?_)
  unfold B_Ck_inferChoice at H
  refine k_l rfl rfl rfl ?_
  refine k_l rfl rfl rfl ?_
  refine k_gr (t := 5) rfl rfl rfl (by decide) rfl ?_
  refine k_l rfl rfl rfl ?_
  refine k_iv (v := rowv 128 σ 11 x1) rfl rfl rfl rfl rfl (by decide) rfl hM (R_Tr_first5 hx1) (fun _ q1 => ?_)
  refine k_l rfl rfl rfl ?_
  refine k_p rfl rfl rfl ?_
  refine k_add rfl ?_
  obtain ⟨v2, m2, R2, H⟩ := H
  refine k_iv rfl rfl rfl rfl rfl (by decide) rfl hM R2 (fun hM2 hv2 => ?_)
  refine k_l rfl rfl rfl ?_
  refine k_l rfl rfl rfl ?_
  refine k_gr (t := 38) rfl rfl rfl (by decide) rfl ?_
  refine k_l rfl rfl rfl ?_
  refine k_gf rfl rfl rfl (by decide) rfl rfl ?_
  obtain ⟨v3, m3, R3, H⟩ := H
  refine k_iv rfl rfl rfl rfl rfl (by decide) rfl hM2 R3 (fun hM3 hv3 => ?_)
  refine k_l rfl rfl rfl ?_
  refine k_l rfl rfl rfl ?_
  refine k_gr (t := 5) rfl rfl rfl (by decide) rfl ?_
  refine k_l rfl rfl rfl ?_
  refine k_iv (v := rowv 128 m3 13 x1) rfl rfl rfl rfl rfl (by decide) rfl hM3 (R_Tr_second5 hx1) (fun _ q4 => ?_)
  refine k_l rfl rfl rfl ?_
  refine k_p rfl rfl rfl ?_
  refine k_l rfl rfl rfl ?_
  exact k_lab H hM3 (lvS_cons rfl rfl (lvS_cons rfl rfl (lvS_cons rfl rfl (lvS_cons rfl rfl (lvS_cons rfl rfl (lvS_cons rfl rfl lvS_nil))))))
def B_Ck_inferChoice_42 (d : Nat) (x2 x3 x4 x5 x6 : Int) (σ : Mem) (o : Option Int) (s' : Mem) : Prop := if x6 ≥ 5 then (o = some x4 ∧ s' = σ) else (if x5 = (-1) then (o = some x4 ∧ s' = σ) else (if σ 49 6 ≠ 0 then (o = some x4 ∧ s' = σ) else (∃ (v5 : Int) (m5 : Mem), Rn (d + 3) yCk_infer [.ref 49, vi (rowv 128 σ 11 x5), vi (x2 + 1)] σ (some v5) m5 ∧ (∃ (m6 : Mem), Rn (d + 3) yCk_demand [.ref 49, vi v5, vi x3] m5 none m6 ∧ (∃ (v8 : Int) (m8 : Mem), Rn (d + 3) yCk_infer [.ref 49, vi (rowv 128 m6 13 x5), vi (x2 + 1)] m6 (some v8) m8 ∧ (∃ (m9 : Mem), Rn (d + 3) yCk_demand [.ref 49, vi v8, vi x4] m8 none m9 ∧ ((rg (x6 + 1)) ∧ (Lb (d + 3) yCk_inferChoice 42 [(0, .ref 49), (2, vi x2), (3, vi x3), (4, vi x4), (5, vi (rowv 128 (mup m9 49 4 (σ 49 4)) 15 x5)), (6, vi (x6 + 1))] [] (mup m9 49 4 (σ 49 4)) o s'))))))))
theorem K_Ck_inferChoice_42 {d : Nat} {x2 x3 x4 x5 x6 : Int} {σ s' : Mem} {o : Option Int} (hx2 : rg x2) (hx3 : rg x3) (hx4 : rg x4) (hx5 : rg x5) (hx6 : rg x6) (H : B_Ck_inferChoice_42 d x2 x3 x4 x5 x6 σ o s') : Lb (d + 3) yCk_inferChoice 42 [(0, .ref 49), (2, vi x2), (3, vi x3), (4, vi x4), (5, vi x5), (6, vi x6)] [] σ o s' := by
  intro hM
  unfold B_Ck_inferChoice_42 at H
  refine k_l rfl rfl rfl ?_
  refine k_p rfl rfl rfl ?_
  by_cases c1 : x6 ≥ 5
  · rw [if_pos c1] at H
    refine k_c rfl (by decide) hx6 (rgk rfl) (q := true) (decide_eq_true c1) rfl ?_
    refine k_l rfl rfl rfl ?_
    obtain ⟨rfl, rfl⟩ := H
    exact k_r1 hM hx4 rfl rfl rfl
  · rw [if_neg c1] at H
    refine k_c rfl (by decide) hx6 (rgk rfl) (q := false) (decide_eq_false c1) rfl ?_
    refine k_l rfl rfl rfl ?_
    refine k_p rfl rfl rfl ?_
    by_cases c2 : x5 = (-1)
    · rw [if_pos c2] at H
      refine k_c rfl (by decide) hx5 (rgk rfl) (q := true) (decide_eq_true c2) rfl ?_
      refine k_l rfl rfl rfl ?_
      obtain ⟨rfl, rfl⟩ := H
      exact k_r1 hM hx4 rfl rfl rfl
    · rw [if_neg c2] at H
      refine k_c rfl (by decide) hx5 (rgk rfl) (q := false) (decide_eq_false c2) rfl ?_
      refine k_l rfl rfl rfl ?_
      refine k_gf rfl rfl rfl (by decide) rfl rfl ?_
      by_cases c3 : σ 49 6 ≠ 0
      · rw [if_pos c3] at H
        refine k_z rfl (by decide) (hM _ _) (q := true) (decide_eq_true c3) rfl ?_
        refine k_l rfl rfl rfl ?_
        obtain ⟨rfl, rfl⟩ := H
        exact k_r1 hM hx4 rfl rfl rfl
      · rw [if_neg c3] at H
        refine k_z rfl (by decide) (hM _ _) (q := false) (decide_eq_false c3) rfl ?_
        refine k_l rfl rfl rfl ?_
        refine k_gf rfl rfl rfl (by decide) rfl rfl ?_
        refine k_l rfl rfl rfl ?_
        refine k_l rfl rfl rfl ?_
        refine k_l rfl rfl rfl ?_
        refine k_l rfl rfl rfl ?_
        refine k_gr (t := 5) rfl rfl rfl (by decide) rfl ?_
        refine k_l rfl rfl rfl ?_
        refine k_iv (v := rowv 128 σ 11 x5) rfl rfl rfl rfl rfl (by decide) rfl hM (R_Tr_first5 hx5) (fun _ q4 => ?_)
        refine k_l rfl rfl rfl ?_
        refine k_p rfl rfl rfl ?_
        refine k_add rfl ?_
        obtain ⟨v5, m5, R5, H⟩ := H
        refine k_iv rfl rfl rfl rfl rfl (by decide) rfl hM R5 (fun hM5 hv5 => ?_)
        refine k_l rfl rfl rfl ?_
        obtain ⟨m6, R6, H⟩ := H
        refine k_iw rfl rfl rfl rfl rfl (by decide) rfl hM5 R6 (fun hM6 => ?_)
        refine k_l rfl rfl rfl ?_
        refine k_l rfl rfl rfl ?_
        refine k_l rfl rfl rfl ?_
        refine k_gr (t := 5) rfl rfl rfl (by decide) rfl ?_
        refine k_l rfl rfl rfl ?_
        refine k_iv (v := rowv 128 m6 13 x5) rfl rfl rfl rfl rfl (by decide) rfl hM6 (R_Tr_second5 hx5) (fun _ q7 => ?_)
        refine k_l rfl rfl rfl ?_
        refine k_p rfl rfl rfl ?_
        refine k_add rfl ?_
        obtain ⟨v8, m8, R8, H⟩ := H
        refine k_iv rfl rfl rfl rfl rfl (by decide) rfl hM6 R8 (fun hM8 hv8 => ?_)
        refine k_l rfl rfl rfl ?_
        obtain ⟨m9, R9, H⟩ := H
        refine k_iw rfl rfl rfl rfl rfl (by decide) rfl hM8 R9 (fun hM9 => ?_)
        refine k_l rfl rfl rfl ?_
        refine k_l rfl rfl rfl ?_
        refine k_pf rfl rfl rfl (by decide) rfl rfl rfl rfl ?_
        refine k_l rfl rfl rfl ?_
        refine k_gr (t := 5) rfl rfl rfl (by decide) rfl ?_
        refine k_l rfl rfl rfl ?_
        refine k_iv (v := rowv 128 (mup m9 49 4 (σ 49 4)) 15 x5) rfl rfl rfl rfl rfl (by decide) rfl (hM9.up (hM _ _)) (R_Tr_third5 hx5) (fun _ q10 => ?_)
        refine k_l rfl rfl rfl ?_
        refine k_inc rfl rfl (by decide) ?_
        refine k_b rfl rfl rfl rfl ?_
        obtain ⟨g11, H⟩ := H
        exact k_lab H (hM9.up (hM _ _)) (lvS_cons rfl rfl (lvS_cons rfl rfl (lvS_cons rfl rfl (lvS_cons rfl rfl (lvS_cons rfl rfl (lvS_cons rfl rfl lvS_nil))))))
def B_Ck_accepts (d : Nat) (σ : Mem) (o : Option Int) (s' : Mem) : Prop := ∃ (m1 : Mem), Rn (d + 3) yTy_clear [.ref 38] σ none m1 ∧ (∃ (v3 : Int) (m3 : Mem), Rn (d + 3) yCk_infer [.ref 49, vi ((mup (mup (mup m1 49 4 0) 49 5 0) 49 6 0) 5 8), vi 0] (mup (mup (mup m1 49 4 0) 49 5 0) 49 6 0) (some v3) m3 ∧ (Lb (d + 3) yCk_accepts 37 [(0, .ref 49), (1, vi 0)] [] m3 o s'))
theorem M_Ck_accepts {d : Nat} {σ s' : Mem} {o : Option Int}  (H : B_Ck_accepts d  σ o s') : Rn (d + 4) yCk_accepts [.ref 49] σ o s' := by
  refine k_m (Nat.le_of_ble_eq_true rfl) (fun hM => ?_)
  unfold B_Ck_accepts at H
  refine k_l rfl rfl rfl ?_
  refine k_gr (t := 38) rfl rfl rfl (by decide) rfl ?_
  obtain ⟨m1, R1, H⟩ := H
  refine k_iw rfl rfl rfl rfl rfl (by decide) rfl hM R1 (fun hM1 => ?_)
  refine k_l rfl rfl rfl ?_
  refine k_p rfl rfl rfl ?_
  refine k_pf rfl rfl rfl (by decide) rfl rfl rfl rfl ?_
  refine k_l rfl rfl rfl ?_
  refine k_p rfl rfl rfl ?_
  refine k_pf rfl rfl rfl (by decide) rfl rfl rfl rfl ?_
  refine k_l rfl rfl rfl ?_
  refine k_p rfl rfl rfl ?_
  refine k_pf rfl rfl rfl (by decide) rfl rfl rfl rfl ?_
  refine k_l rfl rfl rfl ?_
  refine k_l rfl rfl rfl ?_
  refine k_gr (t := 5) rfl rfl rfl (by decide) rfl ?_
  refine k_iv (v := (mup (mup (mup m1 49 4 0) 49 5 0) 49 6 0) 5 8) rfl rfl rfl rfl rfl (by decide) rfl (((hM1.up (rgk rfl)).up (rgk rfl)).up (rgk rfl)) (R_Tr_root5 ) (fun _ q2 => ?_)
  refine k_p rfl rfl rfl ?_
  obtain ⟨v3, m3, R3, H⟩ := H
  refine k_iv rfl rfl rfl rfl rfl (by decide) rfl (((hM1.up (rgk rfl)).up (rgk rfl)).up (rgk rfl)) R3 (fun hM3 hv3 => ?_)
  refine k_p rfl rfl rfl ?_
  refine k_p rfl rfl rfl ?_
  refine k_l rfl rfl rfl ?_
  exact k_lab H hM3 (lvS_cons rfl rfl (lvS_cons rfl rfl lvS_nil))
def B_Ck_accepts_80 (d : Nat) (σ : Mem) (o : Option Int) (s' : Mem) : Prop := if σ 49 6 ≠ 0 then (o = some 0 ∧ s' = σ) else (o = some 1 ∧ s' = σ)
theorem K_Ck_accepts_80 {d : Nat} {σ s' : Mem} {o : Option Int}  (H : B_Ck_accepts_80 d  σ o s') : Lb (d + 3) yCk_accepts 80 [(0, .ref 49)] [] σ o s' := by
  intro hM
  unfold B_Ck_accepts_80 at H
  refine k_l rfl rfl rfl ?_
  refine k_gf rfl rfl rfl (by decide) rfl rfl ?_
  by_cases c1 : σ 49 6 ≠ 0
  · rw [if_pos c1] at H
    refine k_z rfl (by decide) (hM _ _) (q := true) (decide_eq_true c1) rfl ?_
    refine k_p rfl rfl rfl ?_
    obtain ⟨rfl, rfl⟩ := H
    exact k_r1 hM (rgk rfl) rfl rfl rfl
  · rw [if_neg c1] at H
    refine k_z rfl (by decide) (hM _ _) (q := false) (decide_eq_false c1) rfl ?_
    refine k_p rfl rfl rfl ?_
    refine k_b rfl rfl rfl rfl ?_
    obtain ⟨rfl, rfl⟩ := H
    exact k_r1 hM (rgk rfl) rfl rfl rfl
def B_Ck_accepts_37 (d : Nat) (x1 : Int) (σ : Mem) (o : Option Int) (s' : Mem) : Prop := if x1 ≥ σ 5 7 then (B_Ck_accepts_80 d  σ o s') else (if σ 49 6 ≠ 0 then (B_Ck_accepts_80 d  σ o s') else (∃ (v5 : Int) (m5 : Mem), Rn (d + 3) yTy_tooLong [.ref 38, vi (rowv 128 σ 19 x1)] σ (some v5) m5 ∧ ((v5 = 0 ∨ v5 = 1) ∧ ((rg (x1 + 1)) ∧ (Lb (d + 3) yCk_accepts 37 [(0, .ref 49), (1, vi (x1 + 1))] [] (mup m5 49 6 v5) o s')))))
theorem K_Ck_accepts_37 {d : Nat} {x1 : Int} {σ s' : Mem} {o : Option Int} (hx1 : rg x1) (H : B_Ck_accepts_37 d x1 σ o s') : Lb (d + 3) yCk_accepts 37 [(0, .ref 49), (1, vi x1)] [] σ o s' := by
  intro hM
  unfold B_Ck_accepts_37 at H
  refine k_l rfl rfl rfl ?_
  refine k_l rfl rfl rfl ?_
  refine k_gr (t := 5) rfl rfl rfl (by decide) rfl ?_
  refine k_iv (v := σ 5 7) rfl rfl rfl rfl rfl (by decide) rfl hM (R_Tr_size5 ) (fun _ q1 => ?_)
  by_cases c2 : x1 ≥ σ 5 7
  · rw [if_pos c2] at H
    refine k_c rfl (by decide) hx1 q1 (q := true) (decide_eq_true c2) rfl ?_
    exact k_lab (K_Ck_accepts_80  H) hM (lvS_cons rfl rfl lvS_nil)
  · rw [if_neg c2] at H
    refine k_c rfl (by decide) hx1 q1 (q := false) (decide_eq_false c2) rfl ?_
    refine k_l rfl rfl rfl ?_
    refine k_gf rfl rfl rfl (by decide) rfl rfl ?_
    by_cases c3 : σ 49 6 ≠ 0
    · rw [if_pos c3] at H
      refine k_z rfl (by decide) (hM _ _) (q := true) (decide_eq_true c3) rfl ?_
      exact k_lab (K_Ck_accepts_80  H) hM (lvS_cons rfl rfl lvS_nil)
    · rw [if_neg c3] at H
      refine k_z rfl (by decide) (hM _ _) (q := false) (decide_eq_false c3) rfl ?_
      refine k_l rfl rfl rfl ?_
      refine k_l rfl rfl rfl ?_
      refine k_gr (t := 38) rfl rfl rfl (by decide) rfl ?_
      refine k_l rfl rfl rfl ?_
      refine k_gr (t := 5) rfl rfl rfl (by decide) rfl ?_
      refine k_l rfl rfl rfl ?_
      refine k_iv (v := rowv 128 σ 19 x1) rfl rfl rfl rfl rfl (by decide) rfl hM (R_Tr_typeOf5 hx1) (fun _ q4 => ?_)
      obtain ⟨v5, m5, R5, H⟩ := H
      refine k_iv rfl rfl rfl rfl rfl (by decide) rfl hM R5 (fun hM5 hv5 => ?_)
      obtain ⟨g6, H⟩ := H
      refine k_pf rfl rfl rfl (by decide) rfl rfl (fitb g6) rfl ?_
      refine k_inc rfl rfl (by decide) ?_
      refine k_b rfl rfl rfl rfl ?_
      obtain ⟨g7, H⟩ := H
      exact k_lab H (hM5.up hv5) (lvS_cons rfl rfl (lvS_cons rfl rfl lvS_nil))
