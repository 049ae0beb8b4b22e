/-! Lifted methods: a tree is copied. -/
def B_Rw_copy21 (d : Nat) (σ : Mem) (o : Option Int) (s' : Mem) : Prop := Lb (d + 1) yRw_copy 2 [(0, .ref 21), (1, .ref 6), (2, vi 0)] [] σ o s'
theorem M_Rw_copy21 {d : Nat} {σ s' : Mem} {o : Option Int}  (H : B_Rw_copy21 d  σ o s') : Rn (d + 2) yRw_copy [.ref 21, .ref 6] σ o s' := by
  refine k_m (Nat.le_of_ble_eq_true rfl) (fun hM => ?_)
  unfold B_Rw_copy21 at H
  refine k_p rfl rfl rfl ?_
  refine k_l rfl rfl rfl ?_
  exact k_lab H hM (lvS_cons rfl rfl (lvS_cons rfl rfl (lvS_cons rfl rfl lvS_nil)))
def B_Rw_copy21_2 (d : Nat) (x2 : Int) (σ : Mem) (o : Option Int) (s' : Mem) : Prop := if x2 ≥ 128 then (o = none ∧ s' = σ) else (((0 : Int) ≤ x2 ∧ x2 < (128 : Int)) ∧ ((rg (x2 + 1)) ∧ (Lb (d + 1) yRw_copy 2 [(0, .ref 21), (1, .ref 6), (2, vi (x2 + 1))] [] (mup σ 22 x2 (rowv 128 σ 7 x2)) o s')))
theorem K_Rw_copy21_2 {d : Nat} {x2 : Int} {σ s' : Mem} {o : Option Int} (hx2 : rg x2) (H : B_Rw_copy21_2 d x2 σ o s') : Lb (d + 1) yRw_copy 2 [(0, .ref 21), (1, .ref 6), (2, vi x2)] [] σ o s' := by
  intro hM
  unfold B_Rw_copy21_2 at H
  refine k_l rfl rfl rfl ?_
  refine k_l rfl rfl rfl ?_
  refine k_gr (t := 22) rfl rfl rfl (by decide) rfl ?_
  refine k_len rfl rfl ?_
  rw [show (shL 22 : Int) = 128 from rfl]
  by_cases c1 : x2 ≥ 128
  · rw [if_pos c1] at H
    refine k_c rfl (by decide) hx2 (rgk rfl) (q := true) (decide_eq_true c1) rfl ?_
    obtain ⟨rfl, rfl⟩ := H
    exact k_r0 hM rfl rfl rfl
  · rw [if_neg c1] at H
    refine k_c rfl (by decide) hx2 (rgk rfl) (q := false) (decide_eq_false c1) rfl ?_
    refine k_l rfl rfl rfl ?_
    refine k_gr (t := 22) rfl rfl rfl (by decide) rfl ?_
    refine k_l rfl rfl rfl ?_
    refine k_l rfl rfl rfl ?_
    refine k_l rfl rfl rfl ?_
    refine k_iv (v := rowv 128 σ 7 x2) rfl rfl rfl rfl rfl (by decide) rfl hM (rn_get rfl rfl rfl rfl rfl (by decide) hx2) (fun _ q2 => ?_)
    obtain ⟨g3, H⟩ := H
    refine k_as (ok := isI) rfl rfl (fun _ => rfl) rfl rfl g3 (by decide) rfl ?_
    refine k_inc rfl rfl (by decide) ?_
    refine k_b rfl rfl rfl rfl ?_
    obtain ⟨g4, H⟩ := H
    exact k_lab H (hM.up q2) (lvS_cons rfl rfl (lvS_cons rfl rfl (lvS_cons rfl rfl lvS_nil)))
def B_Rw_copy23 (d : Nat) (σ : Mem) (o : Option Int) (s' : Mem) : Prop := Lb (d + 1) yRw_copy 2 [(0, .ref 23), (1, .ref 8), (2, vi 0)] [] σ o s'
theorem M_Rw_copy23 {d : Nat} {σ s' : Mem} {o : Option Int}  (H : B_Rw_copy23 d  σ o s') : Rn (d + 2) yRw_copy [.ref 23, .ref 8] σ o s' := by
  refine k_m (Nat.le_of_ble_eq_true rfl) (fun hM => ?_)
  unfold B_Rw_copy23 at H
  refine k_p rfl rfl rfl ?_
  refine k_l rfl rfl rfl ?_
  exact k_lab H hM (lvS_cons rfl rfl (lvS_cons rfl rfl (lvS_cons rfl rfl lvS_nil)))
def B_Rw_copy23_2 (d : Nat) (x2 : Int) (σ : Mem) (o : Option Int) (s' : Mem) : Prop := if x2 ≥ 128 then (o = none ∧ s' = σ) else (((0 : Int) ≤ x2 ∧ x2 < (128 : Int)) ∧ ((rg (x2 + 1)) ∧ (Lb (d + 1) yRw_copy 2 [(0, .ref 23), (1, .ref 8), (2, vi (x2 + 1))] [] (mup σ 24 x2 (rowv 128 σ 9 x2)) o s')))
theorem K_Rw_copy23_2 {d : Nat} {x2 : Int} {σ s' : Mem} {o : Option Int} (hx2 : rg x2) (H : B_Rw_copy23_2 d x2 σ o s') : Lb (d + 1) yRw_copy 2 [(0, .ref 23), (1, .ref 8), (2, vi x2)] [] σ o s' := by
  intro hM
  unfold B_Rw_copy23_2 at H
  refine k_l rfl rfl rfl ?_
  refine k_l rfl rfl rfl ?_
  refine k_gr (t := 24) rfl rfl rfl (by decide) rfl ?_
  refine k_len rfl rfl ?_
  rw [show (shL 24 : Int) = 128 from rfl]
  by_cases c1 : x2 ≥ 128
  · rw [if_pos c1] at H
    refine k_c rfl (by decide) hx2 (rgk rfl) (q := true) (decide_eq_true c1) rfl ?_
    obtain ⟨rfl, rfl⟩ := H
    exact k_r0 hM rfl rfl rfl
  · rw [if_neg c1] at H
    refine k_c rfl (by decide) hx2 (rgk rfl) (q := false) (decide_eq_false c1) rfl ?_
    refine k_l rfl rfl rfl ?_
    refine k_gr (t := 24) rfl rfl rfl (by decide) rfl ?_
    refine k_l rfl rfl rfl ?_
    refine k_l rfl rfl rfl ?_
    refine k_l rfl rfl rfl ?_
    refine k_iv (v := rowv 128 σ 9 x2) rfl rfl rfl rfl rfl (by decide) rfl hM (rn_get rfl rfl rfl rfl rfl (by decide) hx2) (fun _ q2 => ?_)
    obtain ⟨g3, H⟩ := H
    refine k_as (ok := isI) rfl rfl (fun _ => rfl) rfl rfl g3 (by decide) rfl ?_
    refine k_inc rfl rfl (by decide) ?_
    refine k_b rfl rfl rfl rfl ?_
    obtain ⟨g4, H⟩ := H
    exact k_lab H (hM.up q2) (lvS_cons rfl rfl (lvS_cons rfl rfl (lvS_cons rfl rfl lvS_nil)))
def B_Rw_copy25 (d : Nat) (σ : Mem) (o : Option Int) (s' : Mem) : Prop := Lb (d + 1) yRw_copy 2 [(0, .ref 25), (1, .ref 10), (2, vi 0)] [] σ o s'
theorem M_Rw_copy25 {d : Nat} {σ s' : Mem} {o : Option Int}  (H : B_Rw_copy25 d  σ o s') : Rn (d + 2) yRw_copy [.ref 25, .ref 10] σ o s' := by
  refine k_m (Nat.le_of_ble_eq_true rfl) (fun hM => ?_)
  unfold B_Rw_copy25 at H
  refine k_p rfl rfl rfl ?_
  refine k_l rfl rfl rfl ?_
  exact k_lab H hM (lvS_cons rfl rfl (lvS_cons rfl rfl (lvS_cons rfl rfl lvS_nil)))
def B_Rw_copy25_2 (d : Nat) (x2 : Int) (σ : Mem) (o : Option Int) (s' : Mem) : Prop := if x2 ≥ 128 then (o = none ∧ s' = σ) else (((0 : Int) ≤ x2 ∧ x2 < (128 : Int)) ∧ ((rg (x2 + 1)) ∧ (Lb (d + 1) yRw_copy 2 [(0, .ref 25), (1, .ref 10), (2, vi (x2 + 1))] [] (mup σ 26 x2 (rowv 128 σ 11 x2)) o s')))
theorem K_Rw_copy25_2 {d : Nat} {x2 : Int} {σ s' : Mem} {o : Option Int} (hx2 : rg x2) (H : B_Rw_copy25_2 d x2 σ o s') : Lb (d + 1) yRw_copy 2 [(0, .ref 25), (1, .ref 10), (2, vi x2)] [] σ o s' := by
  intro hM
  unfold B_Rw_copy25_2 at H
  refine k_l rfl rfl rfl ?_
  refine k_l rfl rfl rfl ?_
  refine k_gr (t := 26) rfl rfl rfl (by decide) rfl ?_
  refine k_len rfl rfl ?_
  rw [show (shL 26 : Int) = 128 from rfl]
  by_cases c1 : x2 ≥ 128
  · rw [if_pos c1] at H
    refine k_c rfl (by decide) hx2 (rgk rfl) (q := true) (decide_eq_true c1) rfl ?_
    obtain ⟨rfl, rfl⟩ := H
    exact k_r0 hM rfl rfl rfl
  · rw [if_neg c1] at H
    refine k_c rfl (by decide) hx2 (rgk rfl) (q := false) (decide_eq_false c1) rfl ?_
    refine k_l rfl rfl rfl ?_
    refine k_gr (t := 26) rfl rfl rfl (by decide) rfl ?_
    refine k_l rfl rfl rfl ?_
    refine k_l rfl rfl rfl ?_
    refine k_l rfl rfl rfl ?_
    refine k_iv (v := rowv 128 σ 11 x2) rfl rfl rfl rfl rfl (by decide) rfl hM (rn_get rfl rfl rfl rfl rfl (by decide) hx2) (fun _ q2 => ?_)
    obtain ⟨g3, H⟩ := H
    refine k_as (ok := isI) rfl rfl (fun _ => rfl) rfl rfl g3 (by decide) rfl ?_
    refine k_inc rfl rfl (by decide) ?_
    refine k_b rfl rfl rfl rfl ?_
    obtain ⟨g4, H⟩ := H
    exact k_lab H (hM.up q2) (lvS_cons rfl rfl (lvS_cons rfl rfl (lvS_cons rfl rfl lvS_nil)))
def B_Rw_copy27 (d : Nat) (σ : Mem) (o : Option Int) (s' : Mem) : Prop := Lb (d + 1) yRw_copy 2 [(0, .ref 27), (1, .ref 12), (2, vi 0)] [] σ o s'
theorem M_Rw_copy27 {d : Nat} {σ s' : Mem} {o : Option Int}  (H : B_Rw_copy27 d  σ o s') : Rn (d + 2) yRw_copy [.ref 27, .ref 12] σ o s' := by
  refine k_m (Nat.le_of_ble_eq_true rfl) (fun hM => ?_)
  unfold B_Rw_copy27 at H
  refine k_p rfl rfl rfl ?_
  refine k_l rfl rfl rfl ?_
  exact k_lab H hM (lvS_cons rfl rfl (lvS_cons rfl rfl (lvS_cons rfl rfl lvS_nil)))
def B_Rw_copy27_2 (d : Nat) (x2 : Int) (σ : Mem) (o : Option Int) (s' : Mem) : Prop := if x2 ≥ 128 then (o = none ∧ s' = σ) else (((0 : Int) ≤ x2 ∧ x2 < (128 : Int)) ∧ ((rg (x2 + 1)) ∧ (Lb (d + 1) yRw_copy 2 [(0, .ref 27), (1, .ref 12), (2, vi (x2 + 1))] [] (mup σ 28 x2 (rowv 128 σ 13 x2)) o s')))
theorem K_Rw_copy27_2 {d : Nat} {x2 : Int} {σ s' : Mem} {o : Option Int} (hx2 : rg x2) (H : B_Rw_copy27_2 d x2 σ o s') : Lb (d + 1) yRw_copy 2 [(0, .ref 27), (1, .ref 12), (2, vi x2)] [] σ o s' := by
  intro hM
  unfold B_Rw_copy27_2 at H
  refine k_l rfl rfl rfl ?_
  refine k_l rfl rfl rfl ?_
  refine k_gr (t := 28) rfl rfl rfl (by decide) rfl ?_
  refine k_len rfl rfl ?_
  rw [show (shL 28 : Int) = 128 from rfl]
  by_cases c1 : x2 ≥ 128
  · rw [if_pos c1] at H
    refine k_c rfl (by decide) hx2 (rgk rfl) (q := true) (decide_eq_true c1) rfl ?_
    obtain ⟨rfl, rfl⟩ := H
    exact k_r0 hM rfl rfl rfl
  · rw [if_neg c1] at H
    refine k_c rfl (by decide) hx2 (rgk rfl) (q := false) (decide_eq_false c1) rfl ?_
    refine k_l rfl rfl rfl ?_
    refine k_gr (t := 28) rfl rfl rfl (by decide) rfl ?_
    refine k_l rfl rfl rfl ?_
    refine k_l rfl rfl rfl ?_
    refine k_l rfl rfl rfl ?_
    refine k_iv (v := rowv 128 σ 13 x2) rfl rfl rfl rfl rfl (by decide) rfl hM (rn_get rfl rfl rfl rfl rfl (by decide) hx2) (fun _ q2 => ?_)
    obtain ⟨g3, H⟩ := H
    refine k_as (ok := isI) rfl rfl (fun _ => rfl) rfl rfl g3 (by decide) rfl ?_
    refine k_inc rfl rfl (by decide) ?_
    refine k_b rfl rfl rfl rfl ?_
    obtain ⟨g4, H⟩ := H
    exact k_lab H (hM.up q2) (lvS_cons rfl rfl (lvS_cons rfl rfl (lvS_cons rfl rfl lvS_nil)))
def B_Rw_copy29 (d : Nat) (σ : Mem) (o : Option Int) (s' : Mem) : Prop := Lb (d + 1) yRw_copy 2 [(0, .ref 29), (1, .ref 14), (2, vi 0)] [] σ o s'
theorem M_Rw_copy29 {d : Nat} {σ s' : Mem} {o : Option Int}  (H : B_Rw_copy29 d  σ o s') : Rn (d + 2) yRw_copy [.ref 29, .ref 14] σ o s' := by
  refine k_m (Nat.le_of_ble_eq_true rfl) (fun hM => ?_)
  unfold B_Rw_copy29 at H
  refine k_p rfl rfl rfl ?_
  refine k_l rfl rfl rfl ?_
  exact k_lab H hM (lvS_cons rfl rfl (lvS_cons rfl rfl (lvS_cons rfl rfl lvS_nil)))
def B_Rw_copy29_2 (d : Nat) (x2 : Int) (σ : Mem) (o : Option Int) (s' : Mem) : Prop := if x2 ≥ 128 then (o = none ∧ s' = σ) else (((0 : Int) ≤ x2 ∧ x2 < (128 : Int)) ∧ ((rg (x2 + 1)) ∧ (Lb (d + 1) yRw_copy 2 [(0, .ref 29), (1, .ref 14), (2, vi (x2 + 1))] [] (mup σ 30 x2 (rowv 128 σ 15 x2)) o s')))
theorem K_Rw_copy29_2 {d : Nat} {x2 : Int} {σ s' : Mem} {o : Option Int} (hx2 : rg x2) (H : B_Rw_copy29_2 d x2 σ o s') : Lb (d + 1) yRw_copy 2 [(0, .ref 29), (1, .ref 14), (2, vi x2)] [] σ o s' := by
  intro hM
  unfold B_Rw_copy29_2 at H
  refine k_l rfl rfl rfl ?_
  refine k_l rfl rfl rfl ?_
  refine k_gr (t := 30) rfl rfl rfl (by decide) rfl ?_
  refine k_len rfl rfl ?_
  rw [show (shL 30 : Int) = 128 from rfl]
  by_cases c1 : x2 ≥ 128
  · rw [if_pos c1] at H
    refine k_c rfl (by decide) hx2 (rgk rfl) (q := true) (decide_eq_true c1) rfl ?_
    obtain ⟨rfl, rfl⟩ := H
    exact k_r0 hM rfl rfl rfl
  · rw [if_neg c1] at H
    refine k_c rfl (by decide) hx2 (rgk rfl) (q := false) (decide_eq_false c1) rfl ?_
    refine k_l rfl rfl rfl ?_
    refine k_gr (t := 30) rfl rfl rfl (by decide) rfl ?_
    refine k_l rfl rfl rfl ?_
    refine k_l rfl rfl rfl ?_
    refine k_l rfl rfl rfl ?_
    refine k_iv (v := rowv 128 σ 15 x2) rfl rfl rfl rfl rfl (by decide) rfl hM (rn_get rfl rfl rfl rfl rfl (by decide) hx2) (fun _ q2 => ?_)
    obtain ⟨g3, H⟩ := H
    refine k_as (ok := isI) rfl rfl (fun _ => rfl) rfl rfl g3 (by decide) rfl ?_
    refine k_inc rfl rfl (by decide) ?_
    refine k_b rfl rfl rfl rfl ?_
    obtain ⟨g4, H⟩ := H
    exact k_lab H (hM.up q2) (lvS_cons rfl rfl (lvS_cons rfl rfl (lvS_cons rfl rfl lvS_nil)))
def B_Rw_copy31 (d : Nat) (σ : Mem) (o : Option Int) (s' : Mem) : Prop := Lb (d + 1) yRw_copy 2 [(0, .ref 31), (1, .ref 16), (2, vi 0)] [] σ o s'
theorem M_Rw_copy31 {d : Nat} {σ s' : Mem} {o : Option Int}  (H : B_Rw_copy31 d  σ o s') : Rn (d + 2) yRw_copy [.ref 31, .ref 16] σ o s' := by
  refine k_m (Nat.le_of_ble_eq_true rfl) (fun hM => ?_)
  unfold B_Rw_copy31 at H
  refine k_p rfl rfl rfl ?_
  refine k_l rfl rfl rfl ?_
  exact k_lab H hM (lvS_cons rfl rfl (lvS_cons rfl rfl (lvS_cons rfl rfl lvS_nil)))
def B_Rw_copy31_2 (d : Nat) (x2 : Int) (σ : Mem) (o : Option Int) (s' : Mem) : Prop := if x2 ≥ 128 then (o = none ∧ s' = σ) else (((0 : Int) ≤ x2 ∧ x2 < (128 : Int)) ∧ ((rg (x2 + 1)) ∧ (Lb (d + 1) yRw_copy 2 [(0, .ref 31), (1, .ref 16), (2, vi (x2 + 1))] [] (mup σ 32 x2 (rowv 128 σ 17 x2)) o s')))
theorem K_Rw_copy31_2 {d : Nat} {x2 : Int} {σ s' : Mem} {o : Option Int} (hx2 : rg x2) (H : B_Rw_copy31_2 d x2 σ o s') : Lb (d + 1) yRw_copy 2 [(0, .ref 31), (1, .ref 16), (2, vi x2)] [] σ o s' := by
  intro hM
  unfold B_Rw_copy31_2 at H
  refine k_l rfl rfl rfl ?_
  refine k_l rfl rfl rfl ?_
  refine k_gr (t := 32) rfl rfl rfl (by decide) rfl ?_
  refine k_len rfl rfl ?_
  rw [show (shL 32 : Int) = 128 from rfl]
  by_cases c1 : x2 ≥ 128
  · rw [if_pos c1] at H
    refine k_c rfl (by decide) hx2 (rgk rfl) (q := true) (decide_eq_true c1) rfl ?_
    obtain ⟨rfl, rfl⟩ := H
    exact k_r0 hM rfl rfl rfl
  · rw [if_neg c1] at H
    refine k_c rfl (by decide) hx2 (rgk rfl) (q := false) (decide_eq_false c1) rfl ?_
    refine k_l rfl rfl rfl ?_
    refine k_gr (t := 32) rfl rfl rfl (by decide) rfl ?_
    refine k_l rfl rfl rfl ?_
    refine k_l rfl rfl rfl ?_
    refine k_l rfl rfl rfl ?_
    refine k_iv (v := rowv 128 σ 17 x2) rfl rfl rfl rfl rfl (by decide) rfl hM (rn_get rfl rfl rfl rfl rfl (by decide) hx2) (fun _ q2 => ?_)
    obtain ⟨g3, H⟩ := H
    refine k_as (ok := isI) rfl rfl (fun _ => rfl) rfl rfl g3 (by decide) rfl ?_
    refine k_inc rfl rfl (by decide) ?_
    refine k_b rfl rfl rfl rfl ?_
    obtain ⟨g4, H⟩ := H
    exact k_lab H (hM.up q2) (lvS_cons rfl rfl (lvS_cons rfl rfl (lvS_cons rfl rfl lvS_nil)))
def B_Rw_copy33 (d : Nat) (σ : Mem) (o : Option Int) (s' : Mem) : Prop := Lb (d + 1) yRw_copy 2 [(0, .ref 33), (1, .ref 18), (2, vi 0)] [] σ o s'
theorem M_Rw_copy33 {d : Nat} {σ s' : Mem} {o : Option Int}  (H : B_Rw_copy33 d  σ o s') : Rn (d + 2) yRw_copy [.ref 33, .ref 18] σ o s' := by
  refine k_m (Nat.le_of_ble_eq_true rfl) (fun hM => ?_)
  unfold B_Rw_copy33 at H
  refine k_p rfl rfl rfl ?_
  refine k_l rfl rfl rfl ?_
  exact k_lab H hM (lvS_cons rfl rfl (lvS_cons rfl rfl (lvS_cons rfl rfl lvS_nil)))
def B_Rw_copy33_2 (d : Nat) (x2 : Int) (σ : Mem) (o : Option Int) (s' : Mem) : Prop := if x2 ≥ 128 then (o = none ∧ s' = σ) else (((0 : Int) ≤ x2 ∧ x2 < (128 : Int)) ∧ ((rg (x2 + 1)) ∧ (Lb (d + 1) yRw_copy 2 [(0, .ref 33), (1, .ref 18), (2, vi (x2 + 1))] [] (mup σ 34 x2 (rowv 128 σ 19 x2)) o s')))
theorem K_Rw_copy33_2 {d : Nat} {x2 : Int} {σ s' : Mem} {o : Option Int} (hx2 : rg x2) (H : B_Rw_copy33_2 d x2 σ o s') : Lb (d + 1) yRw_copy 2 [(0, .ref 33), (1, .ref 18), (2, vi x2)] [] σ o s' := by
  intro hM
  unfold B_Rw_copy33_2 at H
  refine k_l rfl rfl rfl ?_
  refine k_l rfl rfl rfl ?_
  refine k_gr (t := 34) rfl rfl rfl (by decide) rfl ?_
  refine k_len rfl rfl ?_
  rw [show (shL 34 : Int) = 128 from rfl]
  by_cases c1 : x2 ≥ 128
  · rw [if_pos c1] at H
    refine k_c rfl (by decide) hx2 (rgk rfl) (q := true) (decide_eq_true c1) rfl ?_
    obtain ⟨rfl, rfl⟩ := H
    exact k_r0 hM rfl rfl rfl
  · rw [if_neg c1] at H
    refine k_c rfl (by decide) hx2 (rgk rfl) (q := false) (decide_eq_false c1) rfl ?_
    refine k_l rfl rfl rfl ?_
    refine k_gr (t := 34) rfl rfl rfl (by decide) rfl ?_
    refine k_l rfl rfl rfl ?_
    refine k_l rfl rfl rfl ?_
    refine k_l rfl rfl rfl ?_
    refine k_iv (v := rowv 128 σ 19 x2) rfl rfl rfl rfl rfl (by decide) rfl hM (rn_get rfl rfl rfl rfl rfl (by decide) hx2) (fun _ q2 => ?_)
    obtain ⟨g3, H⟩ := H
    refine k_as (ok := isI) rfl rfl (fun _ => rfl) rfl rfl g3 (by decide) rfl ?_
    refine k_inc rfl rfl (by decide) ?_
    refine k_b rfl rfl rfl rfl ?_
    obtain ⟨g4, H⟩ := H
    exact k_lab H (hM.up q2) (lvS_cons rfl rfl (lvS_cons rfl rfl (lvS_cons rfl rfl lvS_nil)))
def B_Tr_copy (d : Nat) (σ : Mem) (o : Option Int) (s' : Mem) : Prop := ∃ (m1 : Mem), Rn (d + 2) yRw_copy [.ref 21, .ref 6] (mup (mup σ 20 7 (σ 5 7)) 20 8 (σ 5 8)) none m1 ∧ (∃ (m2 : Mem), Rn (d + 2) yRw_copy [.ref 23, .ref 8] m1 none m2 ∧ (∃ (m3 : Mem), Rn (d + 2) yRw_copy [.ref 25, .ref 10] m2 none m3 ∧ (∃ (m4 : Mem), Rn (d + 2) yRw_copy [.ref 27, .ref 12] m3 none m4 ∧ (∃ (m5 : Mem), Rn (d + 2) yRw_copy [.ref 29, .ref 14] m4 none m5 ∧ (∃ (m6 : Mem), Rn (d + 2) yRw_copy [.ref 31, .ref 16] m5 none m6 ∧ (∃ (m7 : Mem), Rn (d + 2) yRw_copy [.ref 33, .ref 18] m6 none m7 ∧ (o = none ∧ s' = m7)))))))
theorem M_Tr_copy {d : Nat} {σ s' : Mem} {o : Option Int}  (H : B_Tr_copy d  σ o s') : Rn (d + 3) yTr_copy [.ref 20, .ref 5] σ o s' := by
  refine k_m (Nat.le_of_ble_eq_true rfl) (fun hM => ?_)
  unfold B_Tr_copy at H
  refine k_l rfl rfl rfl ?_
  refine k_l rfl rfl rfl ?_
  refine k_gf rfl rfl rfl (by decide) rfl rfl ?_
  refine k_pf rfl rfl rfl (by decide) rfl rfl rfl rfl ?_
  refine k_l rfl rfl rfl ?_
  refine k_l rfl rfl rfl ?_
  refine k_gf rfl rfl rfl (by decide) rfl (mup_ne (by decide)) ?_
  refine k_pf rfl rfl rfl (by decide) rfl rfl rfl rfl ?_
  refine k_l rfl rfl rfl ?_
  refine k_gr (t := 21) rfl rfl rfl (by decide) rfl ?_
  refine k_l rfl rfl rfl ?_
  refine k_gr (t := 6) rfl rfl rfl (by decide) rfl ?_
  obtain ⟨m1, R1, H⟩ := H
  refine k_iw rfl rfl rfl rfl rfl (by decide) rfl ((hM.up (hM _ _)).up (hM _ _)) R1 (fun hM1 => ?_)
  refine k_l rfl rfl rfl ?_
  refine k_gr (t := 23) rfl rfl rfl (by decide) rfl ?_
  refine k_l rfl rfl rfl ?_
  refine k_gr (t := 8) rfl rfl rfl (by decide) rfl ?_
  obtain ⟨m2, R2, H⟩ := H
  refine k_iw rfl rfl rfl rfl rfl (by decide) rfl hM1 R2 (fun hM2 => ?_)
  refine k_l rfl rfl rfl ?_
  refine k_gr (t := 25) rfl rfl rfl (by decide) rfl ?_
  refine k_l rfl rfl rfl ?_
  refine k_gr (t := 10) rfl rfl rfl (by decide) rfl ?_
  obtain ⟨m3, R3, H⟩ := H
  refine k_iw rfl rfl rfl rfl rfl (by decide) rfl hM2 R3 (fun hM3 => ?_)
  refine k_l rfl rfl rfl ?_
  refine k_gr (t := 27) rfl rfl rfl (by decide) rfl ?_
  refine k_l rfl rfl rfl ?_
  refine k_gr (t := 12) rfl rfl rfl (by decide) rfl ?_
  obtain ⟨m4, R4, H⟩ := H
  refine k_iw rfl rfl rfl rfl rfl (by decide) rfl hM3 R4 (fun hM4 => ?_)
  refine k_l rfl rfl rfl ?_
  refine k_gr (t := 29) rfl rfl rfl (by decide) rfl ?_
  refine k_l rfl rfl rfl ?_
  refine k_gr (t := 14) rfl rfl rfl (by decide) rfl ?_
  obtain ⟨m5, R5, H⟩ := H
  refine k_iw rfl rfl rfl rfl rfl (by decide) rfl hM4 R5 (fun hM5 => ?_)
  refine k_l rfl rfl rfl ?_
  refine k_gr (t := 31) rfl rfl rfl (by decide) rfl ?_
  refine k_l rfl rfl rfl ?_
  refine k_gr (t := 16) rfl rfl rfl (by decide) rfl ?_
  obtain ⟨m6, R6, H⟩ := H
  refine k_iw rfl rfl rfl rfl rfl (by decide) rfl hM5 R6 (fun hM6 => ?_)
  refine k_l rfl rfl rfl ?_
  refine k_gr (t := 33) rfl rfl rfl (by decide) rfl ?_
  refine k_l rfl rfl rfl ?_
  refine k_gr (t := 18) rfl rfl rfl (by decide) rfl ?_
  obtain ⟨m7, R7, H⟩ := H
  refine k_iw rfl rfl rfl rfl rfl (by decide) rfl hM6 R7 (fun hM7 => ?_)
  obtain ⟨rfl, rfl⟩ := H
  exact k_r0 hM7 rfl rfl rfl
