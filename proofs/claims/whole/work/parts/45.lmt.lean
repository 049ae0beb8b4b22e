/-! Lifted methods: the model's types. -/
def B_Mo_make (d : Nat) (x1 x2 x3 : Int) (σ : Mem) (o : Option Int) (s' : Mem) : Prop := ((0 : Int) ≤ σ 58 35 ∧ σ 58 35 < (1300 : Int)) ∧ (((0 : Int) ≤ σ 58 35 ∧ σ 58 35 < (1300 : Int)) ∧ (((0 : Int) ≤ σ 58 35 ∧ σ 58 35 < (1300 : Int)) ∧ (((0 : Int) ≤ σ 58 35 ∧ σ 58 35 < (1300 : Int)) ∧ ((rg ((σ 58 35) + 1)) ∧ ((rg (((σ 58 35) + 1) - 1)) ∧ (o = some (((σ 58 35) + 1) - 1) ∧ s' = mup (mup (mup (mup (mup σ 79 (σ 58 35) x1) 80 (σ 58 35) x2) 81 (σ 58 35) x3) 82 (σ 58 35) ((-1))) 58 35 ((σ 58 35) + 1)))))))
theorem M_Mo_make {d : Nat} {x1 x2 x3 : Int} {σ s' : Mem} {o : Option Int} (hx1 : rg x1) (hx2 : rg x2) (hx3 : rg x3) (H : B_Mo_make d x1 x2 x3 σ o s') : Rn (d + 4) yMo_make [.ref 58, vi x1, vi x2, vi x3] σ o s' := by
  refine k_m (Nat.le_of_ble_eq_true rfl) (fun hM => ?_)
  unfold B_Mo_make at H
  refine k_l rfl rfl rfl ?_
  refine k_gr (t := 79) rfl rfl rfl (by decide) rfl ?_
  refine k_l rfl rfl rfl ?_
  refine k_gf rfl rfl rfl (by decide) rfl rfl ?_
  refine k_l rfl rfl rfl ?_
  obtain ⟨g1, H⟩ := H
  refine k_as (ok := isI) rfl rfl (fun _ => rfl) rfl rfl g1 (by decide) rfl ?_
  refine k_l rfl rfl rfl ?_
  refine k_gr (t := 80) rfl rfl rfl (by decide) rfl ?_
  refine k_l rfl rfl rfl ?_
  refine k_gf rfl rfl rfl (by decide) rfl (mup_ne (by decide)) ?_
  refine k_l rfl rfl rfl ?_
  obtain ⟨g2, H⟩ := H
  refine k_as (ok := isI) rfl rfl (fun _ => rfl) rfl rfl g2 (by decide) rfl ?_
  refine k_l rfl rfl rfl ?_
  refine k_gr (t := 81) rfl rfl rfl (by decide) rfl ?_
  refine k_l rfl rfl rfl ?_
  refine k_gf rfl rfl rfl (by decide) rfl ((mup_ne (by decide)).trans (mup_ne (by decide))) ?_
  refine k_l rfl rfl rfl ?_
  obtain ⟨g3, H⟩ := H
  refine k_as (ok := isI) rfl rfl (fun _ => rfl) rfl rfl g3 (by decide) rfl ?_
  refine k_l rfl rfl rfl ?_
  refine k_gr (t := 82) rfl rfl rfl (by decide) rfl ?_
  refine k_l rfl rfl rfl ?_
  refine k_gf rfl rfl rfl (by decide) rfl ((mup_ne (by decide)).trans ((mup_ne (by decide)).trans (mup_ne (by decide)))) ?_
  refine k_p rfl rfl rfl ?_
  obtain ⟨g4, H⟩ := H
  refine k_as (ok := isI) rfl rfl (fun _ => rfl) rfl rfl g4 (by decide) rfl ?_
  refine k_l rfl rfl rfl ?_
  refine k_p rfl rfl rfl ?_
  refine k_gf rfl rfl rfl (by decide) rfl ((mup_ne (by decide)).trans ((mup_ne (by decide)).trans ((mup_ne (by decide)).trans (mup_ne (by decide))))) ?_
  refine k_p rfl rfl rfl ?_
  refine k_add rfl ?_
  obtain ⟨g5, H⟩ := H
  refine k_pf rfl rfl rfl (by decide) rfl rfl rfl rfl ?_
  refine k_l rfl rfl rfl ?_
  refine k_gf rfl rfl rfl (by decide) rfl mup_eq ?_
  refine k_p rfl rfl rfl ?_
  refine k_sub rfl ?_
  obtain ⟨g6, H⟩ := H
  obtain ⟨rfl, rfl⟩ := H
  exact k_r1 (((((hM.up hx1).up hx2).up hx3).up (rgk rfl)).up g5) g6 rfl rfl rfl
def B_Mo_fresh (d : Nat) (σ : Mem) (o : Option Int) (s' : Mem) : Prop := ∃ (v1 : Int) (m1 : Mem), Rn (d + 3) yMo_make [.ref 58, vi 0, vi ((-1)), vi 0] σ (some v1) m1 ∧ (o = some v1 ∧ s' = m1)
theorem M_Mo_fresh {d : Nat} {σ s' : Mem} {o : Option Int}  (H : B_Mo_fresh d  σ o s') : Rn (d + 4) yMo_fresh [.ref 58] σ o s' := by
  refine k_m (Nat.le_of_ble_eq_true rfl) (fun hM => ?_)
  unfold B_Mo_fresh at H
  refine k_l rfl rfl rfl ?_
  refine k_p rfl rfl rfl ?_
  refine k_p rfl rfl rfl ?_
  refine k_p rfl rfl rfl ?_
  obtain ⟨v1, m1, R1, H⟩ := H
  refine k_iv rfl rfl rfl rfl rfl (by decide) rfl hM R1 (fun hM1 hv1 => ?_)
  obtain ⟨rfl, rfl⟩ := H
  exact k_r1 hM1 hv1 rfl rfl rfl
def B_Mo_realType (d : Nat) (x1 : Int) (σ : Mem) (o : Option Int) (s' : Mem) : Prop := Lb (d + 3) yMo_realType 2 [(0, .ref 58), (2, vi x1)] [] σ o s'
theorem M_Mo_realType {d : Nat} {x1 : Int} {σ s' : Mem} {o : Option Int} (hx1 : rg x1) (H : B_Mo_realType d x1 σ o s') : Rn (d + 4) yMo_realType [.ref 58, vi x1] σ o s' := by
  refine k_m (Nat.le_of_ble_eq_true rfl) (fun hM => ?_)
  unfold B_Mo_realType at H
  refine k_l rfl rfl rfl ?_
  refine k_l rfl rfl rfl ?_
  exact k_lab H hM (lvS_cons rfl rfl (lvS_cons rfl rfl lvS_nil))
def B_Mo_realType_2 (d : Nat) (x2 : Int) (σ : Mem) (o : Option Int) (s' : Mem) : Prop := ((0 : Int) ≤ x2 ∧ x2 < (1300 : Int)) ∧ (if σ 79 x2 ≠ 0 then (o = some x2 ∧ s' = σ) else (((0 : Int) ≤ x2 ∧ x2 < (1300 : Int)) ∧ (if σ 80 x2 < 0 then (o = some x2 ∧ s' = σ) else (((0 : Int) ≤ x2 ∧ x2 < (1300 : Int)) ∧ (Lb (d + 3) yMo_realType 2 [(0, .ref 58), (2, vi (σ 80 x2))] [] σ o s')))))
theorem K_Mo_realType_2 {d : Nat} {x2 : Int} {σ s' : Mem} {o : Option Int} (hx2 : rg x2) (H : B_Mo_realType_2 d x2 σ o s') : Lb (d + 3) yMo_realType 2 [(0, .ref 58), (2, vi x2)] [] σ o s' := by
  intro hM
  unfold B_Mo_realType_2 at H
  refine k_l rfl rfl rfl ?_
  refine k_gr (t := 79) rfl rfl rfl (by decide) rfl ?_
  refine k_l rfl rfl rfl ?_
  obtain ⟨g1, H⟩ := H
  refine k_al rfl rfl (fun _ => rfl) rfl rfl g1 (by decide) rfl ?_
  by_cases c2 : σ 79 x2 ≠ 0
  · rw [if_pos c2] at H
    refine k_z rfl (by decide) (hM _ _) (q := true) (decide_eq_true c2) rfl ?_
    refine k_l rfl rfl rfl ?_
    obtain ⟨rfl, rfl⟩ := H
    exact k_r1 hM hx2 rfl rfl rfl
  · rw [if_neg c2] at H
    refine k_z rfl (by decide) (hM _ _) (q := false) (decide_eq_false c2) rfl ?_
    refine k_l rfl rfl rfl ?_
    refine k_gr (t := 80) rfl rfl rfl (by decide) rfl ?_
    refine k_l rfl rfl rfl ?_
    obtain ⟨g3, H⟩ := H
    refine k_al rfl rfl (fun _ => rfl) rfl rfl g3 (by decide) rfl ?_
    by_cases c4 : σ 80 x2 < 0
    · rw [if_pos c4] at H
      refine k_z rfl (by decide) (hM _ _) (q := true) (decide_eq_true c4) rfl ?_
      refine k_l rfl rfl rfl ?_
      obtain ⟨rfl, rfl⟩ := H
      exact k_r1 hM hx2 rfl rfl rfl
    · rw [if_neg c4] at H
      refine k_z rfl (by decide) (hM _ _) (q := false) (decide_eq_false c4) rfl ?_
      refine k_l rfl rfl rfl ?_
      refine k_gr (t := 80) rfl rfl rfl (by decide) rfl ?_
      refine k_l rfl rfl rfl ?_
      obtain ⟨g5, H⟩ := H
      refine k_al rfl rfl (fun _ => rfl) rfl rfl g5 (by decide) rfl ?_
      refine k_l rfl rfl rfl ?_
      refine k_b rfl rfl rfl rfl ?_
      exact k_lab H hM (lvS_cons rfl rfl (lvS_cons rfl rfl lvS_nil))
def B_Mo_width (d : Nat) (x1 : Int) (σ : Mem) (o : Option Int) (s' : Mem) : Prop := ((0 : Int) ≤ 0 ∧ 0 < (160 : Int)) ∧ (Lb (d + 3) yMo_width 16 [(0, .ref 58), (2, vi 0), (3, vi 1)] [] (mup (mup σ 58 45 0) 86 0 x1) o s')
theorem M_Mo_width {d : Nat} {x1 : Int} {σ s' : Mem} {o : Option Int} (hx1 : rg x1) (H : B_Mo_width d x1 σ o s') : Rn (d + 4) yMo_width [.ref 58, vi x1] σ o s' := by
  refine k_m (Nat.le_of_ble_eq_true rfl) (fun hM => ?_)
  unfold B_Mo_width at H
  refine k_p rfl rfl rfl ?_
  refine k_l rfl rfl rfl ?_
  refine k_p rfl rfl rfl ?_
  refine k_l rfl rfl rfl ?_
  refine k_l rfl rfl rfl ?_
  refine k_p rfl rfl rfl ?_
  refine k_pf rfl rfl rfl (by decide) rfl rfl rfl rfl ?_
  refine k_l rfl rfl rfl ?_
  refine k_gr (t := 86) rfl rfl rfl (by decide) rfl ?_
  refine k_p rfl rfl rfl ?_
  refine k_l rfl rfl rfl ?_
  obtain ⟨g1, H⟩ := H
  refine k_as (ok := isI) rfl rfl (fun _ => rfl) rfl rfl g1 (by decide) rfl ?_
  exact k_lab H ((hM.up (rgk rfl)).up hx1) (lvS_cons rfl rfl (lvS_cons rfl rfl (lvS_cons rfl rfl lvS_nil)))
def B_Mo_width_153 (d : Nat) (x2 t0 t1 : Int) (σ : Mem) (o : Option Int) (s' : Mem) : Prop := (rg (t0 + t1)) ∧ (Lb (d + 3) yMo_width 16 [(0, .ref 58), (2, vi x2), (3, vi (t0 + t1))] [] σ o s')
theorem K_Mo_width_153 {d : Nat} {x2 t0 t1 : Int} {σ s' : Mem} {o : Option Int} (hx2 : rg x2) (ht0 : rg t0) (ht1 : rg t1) (H : B_Mo_width_153 d x2 t0 t1 σ o s') : Lb (d + 3) yMo_width 153 [(0, .ref 58), (2, vi x2)] [vi t1, vi t0] σ o s' := by
  intro hM
  unfold B_Mo_width_153 at H
  refine k_add rfl ?_
  refine k_l rfl rfl rfl ?_
  refine k_b rfl rfl rfl rfl ?_
  obtain ⟨g1, H⟩ := H
  exact k_lab H hM (lvS_cons rfl rfl (lvS_cons rfl rfl (lvS_cons rfl rfl lvS_nil)))
def B_Mo_width_98 (d : Nat) (x3 x4 t0 t1 : Int) (σ : Mem) (o : Option Int) (s' : Mem) : Prop := ((0 : Int) ≤ x4 ∧ x4 < (1300 : Int)) ∧ (((0 : Int) ≤ x3 ∧ x3 < (160 : Int)) ∧ (((0 : Int) ≤ x4 ∧ x4 < (1300 : Int)) ∧ (((0 : Int) ≤ x3 + 1 ∧ x3 + 1 < (160 : Int)) ∧ (((0 : Int) ≤ x4 ∧ x4 < (1300 : Int)) ∧ (if σ 79 x4 ≤ 3 then ((rg (t0 + t1)) ∧ (B_Mo_width_153 d (t0 + t1) x3 0 (mup (mup σ 86 x3 (σ 80 x4)) 86 (x3 + 1) (σ 81 x4)) o s')) else (((0 : Int) ≤ x4 ∧ x4 < (1300 : Int)) ∧ ((rg (t0 + t1)) ∧ ((rg ((σ 79 x4) - 3)) ∧ (B_Mo_width_153 d (t0 + t1) x3 ((σ 79 x4) - 3) (mup (mup σ 86 x3 (σ 80 x4)) 86 (x3 + 1) (σ 81 x4)) o s')))))))))
theorem K_Mo_width_98 {d : Nat} {x3 x4 t0 t1 : Int} {σ s' : Mem} {o : Option Int} (hx3 : rg x3) (hx4 : rg x4) (ht0 : rg t0) (ht1 : rg t1) (H : B_Mo_width_98 d x3 x4 t0 t1 σ o s') : Lb (d + 3) yMo_width 98 [(0, .ref 58), (3, vi x3), (4, vi x4)] [vi t1, vi t0] σ o s' := by
  intro hM
  unfold B_Mo_width_98 at H
  refine k_add rfl ?_
  refine k_l rfl rfl rfl ?_
  refine k_l rfl rfl rfl ?_
  refine k_gr (t := 86) rfl rfl rfl (by decide) rfl ?_
  refine k_l rfl rfl rfl ?_
  refine k_l rfl rfl rfl ?_
  refine k_gr (t := 80) rfl rfl rfl (by decide) rfl ?_
  refine k_l rfl rfl rfl ?_
  obtain ⟨g1, H⟩ := H
  refine k_al rfl rfl (fun _ => rfl) rfl rfl g1 (by decide) rfl ?_
  obtain ⟨g2, H⟩ := H
  refine k_as (ok := isI) rfl rfl (fun _ => rfl) rfl rfl g2 (by decide) rfl ?_
  refine k_l rfl rfl rfl ?_
  refine k_gr (t := 86) rfl rfl rfl (by decide) rfl ?_
  refine k_l rfl rfl rfl ?_
  refine k_p rfl rfl rfl ?_
  refine k_add rfl ?_
  refine k_l rfl rfl rfl ?_
  refine k_gr (t := 81) rfl rfl rfl (by decide) rfl ?_
  refine k_l rfl rfl rfl ?_
  obtain ⟨g3, H⟩ := H
  refine k_al rfl rfl (fun _ => rfl) rfl rfl g3 (by decide) (mup_ne (by decide)) ?_
  obtain ⟨g4, H⟩ := H
  refine k_as (ok := isI) rfl rfl (fun _ => rfl) rfl rfl g4 (by decide) rfl ?_
  refine k_l rfl rfl rfl ?_
  refine k_l rfl rfl rfl ?_
  refine k_gr (t := 79) rfl rfl rfl (by decide) rfl ?_
  refine k_l rfl rfl rfl ?_
  obtain ⟨g5, H⟩ := H
  refine k_al rfl rfl (fun _ => rfl) rfl rfl g5 (by decide) ((mup_ne (by decide)).trans (mup_ne (by decide))) ?_
  refine k_p rfl rfl rfl ?_
  by_cases c6 : σ 79 x4 ≤ 3
  · rw [if_pos c6] at H
    refine k_c rfl (by decide) (hM _ _) (rgk rfl) (q := true) (decide_eq_true c6) rfl ?_
    refine k_p rfl rfl rfl ?_
    obtain ⟨g7, H⟩ := H
    exact k_lab (K_Mo_width_153 g7 hx3 (rgk rfl) H) ((hM.up (hM _ _)).up (hM _ _)) (lvS_cons rfl rfl (lvS_cons rfl rfl lvS_nil))
  · rw [if_neg c6] at H
    refine k_c rfl (by decide) (hM _ _) (rgk rfl) (q := false) (decide_eq_false c6) rfl ?_
    refine k_l rfl rfl rfl ?_
    refine k_gr (t := 79) rfl rfl rfl (by decide) rfl ?_
    refine k_l rfl rfl rfl ?_
    obtain ⟨g8, H⟩ := H
    refine k_al rfl rfl (fun _ => rfl) rfl rfl g8 (by decide) ((mup_ne (by decide)).trans (mup_ne (by decide))) ?_
    refine k_p rfl rfl rfl ?_
    refine k_sub rfl ?_
    refine k_b rfl rfl rfl rfl ?_
    obtain ⟨g9, H⟩ := H
    obtain ⟨g10, H⟩ := H
    exact k_lab (K_Mo_width_153 g9 hx3 g10 H) ((hM.up (hM _ _)).up (hM _ _)) (lvS_cons rfl rfl (lvS_cons rfl rfl lvS_nil))
def B_Mo_width_63 (d : Nat) (x2 x3 x4 t1 : Int) (σ : Mem) (o : Option Int) (s' : Mem) : Prop := (t1 = 0 ∨ t1 = 1) ∧ (((0 : Int) ≤ x4 ∧ x4 < (1300 : Int)) ∧ (if σ 79 x4 ≠ 4 then (((0 : Int) ≤ x4 ∧ x4 < (1300 : Int)) ∧ (if σ 79 x4 ≠ 5 then (B_Mo_width_98 d x3 x4 x2 1 (mup σ 58 45 t1) o s') else (B_Mo_width_98 d x3 x4 x2 3 (mup σ 58 45 t1) o s'))) else (B_Mo_width_98 d x3 x4 x2 2 (mup σ 58 45 t1) o s')))
theorem K_Mo_width_63 {d : Nat} {x2 x3 x4 t1 : Int} {σ s' : Mem} {o : Option Int} (hx2 : rg x2) (hx3 : rg x3) (hx4 : rg x4) (ht1 : rg t1) (H : B_Mo_width_63 d x2 x3 x4 t1 σ o s') : Lb (d + 3) yMo_width 63 [(0, .ref 58), (2, vi x2), (3, vi x3), (4, vi x4)] [vi t1, .ref 58] σ o s' := by
  intro hM
  unfold B_Mo_width_63 at H
  obtain ⟨g1, H⟩ := H
  refine k_pf rfl rfl rfl (by decide) rfl rfl (fitb g1) rfl ?_
  refine k_l rfl rfl rfl ?_
  refine k_l rfl rfl rfl ?_
  refine k_gr (t := 79) rfl rfl rfl (by decide) rfl ?_
  refine k_l rfl rfl rfl ?_
  obtain ⟨g2, H⟩ := H
  refine k_al rfl rfl (fun _ => rfl) rfl rfl g2 (by decide) (mup_ne (by decide)) ?_
  refine k_p rfl rfl rfl ?_
  by_cases c3 : σ 79 x4 ≠ 4
  · rw [if_pos c3] at H
    refine k_c rfl (by decide) (hM _ _) (rgk rfl) (q := true) (decide_eq_true c3) rfl ?_
    refine k_l rfl rfl rfl ?_
    refine k_gr (t := 79) rfl rfl rfl (by decide) rfl ?_
    refine k_l rfl rfl rfl ?_
    obtain ⟨g4, H⟩ := H
    refine k_al rfl rfl (fun _ => rfl) rfl rfl g4 (by decide) (mup_ne (by decide)) ?_
    refine k_p rfl rfl rfl ?_
    by_cases c5 : σ 79 x4 ≠ 5
    · rw [if_pos c5] at H
      refine k_c rfl (by decide) (hM _ _) (rgk rfl) (q := true) (decide_eq_true c5) rfl ?_
      refine k_p rfl rfl rfl ?_
      exact k_lab (K_Mo_width_98 hx3 hx4 hx2 (rgk rfl) H) (hM.up ht1) (lvS_cons rfl rfl (lvS_cons rfl rfl (lvS_cons rfl rfl lvS_nil)))
    · rw [if_neg c5] at H
      refine k_c rfl (by decide) (hM _ _) (rgk rfl) (q := false) (decide_eq_false c5) rfl ?_
      refine k_p rfl rfl rfl ?_
      refine k_b rfl rfl rfl rfl ?_
      exact k_lab (K_Mo_width_98 hx3 hx4 hx2 (rgk rfl) H) (hM.up ht1) (lvS_cons rfl rfl (lvS_cons rfl rfl (lvS_cons rfl rfl lvS_nil)))
  · rw [if_neg c3] at H
    refine k_c rfl (by decide) (hM _ _) (rgk rfl) (q := false) (decide_eq_false c3) rfl ?_
    refine k_p rfl rfl rfl ?_
    refine k_b rfl rfl rfl rfl ?_
    exact k_lab (K_Mo_width_98 hx3 hx4 hx2 (rgk rfl) H) (hM.up ht1) (lvS_cons rfl rfl (lvS_cons rfl rfl (lvS_cons rfl rfl lvS_nil)))
def B_Mo_width_58 (d : Nat) (x2 x3 x4 : Int) (σ : Mem) (o : Option Int) (s' : Mem) : Prop := B_Mo_width_63 d x2 x3 x4 1 σ o s'
theorem K_Mo_width_58 {d : Nat} {x2 x3 x4 : Int} {σ s' : Mem} {o : Option Int} (hx2 : rg x2) (hx3 : rg x3) (hx4 : rg x4) (H : B_Mo_width_58 d x2 x3 x4 σ o s') : Lb (d + 3) yMo_width 58 [(0, .ref 58), (2, vi x2), (3, vi x3), (4, vi x4)] [.ref 58] σ o s' := by
  intro hM
  unfold B_Mo_width_58 at H
  refine k_p rfl rfl rfl ?_
  refine k_b rfl rfl rfl rfl ?_
  exact k_lab (K_Mo_width_63 hx2 hx3 hx4 (rgk rfl) H) hM (lvS_cons rfl rfl (lvS_cons rfl rfl (lvS_cons rfl rfl (lvS_cons rfl rfl lvS_nil))))
def B_Mo_width_16 (d : Nat) (x2 x3 : Int) (σ : Mem) (o : Option Int) (s' : Mem) : Prop := if x3 ≤ 0 then (o = some x2 ∧ s' = σ) else (if x2 ≥ 81 then (o = some x2 ∧ s' = σ) else (((0 : Int) ≤ x3 + (-1) ∧ x3 + (-1) < (160 : Int)) ∧ (∃ (v4 : Int) (m4 : Mem), Rn (d + 3) yMo_realType [.ref 58, vi (σ 86 (x3 + (-1)))] σ (some v4) m4 ∧ (if m4 58 45 ≠ 0 then ((rg (x3 + (-1))) ∧ (B_Mo_width_58 d x2 (x3 + (-1)) v4 m4 o s')) else (if v4 ≠ m4 58 38 then ((rg (x3 + (-1))) ∧ (B_Mo_width_63 d x2 (x3 + (-1)) v4 0 m4 o s')) else ((rg (x3 + (-1))) ∧ (B_Mo_width_58 d x2 (x3 + (-1)) v4 m4 o s')))))))
theorem K_Mo_width_16 {d : Nat} {x2 x3 : Int} {σ s' : Mem} {o : Option Int} (hx2 : rg x2) (hx3 : rg x3) (H : B_Mo_width_16 d x2 x3 σ o s') : Lb (d + 3) yMo_width 16 [(0, .ref 58), (2, vi x2), (3, vi x3)] [] σ o s' := by
  intro hM
  unfold B_Mo_width_16 at H
  refine k_l rfl rfl rfl ?_
  by_cases c1 : x3 ≤ 0
  · rw [if_pos c1] at H
    refine k_z rfl (by decide) hx3 (q := true) (decide_eq_true c1) rfl ?_
    refine k_l rfl rfl rfl ?_
    obtain ⟨rfl, rfl⟩ := H
    exact k_r1 hM hx2 rfl rfl rfl
  · rw [if_neg c1] at H
    refine k_z rfl (by decide) hx3 (q := false) (decide_eq_false c1) rfl ?_
    refine k_l rfl rfl rfl ?_
    refine k_k (x := 81) rfl rfl rfl rfl ?_
    by_cases c2 : x2 ≥ 81
    · rw [if_pos c2] at H
      refine k_c rfl (by decide) hx2 (rgk rfl) (q := true) (decide_eq_true c2) rfl ?_
      refine k_l rfl rfl rfl ?_
      obtain ⟨rfl, rfl⟩ := H
      exact k_r1 hM hx2 rfl rfl rfl
    · rw [if_neg c2] at H
      refine k_c rfl (by decide) hx2 (rgk rfl) (q := false) (decide_eq_false c2) rfl ?_
      refine k_inc rfl rfl (by decide) ?_
      refine k_l rfl rfl rfl ?_
      refine k_l rfl rfl rfl ?_
      refine k_gr (t := 86) rfl rfl rfl (by decide) rfl ?_
      refine k_l rfl rfl rfl ?_
      obtain ⟨g3, H⟩ := H
      refine k_al rfl rfl (fun _ => rfl) rfl rfl g3 (by decide) rfl ?_
      obtain ⟨v4, m4, R4, H⟩ := H
      refine k_iv rfl rfl rfl rfl rfl (by decide) rfl hM R4 (fun hM4 hv4 => ?_)
      refine k_l rfl rfl rfl ?_
      refine k_l rfl rfl rfl ?_
      refine k_l rfl rfl rfl ?_
      refine k_gf rfl rfl rfl (by decide) rfl rfl ?_
      by_cases c5 : m4 58 45 ≠ 0
      · rw [if_pos c5] at H
        refine k_z rfl (by decide) (hM4 _ _) (q := true) (decide_eq_true c5) rfl ?_
        obtain ⟨g6, H⟩ := H
        exact k_lab (K_Mo_width_58 hx2 g6 hv4 H) hM4 (lvS_cons rfl rfl (lvS_cons rfl rfl (lvS_cons rfl rfl (lvS_cons rfl rfl lvS_nil))))
      · rw [if_neg c5] at H
        refine k_z rfl (by decide) (hM4 _ _) (q := false) (decide_eq_false c5) rfl ?_
        refine k_l rfl rfl rfl ?_
        refine k_l rfl rfl rfl ?_
        refine k_gf rfl rfl rfl (by decide) rfl rfl ?_
        by_cases c7 : v4 ≠ m4 58 38
        · rw [if_pos c7] at H
          refine k_c rfl (by decide) hv4 (hM4 _ _) (q := true) (decide_eq_true c7) rfl ?_
          refine k_p rfl rfl rfl ?_
          obtain ⟨g8, H⟩ := H
          exact k_lab (K_Mo_width_63 hx2 g8 hv4 (rgk rfl) H) hM4 (lvS_cons rfl rfl (lvS_cons rfl rfl (lvS_cons rfl rfl (lvS_cons rfl rfl lvS_nil))))
        · rw [if_neg c7] at H
          refine k_c rfl (by decide) hv4 (hM4 _ _) (q := false) (decide_eq_false c7) rfl ?_
          obtain ⟨g9, H⟩ := H
          exact k_lab (K_Mo_width_58 hx2 g9 hv4 H) hM4 (lvS_cons rfl rfl (lvS_cons rfl rfl (lvS_cons rfl rfl (lvS_cons rfl rfl lvS_nil))))
def B_Mo_standsIn_20 (d : Nat) (σ : Mem) (o : Option Int) (s' : Mem) : Prop := o = some 1 ∧ s' = σ
theorem K_Mo_standsIn_20 {d : Nat} {σ s' : Mem} {o : Option Int}  (H : B_Mo_standsIn_20 d  σ o s') : Lb (d + 3) yMo_standsIn 20 [] [] σ o s' := by
  intro hM
  unfold B_Mo_standsIn_20 at H
  refine k_p rfl rfl rfl ?_
  refine k_b rfl rfl rfl rfl ?_
  obtain ⟨rfl, rfl⟩ := H
  exact k_r1 hM (rgk rfl) rfl rfl rfl
def B_Mo_standsIn (d : Nat) (x1 x2 : Int) (σ : Mem) (o : Option Int) (s' : Mem) : Prop := ∃ (v1 : Int) (m1 : Mem), Rn (d + 3) yMo_width [.ref 58, vi x2] (mup σ 58 38 x1) (some v1) m1 ∧ (if v1 < 0 then (B_Mo_standsIn_20 d  m1 o s') else (if m1 58 45 = 0 then (o = some 0 ∧ s' = m1) else (B_Mo_standsIn_20 d  m1 o s')))
theorem M_Mo_standsIn {d : Nat} {x1 x2 : Int} {σ s' : Mem} {o : Option Int} (hx1 : rg x1) (hx2 : rg x2) (H : B_Mo_standsIn d x1 x2 σ o s') : Rn (d + 4) yMo_standsIn [.ref 58, vi x1, vi x2] σ o s' := by
  refine k_m (Nat.le_of_ble_eq_true rfl) (fun hM => ?_)
  unfold B_Mo_standsIn at H
  refine k_l rfl rfl rfl ?_
  refine k_l rfl rfl rfl ?_
  refine k_pf rfl rfl rfl (by decide) rfl rfl rfl rfl ?_
  refine k_l rfl rfl rfl ?_
  refine k_l rfl rfl rfl ?_
  obtain ⟨v1, m1, R1, H⟩ := H
  refine k_iv rfl rfl rfl rfl rfl (by decide) rfl (hM.up hx1) R1 (fun hM1 hv1 => ?_)
  by_cases c2 : v1 < 0
  · rw [if_pos c2] at H
    refine k_z rfl (by decide) hv1 (q := true) (decide_eq_true c2) rfl ?_
    exact k_lab (K_Mo_standsIn_20  H) hM1 lvS_nil
  · rw [if_neg c2] at H
    refine k_z rfl (by decide) hv1 (q := false) (decide_eq_false c2) rfl ?_
    refine k_l rfl rfl rfl ?_
    refine k_gf rfl rfl rfl (by decide) rfl rfl ?_
    by_cases c3 : m1 58 45 = 0
    · rw [if_pos c3] at H
      refine k_z rfl (by decide) (hM1 _ _) (q := true) (decide_eq_true c3) rfl ?_
      refine k_p rfl rfl rfl ?_
      obtain ⟨rfl, rfl⟩ := H
      exact k_r1 hM1 (rgk rfl) rfl rfl rfl
    · rw [if_neg c3] at H
      refine k_z rfl (by decide) (hM1 _ _) (q := false) (decide_eq_false c3) rfl ?_
      exact k_lab (K_Mo_standsIn_20  H) hM1 lvS_nil
def B_Mo_unify (d : Nat) (x1 x2 : Int) (σ : Mem) (o : Option Int) (s' : Mem) : Prop := ((0 : Int) ≤ 0 ∧ 0 < (220 : Int)) ∧ (((0 : Int) ≤ 1 ∧ 1 < (220 : Int)) ∧ (Lb (d + 3) yMo_unify 16 [(0, .ref 58), (3, vi 2)] [] (mup (mup σ 87 0 x1) 87 1 x2) o s'))
theorem M_Mo_unify {d : Nat} {x1 x2 : Int} {σ s' : Mem} {o : Option Int} (hx1 : rg x1) (hx2 : rg x2) (H : B_Mo_unify d x1 x2 σ o s') : Rn (d + 4) yMo_unify [.ref 58, vi x1, vi x2] σ o s' := by
  refine k_m (Nat.le_of_ble_eq_true rfl) (fun hM => ?_)
  unfold B_Mo_unify at H
  refine k_p rfl rfl rfl ?_
  refine k_l rfl rfl rfl ?_
  refine k_l rfl rfl rfl ?_
  refine k_gr (t := 87) rfl rfl rfl (by decide) rfl ?_
  refine k_p rfl rfl rfl ?_
  refine k_l rfl rfl rfl ?_
  obtain ⟨g1, H⟩ := H
  refine k_as (ok := isI) rfl rfl (fun _ => rfl) rfl rfl g1 (by decide) rfl ?_
  refine k_l rfl rfl rfl ?_
  refine k_gr (t := 87) rfl rfl rfl (by decide) rfl ?_
  refine k_p rfl rfl rfl ?_
  refine k_l rfl rfl rfl ?_
  obtain ⟨g2, H⟩ := H
  refine k_as (ok := isI) rfl rfl (fun _ => rfl) rfl rfl g2 (by decide) rfl ?_
  exact k_lab H ((hM.up hx1).up hx2) (lvS_cons rfl rfl (lvS_cons rfl rfl lvS_nil))
def B_Mo_unify_326 (d : Nat) (x3 : Int) (σ : Mem) (o : Option Int) (s' : Mem) : Prop := Lb (d + 3) yMo_unify 16 [(0, .ref 58), (3, vi x3)] [] σ o s'
theorem K_Mo_unify_326 {d : Nat} {x3 : Int} {σ s' : Mem} {o : Option Int} (hx3 : rg x3) (H : B_Mo_unify_326 d x3 σ o s') : Lb (d + 3) yMo_unify 326 [(0, .ref 58), (3, vi x3)] [] σ o s' := by
  intro hM
  unfold B_Mo_unify_326 at H
  refine k_b rfl rfl rfl rfl ?_
  exact k_lab H hM (lvS_cons rfl rfl (lvS_cons rfl rfl lvS_nil))
def B_Mo_unify_201 (d : Nat) (x3 t1 t2 : Int) (σ : Mem) (o : Option Int) (s' : Mem) : Prop := ((0 : Int) ≤ t1 ∧ t1 < (1300 : Int)) ∧ (B_Mo_unify_326 d x3 (mup σ 80 t1 t2) o s')
theorem K_Mo_unify_201 {d : Nat} {x3 t1 t2 : Int} {σ s' : Mem} {o : Option Int} (hx3 : rg x3) (ht1 : rg t1) (ht2 : rg t2) (H : B_Mo_unify_201 d x3 t1 t2 σ o s') : Lb (d + 3) yMo_unify 201 [(0, .ref 58), (3, vi x3)] [vi t2, vi t1, .ref 80] σ o s' := by
  intro hM
  unfold B_Mo_unify_201 at H
  obtain ⟨g1, H⟩ := H
  refine k_as (ok := isI) rfl rfl (fun _ => rfl) rfl rfl g1 (by decide) rfl ?_
  refine k_b rfl rfl rfl rfl ?_
  exact k_lab (K_Mo_unify_326 hx3 H) (hM.up ht2) (lvS_cons rfl rfl (lvS_cons rfl rfl lvS_nil))
def B_Mo_unify_173 (d : Nat) (x3 x6 x7 t1 : Int) (σ : Mem) (o : Option Int) (s' : Mem) : Prop := (t1 = 0 ∨ t1 = 1) ∧ (if t1 = 0 then (B_Mo_unify_201 d x3 x6 x7 (mup σ 58 44 t1) o s') else (((0 : Int) ≤ x6 ∧ x6 < (1300 : Int)) ∧ (B_Mo_unify_201 d x3 x6 (σ 80 x6) (mup σ 58 44 t1) o s')))
theorem K_Mo_unify_173 {d : Nat} {x3 x6 x7 t1 : Int} {σ s' : Mem} {o : Option Int} (hx3 : rg x3) (hx6 : rg x6) (hx7 : rg x7) (ht1 : rg t1) (H : B_Mo_unify_173 d x3 x6 x7 t1 σ o s') : Lb (d + 3) yMo_unify 173 [(0, .ref 58), (3, vi x3), (6, vi x6), (7, vi x7)] [vi t1, .ref 58] σ o s' := by
  intro hM
  unfold B_Mo_unify_173 at H
  obtain ⟨g1, H⟩ := H
  refine k_pf rfl rfl rfl (by decide) rfl rfl (fitb g1) rfl ?_
  refine k_l rfl rfl rfl ?_
  refine k_gr (t := 80) rfl rfl rfl (by decide) rfl ?_
  refine k_l rfl rfl rfl ?_
  refine k_l rfl rfl rfl ?_
  refine k_gf rfl rfl rfl (by decide) rfl mup_eq ?_
  by_cases c2 : t1 = 0
  · rw [if_pos c2] at H
    refine k_z rfl (by decide) ht1 (q := true) (decide_eq_true c2) rfl ?_
    refine k_l rfl rfl rfl ?_
    exact k_lab (K_Mo_unify_201 hx3 hx6 hx7 H) (hM.up ht1) (lvS_cons rfl rfl (lvS_cons rfl rfl lvS_nil))
  · rw [if_neg c2] at H
    refine k_z rfl (by decide) ht1 (q := false) (decide_eq_false c2) rfl ?_
    refine k_l rfl rfl rfl ?_
    refine k_gr (t := 80) rfl rfl rfl (by decide) rfl ?_
    refine k_l rfl rfl rfl ?_
    obtain ⟨g3, H⟩ := H
    refine k_al rfl rfl (fun _ => rfl) rfl rfl g3 (by decide) (mup_ne (by decide)) ?_
    refine k_b rfl rfl rfl rfl ?_
    exact k_lab (K_Mo_unify_201 hx3 hx6 (hM _ _) H) (hM.up ht1) (lvS_cons rfl rfl (lvS_cons rfl rfl lvS_nil))
def B_Mo_unify_168 (d : Nat) (x3 x6 x7 : Int) (σ : Mem) (o : Option Int) (s' : Mem) : Prop := B_Mo_unify_173 d x3 x6 x7 1 σ o s'
theorem K_Mo_unify_168 {d : Nat} {x3 x6 x7 : Int} {σ s' : Mem} {o : Option Int} (hx3 : rg x3) (hx6 : rg x6) (hx7 : rg x7) (H : B_Mo_unify_168 d x3 x6 x7 σ o s') : Lb (d + 3) yMo_unify 168 [(0, .ref 58), (3, vi x3), (6, vi x6), (7, vi x7)] [.ref 58] σ o s' := by
  intro hM
  unfold B_Mo_unify_168 at H
  refine k_p rfl rfl rfl ?_
  refine k_b rfl rfl rfl rfl ?_
  exact k_lab (K_Mo_unify_173 hx3 hx6 hx7 (rgk rfl) H) hM (lvS_cons rfl rfl (lvS_cons rfl rfl (lvS_cons rfl rfl (lvS_cons rfl rfl lvS_nil))))
def B_Mo_unify_147 (d : Nat) (x3 x6 t0 : Int) (σ : Mem) (o : Option Int) (s' : Mem) : Prop := if σ 58 44 ≠ 0 then (B_Mo_unify_168 d x3 x6 t0 σ o s') else (∃ (v2 : Int) (m2 : Mem), Rn (d + 3) yMo_standsIn [.ref 58, vi x6, vi t0] σ (some v2) m2 ∧ (if v2 = 0 then (B_Mo_unify_173 d x3 x6 t0 0 m2 o s') else (B_Mo_unify_168 d x3 x6 t0 m2 o s')))
theorem K_Mo_unify_147 {d : Nat} {x3 x6 t0 : Int} {σ s' : Mem} {o : Option Int} (hx3 : rg x3) (hx6 : rg x6) (ht0 : rg t0) (H : B_Mo_unify_147 d x3 x6 t0 σ o s') : Lb (d + 3) yMo_unify 147 [(0, .ref 58), (3, vi x3), (6, vi x6)] [vi t0] σ o s' := by
  intro hM
  unfold B_Mo_unify_147 at H
  refine k_l rfl rfl rfl ?_
  refine k_l rfl rfl rfl ?_
  refine k_l rfl rfl rfl ?_
  refine k_gf rfl rfl rfl (by decide) rfl rfl ?_
  by_cases c1 : σ 58 44 ≠ 0
  · rw [if_pos c1] at H
    refine k_z rfl (by decide) (hM _ _) (q := true) (decide_eq_true c1) rfl ?_
    exact k_lab (K_Mo_unify_168 hx3 hx6 ht0 H) hM (lvS_cons rfl rfl (lvS_cons rfl rfl (lvS_cons rfl rfl (lvS_cons rfl rfl lvS_nil))))
  · rw [if_neg c1] at H
    refine k_z rfl (by decide) (hM _ _) (q := false) (decide_eq_false c1) rfl ?_
    refine k_l rfl rfl rfl ?_
    refine k_l rfl rfl rfl ?_
    refine k_l rfl rfl rfl ?_
    obtain ⟨v2, m2, R2, H⟩ := H
    refine k_iv rfl rfl rfl rfl rfl (by decide) rfl hM R2 (fun hM2 hv2 => ?_)
    by_cases c3 : v2 = 0
    · rw [if_pos c3] at H
      refine k_z rfl (by decide) hv2 (q := true) (decide_eq_true c3) rfl ?_
      refine k_p rfl rfl rfl ?_
      exact k_lab (K_Mo_unify_173 hx3 hx6 ht0 (rgk rfl) H) hM2 (lvS_cons rfl rfl (lvS_cons rfl rfl (lvS_cons rfl rfl (lvS_cons rfl rfl lvS_nil))))
    · rw [if_neg c3] at H
      refine k_z rfl (by decide) hv2 (q := false) (decide_eq_false c3) rfl ?_
      exact k_lab (K_Mo_unify_168 hx3 hx6 ht0 H) hM2 (lvS_cons rfl rfl (lvS_cons rfl rfl (lvS_cons rfl rfl (lvS_cons rfl rfl lvS_nil))))
def B_Mo_unify_131 (d : Nat) (x3 x4 x5 t0 : Int) (σ : Mem) (o : Option Int) (s' : Mem) : Prop := if t0 ≠ x4 then (B_Mo_unify_147 d x3 t0 x4 σ o s') else (B_Mo_unify_147 d x3 t0 x5 σ o s')
theorem K_Mo_unify_131 {d : Nat} {x3 x4 x5 t0 : Int} {σ s' : Mem} {o : Option Int} (hx3 : rg x3) (hx4 : rg x4) (hx5 : rg x5) (ht0 : rg t0) (H : B_Mo_unify_131 d x3 x4 x5 t0 σ o s') : Lb (d + 3) yMo_unify 131 [(0, .ref 58), (3, vi x3), (4, vi x4), (5, vi x5)] [vi t0] σ o s' := by
  intro hM
  unfold B_Mo_unify_131 at H
  refine k_l rfl rfl rfl ?_
  refine k_l rfl rfl rfl ?_
  refine k_l rfl rfl rfl ?_
  by_cases c1 : t0 ≠ x4
  · rw [if_pos c1] at H
    refine k_c rfl (by decide) ht0 hx4 (q := true) (decide_eq_true c1) rfl ?_
    refine k_l rfl rfl rfl ?_
    exact k_lab (K_Mo_unify_147 hx3 ht0 hx4 H) hM (lvS_cons rfl rfl (lvS_cons rfl rfl (lvS_cons rfl rfl lvS_nil)))
  · rw [if_neg c1] at H
    refine k_c rfl (by decide) ht0 hx4 (q := false) (decide_eq_false c1) rfl ?_
    refine k_l rfl rfl rfl ?_
    refine k_b rfl rfl rfl rfl ?_
    exact k_lab (K_Mo_unify_147 hx3 ht0 hx5 H) hM (lvS_cons rfl rfl (lvS_cons rfl rfl (lvS_cons rfl rfl lvS_nil)))
def B_Mo_unify_114 (d : Nat) (x3 x4 x5 : Int) (σ : Mem) (o : Option Int) (s' : Mem) : Prop := ((0 : Int) ≤ x4 ∧ x4 < (1300 : Int)) ∧ (if σ 79 x4 ≠ 0 then (B_Mo_unify_131 d x3 x4 x5 x5 σ o s') else (B_Mo_unify_131 d x3 x4 x5 x4 σ o s'))
theorem K_Mo_unify_114 {d : Nat} {x3 x4 x5 : Int} {σ s' : Mem} {o : Option Int} (hx3 : rg x3) (hx4 : rg x4) (hx5 : rg x5) (H : B_Mo_unify_114 d x3 x4 x5 σ o s') : Lb (d + 3) yMo_unify 114 [(0, .ref 58), (3, vi x3), (4, vi x4), (5, vi x5)] [] σ o s' := by
  intro hM
  unfold B_Mo_unify_114 at H
  refine k_l rfl rfl rfl ?_
  refine k_gr (t := 79) rfl rfl rfl (by decide) rfl ?_
  refine k_l rfl rfl rfl ?_
  obtain ⟨g1, H⟩ := H
  refine k_al rfl rfl (fun _ => rfl) rfl rfl g1 (by decide) rfl ?_
  by_cases c2 : σ 79 x4 ≠ 0
  · rw [if_pos c2] at H
    refine k_z rfl (by decide) (hM _ _) (q := true) (decide_eq_true c2) rfl ?_
    refine k_l rfl rfl rfl ?_
    exact k_lab (K_Mo_unify_131 hx3 hx4 hx5 hx5 H) hM (lvS_cons rfl rfl (lvS_cons rfl rfl (lvS_cons rfl rfl (lvS_cons rfl rfl lvS_nil))))
  · rw [if_neg c2] at H
    refine k_z rfl (by decide) (hM _ _) (q := false) (decide_eq_false c2) rfl ?_
    refine k_l rfl rfl rfl ?_
    refine k_b rfl rfl rfl rfl ?_
    exact k_lab (K_Mo_unify_131 hx3 hx4 hx5 hx4 H) hM (lvS_cons rfl rfl (lvS_cons rfl rfl (lvS_cons rfl rfl (lvS_cons rfl rfl lvS_nil))))
def B_Mo_unify_324 (d : Nat) (t0 t1 : Int) (σ : Mem) (o : Option Int) (s' : Mem) : Prop := (rg (t0 + t1)) ∧ (B_Mo_unify_326 d (t0 + t1) σ o s')
theorem K_Mo_unify_324 {d : Nat} {t0 t1 : Int} {σ s' : Mem} {o : Option Int} (ht0 : rg t0) (ht1 : rg t1) (H : B_Mo_unify_324 d t0 t1 σ o s') : Lb (d + 3) yMo_unify 324 [(0, .ref 58)] [vi t1, vi t0] σ o s' := by
  intro hM
  unfold B_Mo_unify_324 at H
  refine k_add rfl ?_
  refine k_l rfl rfl rfl ?_
  obtain ⟨g1, H⟩ := H
  exact k_lab (K_Mo_unify_326 g1 H) hM (lvS_cons rfl rfl (lvS_cons rfl rfl lvS_nil))
def B_Mo_unify_235 (d : Nat) (x3 x4 x5 t1 : Int) (σ : Mem) (o : Option Int) (s' : Mem) : Prop := (t1 = 0 ∨ t1 = 1) ∧ (((0 : Int) ≤ x4 ∧ x4 < (1300 : Int)) ∧ (((0 : Int) ≤ x3 ∧ x3 < (220 : Int)) ∧ (((0 : Int) ≤ x5 ∧ x5 < (1300 : Int)) ∧ (((0 : Int) ≤ x3 + 1 ∧ x3 + 1 < (220 : Int)) ∧ (((0 : Int) ≤ x4 ∧ x4 < (1300 : Int)) ∧ (((0 : Int) ≤ x3 + 2 ∧ x3 + 2 < (220 : Int)) ∧ (((0 : Int) ≤ x5 ∧ x5 < (1300 : Int)) ∧ (((0 : Int) ≤ x3 + 3 ∧ x3 + 3 < (220 : Int)) ∧ (((0 : Int) ≤ x4 ∧ x4 < (1300 : Int)) ∧ (if σ 79 x4 ≤ 3 then (B_Mo_unify_324 d x3 0 (mup (mup (mup (mup (mup σ 58 44 t1) 87 x3 (σ 80 x4)) 87 (x3 + 1) (σ 80 x5)) 87 (x3 + 2) (σ 81 x4)) 87 (x3 + 3) (σ 81 x5)) o s') else (((0 : Int) ≤ x4 ∧ x4 < (1300 : Int)) ∧ ((rg ((2 * (σ 79 x4)) - 6)) ∧ (B_Mo_unify_324 d x3 ((2 * (σ 79 x4)) - 6) (mup (mup (mup (mup (mup σ 58 44 t1) 87 x3 (σ 80 x4)) 87 (x3 + 1) (σ 80 x5)) 87 (x3 + 2) (σ 81 x4)) 87 (x3 + 3) (σ 81 x5)) o s')))))))))))))
theorem K_Mo_unify_235 {d : Nat} {x3 x4 x5 t1 : Int} {σ s' : Mem} {o : Option Int} (hx3 : rg x3) (hx4 : rg x4) (hx5 : rg x5) (ht1 : rg t1) (H : B_Mo_unify_235 d x3 x4 x5 t1 σ o s') : Lb (d + 3) yMo_unify 235 [(0, .ref 58), (3, vi x3), (4, vi x4), (5, vi x5)] [vi t1, .ref 58] σ o s' := by
  intro hM
  unfold B_Mo_unify_235 at H
  obtain ⟨g1, H⟩ := H
  refine k_pf rfl rfl rfl (by decide) rfl rfl (fitb g1) rfl ?_
  refine k_l rfl rfl rfl ?_
  refine k_gr (t := 87) rfl rfl rfl (by decide) rfl ?_
  refine k_l rfl rfl rfl ?_
  refine k_l rfl rfl rfl ?_
  refine k_gr (t := 80) rfl rfl rfl (by decide) rfl ?_
  refine k_l rfl rfl rfl ?_
  obtain ⟨g2, H⟩ := H
  refine k_al rfl rfl (fun _ => rfl) rfl rfl g2 (by decide) (mup_ne (by decide)) ?_
  obtain ⟨g3, H⟩ := H
  refine k_as (ok := isI) rfl rfl (fun _ => rfl) rfl rfl g3 (by decide) rfl ?_
  refine k_l rfl rfl rfl ?_
  refine k_gr (t := 87) rfl rfl rfl (by decide) rfl ?_
  refine k_l rfl rfl rfl ?_
  refine k_p rfl rfl rfl ?_
  refine k_add rfl ?_
  refine k_l rfl rfl rfl ?_
  refine k_gr (t := 80) rfl rfl rfl (by decide) rfl ?_
  refine k_l rfl rfl rfl ?_
  obtain ⟨g4, H⟩ := H
  refine k_al rfl rfl (fun _ => rfl) rfl rfl g4 (by decide) ((mup_ne (by decide)).trans (mup_ne (by decide))) ?_
  obtain ⟨g5, H⟩ := H
  refine k_as (ok := isI) rfl rfl (fun _ => rfl) rfl rfl g5 (by decide) rfl ?_
  refine k_l rfl rfl rfl ?_
  refine k_gr (t := 87) rfl rfl rfl (by decide) rfl ?_
  refine k_l rfl rfl rfl ?_
  refine k_p rfl rfl rfl ?_
  refine k_add rfl ?_
  refine k_l rfl rfl rfl ?_
  refine k_gr (t := 81) rfl rfl rfl (by decide) rfl ?_
  refine k_l rfl rfl rfl ?_
  obtain ⟨g6, H⟩ := H
  refine k_al rfl rfl (fun _ => rfl) rfl rfl g6 (by decide) ((mup_ne (by decide)).trans ((mup_ne (by decide)).trans (mup_ne (by decide)))) ?_
  obtain ⟨g7, H⟩ := H
  refine k_as (ok := isI) rfl rfl (fun _ => rfl) rfl rfl g7 (by decide) rfl ?_
  refine k_l rfl rfl rfl ?_
  refine k_gr (t := 87) rfl rfl rfl (by decide) rfl ?_
  refine k_l rfl rfl rfl ?_
  refine k_p rfl rfl rfl ?_
  refine k_add rfl ?_
  refine k_l rfl rfl rfl ?_
  refine k_gr (t := 81) rfl rfl rfl (by decide) rfl ?_
  refine k_l rfl rfl rfl ?_
  obtain ⟨g8, H⟩ := H
  refine k_al rfl rfl (fun _ => rfl) rfl rfl g8 (by decide) ((mup_ne (by decide)).trans ((mup_ne (by decide)).trans ((mup_ne (by decide)).trans (mup_ne (by decide))))) ?_
  obtain ⟨g9, H⟩ := H
  refine k_as (ok := isI) rfl rfl (fun _ => rfl) rfl rfl g9 (by decide) rfl ?_
  refine k_l rfl rfl rfl ?_
  refine k_l rfl rfl rfl ?_
  refine k_gr (t := 79) rfl rfl rfl (by decide) rfl ?_
  refine k_l rfl rfl rfl ?_
  obtain ⟨g10, H⟩ := H
  refine k_al rfl rfl (fun _ => rfl) rfl rfl g10 (by decide) ((mup_ne (by decide)).trans ((mup_ne (by decide)).trans ((mup_ne (by decide)).trans ((mup_ne (by decide)).trans (mup_ne (by decide)))))) ?_
  refine k_p rfl rfl rfl ?_
  by_cases c11 : σ 79 x4 ≤ 3
  · rw [if_pos c11] at H
    refine k_c rfl (by decide) (hM _ _) (rgk rfl) (q := true) (decide_eq_true c11) rfl ?_
    refine k_p rfl rfl rfl ?_
    exact k_lab (K_Mo_unify_324 hx3 (rgk rfl) H) (((((hM.up ht1).up (hM _ _)).up (hM _ _)).up (hM _ _)).up (hM _ _)) (lvS_cons rfl rfl lvS_nil)
  · rw [if_neg c11] at H
    refine k_c rfl (by decide) (hM _ _) (rgk rfl) (q := false) (decide_eq_false c11) rfl ?_
    refine k_p rfl rfl rfl ?_
    refine k_l rfl rfl rfl ?_
    refine k_gr (t := 79) rfl rfl rfl (by decide) rfl ?_
    refine k_l rfl rfl rfl ?_
    obtain ⟨g12, H⟩ := H
    refine k_al rfl rfl (fun _ => rfl) rfl rfl g12 (by decide) ((mup_ne (by decide)).trans ((mup_ne (by decide)).trans ((mup_ne (by decide)).trans ((mup_ne (by decide)).trans (mup_ne (by decide)))))) ?_
    refine k_mul rfl ?_
    refine k_k (x := 6) rfl rfl rfl rfl ?_
    refine k_sub rfl ?_
    refine k_b rfl rfl rfl rfl ?_
    obtain ⟨g13, H⟩ := H
    exact k_lab (K_Mo_unify_324 hx3 g13 H) (((((hM.up ht1).up (hM _ _)).up (hM _ _)).up (hM _ _)).up (hM _ _)) (lvS_cons rfl rfl lvS_nil)
def B_Mo_unify_230 (d : Nat) (x3 x4 x5 : Int) (σ : Mem) (o : Option Int) (s' : Mem) : Prop := B_Mo_unify_235 d x3 x4 x5 1 σ o s'
theorem K_Mo_unify_230 {d : Nat} {x3 x4 x5 : Int} {σ s' : Mem} {o : Option Int} (hx3 : rg x3) (hx4 : rg x4) (hx5 : rg x5) (H : B_Mo_unify_230 d x3 x4 x5 σ o s') : Lb (d + 3) yMo_unify 230 [(0, .ref 58), (3, vi x3), (4, vi x4), (5, vi x5)] [.ref 58] σ o s' := by
  intro hM
  unfold B_Mo_unify_230 at H
  refine k_p rfl rfl rfl ?_
  refine k_b rfl rfl rfl rfl ?_
  exact k_lab (K_Mo_unify_235 hx3 hx4 hx5 (rgk rfl) H) hM (lvS_cons rfl rfl (lvS_cons rfl rfl (lvS_cons rfl rfl (lvS_cons rfl rfl lvS_nil))))
def B_Mo_unify_91 (d : Nat) (x3 x4 x5 t1 : Int) (σ : Mem) (o : Option Int) (s' : Mem) : Prop := (t1 = 0 ∨ t1 = 1) ∧ (((0 : Int) ≤ x4 ∧ x4 < (1300 : Int)) ∧ (if σ 79 x4 = 0 then (B_Mo_unify_114 d x3 x4 x5 (mup σ 58 44 t1) o s') else (((0 : Int) ≤ x5 ∧ x5 < (1300 : Int)) ∧ (if σ 79 x5 ≠ 0 then (if t1 ≠ 0 then (B_Mo_unify_230 d x3 x4 x5 (mup σ 58 44 t1) o s') else (((0 : Int) ≤ x4 ∧ x4 < (1300 : Int)) ∧ (((0 : Int) ≤ x5 ∧ x5 < (1300 : Int)) ∧ (if σ 79 x4 = σ 79 x5 then (B_Mo_unify_235 d x3 x4 x5 0 (mup σ 58 44 t1) o s') else (B_Mo_unify_230 d x3 x4 x5 (mup σ 58 44 t1) o s'))))) else (B_Mo_unify_114 d x3 x4 x5 (mup σ 58 44 t1) o s')))))
theorem K_Mo_unify_91 {d : Nat} {x3 x4 x5 t1 : Int} {σ s' : Mem} {o : Option Int} (hx3 : rg x3) (hx4 : rg x4) (hx5 : rg x5) (ht1 : rg t1) (H : B_Mo_unify_91 d x3 x4 x5 t1 σ o s') : Lb (d + 3) yMo_unify 91 [(0, .ref 58), (3, vi x3), (4, vi x4), (5, vi x5)] [vi t1, .ref 58] σ o s' := by
  intro hM
  unfold B_Mo_unify_91 at H
  obtain ⟨g1, H⟩ := H
  refine k_pf rfl rfl rfl (by decide) rfl rfl (fitb g1) rfl ?_
  refine k_l rfl rfl rfl ?_
  refine k_gr (t := 79) rfl rfl rfl (by decide) rfl ?_
  refine k_l rfl rfl rfl ?_
  obtain ⟨g2, H⟩ := H
  refine k_al rfl rfl (fun _ => rfl) rfl rfl g2 (by decide) (mup_ne (by decide)) ?_
  by_cases c3 : σ 79 x4 = 0
  · rw [if_pos c3] at H
    refine k_z rfl (by decide) (hM _ _) (q := true) (decide_eq_true c3) rfl ?_
    exact k_lab (K_Mo_unify_114 hx3 hx4 hx5 H) (hM.up ht1) (lvS_cons rfl rfl (lvS_cons rfl rfl (lvS_cons rfl rfl (lvS_cons rfl rfl lvS_nil))))
  · rw [if_neg c3] at H
    refine k_z rfl (by decide) (hM _ _) (q := false) (decide_eq_false c3) rfl ?_
    refine k_l rfl rfl rfl ?_
    refine k_gr (t := 79) rfl rfl rfl (by decide) rfl ?_
    refine k_l rfl rfl rfl ?_
    obtain ⟨g4, H⟩ := H
    refine k_al rfl rfl (fun _ => rfl) rfl rfl g4 (by decide) (mup_ne (by decide)) ?_
    by_cases c5 : σ 79 x5 ≠ 0
    · rw [if_pos c5] at H
      refine k_z rfl (by decide) (hM _ _) (q := true) (decide_eq_true c5) rfl ?_
      refine k_l rfl rfl rfl ?_
      refine k_l rfl rfl rfl ?_
      refine k_gf rfl rfl rfl (by decide) rfl mup_eq ?_
      by_cases c6 : t1 ≠ 0
      · rw [if_pos c6] at H
        refine k_z rfl (by decide) ht1 (q := true) (decide_eq_true c6) rfl ?_
        exact k_lab (K_Mo_unify_230 hx3 hx4 hx5 H) (hM.up ht1) (lvS_cons rfl rfl (lvS_cons rfl rfl (lvS_cons rfl rfl (lvS_cons rfl rfl lvS_nil))))
      · rw [if_neg c6] at H
        refine k_z rfl (by decide) ht1 (q := false) (decide_eq_false c6) rfl ?_
        refine k_l rfl rfl rfl ?_
        refine k_gr (t := 79) rfl rfl rfl (by decide) rfl ?_
        refine k_l rfl rfl rfl ?_
        obtain ⟨g7, H⟩ := H
        refine k_al rfl rfl (fun _ => rfl) rfl rfl g7 (by decide) (mup_ne (by decide)) ?_
        refine k_l rfl rfl rfl ?_
        refine k_gr (t := 79) rfl rfl rfl (by decide) rfl ?_
        refine k_l rfl rfl rfl ?_
        obtain ⟨g8, H⟩ := H
        refine k_al rfl rfl (fun _ => rfl) rfl rfl g8 (by decide) (mup_ne (by decide)) ?_
        by_cases c9 : σ 79 x4 = σ 79 x5
        · rw [if_pos c9] at H
          refine k_c rfl (by decide) (hM _ _) (hM _ _) (q := true) (decide_eq_true c9) rfl ?_
          refine k_p rfl rfl rfl ?_
          exact k_lab (K_Mo_unify_235 hx3 hx4 hx5 (rgk rfl) H) (hM.up ht1) (lvS_cons rfl rfl (lvS_cons rfl rfl (lvS_cons rfl rfl (lvS_cons rfl rfl lvS_nil))))
        · rw [if_neg c9] at H
          refine k_c rfl (by decide) (hM _ _) (hM _ _) (q := false) (decide_eq_false c9) rfl ?_
          exact k_lab (K_Mo_unify_230 hx3 hx4 hx5 H) (hM.up ht1) (lvS_cons rfl rfl (lvS_cons rfl rfl (lvS_cons rfl rfl (lvS_cons rfl rfl lvS_nil))))
    · rw [if_neg c5] at H
      refine k_z rfl (by decide) (hM _ _) (q := false) (decide_eq_false c5) rfl ?_
      exact k_lab (K_Mo_unify_114 hx3 hx4 hx5 H) (hM.up ht1) (lvS_cons rfl rfl (lvS_cons rfl rfl (lvS_cons rfl rfl (lvS_cons rfl rfl lvS_nil))))
def B_Mo_unify_86 (d : Nat) (x3 x4 x5 : Int) (σ : Mem) (o : Option Int) (s' : Mem) : Prop := B_Mo_unify_91 d x3 x4 x5 1 σ o s'
theorem K_Mo_unify_86 {d : Nat} {x3 x4 x5 : Int} {σ s' : Mem} {o : Option Int} (hx3 : rg x3) (hx4 : rg x4) (hx5 : rg x5) (H : B_Mo_unify_86 d x3 x4 x5 σ o s') : Lb (d + 3) yMo_unify 86 [(0, .ref 58), (3, vi x3), (4, vi x4), (5, vi x5)] [.ref 58] σ o s' := by
  intro hM
  unfold B_Mo_unify_86 at H
  refine k_p rfl rfl rfl ?_
  refine k_b rfl rfl rfl rfl ?_
  exact k_lab (K_Mo_unify_91 hx3 hx4 hx5 (rgk rfl) H) hM (lvS_cons rfl rfl (lvS_cons rfl rfl (lvS_cons rfl rfl (lvS_cons rfl rfl lvS_nil))))
def B_Mo_unify_16 (d : Nat) (x3 : Int) (σ : Mem) (o : Option Int) (s' : Mem) : Prop := if x3 ≤ 0 then (o = none ∧ s' = σ) else (if σ 58 44 ≠ 0 then (o = none ∧ s' = σ) else (((0 : Int) ≤ x3 + (-2) ∧ x3 + (-2) < (220 : Int)) ∧ (∃ (v4 : Int) (m4 : Mem), Rn (d + 3) yMo_realType [.ref 58, vi (σ 87 (x3 + (-2)))] σ (some v4) m4 ∧ (((0 : Int) ≤ (x3 + (-2)) + 1 ∧ (x3 + (-2)) + 1 < (220 : Int)) ∧ (∃ (v6 : Int) (m6 : Mem), Rn (d + 3) yMo_realType [.ref 58, vi (m4 87 ((x3 + (-2)) + 1))] m4 (some v6) m6 ∧ (if v4 = v6 then ((rg (x3 + (-2))) ∧ (B_Mo_unify_326 d (x3 + (-2)) m6 o s')) else (∃ (v9 : Int) (m9 : Mem), Rn (d + 3) yMo_width [.ref 58, vi v4] m6 (some v9) m9 ∧ (if v9 > 80 then ((rg (x3 + (-2))) ∧ (B_Mo_unify_86 d (x3 + (-2)) v4 v6 m9 o s')) else (∃ (v12 : Int) (m12 : Mem), Rn (d + 3) yMo_width [.ref 58, vi v6] m9 (some v12) m12 ∧ (if v12 ≤ 80 then ((rg (x3 + (-2))) ∧ (B_Mo_unify_91 d (x3 + (-2)) v4 v6 0 m12 o s')) else ((rg (x3 + (-2))) ∧ (B_Mo_unify_86 d (x3 + (-2)) v4 v6 m12 o s'))))))))))))
theorem K_Mo_unify_16 {d : Nat} {x3 : Int} {σ s' : Mem} {o : Option Int} (hx3 : rg x3) (H : B_Mo_unify_16 d x3 σ o s') : Lb (d + 3) yMo_unify 16 [(0, .ref 58), (3, vi x3)] [] σ o s' := by
  intro hM
  unfold B_Mo_unify_16 at H
  refine k_l rfl rfl rfl ?_
  by_cases c1 : x3 ≤ 0
  · rw [if_pos c1] at H
    refine k_z rfl (by decide) hx3 (q := true) (decide_eq_true c1) rfl ?_
    obtain ⟨rfl, rfl⟩ := H
    exact k_r0 hM rfl rfl rfl
  · rw [if_neg c1] at H
    refine k_z rfl (by decide) hx3 (q := false) (decide_eq_false c1) rfl ?_
    refine k_l rfl rfl rfl ?_
    refine k_gf rfl rfl rfl (by decide) rfl rfl ?_
    by_cases c2 : σ 58 44 ≠ 0
    · rw [if_pos c2] at H
      refine k_z rfl (by decide) (hM _ _) (q := true) (decide_eq_true c2) rfl ?_
      obtain ⟨rfl, rfl⟩ := H
      exact k_r0 hM rfl rfl rfl
    · rw [if_neg c2] at H
      refine k_z rfl (by decide) (hM _ _) (q := false) (decide_eq_false c2) rfl ?_
      refine k_inc rfl rfl (by decide) ?_
      refine k_l rfl rfl rfl ?_
      refine k_l rfl rfl rfl ?_
      refine k_gr (t := 87) rfl rfl rfl (by decide) rfl ?_
      refine k_l rfl rfl rfl ?_
      obtain ⟨g3, H⟩ := H
      refine k_al rfl rfl (fun _ => rfl) rfl rfl g3 (by decide) rfl ?_
      obtain ⟨v4, m4, R4, H⟩ := H
      refine k_iv rfl rfl rfl rfl rfl (by decide) rfl hM R4 (fun hM4 hv4 => ?_)
      refine k_l rfl rfl rfl ?_
      refine k_l rfl rfl rfl ?_
      refine k_l rfl rfl rfl ?_
      refine k_gr (t := 87) rfl rfl rfl (by decide) rfl ?_
      refine k_l rfl rfl rfl ?_
      refine k_p rfl rfl rfl ?_
      refine k_add rfl ?_
      obtain ⟨g5, H⟩ := H
      refine k_al rfl rfl (fun _ => rfl) rfl rfl g5 (by decide) rfl ?_
      obtain ⟨v6, m6, R6, H⟩ := H
      refine k_iv rfl rfl rfl rfl rfl (by decide) rfl hM4 R6 (fun hM6 hv6 => ?_)
      refine k_l rfl rfl rfl ?_
      refine k_l rfl rfl rfl ?_
      refine k_l rfl rfl rfl ?_
      by_cases c7 : v4 = v6
      · rw [if_pos c7] at H
        refine k_c rfl (by decide) hv4 hv6 (q := true) (decide_eq_true c7) rfl ?_
        obtain ⟨g8, H⟩ := H
        exact k_lab (K_Mo_unify_326 g8 H) hM6 (lvS_cons rfl rfl (lvS_cons rfl rfl lvS_nil))
      · rw [if_neg c7] at H
        refine k_c rfl (by decide) hv4 hv6 (q := false) (decide_eq_false c7) rfl ?_
        refine k_l rfl rfl rfl ?_
        refine k_l rfl rfl rfl ?_
        refine k_l rfl rfl rfl ?_
        obtain ⟨v9, m9, R9, H⟩ := H
        refine k_iv rfl rfl rfl rfl rfl (by decide) rfl hM6 R9 (fun hM9 hv9 => ?_)
        refine k_k (x := 80) rfl rfl rfl rfl ?_
        by_cases c10 : v9 > 80
        · rw [if_pos c10] at H
          refine k_c rfl (by decide) hv9 (rgk rfl) (q := true) (decide_eq_true c10) rfl ?_
          obtain ⟨g11, H⟩ := H
          exact k_lab (K_Mo_unify_86 g11 hv4 hv6 H) hM9 (lvS_cons rfl rfl (lvS_cons rfl rfl (lvS_cons rfl rfl (lvS_cons rfl rfl lvS_nil))))
        · rw [if_neg c10] at H
          refine k_c rfl (by decide) hv9 (rgk rfl) (q := false) (decide_eq_false c10) rfl ?_
          refine k_l rfl rfl rfl ?_
          refine k_l rfl rfl rfl ?_
          obtain ⟨v12, m12, R12, H⟩ := H
          refine k_iv rfl rfl rfl rfl rfl (by decide) rfl hM9 R12 (fun hM12 hv12 => ?_)
          refine k_k (x := 80) rfl rfl rfl rfl ?_
          by_cases c13 : v12 ≤ 80
          · rw [if_pos c13] at H
            refine k_c rfl (by decide) hv12 (rgk rfl) (q := true) (decide_eq_true c13) rfl ?_
            refine k_p rfl rfl rfl ?_
            obtain ⟨g14, H⟩ := H
            exact k_lab (K_Mo_unify_91 g14 hv4 hv6 (rgk rfl) H) hM12 (lvS_cons rfl rfl (lvS_cons rfl rfl (lvS_cons rfl rfl (lvS_cons rfl rfl lvS_nil))))
          · rw [if_neg c13] at H
            refine k_c rfl (by decide) hv12 (rgk rfl) (q := false) (decide_eq_false c13) rfl ?_
            obtain ⟨g15, H⟩ := H
            exact k_lab (K_Mo_unify_86 g15 hv4 hv6 H) hM12 (lvS_cons rfl rfl (lvS_cons rfl rfl (lvS_cons rfl rfl (lvS_cons rfl rfl lvS_nil))))
def B_Mo_push (d : Nat) (x1 : Int) (σ : Mem) (o : Option Int) (s' : Mem) : Prop := ((0 : Int) ≤ σ 58 37 ∧ σ 58 37 < (120 : Int)) ∧ ((rg ((σ 58 37) + 1)) ∧ (((0 : Int) ≤ σ 58 43 ∧ σ 58 43 < (260 : Int)) ∧ ((rg ((σ 58 43) + 1)) ∧ (o = none ∧ s' = mup (mup (mup (mup σ 83 (σ 58 37) x1) 58 37 ((σ 58 37) + 1)) 85 (σ 58 43) x1) 58 43 ((σ 58 43) + 1)))))
theorem M_Mo_push {d : Nat} {x1 : Int} {σ s' : Mem} {o : Option Int} (hx1 : rg x1) (H : B_Mo_push d x1 σ o s') : Rn (d + 4) yMo_push [.ref 58, vi x1] σ o s' := by
  refine k_m (Nat.le_of_ble_eq_true rfl) (fun hM => ?_)
  unfold B_Mo_push at H
  refine k_l rfl rfl rfl ?_
  refine k_gr (t := 83) rfl rfl rfl (by decide) rfl ?_
  refine k_l rfl rfl rfl ?_
  refine k_gf rfl rfl rfl (by decide) rfl rfl ?_
  refine k_l rfl rfl rfl ?_
  obtain ⟨g1, H⟩ := H
  refine k_as (ok := isI) rfl rfl (fun _ => rfl) rfl rfl g1 (by decide) rfl ?_
  refine k_l rfl rfl rfl ?_
  refine k_p rfl rfl rfl ?_
  refine k_gf rfl rfl rfl (by decide) rfl (mup_ne (by decide)) ?_
  refine k_p rfl rfl rfl ?_
  refine k_add rfl ?_
  obtain ⟨g2, H⟩ := H
  refine k_pf rfl rfl rfl (by decide) rfl rfl rfl rfl ?_
  refine k_l rfl rfl rfl ?_
  refine k_gr (t := 85) rfl rfl rfl (by decide) rfl ?_
  refine k_l rfl rfl rfl ?_
  refine k_gf rfl rfl rfl (by decide) rfl ((mup_nk (by decide)).trans (mup_ne (by decide))) ?_
  refine k_l rfl rfl rfl ?_
  obtain ⟨g3, H⟩ := H
  refine k_as (ok := isI) rfl rfl (fun _ => rfl) rfl rfl g3 (by decide) rfl ?_
  refine k_l rfl rfl rfl ?_
  refine k_p rfl rfl rfl ?_
  refine k_gf rfl rfl rfl (by decide) rfl ((mup_ne (by decide)).trans ((mup_nk (by decide)).trans (mup_ne (by decide)))) ?_
  refine k_p rfl rfl rfl ?_
  refine k_add rfl ?_
  obtain ⟨g4, H⟩ := H
  refine k_pf rfl rfl rfl (by decide) rfl rfl rfl rfl ?_
  obtain ⟨rfl, rfl⟩ := H
  exact k_r0 ((((hM.up hx1).up g2).up hx1).up g4) rfl rfl rfl
def B_Mo_pop (d : Nat) (σ : Mem) (o : Option Int) (s' : Mem) : Prop := (rg ((σ 58 37) - 1)) ∧ (((0 : Int) ≤ (σ 58 37) - 1 ∧ (σ 58 37) - 1 < (120 : Int)) ∧ (o = some (σ 83 ((σ 58 37) - 1)) ∧ s' = mup σ 58 37 ((σ 58 37) - 1)))
theorem M_Mo_pop {d : Nat} {σ s' : Mem} {o : Option Int}  (H : B_Mo_pop d  σ o s') : Rn (d + 4) yMo_pop [.ref 58] σ o s' := by
  refine k_m (Nat.le_of_ble_eq_true rfl) (fun hM => ?_)
  unfold B_Mo_pop at H
  refine k_l rfl rfl rfl ?_
  refine k_p rfl rfl rfl ?_
  refine k_gf rfl rfl rfl (by decide) rfl rfl ?_
  refine k_p rfl rfl rfl ?_
  refine k_sub rfl ?_
  obtain ⟨g1, H⟩ := H
  refine k_pf rfl rfl rfl (by decide) rfl rfl rfl rfl ?_
  refine k_l rfl rfl rfl ?_
  refine k_gr (t := 83) rfl rfl rfl (by decide) rfl ?_
  refine k_l rfl rfl rfl ?_
  refine k_gf rfl rfl rfl (by decide) rfl mup_eq ?_
  obtain ⟨g2, H⟩ := H
  refine k_al rfl rfl (fun _ => rfl) rfl rfl g2 (by decide) (mup_ne (by decide)) ?_
  obtain ⟨rfl, rfl⟩ := H
  exact k_r1 (hM.up g1) (hM _ _) rfl rfl rfl
def B_Mo_generalize_23 (d : Nat) (x1 t1 : Int) (σ : Mem) (o : Option Int) (s' : Mem) : Prop := (t1 = 0 ∨ t1 = 1) ∧ (Lb (d + 3) yMo_generalize 28 [(0, .ref 58), (1, vi x1), (2, vi 0)] [] (mup σ 58 44 t1) o s')
theorem K_Mo_generalize_23 {d : Nat} {x1 t1 : Int} {σ s' : Mem} {o : Option Int} (hx1 : rg x1) (ht1 : rg t1) (H : B_Mo_generalize_23 d x1 t1 σ o s') : Lb (d + 3) yMo_generalize 23 [(0, .ref 58), (1, vi x1)] [vi t1, .ref 58] σ o s' := by
  intro hM
  unfold B_Mo_generalize_23 at H
  obtain ⟨g1, H⟩ := H
  refine k_pf rfl rfl rfl (by decide) rfl rfl (fitb g1) rfl ?_
  refine k_p rfl rfl rfl ?_
  refine k_l rfl rfl rfl ?_
  exact k_lab H (hM.up ht1) (lvS_cons rfl rfl (lvS_cons rfl rfl (lvS_cons rfl rfl lvS_nil)))
def B_Mo_generalize_18 (d : Nat) (x1 : Int) (σ : Mem) (o : Option Int) (s' : Mem) : Prop := B_Mo_generalize_23 d x1 1 σ o s'
theorem K_Mo_generalize_18 {d : Nat} {x1 : Int} {σ s' : Mem} {o : Option Int} (hx1 : rg x1) (H : B_Mo_generalize_18 d x1 σ o s') : Lb (d + 3) yMo_generalize 18 [(0, .ref 58), (1, vi x1)] [.ref 58] σ o s' := by
  intro hM
  unfold B_Mo_generalize_18 at H
  refine k_p rfl rfl rfl ?_
  refine k_b rfl rfl rfl rfl ?_
  exact k_lab (K_Mo_generalize_23 hx1 (rgk rfl) H) hM (lvS_cons rfl rfl (lvS_cons rfl rfl lvS_nil))
def B_Mo_generalize (d : Nat) (x1 : Int) (σ : Mem) (o : Option Int) (s' : Mem) : Prop := if σ 58 44 ≠ 0 then (B_Mo_generalize_18 d x1 σ o s') else (∃ (v2 : Int) (m2 : Mem), Rn (d + 3) yMo_width [.ref 58, vi x1] σ (some v2) m2 ∧ (if v2 ≤ 80 then (B_Mo_generalize_23 d x1 0 m2 o s') else (B_Mo_generalize_18 d x1 m2 o s')))
theorem M_Mo_generalize {d : Nat} {x1 : Int} {σ s' : Mem} {o : Option Int} (hx1 : rg x1) (H : B_Mo_generalize d x1 σ o s') : Rn (d + 4) yMo_generalize [.ref 58, vi x1] σ o s' := by
  refine k_m (Nat.le_of_ble_eq_true rfl) (fun hM => ?_)
  unfold B_Mo_generalize at H
  refine k_l rfl rfl rfl ?_
  refine k_l rfl rfl rfl ?_
  refine k_gf rfl rfl rfl (by decide) rfl rfl ?_
  by_cases c1 : σ 58 44 ≠ 0
  · rw [if_pos c1] at H
    refine k_z rfl (by decide) (hM _ _) (q := true) (decide_eq_true c1) rfl ?_
    exact k_lab (K_Mo_generalize_18 hx1 H) hM (lvS_cons rfl rfl (lvS_cons rfl rfl lvS_nil))
  · rw [if_neg c1] at H
    refine k_z rfl (by decide) (hM _ _) (q := false) (decide_eq_false c1) rfl ?_
    refine k_l rfl rfl rfl ?_
    refine k_l rfl rfl rfl ?_
    obtain ⟨v2, m2, R2, H⟩ := H
    refine k_iv rfl rfl rfl rfl rfl (by decide) rfl hM R2 (fun hM2 hv2 => ?_)
    refine k_k (x := 80) rfl rfl rfl rfl ?_
    by_cases c3 : v2 ≤ 80
    · rw [if_pos c3] at H
      refine k_c rfl (by decide) hv2 (rgk rfl) (q := true) (decide_eq_true c3) rfl ?_
      refine k_p rfl rfl rfl ?_
      exact k_lab (K_Mo_generalize_23 hx1 (rgk rfl) H) hM2 (lvS_cons rfl rfl (lvS_cons rfl rfl lvS_nil))
    · rw [if_neg c3] at H
      refine k_c rfl (by decide) hv2 (rgk rfl) (q := false) (decide_eq_false c3) rfl ?_
      exact k_lab (K_Mo_generalize_18 hx1 H) hM2 (lvS_cons rfl rfl (lvS_cons rfl rfl lvS_nil))
def B_Mo_generalize_73 (d : Nat) (x1 x2 t1 : Int) (σ : Mem) (o : Option Int) (s' : Mem) : Prop := (t1 = 0 ∨ t1 = 1) ∧ ((rg (x2 + 1)) ∧ (Lb (d + 3) yMo_generalize 28 [(0, .ref 58), (1, vi x1), (2, vi (x2 + 1))] [] (mup σ 58 44 t1) o s'))
theorem K_Mo_generalize_73 {d : Nat} {x1 x2 t1 : Int} {σ s' : Mem} {o : Option Int} (hx1 : rg x1) (hx2 : rg x2) (ht1 : rg t1) (H : B_Mo_generalize_73 d x1 x2 t1 σ o s') : Lb (d + 3) yMo_generalize 73 [(0, .ref 58), (1, vi x1), (2, vi x2)] [vi t1, .ref 58] σ o s' := by
  intro hM
  unfold B_Mo_generalize_73 at H
  obtain ⟨g1, H⟩ := H
  refine k_pf rfl rfl rfl (by decide) rfl rfl (fitb g1) rfl ?_
  refine k_inc rfl rfl (by decide) ?_
  refine k_b rfl rfl rfl rfl ?_
  obtain ⟨g2, H⟩ := H
  exact k_lab H (hM.up ht1) (lvS_cons rfl rfl (lvS_cons rfl rfl (lvS_cons rfl rfl lvS_nil)))
def B_Mo_generalize_68 (d : Nat) (x1 x2 : Int) (σ : Mem) (o : Option Int) (s' : Mem) : Prop := B_Mo_generalize_73 d x1 x2 1 σ o s'
theorem K_Mo_generalize_68 {d : Nat} {x1 x2 : Int} {σ s' : Mem} {o : Option Int} (hx1 : rg x1) (hx2 : rg x2) (H : B_Mo_generalize_68 d x1 x2 σ o s') : Lb (d + 3) yMo_generalize 68 [(0, .ref 58), (1, vi x1), (2, vi x2)] [.ref 58] σ o s' := by
  intro hM
  unfold B_Mo_generalize_68 at H
  refine k_p rfl rfl rfl ?_
  refine k_b rfl rfl rfl rfl ?_
  exact k_lab (K_Mo_generalize_73 hx1 hx2 (rgk rfl) H) hM (lvS_cons rfl rfl (lvS_cons rfl rfl (lvS_cons rfl rfl lvS_nil)))
def B_Mo_generalize_72 (d : Nat) (x1 x2 : Int) (σ : Mem) (o : Option Int) (s' : Mem) : Prop := B_Mo_generalize_73 d x1 x2 0 σ o s'
theorem K_Mo_generalize_72 {d : Nat} {x1 x2 : Int} {σ s' : Mem} {o : Option Int} (hx1 : rg x1) (hx2 : rg x2) (H : B_Mo_generalize_72 d x1 x2 σ o s') : Lb (d + 3) yMo_generalize 72 [(0, .ref 58), (1, vi x1), (2, vi x2)] [.ref 58] σ o s' := by
  intro hM
  unfold B_Mo_generalize_72 at H
  refine k_p rfl rfl rfl ?_
  exact k_lab (K_Mo_generalize_73 hx1 hx2 (rgk rfl) H) hM (lvS_cons rfl rfl (lvS_cons rfl rfl (lvS_cons rfl rfl lvS_nil)))
def B_Mo_generalize_28 (d : Nat) (x1 x2 : Int) (σ : Mem) (o : Option Int) (s' : Mem) : Prop := if x2 ≥ σ 58 30 then (Lb (d + 3) yMo_generalize 84 [(0, .ref 58), (1, vi x1), (2, vi 0)] [] σ o s') else (if σ 58 44 ≠ 0 then (B_Mo_generalize_68 d x1 x2 σ o s') else (((0 : Int) ≤ x2 ∧ x2 < (64 : Int)) ∧ (if σ 78 x2 ≠ 0 then (B_Mo_generalize_72 d x1 x2 σ o s') else (((0 : Int) ≤ x2 ∧ x2 < (64 : Int)) ∧ (∃ (v6 : Int) (m6 : Mem), Rn (d + 3) yMo_width [.ref 58, vi (σ 77 x2)] σ (some v6) m6 ∧ (if v6 ≤ 80 then (B_Mo_generalize_72 d x1 x2 m6 o s') else (B_Mo_generalize_68 d x1 x2 m6 o s')))))))
theorem K_Mo_generalize_28 {d : Nat} {x1 x2 : Int} {σ s' : Mem} {o : Option Int} (hx1 : rg x1) (hx2 : rg x2) (H : B_Mo_generalize_28 d x1 x2 σ o s') : Lb (d + 3) yMo_generalize 28 [(0, .ref 58), (1, vi x1), (2, vi x2)] [] σ o s' := by
  intro hM
  unfold B_Mo_generalize_28 at H
  refine k_l rfl rfl rfl ?_
  refine k_l rfl rfl rfl ?_
  refine k_gf rfl rfl rfl (by decide) rfl rfl ?_
  by_cases c1 : x2 ≥ σ 58 30
  · rw [if_pos c1] at H
    refine k_c rfl (by decide) hx2 (hM _ _) (q := true) (decide_eq_true c1) rfl ?_
    refine k_p rfl rfl rfl ?_
    refine k_l rfl rfl rfl ?_
    exact k_lab H hM (lvS_cons rfl rfl (lvS_cons rfl rfl (lvS_cons rfl rfl lvS_nil)))
  · rw [if_neg c1] at H
    refine k_c rfl (by decide) hx2 (hM _ _) (q := false) (decide_eq_false c1) rfl ?_
    refine k_l rfl rfl rfl ?_
    refine k_l rfl rfl rfl ?_
    refine k_gf rfl rfl rfl (by decide) rfl rfl ?_
    by_cases c2 : σ 58 44 ≠ 0
    · rw [if_pos c2] at H
      refine k_z rfl (by decide) (hM _ _) (q := true) (decide_eq_true c2) rfl ?_
      exact k_lab (K_Mo_generalize_68 hx1 hx2 H) hM (lvS_cons rfl rfl (lvS_cons rfl rfl (lvS_cons rfl rfl lvS_nil)))
    · rw [if_neg c2] at H
      refine k_z rfl (by decide) (hM _ _) (q := false) (decide_eq_false c2) rfl ?_
      refine k_l rfl rfl rfl ?_
      refine k_gr (t := 78) rfl rfl rfl (by decide) rfl ?_
      refine k_l rfl rfl rfl ?_
      obtain ⟨g3, H⟩ := H
      refine k_al rfl rfl (fun _ => rfl) rfl rfl g3 (by decide) rfl ?_
      by_cases c4 : σ 78 x2 ≠ 0
      · rw [if_pos c4] at H
        refine k_z rfl (by decide) (hM _ _) (q := true) (decide_eq_true c4) rfl ?_
        exact k_lab (K_Mo_generalize_72 hx1 hx2 H) hM (lvS_cons rfl rfl (lvS_cons rfl rfl (lvS_cons rfl rfl lvS_nil)))
      · rw [if_neg c4] at H
        refine k_z rfl (by decide) (hM _ _) (q := false) (decide_eq_false c4) rfl ?_
        refine k_l rfl rfl rfl ?_
        refine k_l rfl rfl rfl ?_
        refine k_gr (t := 77) rfl rfl rfl (by decide) rfl ?_
        refine k_l rfl rfl rfl ?_
        obtain ⟨g5, H⟩ := H
        refine k_al rfl rfl (fun _ => rfl) rfl rfl g5 (by decide) rfl ?_
        obtain ⟨v6, m6, R6, H⟩ := H
        refine k_iv rfl rfl rfl rfl rfl (by decide) rfl hM R6 (fun hM6 hv6 => ?_)
        refine k_k (x := 80) rfl rfl rfl rfl ?_
        by_cases c7 : v6 ≤ 80
        · rw [if_pos c7] at H
          refine k_c rfl (by decide) hv6 (rgk rfl) (q := true) (decide_eq_true c7) rfl ?_
          exact k_lab (K_Mo_generalize_72 hx1 hx2 H) hM6 (lvS_cons rfl rfl (lvS_cons rfl rfl (lvS_cons rfl rfl lvS_nil)))
        · rw [if_neg c7] at H
          refine k_c rfl (by decide) hv6 (rgk rfl) (q := false) (decide_eq_false c7) rfl ?_
          exact k_lab (K_Mo_generalize_68 hx1 hx2 H) hM6 (lvS_cons rfl rfl (lvS_cons rfl rfl (lvS_cons rfl rfl lvS_nil)))
def B_Mo_generalize_131 (d : Nat) (x1 x2 t0 : Int) (σ : Mem) (o : Option Int) (s' : Mem) : Prop := Lb (d + 3) yMo_generalize 135 [(0, .ref 58), (1, vi x1), (2, vi x2), (3, vi t0), (4, vi 0)] [] σ o s'
theorem K_Mo_generalize_131 {d : Nat} {x1 x2 t0 : Int} {σ s' : Mem} {o : Option Int} (hx1 : rg x1) (hx2 : rg x2) (ht0 : rg t0) (H : B_Mo_generalize_131 d x1 x2 t0 σ o s') : Lb (d + 3) yMo_generalize 131 [(0, .ref 58), (1, vi x1), (2, vi x2)] [vi t0] σ o s' := by
  intro hM
  unfold B_Mo_generalize_131 at H
  refine k_l rfl rfl rfl ?_
  refine k_p rfl rfl rfl ?_
  refine k_l rfl rfl rfl ?_
  exact k_lab H hM (lvS_cons rfl rfl (lvS_cons rfl rfl (lvS_cons rfl rfl (lvS_cons rfl rfl (lvS_cons rfl rfl lvS_nil)))))
def B_Mo_generalize_130 (d : Nat) (x1 x2 : Int) (σ : Mem) (o : Option Int) (s' : Mem) : Prop := B_Mo_generalize_131 d x1 x2 0 σ o s'
theorem K_Mo_generalize_130 {d : Nat} {x1 x2 : Int} {σ s' : Mem} {o : Option Int} (hx1 : rg x1) (hx2 : rg x2) (H : B_Mo_generalize_130 d x1 x2 σ o s') : Lb (d + 3) yMo_generalize 130 [(0, .ref 58), (1, vi x1), (2, vi x2)] [] σ o s' := by
  intro hM
  unfold B_Mo_generalize_130 at H
  refine k_p rfl rfl rfl ?_
  exact k_lab (K_Mo_generalize_131 hx1 hx2 (rgk rfl) H) hM (lvS_cons rfl rfl (lvS_cons rfl rfl (lvS_cons rfl rfl lvS_nil)))
def B_Mo_generalize_84 (d : Nat) (x1 x2 : Int) (σ : Mem) (o : Option Int) (s' : Mem) : Prop := if x2 ≥ σ 58 35 then (o = none ∧ s' = σ) else (if σ 58 44 ≠ 0 then (o = none ∧ s' = σ) else (((0 : Int) ≤ x2 ∧ x2 < (1300 : Int)) ∧ (if σ 79 x2 ≠ 0 then (B_Mo_generalize_130 d x1 x2 σ o s') else (((0 : Int) ≤ x2 ∧ x2 < (1300 : Int)) ∧ (if σ 80 x2 ≥ 0 then (B_Mo_generalize_130 d x1 x2 σ o s') else (∃ (v7 : Int) (m7 : Mem), Rn (d + 3) yMo_standsIn [.ref 58, vi x2, vi x1] σ (some v7) m7 ∧ (if v7 = 0 then (B_Mo_generalize_130 d x1 x2 m7 o s') else (B_Mo_generalize_131 d x1 x2 1 m7 o s'))))))))
theorem K_Mo_generalize_84 {d : Nat} {x1 x2 : Int} {σ s' : Mem} {o : Option Int} (hx1 : rg x1) (hx2 : rg x2) (H : B_Mo_generalize_84 d x1 x2 σ o s') : Lb (d + 3) yMo_generalize 84 [(0, .ref 58), (1, vi x1), (2, vi x2)] [] σ o s' := by
  intro hM
  unfold B_Mo_generalize_84 at H
  refine k_l rfl rfl rfl ?_
  refine k_l rfl rfl rfl ?_
  refine k_gf rfl rfl rfl (by decide) rfl rfl ?_
  by_cases c1 : x2 ≥ σ 58 35
  · rw [if_pos c1] at H
    refine k_c rfl (by decide) hx2 (hM _ _) (q := true) (decide_eq_true c1) rfl ?_
    obtain ⟨rfl, rfl⟩ := H
    exact k_r0 hM rfl rfl rfl
  · rw [if_neg c1] at H
    refine k_c rfl (by decide) hx2 (hM _ _) (q := false) (decide_eq_false c1) rfl ?_
    refine k_l rfl rfl rfl ?_
    refine k_gf rfl rfl rfl (by decide) rfl rfl ?_
    by_cases c2 : σ 58 44 ≠ 0
    · rw [if_pos c2] at H
      refine k_z rfl (by decide) (hM _ _) (q := true) (decide_eq_true c2) rfl ?_
      obtain ⟨rfl, rfl⟩ := H
      exact k_r0 hM rfl rfl rfl
    · rw [if_neg c2] at H
      refine k_z rfl (by decide) (hM _ _) (q := false) (decide_eq_false c2) rfl ?_
      refine k_l rfl rfl rfl ?_
      refine k_gr (t := 79) rfl rfl rfl (by decide) rfl ?_
      refine k_l rfl rfl rfl ?_
      obtain ⟨g3, H⟩ := H
      refine k_al rfl rfl (fun _ => rfl) rfl rfl g3 (by decide) rfl ?_
      by_cases c4 : σ 79 x2 ≠ 0
      · rw [if_pos c4] at H
        refine k_z rfl (by decide) (hM _ _) (q := true) (decide_eq_true c4) rfl ?_
        exact k_lab (K_Mo_generalize_130 hx1 hx2 H) hM (lvS_cons rfl rfl (lvS_cons rfl rfl (lvS_cons rfl rfl lvS_nil)))
      · rw [if_neg c4] at H
        refine k_z rfl (by decide) (hM _ _) (q := false) (decide_eq_false c4) rfl ?_
        refine k_l rfl rfl rfl ?_
        refine k_gr (t := 80) rfl rfl rfl (by decide) rfl ?_
        refine k_l rfl rfl rfl ?_
        obtain ⟨g5, H⟩ := H
        refine k_al rfl rfl (fun _ => rfl) rfl rfl g5 (by decide) rfl ?_
        by_cases c6 : σ 80 x2 ≥ 0
        · rw [if_pos c6] at H
          refine k_z rfl (by decide) (hM _ _) (q := true) (decide_eq_true c6) rfl ?_
          exact k_lab (K_Mo_generalize_130 hx1 hx2 H) hM (lvS_cons rfl rfl (lvS_cons rfl rfl (lvS_cons rfl rfl lvS_nil)))
        · rw [if_neg c6] at H
          refine k_z rfl (by decide) (hM _ _) (q := false) (decide_eq_false c6) rfl ?_
          refine k_l rfl rfl rfl ?_
          refine k_l rfl rfl rfl ?_
          refine k_l rfl rfl rfl ?_
          obtain ⟨v7, m7, R7, H⟩ := H
          refine k_iv rfl rfl rfl rfl rfl (by decide) rfl hM R7 (fun hM7 hv7 => ?_)
          by_cases c8 : v7 = 0
          · rw [if_pos c8] at H
            refine k_z rfl (by decide) hv7 (q := true) (decide_eq_true c8) rfl ?_
            exact k_lab (K_Mo_generalize_130 hx1 hx2 H) hM7 (lvS_cons rfl rfl (lvS_cons rfl rfl (lvS_cons rfl rfl lvS_nil)))
          · rw [if_neg c8] at H
            refine k_z rfl (by decide) hv7 (q := false) (decide_eq_false c8) rfl ?_
            refine k_p rfl rfl rfl ?_
            refine k_b rfl rfl rfl rfl ?_
            exact k_lab (K_Mo_generalize_131 hx1 hx2 (rgk rfl) H) hM7 (lvS_cons rfl rfl (lvS_cons rfl rfl (lvS_cons rfl rfl lvS_nil)))
def B_Mo_generalize_204 (d : Nat) (x1 x2 t1 t2 : Int) (σ : Mem) (o : Option Int) (s' : Mem) : Prop := ((0 : Int) ≤ t1 ∧ t1 < (1300 : Int)) ∧ ((rg (x2 + 1)) ∧ (Lb (d + 3) yMo_generalize 84 [(0, .ref 58), (1, vi x1), (2, vi (x2 + 1))] [] (mup σ 81 t1 t2) o s'))
theorem K_Mo_generalize_204 {d : Nat} {x1 x2 t1 t2 : Int} {σ s' : Mem} {o : Option Int} (hx1 : rg x1) (hx2 : rg x2) (ht1 : rg t1) (ht2 : rg t2) (H : B_Mo_generalize_204 d x1 x2 t1 t2 σ o s') : Lb (d + 3) yMo_generalize 204 [(0, .ref 58), (1, vi x1), (2, vi x2)] [vi t2, vi t1, .ref 81] σ o s' := by
  intro hM
  unfold B_Mo_generalize_204 at H
  obtain ⟨g1, H⟩ := H
  refine k_as (ok := isI) rfl rfl (fun _ => rfl) rfl rfl g1 (by decide) rfl ?_
  refine k_inc rfl rfl (by decide) ?_
  refine k_b rfl rfl rfl rfl ?_
  obtain ⟨g2, H⟩ := H
  exact k_lab H (hM.up ht2) (lvS_cons rfl rfl (lvS_cons rfl rfl (lvS_cons rfl rfl lvS_nil)))
def B_Mo_generalize_185 (d : Nat) (x1 x2 x3 : Int) (σ : Mem) (o : Option Int) (s' : Mem) : Prop := if x3 = 0 then (((0 : Int) ≤ x2 ∧ x2 < (1300 : Int)) ∧ (B_Mo_generalize_204 d x1 x2 x2 (σ 81 x2) σ o s')) else (B_Mo_generalize_204 d x1 x2 x2 1 σ o s')
theorem K_Mo_generalize_185 {d : Nat} {x1 x2 x3 : Int} {σ s' : Mem} {o : Option Int} (hx1 : rg x1) (hx2 : rg x2) (hx3 : rg x3) (H : B_Mo_generalize_185 d x1 x2 x3 σ o s') : Lb (d + 3) yMo_generalize 185 [(0, .ref 58), (1, vi x1), (2, vi x2), (3, vi x3)] [] σ o s' := by
  intro hM
  unfold B_Mo_generalize_185 at H
  refine k_l rfl rfl rfl ?_
  refine k_gr (t := 81) rfl rfl rfl (by decide) rfl ?_
  refine k_l rfl rfl rfl ?_
  refine k_l rfl rfl rfl ?_
  by_cases c1 : x3 = 0
  · rw [if_pos c1] at H
    refine k_z rfl (by decide) hx3 (q := true) (decide_eq_true c1) rfl ?_
    refine k_l rfl rfl rfl ?_
    refine k_gr (t := 81) rfl rfl rfl (by decide) rfl ?_
    refine k_l rfl rfl rfl ?_
    obtain ⟨g2, H⟩ := H
    refine k_al rfl rfl (fun _ => rfl) rfl rfl g2 (by decide) rfl ?_
    exact k_lab (K_Mo_generalize_204 hx1 hx2 hx2 (hM _ _) H) hM (lvS_cons rfl rfl (lvS_cons rfl rfl (lvS_cons rfl rfl lvS_nil)))
  · rw [if_neg c1] at H
    refine k_z rfl (by decide) hx3 (q := false) (decide_eq_false c1) rfl ?_
    refine k_p rfl rfl rfl ?_
    refine k_b rfl rfl rfl rfl ?_
    exact k_lab (K_Mo_generalize_204 hx1 hx2 hx2 (rgk rfl) H) hM (lvS_cons rfl rfl (lvS_cons rfl rfl (lvS_cons rfl rfl lvS_nil)))
def B_Mo_generalize_178 (d : Nat) (x1 x2 x4 t0 : Int) (σ : Mem) (o : Option Int) (s' : Mem) : Prop := (rg (x4 + 1)) ∧ (Lb (d + 3) yMo_generalize 135 [(0, .ref 58), (1, vi x1), (2, vi x2), (3, vi t0), (4, vi (x4 + 1))] [] σ o s')
theorem K_Mo_generalize_178 {d : Nat} {x1 x2 x4 t0 : Int} {σ s' : Mem} {o : Option Int} (hx1 : rg x1) (hx2 : rg x2) (hx4 : rg x4) (ht0 : rg t0) (H : B_Mo_generalize_178 d x1 x2 x4 t0 σ o s') : Lb (d + 3) yMo_generalize 178 [(0, .ref 58), (1, vi x1), (2, vi x2), (4, vi x4)] [vi t0] σ o s' := by
  intro hM
  unfold B_Mo_generalize_178 at H
  refine k_l rfl rfl rfl ?_
  refine k_inc rfl rfl (by decide) ?_
  refine k_b rfl rfl rfl rfl ?_
  obtain ⟨g1, H⟩ := H
  exact k_lab H hM (lvS_cons rfl rfl (lvS_cons rfl rfl (lvS_cons rfl rfl (lvS_cons rfl rfl (lvS_cons rfl rfl lvS_nil)))))
def B_Mo_generalize_173 (d : Nat) (x1 x2 x4 : Int) (σ : Mem) (o : Option Int) (s' : Mem) : Prop := B_Mo_generalize_178 d x1 x2 x4 1 σ o s'
theorem K_Mo_generalize_173 {d : Nat} {x1 x2 x4 : Int} {σ s' : Mem} {o : Option Int} (hx1 : rg x1) (hx2 : rg x2) (hx4 : rg x4) (H : B_Mo_generalize_173 d x1 x2 x4 σ o s') : Lb (d + 3) yMo_generalize 173 [(0, .ref 58), (1, vi x1), (2, vi x2), (4, vi x4)] [] σ o s' := by
  intro hM
  unfold B_Mo_generalize_173 at H
  refine k_p rfl rfl rfl ?_
  refine k_b rfl rfl rfl rfl ?_
  exact k_lab (K_Mo_generalize_178 hx1 hx2 hx4 (rgk rfl) H) hM (lvS_cons rfl rfl (lvS_cons rfl rfl (lvS_cons rfl rfl (lvS_cons rfl rfl lvS_nil))))
def B_Mo_generalize_135 (d : Nat) (x1 x2 x3 x4 : Int) (σ : Mem) (o : Option Int) (s' : Mem) : Prop := if x4 ≥ σ 58 30 then (B_Mo_generalize_185 d x1 x2 x3 σ o s') else (if x3 = 0 then (B_Mo_generalize_185 d x1 x2 x3 σ o s') else (((0 : Int) ≤ x4 ∧ x4 < (64 : Int)) ∧ (if σ 78 x4 ≠ 0 then (B_Mo_generalize_173 d x1 x2 x4 σ o s') else (((0 : Int) ≤ x4 ∧ x4 < (64 : Int)) ∧ (∃ (v6 : Int) (m6 : Mem), Rn (d + 3) yMo_standsIn [.ref 58, vi x2, vi (σ 77 x4)] σ (some v6) m6 ∧ (if v6 ≠ 0 then (B_Mo_generalize_178 d x1 x2 x4 0 m6 o s') else (B_Mo_generalize_173 d x1 x2 x4 m6 o s')))))))
theorem K_Mo_generalize_135 {d : Nat} {x1 x2 x3 x4 : Int} {σ s' : Mem} {o : Option Int} (hx1 : rg x1) (hx2 : rg x2) (hx3 : rg x3) (hx4 : rg x4) (H : B_Mo_generalize_135 d x1 x2 x3 x4 σ o s') : Lb (d + 3) yMo_generalize 135 [(0, .ref 58), (1, vi x1), (2, vi x2), (3, vi x3), (4, vi x4)] [] σ o s' := by
  intro hM
  unfold B_Mo_generalize_135 at H
  refine k_l rfl rfl rfl ?_
  refine k_l rfl rfl rfl ?_
  refine k_gf rfl rfl rfl (by decide) rfl rfl ?_
  by_cases c1 : x4 ≥ σ 58 30
  · rw [if_pos c1] at H
    refine k_c rfl (by decide) hx4 (hM _ _) (q := true) (decide_eq_true c1) rfl ?_
    exact k_lab (K_Mo_generalize_185 hx1 hx2 hx3 H) hM (lvS_cons rfl rfl (lvS_cons rfl rfl (lvS_cons rfl rfl (lvS_cons rfl rfl lvS_nil))))
  · rw [if_neg c1] at H
    refine k_c rfl (by decide) hx4 (hM _ _) (q := false) (decide_eq_false c1) rfl ?_
    refine k_l rfl rfl rfl ?_
    by_cases c2 : x3 = 0
    · rw [if_pos c2] at H
      refine k_z rfl (by decide) hx3 (q := true) (decide_eq_true c2) rfl ?_
      exact k_lab (K_Mo_generalize_185 hx1 hx2 hx3 H) hM (lvS_cons rfl rfl (lvS_cons rfl rfl (lvS_cons rfl rfl (lvS_cons rfl rfl lvS_nil))))
    · rw [if_neg c2] at H
      refine k_z rfl (by decide) hx3 (q := false) (decide_eq_false c2) rfl ?_
      refine k_l rfl rfl rfl ?_
      refine k_gr (t := 78) rfl rfl rfl (by decide) rfl ?_
      refine k_l rfl rfl rfl ?_
      obtain ⟨g3, H⟩ := H
      refine k_al rfl rfl (fun _ => rfl) rfl rfl g3 (by decide) rfl ?_
      by_cases c4 : σ 78 x4 ≠ 0
      · rw [if_pos c4] at H
        refine k_z rfl (by decide) (hM _ _) (q := true) (decide_eq_true c4) rfl ?_
        exact k_lab (K_Mo_generalize_173 hx1 hx2 hx4 H) hM (lvS_cons rfl rfl (lvS_cons rfl rfl (lvS_cons rfl rfl (lvS_cons rfl rfl lvS_nil))))
      · rw [if_neg c4] at H
        refine k_z rfl (by decide) (hM _ _) (q := false) (decide_eq_false c4) rfl ?_
        refine k_l rfl rfl rfl ?_
        refine k_l rfl rfl rfl ?_
        refine k_l rfl rfl rfl ?_
        refine k_gr (t := 77) rfl rfl rfl (by decide) rfl ?_
        refine k_l rfl rfl rfl ?_
        obtain ⟨g5, H⟩ := H
        refine k_al rfl rfl (fun _ => rfl) rfl rfl g5 (by decide) rfl ?_
        obtain ⟨v6, m6, R6, H⟩ := H
        refine k_iv rfl rfl rfl rfl rfl (by decide) rfl hM R6 (fun hM6 hv6 => ?_)
        by_cases c7 : v6 ≠ 0
        · rw [if_pos c7] at H
          refine k_z rfl (by decide) hv6 (q := true) (decide_eq_true c7) rfl ?_
          refine k_p rfl rfl rfl ?_
          exact k_lab (K_Mo_generalize_178 hx1 hx2 hx4 (rgk rfl) H) hM6 (lvS_cons rfl rfl (lvS_cons rfl rfl (lvS_cons rfl rfl (lvS_cons rfl rfl lvS_nil))))
        · rw [if_neg c7] at H
          refine k_z rfl (by decide) hv6 (q := false) (decide_eq_false c7) rfl ?_
          exact k_lab (K_Mo_generalize_173 hx1 hx2 hx4 H) hM6 (lvS_cons rfl rfl (lvS_cons rfl rfl (lvS_cons rfl rfl (lvS_cons rfl rfl lvS_nil))))
def B_Mo_copyOf_118 (d : Nat) (x2 : Int) (σ : Mem) (o : Option Int) (s' : Mem) : Prop := ((0 : Int) ≤ x2 ∧ x2 < (1300 : Int)) ∧ (o = some (σ 82 x2) ∧ s' = σ)
theorem K_Mo_copyOf_118 {d : Nat} {x2 : Int} {σ s' : Mem} {o : Option Int} (hx2 : rg x2) (H : B_Mo_copyOf_118 d x2 σ o s') : Lb (d + 3) yMo_copyOf 118 [(0, .ref 58), (2, vi x2)] [] σ o s' := by
  intro hM
  unfold B_Mo_copyOf_118 at H
  refine k_l rfl rfl rfl ?_
  refine k_gr (t := 82) rfl rfl rfl (by decide) rfl ?_
  refine k_l rfl rfl rfl ?_
  obtain ⟨g1, H⟩ := H
  refine k_al rfl rfl (fun _ => rfl) rfl rfl g1 (by decide) rfl ?_
  obtain ⟨rfl, rfl⟩ := H
  exact k_r1 hM (hM _ _) rfl rfl rfl
def B_Mo_copyOf_97 (d : Nat) (x2 t1 t2 : Int) (σ : Mem) (o : Option Int) (s' : Mem) : Prop := ((0 : Int) ≤ t1 ∧ t1 < (1300 : Int)) ∧ (((0 : Int) ≤ σ 58 39 ∧ σ 58 39 < (220 : Int)) ∧ ((rg ((σ 58 39) + 1)) ∧ (B_Mo_copyOf_118 d x2 (mup (mup (mup σ 82 t1 t2) 87 (σ 58 39) x2) 58 39 ((σ 58 39) + 1)) o s')))
theorem K_Mo_copyOf_97 {d : Nat} {x2 t1 t2 : Int} {σ s' : Mem} {o : Option Int} (hx2 : rg x2) (ht1 : rg t1) (ht2 : rg t2) (H : B_Mo_copyOf_97 d x2 t1 t2 σ o s') : Lb (d + 3) yMo_copyOf 97 [(0, .ref 58), (2, vi x2)] [vi t2, vi t1, .ref 82] σ o s' := by
  intro hM
  unfold B_Mo_copyOf_97 at H
  obtain ⟨g1, H⟩ := H
  refine k_as (ok := isI) rfl rfl (fun _ => rfl) rfl rfl g1 (by decide) rfl ?_
  refine k_l rfl rfl rfl ?_
  refine k_gr (t := 87) rfl rfl rfl (by decide) rfl ?_
  refine k_l rfl rfl rfl ?_
  refine k_gf rfl rfl rfl (by decide) rfl (mup_ne (by decide)) ?_
  refine k_l rfl rfl rfl ?_
  obtain ⟨g2, H⟩ := H
  refine k_as (ok := isI) rfl rfl (fun _ => rfl) rfl rfl g2 (by decide) rfl ?_
  refine k_l rfl rfl rfl ?_
  refine k_p rfl rfl rfl ?_
  refine k_gf rfl rfl rfl (by decide) rfl ((mup_ne (by decide)).trans (mup_ne (by decide))) ?_
  refine k_p rfl rfl rfl ?_
  refine k_add rfl ?_
  obtain ⟨g3, H⟩ := H
  refine k_pf rfl rfl rfl (by decide) rfl rfl rfl rfl ?_
  exact k_lab (K_Mo_copyOf_118 hx2 H) (((hM.up ht2).up hx2).up g3) (lvS_cons rfl rfl (lvS_cons rfl rfl lvS_nil))
def B_Mo_copyOf_45 (d : Nat) (x2 : Int) (σ : Mem) (o : Option Int) (s' : Mem) : Prop := ((0 : Int) ≤ x2 ∧ x2 < (1300 : Int)) ∧ (if σ 82 x2 ≥ 0 then (B_Mo_copyOf_118 d x2 σ o s') else (((0 : Int) ≤ x2 ∧ x2 < (1300 : Int)) ∧ (if σ 79 x2 ≠ 0 then (((0 : Int) ≤ x2 ∧ x2 < (1300 : Int)) ∧ (((0 : Int) ≤ x2 ∧ x2 < (1300 : Int)) ∧ (((0 : Int) ≤ x2 ∧ x2 < (1300 : Int)) ∧ (∃ (v8 : Int) (m8 : Mem), Rn (d + 3) yMo_make [.ref 58, vi (σ 79 x2), vi (σ 80 x2), vi (σ 81 x2)] σ (some v8) m8 ∧ (B_Mo_copyOf_97 d x2 x2 v8 m8 o s'))))) else (∃ (v9 : Int) (m9 : Mem), Rn (d + 3) yMo_fresh [.ref 58] σ (some v9) m9 ∧ (B_Mo_copyOf_97 d x2 x2 v9 m9 o s')))))
theorem K_Mo_copyOf_45 {d : Nat} {x2 : Int} {σ s' : Mem} {o : Option Int} (hx2 : rg x2) (H : B_Mo_copyOf_45 d x2 σ o s') : Lb (d + 3) yMo_copyOf 45 [(0, .ref 58), (2, vi x2)] [] σ o s' := by
  intro hM
  unfold B_Mo_copyOf_45 at H
  refine k_l rfl rfl rfl ?_
  refine k_gr (t := 82) rfl rfl rfl (by decide) rfl ?_
  refine k_l rfl rfl rfl ?_
  obtain ⟨g1, H⟩ := H
  refine k_al rfl rfl (fun _ => rfl) rfl rfl g1 (by decide) rfl ?_
  by_cases c2 : σ 82 x2 ≥ 0
  · rw [if_pos c2] at H
    refine k_z rfl (by decide) (hM _ _) (q := true) (decide_eq_true c2) rfl ?_
    exact k_lab (K_Mo_copyOf_118 hx2 H) hM (lvS_cons rfl rfl (lvS_cons rfl rfl lvS_nil))
  · rw [if_neg c2] at H
    refine k_z rfl (by decide) (hM _ _) (q := false) (decide_eq_false c2) rfl ?_
    refine k_l rfl rfl rfl ?_
    refine k_gr (t := 82) rfl rfl rfl (by decide) rfl ?_
    refine k_l rfl rfl rfl ?_
    refine k_l rfl rfl rfl ?_
    refine k_gr (t := 79) rfl rfl rfl (by decide) rfl ?_
    refine k_l rfl rfl rfl ?_
    obtain ⟨g3, H⟩ := H
    refine k_al rfl rfl (fun _ => rfl) rfl rfl g3 (by decide) rfl ?_
    by_cases c4 : σ 79 x2 ≠ 0
    · rw [if_pos c4] at H
      refine k_z rfl (by decide) (hM _ _) (q := true) (decide_eq_true c4) rfl ?_
      refine k_l rfl rfl rfl ?_
      refine k_l rfl rfl rfl ?_
      refine k_gr (t := 79) rfl rfl rfl (by decide) rfl ?_
      refine k_l rfl rfl rfl ?_
      obtain ⟨g5, H⟩ := H
      refine k_al rfl rfl (fun _ => rfl) rfl rfl g5 (by decide) rfl ?_
      refine k_l rfl rfl rfl ?_
      refine k_gr (t := 80) rfl rfl rfl (by decide) rfl ?_
      refine k_l rfl rfl rfl ?_
      obtain ⟨g6, H⟩ := H
      refine k_al rfl rfl (fun _ => rfl) rfl rfl g6 (by decide) rfl ?_
      refine k_l rfl rfl rfl ?_
      refine k_gr (t := 81) rfl rfl rfl (by decide) rfl ?_
      refine k_l rfl rfl rfl ?_
      obtain ⟨g7, H⟩ := H
      refine k_al rfl rfl (fun _ => rfl) rfl rfl g7 (by decide) rfl ?_
      obtain ⟨v8, m8, R8, H⟩ := H
      refine k_iv rfl rfl rfl rfl rfl (by decide) rfl hM R8 (fun hM8 hv8 => ?_)
      exact k_lab (K_Mo_copyOf_97 hx2 hx2 hv8 H) hM8 (lvS_cons rfl rfl (lvS_cons rfl rfl lvS_nil))
    · rw [if_neg c4] at H
      refine k_z rfl (by decide) (hM _ _) (q := false) (decide_eq_false c4) rfl ?_
      refine k_l rfl rfl rfl ?_
      obtain ⟨v9, m9, R9, H⟩ := H
      refine k_iv rfl rfl rfl rfl rfl (by decide) rfl hM R9 (fun hM9 hv9 => ?_)
      refine k_b rfl rfl rfl rfl ?_
      exact k_lab (K_Mo_copyOf_97 hx2 hx2 hv9 H) hM9 (lvS_cons rfl rfl (lvS_cons rfl rfl lvS_nil))
def B_Mo_copyOf_25 (d : Nat) (x2 : Int) (σ : Mem) (o : Option Int) (s' : Mem) : Prop := ((0 : Int) ≤ x2 ∧ x2 < (1300 : Int)) ∧ (if σ 79 x2 ≠ 0 then (B_Mo_copyOf_45 d x2 σ o s') else (((0 : Int) ≤ x2 ∧ x2 < (1300 : Int)) ∧ (if σ 81 x2 ≠ 0 then (B_Mo_copyOf_45 d x2 σ o s') else (o = some x2 ∧ s' = σ))))
theorem K_Mo_copyOf_25 {d : Nat} {x2 : Int} {σ s' : Mem} {o : Option Int} (hx2 : rg x2) (H : B_Mo_copyOf_25 d x2 σ o s') : Lb (d + 3) yMo_copyOf 25 [(0, .ref 58), (2, vi x2)] [] σ o s' := by
  intro hM
  unfold B_Mo_copyOf_25 at H
  refine k_l rfl rfl rfl ?_
  refine k_gr (t := 79) rfl rfl rfl (by decide) rfl ?_
  refine k_l rfl rfl rfl ?_
  obtain ⟨g1, H⟩ := H
  refine k_al rfl rfl (fun _ => rfl) rfl rfl g1 (by decide) rfl ?_
  by_cases c2 : σ 79 x2 ≠ 0
  · rw [if_pos c2] at H
    refine k_z rfl (by decide) (hM _ _) (q := true) (decide_eq_true c2) rfl ?_
    exact k_lab (K_Mo_copyOf_45 hx2 H) hM (lvS_cons rfl rfl (lvS_cons rfl rfl lvS_nil))
  · rw [if_neg c2] at H
    refine k_z rfl (by decide) (hM _ _) (q := false) (decide_eq_false c2) rfl ?_
    refine k_l rfl rfl rfl ?_
    refine k_gr (t := 81) rfl rfl rfl (by decide) rfl ?_
    refine k_l rfl rfl rfl ?_
    obtain ⟨g3, H⟩ := H
    refine k_al rfl rfl (fun _ => rfl) rfl rfl g3 (by decide) rfl ?_
    by_cases c4 : σ 81 x2 ≠ 0
    · rw [if_pos c4] at H
      refine k_z rfl (by decide) (hM _ _) (q := true) (decide_eq_true c4) rfl ?_
      exact k_lab (K_Mo_copyOf_45 hx2 H) hM (lvS_cons rfl rfl (lvS_cons rfl rfl lvS_nil))
    · rw [if_neg c4] at H
      refine k_z rfl (by decide) (hM _ _) (q := false) (decide_eq_false c4) rfl ?_
      refine k_l rfl rfl rfl ?_
      obtain ⟨rfl, rfl⟩ := H
      exact k_r1 hM hx2 rfl rfl rfl
def B_Mo_copyOf (d : Nat) (x1 : Int) (σ : Mem) (o : Option Int) (s' : Mem) : Prop := ∃ (v1 : Int) (m1 : Mem), Rn (d + 3) yMo_realType [.ref 58, vi x1] σ (some v1) m1 ∧ (((0 : Int) ≤ v1 ∧ v1 < (1300 : Int)) ∧ (if m1 79 v1 ≤ 0 then (B_Mo_copyOf_25 d v1 m1 o s') else (((0 : Int) ≤ v1 ∧ v1 < (1300 : Int)) ∧ (if m1 79 v1 < 4 then (o = some v1 ∧ s' = m1) else (B_Mo_copyOf_25 d v1 m1 o s')))))
theorem M_Mo_copyOf {d : Nat} {x1 : Int} {σ s' : Mem} {o : Option Int} (hx1 : rg x1) (H : B_Mo_copyOf d x1 σ o s') : Rn (d + 4) yMo_copyOf [.ref 58, vi x1] σ o s' := by
  refine k_m (Nat.le_of_ble_eq_true rfl) (fun hM => ?_)
  unfold B_Mo_copyOf at H
  refine k_l rfl rfl rfl ?_
  refine k_l rfl rfl rfl ?_
  obtain ⟨v1, m1, R1, H⟩ := H
  refine k_iv rfl rfl rfl rfl rfl (by decide) rfl hM R1 (fun hM1 hv1 => ?_)
  refine k_l rfl rfl rfl ?_
  refine k_l rfl rfl rfl ?_
  refine k_gr (t := 79) rfl rfl rfl (by decide) rfl ?_
  refine k_l rfl rfl rfl ?_
  obtain ⟨g2, H⟩ := H
  refine k_al rfl rfl (fun _ => rfl) rfl rfl g2 (by decide) rfl ?_
  by_cases c3 : m1 79 v1 ≤ 0
  · rw [if_pos c3] at H
    refine k_z rfl (by decide) (hM1 _ _) (q := true) (decide_eq_true c3) rfl ?_
    exact k_lab (K_Mo_copyOf_25 hv1 H) hM1 (lvS_cons rfl rfl (lvS_cons rfl rfl lvS_nil))
  · rw [if_neg c3] at H
    refine k_z rfl (by decide) (hM1 _ _) (q := false) (decide_eq_false c3) rfl ?_
    refine k_l rfl rfl rfl ?_
    refine k_gr (t := 79) rfl rfl rfl (by decide) rfl ?_
    refine k_l rfl rfl rfl ?_
    obtain ⟨g4, H⟩ := H
    refine k_al rfl rfl (fun _ => rfl) rfl rfl g4 (by decide) rfl ?_
    refine k_p rfl rfl rfl ?_
    by_cases c5 : m1 79 v1 < 4
    · rw [if_pos c5] at H
      refine k_c rfl (by decide) (hM1 _ _) (rgk rfl) (q := true) (decide_eq_true c5) rfl ?_
      refine k_l rfl rfl rfl ?_
      obtain ⟨rfl, rfl⟩ := H
      exact k_r1 hM1 hv1 rfl rfl rfl
    · rw [if_neg c5] at H
      refine k_c rfl (by decide) (hM1 _ _) (rgk rfl) (q := false) (decide_eq_false c5) rfl ?_
      exact k_lab (K_Mo_copyOf_25 hv1 H) hM1 (lvS_cons rfl rfl (lvS_cons rfl rfl lvS_nil))
def B_Mo_instance_23 (d : Nat) (x1 t1 : Int) (σ : Mem) (o : Option Int) (s' : Mem) : Prop := (t1 = 0 ∨ t1 = 1) ∧ (if t1 = 0 then (∃ (v3 : Int) (m3 : Mem), Rn (d + 3) yMo_copyOf [.ref 58, vi x1] (mup (mup σ 58 44 t1) 58 39 0) (some v3) m3 ∧ (Lb (d + 3) yMo_instance 48 [(0, .ref 58), (2, vi v3), (3, vi 0)] [] m3 o s')) else (o = some x1 ∧ s' = mup σ 58 44 t1))
theorem K_Mo_instance_23 {d : Nat} {x1 t1 : Int} {σ s' : Mem} {o : Option Int} (hx1 : rg x1) (ht1 : rg t1) (H : B_Mo_instance_23 d x1 t1 σ o s') : Lb (d + 3) yMo_instance 23 [(0, .ref 58), (1, vi x1)] [vi t1, .ref 58] σ o s' := by
  intro hM
  unfold B_Mo_instance_23 at H
  obtain ⟨g1, H⟩ := H
  refine k_pf rfl rfl rfl (by decide) rfl rfl (fitb g1) rfl ?_
  refine k_l rfl rfl rfl ?_
  refine k_gf rfl rfl rfl (by decide) rfl mup_eq ?_
  by_cases c2 : t1 = 0
  · rw [if_pos c2] at H
    refine k_z rfl (by decide) ht1 (q := true) (decide_eq_true c2) rfl ?_
    refine k_l rfl rfl rfl ?_
    refine k_p rfl rfl rfl ?_
    refine k_pf rfl rfl rfl (by decide) rfl rfl rfl rfl ?_
    refine k_l rfl rfl rfl ?_
    refine k_l rfl rfl rfl ?_
    obtain ⟨v3, m3, R3, H⟩ := H
    refine k_iv rfl rfl rfl rfl rfl (by decide) rfl ((hM.up ht1).up (rgk rfl)) R3 (fun hM3 hv3 => ?_)
    refine k_l rfl rfl rfl ?_
    refine k_p rfl rfl rfl ?_
    refine k_l rfl rfl rfl ?_
    exact k_lab H hM3 (lvS_cons rfl rfl (lvS_cons rfl rfl (lvS_cons rfl rfl lvS_nil)))
  · rw [if_neg c2] at H
    refine k_z rfl (by decide) ht1 (q := false) (decide_eq_false c2) rfl ?_
    refine k_l rfl rfl rfl ?_
    obtain ⟨rfl, rfl⟩ := H
    exact k_r1 (hM.up ht1) hx1 rfl rfl rfl
def B_Mo_instance_18 (d : Nat) (x1 : Int) (σ : Mem) (o : Option Int) (s' : Mem) : Prop := B_Mo_instance_23 d x1 1 σ o s'
theorem K_Mo_instance_18 {d : Nat} {x1 : Int} {σ s' : Mem} {o : Option Int} (hx1 : rg x1) (H : B_Mo_instance_18 d x1 σ o s') : Lb (d + 3) yMo_instance 18 [(0, .ref 58), (1, vi x1)] [.ref 58] σ o s' := by
  intro hM
  unfold B_Mo_instance_18 at H
  refine k_p rfl rfl rfl ?_
  refine k_b rfl rfl rfl rfl ?_
  exact k_lab (K_Mo_instance_23 hx1 (rgk rfl) H) hM (lvS_cons rfl rfl (lvS_cons rfl rfl lvS_nil))
def B_Mo_instance (d : Nat) (x1 : Int) (σ : Mem) (o : Option Int) (s' : Mem) : Prop := if σ 58 44 ≠ 0 then (B_Mo_instance_18 d x1 σ o s') else (∃ (v2 : Int) (m2 : Mem), Rn (d + 3) yMo_width [.ref 58, vi x1] σ (some v2) m2 ∧ (if v2 ≤ 80 then (B_Mo_instance_23 d x1 0 m2 o s') else (B_Mo_instance_18 d x1 m2 o s')))
theorem M_Mo_instance {d : Nat} {x1 : Int} {σ s' : Mem} {o : Option Int} (hx1 : rg x1) (H : B_Mo_instance d x1 σ o s') : Rn (d + 4) yMo_instance [.ref 58, vi x1] σ o s' := by
  refine k_m (Nat.le_of_ble_eq_true rfl) (fun hM => ?_)
  unfold B_Mo_instance at H
  refine k_l rfl rfl rfl ?_
  refine k_l rfl rfl rfl ?_
  refine k_gf rfl rfl rfl (by decide) rfl rfl ?_
  by_cases c1 : σ 58 44 ≠ 0
  · rw [if_pos c1] at H
    refine k_z rfl (by decide) (hM _ _) (q := true) (decide_eq_true c1) rfl ?_
    exact k_lab (K_Mo_instance_18 hx1 H) hM (lvS_cons rfl rfl (lvS_cons rfl rfl lvS_nil))
  · rw [if_neg c1] at H
    refine k_z rfl (by decide) (hM _ _) (q := false) (decide_eq_false c1) rfl ?_
    refine k_l rfl rfl rfl ?_
    refine k_l rfl rfl rfl ?_
    obtain ⟨v2, m2, R2, H⟩ := H
    refine k_iv rfl rfl rfl rfl rfl (by decide) rfl hM R2 (fun hM2 hv2 => ?_)
    refine k_k (x := 80) rfl rfl rfl rfl ?_
    by_cases c3 : v2 ≤ 80
    · rw [if_pos c3] at H
      refine k_c rfl (by decide) hv2 (rgk rfl) (q := true) (decide_eq_true c3) rfl ?_
      refine k_p rfl rfl rfl ?_
      exact k_lab (K_Mo_instance_23 hx1 (rgk rfl) H) hM2 (lvS_cons rfl rfl (lvS_cons rfl rfl lvS_nil))
    · rw [if_neg c3] at H
      refine k_c rfl (by decide) hv2 (rgk rfl) (q := false) (decide_eq_false c3) rfl ?_
      exact k_lab (K_Mo_instance_18 hx1 H) hM2 (lvS_cons rfl rfl (lvS_cons rfl rfl lvS_nil))
def B_Mo_instance_131 (d : Nat) (x2 x3 : Int) (σ : Mem) (o : Option Int) (s' : Mem) : Prop := (rg (x3 + 1)) ∧ (Lb (d + 3) yMo_instance 48 [(0, .ref 58), (2, vi x2), (3, vi (x3 + 1))] [] σ o s')
theorem K_Mo_instance_131 {d : Nat} {x2 x3 : Int} {σ s' : Mem} {o : Option Int} (hx2 : rg x2) (hx3 : rg x3) (H : B_Mo_instance_131 d x2 x3 σ o s') : Lb (d + 3) yMo_instance 131 [(0, .ref 58), (2, vi x2), (3, vi x3)] [] σ o s' := by
  intro hM
  unfold B_Mo_instance_131 at H
  refine k_inc rfl rfl (by decide) ?_
  refine k_b rfl rfl rfl rfl ?_
  obtain ⟨g1, H⟩ := H
  exact k_lab H hM (lvS_cons rfl rfl (lvS_cons rfl rfl (lvS_cons rfl rfl lvS_nil)))
def B_Mo_instance_102 (d : Nat) (x2 x3 x4 x5 : Int) (σ : Mem) (o : Option Int) (s' : Mem) : Prop := ((0 : Int) ≤ x4 ∧ x4 < (1300 : Int)) ∧ (if σ 79 x4 ≠ 5 then (B_Mo_instance_131 d x2 x3 σ o s') else (((0 : Int) ≤ x4 ∧ x4 < (1300 : Int)) ∧ (∃ (v4 : Int) (m4 : Mem), Rn (d + 3) yMo_copyOf [.ref 58, vi (σ 81 x4)] σ (some v4) m4 ∧ (((0 : Int) ≤ x5 ∧ x5 < (1300 : Int)) ∧ (B_Mo_instance_131 d x2 x3 (mup m4 81 x5 v4) o s')))))
theorem K_Mo_instance_102 {d : Nat} {x2 x3 x4 x5 : Int} {σ s' : Mem} {o : Option Int} (hx2 : rg x2) (hx3 : rg x3) (hx4 : rg x4) (hx5 : rg x5) (H : B_Mo_instance_102 d x2 x3 x4 x5 σ o s') : Lb (d + 3) yMo_instance 102 [(0, .ref 58), (2, vi x2), (3, vi x3), (4, vi x4), (5, vi x5)] [] σ o s' := by
  intro hM
  unfold B_Mo_instance_102 at H
  refine k_l rfl rfl rfl ?_
  refine k_gr (t := 79) rfl rfl rfl (by decide) rfl ?_
  refine k_l rfl rfl rfl ?_
  obtain ⟨g1, H⟩ := H
  refine k_al rfl rfl (fun _ => rfl) rfl rfl g1 (by decide) rfl ?_
  refine k_p rfl rfl rfl ?_
  by_cases c2 : σ 79 x4 ≠ 5
  · rw [if_pos c2] at H
    refine k_c rfl (by decide) (hM _ _) (rgk rfl) (q := true) (decide_eq_true c2) rfl ?_
    exact k_lab (K_Mo_instance_131 hx2 hx3 H) hM (lvS_cons rfl rfl (lvS_cons rfl rfl (lvS_cons rfl rfl lvS_nil)))
  · rw [if_neg c2] at H
    refine k_c rfl (by decide) (hM _ _) (rgk rfl) (q := false) (decide_eq_false c2) rfl ?_
    refine k_l rfl rfl rfl ?_
    refine k_gr (t := 81) rfl rfl rfl (by decide) rfl ?_
    refine k_l rfl rfl rfl ?_
    refine k_l rfl rfl rfl ?_
    refine k_l rfl rfl rfl ?_
    refine k_gr (t := 81) rfl rfl rfl (by decide) rfl ?_
    refine k_l rfl rfl rfl ?_
    obtain ⟨g3, H⟩ := H
    refine k_al rfl rfl (fun _ => rfl) rfl rfl g3 (by decide) rfl ?_
    obtain ⟨v4, m4, R4, H⟩ := H
    refine k_iv rfl rfl rfl rfl rfl (by decide) rfl hM R4 (fun hM4 hv4 => ?_)
    obtain ⟨g5, H⟩ := H
    refine k_as (ok := isI) rfl rfl (fun _ => rfl) rfl rfl g5 (by decide) rfl ?_
    exact k_lab (K_Mo_instance_131 hx2 hx3 H) (hM4.up hv4) (lvS_cons rfl rfl (lvS_cons rfl rfl (lvS_cons rfl rfl lvS_nil)))
def B_Mo_instance_48 (d : Nat) (x2 x3 : Int) (σ : Mem) (o : Option Int) (s' : Mem) : Prop := if x3 ≥ σ 58 39 then (Lb (d + 3) yMo_instance 139 [(0, .ref 58), (2, vi x2), (3, vi 0)] [] σ o s') else (((0 : Int) ≤ x3 ∧ x3 < (220 : Int)) ∧ (((0 : Int) ≤ σ 87 x3 ∧ σ 87 x3 < (1300 : Int)) ∧ (((0 : Int) ≤ σ 87 x3 ∧ σ 87 x3 < (1300 : Int)) ∧ (if σ 79 (σ 87 x3) ≤ 3 then (B_Mo_instance_102 d x2 x3 (σ 87 x3) (σ 82 (σ 87 x3)) σ o s') else (((0 : Int) ≤ σ 87 x3 ∧ σ 87 x3 < (1300 : Int)) ∧ (∃ (v7 : Int) (m7 : Mem), Rn (d + 3) yMo_copyOf [.ref 58, vi (σ 80 (σ 87 x3))] σ (some v7) m7 ∧ (((0 : Int) ≤ σ 82 (σ 87 x3) ∧ σ 82 (σ 87 x3) < (1300 : Int)) ∧ (B_Mo_instance_102 d x2 x3 (σ 87 x3) (σ 82 (σ 87 x3)) (mup m7 80 (σ 82 (σ 87 x3)) v7) o s'))))))))
theorem K_Mo_instance_48 {d : Nat} {x2 x3 : Int} {σ s' : Mem} {o : Option Int} (hx2 : rg x2) (hx3 : rg x3) (H : B_Mo_instance_48 d x2 x3 σ o s') : Lb (d + 3) yMo_instance 48 [(0, .ref 58), (2, vi x2), (3, vi x3)] [] σ o s' := by
  intro hM
  unfold B_Mo_instance_48 at H
  refine k_l rfl rfl rfl ?_
  refine k_l rfl rfl rfl ?_
  refine k_gf rfl rfl rfl (by decide) rfl rfl ?_
  by_cases c1 : x3 ≥ σ 58 39
  · rw [if_pos c1] at H
    refine k_c rfl (by decide) hx3 (hM _ _) (q := true) (decide_eq_true c1) rfl ?_
    refine k_p rfl rfl rfl ?_
    refine k_l rfl rfl rfl ?_
    exact k_lab H hM (lvS_cons rfl rfl (lvS_cons rfl rfl (lvS_cons rfl rfl lvS_nil)))
  · rw [if_neg c1] at H
    refine k_c rfl (by decide) hx3 (hM _ _) (q := false) (decide_eq_false c1) rfl ?_
    refine k_l rfl rfl rfl ?_
    refine k_gr (t := 87) rfl rfl rfl (by decide) rfl ?_
    refine k_l rfl rfl rfl ?_
    obtain ⟨g2, H⟩ := H
    refine k_al rfl rfl (fun _ => rfl) rfl rfl g2 (by decide) rfl ?_
    refine k_l rfl rfl rfl ?_
    refine k_l rfl rfl rfl ?_
    refine k_gr (t := 82) rfl rfl rfl (by decide) rfl ?_
    refine k_l rfl rfl rfl ?_
    obtain ⟨g3, H⟩ := H
    refine k_al rfl rfl (fun _ => rfl) rfl rfl g3 (by decide) rfl ?_
    refine k_l rfl rfl rfl ?_
    refine k_l rfl rfl rfl ?_
    refine k_gr (t := 79) rfl rfl rfl (by decide) rfl ?_
    refine k_l rfl rfl rfl ?_
    obtain ⟨g4, H⟩ := H
    refine k_al rfl rfl (fun _ => rfl) rfl rfl g4 (by decide) rfl ?_
    refine k_p rfl rfl rfl ?_
    by_cases c5 : σ 79 (σ 87 x3) ≤ 3
    · rw [if_pos c5] at H
      refine k_c rfl (by decide) (hM _ _) (rgk rfl) (q := true) (decide_eq_true c5) rfl ?_
      exact k_lab (K_Mo_instance_102 hx2 hx3 (hM _ _) (hM _ _) H) hM (lvS_cons rfl rfl (lvS_cons rfl rfl (lvS_cons rfl rfl (lvS_cons rfl rfl (lvS_cons rfl rfl lvS_nil)))))
    · rw [if_neg c5] at H
      refine k_c rfl (by decide) (hM _ _) (rgk rfl) (q := false) (decide_eq_false c5) rfl ?_
      refine k_l rfl rfl rfl ?_
      refine k_gr (t := 80) rfl rfl rfl (by decide) rfl ?_
      refine k_l rfl rfl rfl ?_
      refine k_l rfl rfl rfl ?_
      refine k_l rfl rfl rfl ?_
      refine k_gr (t := 80) rfl rfl rfl (by decide) rfl ?_
      refine k_l rfl rfl rfl ?_
      obtain ⟨g6, H⟩ := H
      refine k_al rfl rfl (fun _ => rfl) rfl rfl g6 (by decide) rfl ?_
      obtain ⟨v7, m7, R7, H⟩ := H
      refine k_iv rfl rfl rfl rfl rfl (by decide) rfl hM R7 (fun hM7 hv7 => ?_)
      obtain ⟨g8, H⟩ := H
      refine k_as (ok := isI) rfl rfl (fun _ => rfl) rfl rfl g8 (by decide) rfl ?_
      exact k_lab (K_Mo_instance_102 hx2 hx3 (hM _ _) (hM _ _) H) (hM7.up hv7) (lvS_cons rfl rfl (lvS_cons rfl rfl (lvS_cons rfl rfl (lvS_cons rfl rfl (lvS_cons rfl rfl lvS_nil)))))
def B_Mo_instance_139 (d : Nat) (x2 x3 : Int) (σ : Mem) (o : Option Int) (s' : Mem) : Prop := if x3 ≥ σ 58 39 then (o = some x2 ∧ s' = σ) else (((0 : Int) ≤ x3 ∧ x3 < (220 : Int)) ∧ (((0 : Int) ≤ σ 87 x3 ∧ σ 87 x3 < (1300 : Int)) ∧ ((rg (x3 + 1)) ∧ (Lb (d + 3) yMo_instance 139 [(0, .ref 58), (2, vi x2), (3, vi (x3 + 1))] [] (mup σ 82 (σ 87 x3) ((-1))) o s'))))
theorem K_Mo_instance_139 {d : Nat} {x2 x3 : Int} {σ s' : Mem} {o : Option Int} (hx2 : rg x2) (hx3 : rg x3) (H : B_Mo_instance_139 d x2 x3 σ o s') : Lb (d + 3) yMo_instance 139 [(0, .ref 58), (2, vi x2), (3, vi x3)] [] σ o s' := by
  intro hM
  unfold B_Mo_instance_139 at H
  refine k_l rfl rfl rfl ?_
  refine k_l rfl rfl rfl ?_
  refine k_gf rfl rfl rfl (by decide) rfl rfl ?_
  by_cases c1 : x3 ≥ σ 58 39
  · rw [if_pos c1] at H
    refine k_c rfl (by decide) hx3 (hM _ _) (q := true) (decide_eq_true c1) rfl ?_
    refine k_l rfl rfl rfl ?_
    obtain ⟨rfl, rfl⟩ := H
    exact k_r1 hM hx2 rfl rfl rfl
  · rw [if_neg c1] at H
    refine k_c rfl (by decide) hx3 (hM _ _) (q := false) (decide_eq_false c1) rfl ?_
    refine k_l rfl rfl rfl ?_
    refine k_gr (t := 82) rfl rfl rfl (by decide) rfl ?_
    refine k_l rfl rfl rfl ?_
    refine k_gr (t := 87) rfl rfl rfl (by decide) rfl ?_
    refine k_l rfl rfl rfl ?_
    obtain ⟨g2, H⟩ := H
    refine k_al rfl rfl (fun _ => rfl) rfl rfl g2 (by decide) rfl ?_
    refine k_p rfl rfl rfl ?_
    obtain ⟨g3, H⟩ := H
    refine k_as (ok := isI) rfl rfl (fun _ => rfl) rfl rfl g3 (by decide) rfl ?_
    refine k_inc rfl rfl (by decide) ?_
    refine k_b rfl rfl rfl rfl ?_
    obtain ⟨g4, H⟩ := H
    exact k_lab H (hM.up (rgk rfl)) (lvS_cons rfl rfl (lvS_cons rfl rfl (lvS_cons rfl rfl lvS_nil)))
def B_Mo_operand_13 (d : Nat) (σ : Mem) (o : Option Int) (s' : Mem) : Prop := o = some 2 ∧ s' = σ
theorem K_Mo_operand_13 {d : Nat} {σ s' : Mem} {o : Option Int}  (H : B_Mo_operand_13 d  σ o s') : Lb (d + 3) yMo_operand 13 [] [] σ o s' := by
  intro hM
  unfold B_Mo_operand_13 at H
  refine k_p rfl rfl rfl ?_
  refine k_b rfl rfl rfl rfl ?_
  obtain ⟨rfl, rfl⟩ := H
  exact k_r1 hM (rgk rfl) rfl rfl rfl
def B_Mo_operand (d : Nat) (x1 : Int) (σ : Mem) (o : Option Int) (s' : Mem) : Prop := if x1 = 126 then (B_Mo_operand_13 d  σ o s') else (if x1 ≤ 128 then (o = some 0 ∧ s' = σ) else (B_Mo_operand_13 d  σ o s'))
theorem M_Mo_operand {d : Nat} {x1 : Int} {σ s' : Mem} {o : Option Int} (hx1 : rg x1) (H : B_Mo_operand d x1 σ o s') : Rn (d + 4) yMo_operand [.ref 58, vi x1] σ o s' := by
  refine k_m (Nat.le_of_ble_eq_true rfl) (fun hM => ?_)
  unfold B_Mo_operand at H
  refine k_l rfl rfl rfl ?_
  refine k_k (x := 126) rfl rfl rfl rfl ?_
  by_cases c1 : x1 = 126
  · rw [if_pos c1] at H
    refine k_c rfl (by decide) hx1 (rgk rfl) (q := true) (decide_eq_true c1) rfl ?_
    exact k_lab (K_Mo_operand_13  H) hM lvS_nil
  · rw [if_neg c1] at H
    refine k_c rfl (by decide) hx1 (rgk rfl) (q := false) (decide_eq_false c1) rfl ?_
    refine k_l rfl rfl rfl ?_
    refine k_k (x := 128) rfl rfl rfl rfl ?_
    by_cases c2 : x1 ≤ 128
    · rw [if_pos c2] at H
      refine k_c rfl (by decide) hx1 (rgk rfl) (q := true) (decide_eq_true c2) rfl ?_
      refine k_p rfl rfl rfl ?_
      obtain ⟨rfl, rfl⟩ := H
      exact k_r1 hM (rgk rfl) rfl rfl rfl
    · rw [if_neg c2] at H
      refine k_c rfl (by decide) hx1 (rgk rfl) (q := false) (decide_eq_false c2) rfl ?_
      exact k_lab (K_Mo_operand_13  H) hM lvS_nil
def B_Mo_operation_89 (d : Nat) (t1 : Int) (σ : Mem) (o : Option Int) (s' : Mem) : Prop := ∃ (m1 : Mem), Rn (d + 3) yMo_push [.ref 58, vi t1] σ none m1 ∧ (o = none ∧ s' = m1)
theorem K_Mo_operation_89 {d : Nat} {t1 : Int} {σ s' : Mem} {o : Option Int} (ht1 : rg t1) (H : B_Mo_operation_89 d t1 σ o s') : Lb (d + 3) yMo_operation 89 [] [vi t1, .ref 58] σ o s' := by
  intro hM
  unfold B_Mo_operation_89 at H
  obtain ⟨m1, R1, H⟩ := H
  refine k_iw rfl rfl rfl rfl rfl (by decide) rfl hM R1 (fun hM1 => ?_)
  obtain ⟨rfl, rfl⟩ := H
  exact k_r0 hM1 rfl rfl rfl
def B_Mo_operation_80 (d : Nat) (σ : Mem) (o : Option Int) (s' : Mem) : Prop := B_Mo_operation_89 d 1 σ o s'
theorem K_Mo_operation_80 {d : Nat} {σ s' : Mem} {o : Option Int}  (H : B_Mo_operation_80 d  σ o s') : Lb (d + 3) yMo_operation 80 [] [.ref 58] σ o s' := by
  intro hM
  unfold B_Mo_operation_80 at H
  refine k_p rfl rfl rfl ?_
  refine k_b rfl rfl rfl rfl ?_
  exact k_lab (K_Mo_operation_89 (rgk rfl) H) hM lvS_nil
def B_Mo_operation_63 (d : Nat) (x1 : Int) (σ : Mem) (o : Option Int) (s' : Mem) : Prop := if x1 = 61 then (B_Mo_operation_80 d  σ o s') else (if zRem x1 128 ≠ 60 then (∃ (v3 : Int) (m3 : Mem), Rn (d + 3) yMo_operand [.ref 58, vi x1] σ (some v3) m3 ∧ (B_Mo_operation_89 d v3 m3 o s')) else (B_Mo_operation_80 d  σ o s'))
theorem K_Mo_operation_63 {d : Nat} {x1 : Int} {σ s' : Mem} {o : Option Int} (hx1 : rg x1) (H : B_Mo_operation_63 d x1 σ o s') : Lb (d + 3) yMo_operation 63 [(0, .ref 58), (1, vi x1)] [] σ o s' := by
  intro hM
  unfold B_Mo_operation_63 at H
  refine k_l rfl rfl rfl ?_
  refine k_l rfl rfl rfl ?_
  refine k_k (x := 61) rfl rfl rfl rfl ?_
  by_cases c1 : x1 = 61
  · rw [if_pos c1] at H
    refine k_c rfl (by decide) hx1 (rgk rfl) (q := true) (decide_eq_true c1) rfl ?_
    exact k_lab (K_Mo_operation_80  H) hM lvS_nil
  · rw [if_neg c1] at H
    refine k_c rfl (by decide) hx1 (rgk rfl) (q := false) (decide_eq_false c1) rfl ?_
    refine k_l rfl rfl rfl ?_
    refine k_k (x := 128) rfl rfl rfl rfl ?_
    refine k_rem rfl (rgk rfl) (by decide) ?_
    refine k_k (x := 60) rfl rfl rfl rfl ?_
    by_cases c2 : zRem x1 128 ≠ 60
    · rw [if_pos c2] at H
      refine k_c rfl (by decide) rg_zRem (rgk rfl) (q := true) (decide_eq_true c2) rfl ?_
      refine k_l rfl rfl rfl ?_
      refine k_l rfl rfl rfl ?_
      obtain ⟨v3, m3, R3, H⟩ := H
      refine k_iv rfl rfl rfl rfl rfl (by decide) rfl hM R3 (fun hM3 hv3 => ?_)
      exact k_lab (K_Mo_operation_89 hv3 H) hM3 lvS_nil
    · rw [if_neg c2] at H
      refine k_c rfl (by decide) rg_zRem (rgk rfl) (q := false) (decide_eq_false c2) rfl ?_
      exact k_lab (K_Mo_operation_80  H) hM lvS_nil
def B_Mo_operation (d : Nat) (x1 : Int) (σ : Mem) (o : Option Int) (s' : Mem) : Prop := ∃ (v1 : Int) (m1 : Mem), Rn (d + 3) yMo_pop [.ref 58] σ (some v1) m1 ∧ (if x1 ≠ 44 then (∃ (v3 : Int) (m3 : Mem), Rn (d + 3) yMo_operand [.ref 58, vi x1] m1 (some v3) m3 ∧ (∃ (m4 : Mem), Rn (d + 3) yMo_unify [.ref 58, vi v1, vi v3] m3 none m4 ∧ (if x1 = 126 then (B_Mo_operation_63 d x1 m4 o s') else (∃ (v6 : Int) (m6 : Mem), Rn (d + 3) yMo_pop [.ref 58] m4 (some v6) m6 ∧ (∃ (v7 : Int) (m7 : Mem), Rn (d + 3) yMo_operand [.ref 58, vi x1] m6 (some v7) m7 ∧ (∃ (m8 : Mem), Rn (d + 3) yMo_unify [.ref 58, vi v6, vi v7] m7 none m8 ∧ (B_Mo_operation_63 d x1 m8 o s'))))))) else (∃ (v9 : Int) (m9 : Mem), Rn (d + 3) yMo_pop [.ref 58] m1 (some v9) m9 ∧ (∃ (v10 : Int) (m10 : Mem), Rn (d + 3) yMo_make [.ref 58, vi 4, vi v9, vi 0] m9 (some v10) m10 ∧ (∃ (m11 : Mem), Rn (d + 3) yMo_unify [.ref 58, vi v1, vi v10] m10 none m11 ∧ (∃ (m12 : Mem), Rn (d + 3) yMo_push [.ref 58, vi v10] m11 none m12 ∧ (o = none ∧ s' = m12))))))
theorem M_Mo_operation {d : Nat} {x1 : Int} {σ s' : Mem} {o : Option Int} (hx1 : rg x1) (H : B_Mo_operation d x1 σ o s') : Rn (d + 4) yMo_operation [.ref 58, vi x1] σ o s' := by
  refine k_m (Nat.le_of_ble_eq_true rfl) (fun hM => ?_)
  unfold B_Mo_operation at H
  refine k_l rfl rfl rfl ?_
  obtain ⟨v1, m1, R1, H⟩ := H
  refine k_iv rfl rfl rfl rfl rfl (by decide) rfl hM R1 (fun hM1 hv1 => ?_)
  refine k_l rfl rfl rfl ?_
  refine k_l rfl rfl rfl ?_
  refine k_k (x := 44) rfl rfl rfl rfl ?_
  by_cases c2 : x1 ≠ 44
  · rw [if_pos c2] at H
    refine k_c rfl (by decide) hx1 (rgk rfl) (q := true) (decide_eq_true c2) rfl ?_
    refine k_l rfl rfl rfl ?_
    refine k_l rfl rfl rfl ?_
    refine k_l rfl rfl rfl ?_
    refine k_l rfl rfl rfl ?_
    obtain ⟨v3, m3, R3, H⟩ := H
    refine k_iv rfl rfl rfl rfl rfl (by decide) rfl hM1 R3 (fun hM3 hv3 => ?_)
    obtain ⟨m4, R4, H⟩ := H
    refine k_iw rfl rfl rfl rfl rfl (by decide) rfl hM3 R4 (fun hM4 => ?_)
    refine k_l rfl rfl rfl ?_
    refine k_k (x := 126) rfl rfl rfl rfl ?_
    by_cases c5 : x1 = 126
    · rw [if_pos c5] at H
      refine k_c rfl (by decide) hx1 (rgk rfl) (q := true) (decide_eq_true c5) rfl ?_
      exact k_lab (K_Mo_operation_63 hx1 H) hM4 (lvS_cons rfl rfl (lvS_cons rfl rfl lvS_nil))
    · rw [if_neg c5] at H
      refine k_c rfl (by decide) hx1 (rgk rfl) (q := false) (decide_eq_false c5) rfl ?_
      refine k_l rfl rfl rfl ?_
      refine k_l rfl rfl rfl ?_
      obtain ⟨v6, m6, R6, H⟩ := H
      refine k_iv rfl rfl rfl rfl rfl (by decide) rfl hM4 R6 (fun hM6 hv6 => ?_)
      refine k_l rfl rfl rfl ?_
      refine k_l rfl rfl rfl ?_
      obtain ⟨v7, m7, R7, H⟩ := H
      refine k_iv rfl rfl rfl rfl rfl (by decide) rfl hM6 R7 (fun hM7 hv7 => ?_)
      obtain ⟨m8, R8, H⟩ := H
      refine k_iw rfl rfl rfl rfl rfl (by decide) rfl hM7 R8 (fun hM8 => ?_)
      exact k_lab (K_Mo_operation_63 hx1 H) hM8 (lvS_cons rfl rfl (lvS_cons rfl rfl lvS_nil))
  · rw [if_neg c2] at H
    refine k_c rfl (by decide) hx1 (rgk rfl) (q := false) (decide_eq_false c2) rfl ?_
    refine k_l rfl rfl rfl ?_
    refine k_p rfl rfl rfl ?_
    refine k_l rfl rfl rfl ?_
    obtain ⟨v9, m9, R9, H⟩ := H
    refine k_iv rfl rfl rfl rfl rfl (by decide) rfl hM1 R9 (fun hM9 hv9 => ?_)
    refine k_p rfl rfl rfl ?_
    obtain ⟨v10, m10, R10, H⟩ := H
    refine k_iv rfl rfl rfl rfl rfl (by decide) rfl hM9 R10 (fun hM10 hv10 => ?_)
    refine k_l rfl rfl rfl ?_
    refine k_l rfl rfl rfl ?_
    refine k_l rfl rfl rfl ?_
    refine k_l rfl rfl rfl ?_
    obtain ⟨m11, R11, H⟩ := H
    refine k_iw rfl rfl rfl rfl rfl (by decide) rfl hM10 R11 (fun hM11 => ?_)
    refine k_l rfl rfl rfl ?_
    refine k_l rfl rfl rfl ?_
    obtain ⟨m12, R12, H⟩ := H
    refine k_iw rfl rfl rfl rfl rfl (by decide) rfl hM11 R12 (fun hM12 => ?_)
    obtain ⟨rfl, rfl⟩ := H
    exact k_r0 hM12 rfl rfl rfl
def B_Mo_patternTypes (d : Nat) (x1 x2 : Int) (σ : Mem) (o : Option Int) (s' : Mem) : Prop := ((0 : Int) ≤ σ 58 37 ∧ σ 58 37 < (120 : Int)) ∧ (((0 : Int) ≤ x1 ∧ x1 < (124 : Int)) ∧ ((rg ((σ 58 37) + 1)) ∧ (Lb (d + 3) yMo_patternTypes 25 [(0, .ref 58), (1, vi x1), (3, vi ((σ 58 37) + 1)), (4, vi (σ 61 x1))] [] (mup σ 83 (σ 58 37) x2) o s')))
theorem M_Mo_patternTypes {d : Nat} {x1 x2 : Int} {σ s' : Mem} {o : Option Int} (hx1 : rg x1) (hx2 : rg x2) (H : B_Mo_patternTypes d x1 x2 σ o s') : Rn (d + 4) yMo_patternTypes [.ref 58, vi x1, vi x2] σ o s' := by
  refine k_m (Nat.le_of_ble_eq_true rfl) (fun hM => ?_)
  unfold B_Mo_patternTypes at H
  refine k_l rfl rfl rfl ?_
  refine k_gf rfl rfl rfl (by decide) rfl rfl ?_
  refine k_p rfl rfl rfl ?_
  refine k_add rfl ?_
  refine k_l rfl rfl rfl ?_
  refine k_l rfl rfl rfl ?_
  refine k_gr (t := 83) rfl rfl rfl (by decide) rfl ?_
  refine k_l rfl rfl rfl ?_
  refine k_gf rfl rfl rfl (by decide) rfl rfl ?_
  refine k_l rfl rfl rfl ?_
  obtain ⟨g1, H⟩ := H
  refine k_as (ok := isI) rfl rfl (fun _ => rfl) rfl rfl g1 (by decide) rfl ?_
  refine k_l rfl rfl rfl ?_
  refine k_gr (t := 61) rfl rfl rfl (by decide) rfl ?_
  refine k_l rfl rfl rfl ?_
  obtain ⟨g2, H⟩ := H
  refine k_al rfl rfl (fun _ => rfl) rfl rfl g2 (by decide) (mup_ne (by decide)) ?_
  refine k_l rfl rfl rfl ?_
  obtain ⟨g3, H⟩ := H
  exact k_lab H (hM.up hx2) (lvS_cons rfl rfl (lvS_cons rfl rfl (lvS_cons rfl rfl (lvS_cons rfl rfl lvS_nil))))
def B_Mo_patternTypes_216 (d : Nat) (x1 x3 x4 : Int) (σ : Mem) (o : Option Int) (s' : Mem) : Prop := (rg (x4 + 1)) ∧ (Lb (d + 3) yMo_patternTypes 25 [(0, .ref 58), (1, vi x1), (3, vi x3), (4, vi (x4 + 1))] [] σ o s')
theorem K_Mo_patternTypes_216 {d : Nat} {x1 x3 x4 : Int} {σ s' : Mem} {o : Option Int} (hx1 : rg x1) (hx3 : rg x3) (hx4 : rg x4) (H : B_Mo_patternTypes_216 d x1 x3 x4 σ o s') : Lb (d + 3) yMo_patternTypes 216 [(0, .ref 58), (1, vi x1), (3, vi x3), (4, vi x4)] [] σ o s' := by
  intro hM
  unfold B_Mo_patternTypes_216 at H
  refine k_inc rfl rfl (by decide) ?_
  refine k_b rfl rfl rfl rfl ?_
  obtain ⟨g1, H⟩ := H
  exact k_lab H hM (lvS_cons rfl rfl (lvS_cons rfl rfl (lvS_cons rfl rfl (lvS_cons rfl rfl lvS_nil))))
def B_Mo_patternTypes_213 (d : Nat) (x1 x3 x4 t1 t2 : Int) (σ : Mem) (o : Option Int) (s' : Mem) : Prop := ∃ (m1 : Mem), Rn (d + 3) yMo_unify [.ref 58, vi t1, vi t2] σ none m1 ∧ (B_Mo_patternTypes_216 d x1 x3 x4 m1 o s')
theorem K_Mo_patternTypes_213 {d : Nat} {x1 x3 x4 t1 t2 : Int} {σ s' : Mem} {o : Option Int} (hx1 : rg x1) (hx3 : rg x3) (hx4 : rg x4) (ht1 : rg t1) (ht2 : rg t2) (H : B_Mo_patternTypes_213 d x1 x3 x4 t1 t2 σ o s') : Lb (d + 3) yMo_patternTypes 213 [(0, .ref 58), (1, vi x1), (3, vi x3), (4, vi x4)] [vi t2, vi t1, .ref 58] σ o s' := by
  intro hM
  unfold B_Mo_patternTypes_213 at H
  obtain ⟨m1, R1, H⟩ := H
  refine k_iw rfl rfl rfl rfl rfl (by decide) rfl hM R1 (fun hM1 => ?_)
  exact k_lab (K_Mo_patternTypes_216 hx1 hx3 hx4 H) hM1 (lvS_cons rfl rfl (lvS_cons rfl rfl (lvS_cons rfl rfl (lvS_cons rfl rfl lvS_nil))))
def B_Mo_patternTypes_25 (d : Nat) (x1 x3 x4 : Int) (σ : Mem) (o : Option Int) (s' : Mem) : Prop := ((0 : Int) ≤ x1 ∧ x1 < (124 : Int)) ∧ (if x4 ≥ σ 62 x1 then (o = none ∧ s' = σ) else (if σ 58 44 ≠ 0 then (o = none ∧ s' = σ) else (((0 : Int) ≤ x3 + (-1) ∧ x3 + (-1) < (120 : Int)) ∧ (((0 : Int) ≤ σ 58 43 ∧ σ 58 43 < (260 : Int)) ∧ ((rg ((σ 58 43) + 1)) ∧ (((0 : Int) ≤ x4 ∧ x4 < (80 : Int)) ∧ (if σ 66 x4 ≠ 0 then (((0 : Int) ≤ x4 ∧ x4 < (80 : Int)) ∧ (if σ 66 x4 ≠ 1 then (((0 : Int) ≤ x4 ∧ x4 < (80 : Int)) ∧ (if σ 66 x4 ≠ 2 then (((0 : Int) ≤ x4 ∧ x4 < (80 : Int)) ∧ (if σ 66 x4 ≠ 3 then (∃ (v15 : Int) (m15 : Mem), Rn (d + 3) yMo_fresh [.ref 58] (mup (mup σ 85 (σ 58 43) (σ 83 (x3 + (-1)))) 58 43 ((σ 58 43) + 1)) (some v15) m15 ∧ (∃ (v16 : Int) (m16 : Mem), Rn (d + 3) yMo_make [.ref 58, vi 4, vi v15, vi 0] m15 (some v16) m16 ∧ ((rg (x3 + (-1))) ∧ (B_Mo_patternTypes_213 d x1 (x3 + (-1)) x4 (σ 83 (x3 + (-1))) v16 m16 o s')))) else ((rg (x3 + (-1))) ∧ (B_Mo_patternTypes_213 d x1 (x3 + (-1)) x4 (σ 83 (x3 + (-1))) 1 (mup (mup σ 85 (σ 58 43) (σ 83 (x3 + (-1)))) 58 43 ((σ 58 43) + 1)) o s')))) else ((rg (x3 + (-1))) ∧ (B_Mo_patternTypes_213 d x1 (x3 + (-1)) x4 (σ 83 (x3 + (-1))) 0 (mup (mup σ 85 (σ 58 43) (σ 83 (x3 + (-1)))) 58 43 ((σ 58 43) + 1)) o s')))) else (((0 : Int) ≤ x4 ∧ x4 < (80 : Int)) ∧ (if σ 67 x4 ≤ 0 then ((rg (x3 + (-1))) ∧ (B_Mo_patternTypes_216 d x1 (x3 + (-1)) x4 (mup (mup σ 85 (σ 58 43) (σ 83 (x3 + (-1)))) 58 43 ((σ 58 43) + 1)) o s')) else (((0 : Int) ≤ x4 ∧ x4 < (80 : Int)) ∧ (∃ (m24 : Mem), Rn (d + 3) yMo_bind [.ref 58, vi (σ 67 x4), vi (σ 83 (x3 + (-1)))] (mup (mup σ 85 (σ 58 43) (σ 83 (x3 + (-1)))) 58 43 ((σ 58 43) + 1)) none m24 ∧ ((rg (x3 + (-1))) ∧ (B_Mo_patternTypes_216 d x1 (x3 + (-1)) x4 m24 o s')))))))) else (∃ (v26 : Int) (m26 : Mem), Rn (d + 3) yMo_fresh [.ref 58] (mup (mup σ 85 (σ 58 43) (σ 83 (x3 + (-1)))) 58 43 ((σ 58 43) + 1)) (some v26) m26 ∧ (∃ (v27 : Int) (m27 : Mem), Rn (d + 3) yMo_make [.ref 58, vi 4, vi v26, vi 0] m26 (some v27) m27 ∧ (∃ (m28 : Mem), Rn (d + 3) yMo_unify [.ref 58, vi (σ 83 (x3 + (-1))), vi v27] m27 none m28 ∧ (((0 : Int) ≤ x3 + (-1) ∧ x3 + (-1) < (120 : Int)) ∧ (((0 : Int) ≤ (x3 + (-1)) + 1 ∧ (x3 + (-1)) + 1 < (120 : Int)) ∧ ((rg (x3 + (-1) + 2)) ∧ (B_Mo_patternTypes_216 d x1 (x3 + (-1) + 2) x4 (mup (mup m28 83 (x3 + (-1)) v27) 83 ((x3 + (-1)) + 1) v26) o s'))))))))))))))
theorem K_Mo_patternTypes_25 {d : Nat} {x1 x3 x4 : Int} {σ s' : Mem} {o : Option Int} (hx1 : rg x1) (hx3 : rg x3) (hx4 : rg x4) (H : B_Mo_patternTypes_25 d x1 x3 x4 σ o s') : Lb (d + 3) yMo_patternTypes 25 [(0, .ref 58), (1, vi x1), (3, vi x3), (4, vi x4)] [] σ o s' := by
  intro hM
  unfold B_Mo_patternTypes_25 at H
  refine k_l rfl rfl rfl ?_
  refine k_l rfl rfl rfl ?_
  refine k_gr (t := 62) rfl rfl rfl (by decide) rfl ?_
  refine k_l rfl rfl rfl ?_
  obtain ⟨g1, H⟩ := H
  refine k_al rfl rfl (fun _ => rfl) rfl rfl g1 (by decide) rfl ?_
  by_cases c2 : x4 ≥ σ 62 x1
  · rw [if_pos c2] at H
    refine k_c rfl (by decide) hx4 (hM _ _) (q := true) (decide_eq_true c2) rfl ?_
    obtain ⟨rfl, rfl⟩ := H
    exact k_r0 hM rfl rfl rfl
  · rw [if_neg c2] at H
    refine k_c rfl (by decide) hx4 (hM _ _) (q := false) (decide_eq_false c2) rfl ?_
    refine k_l rfl rfl rfl ?_
    refine k_gf rfl rfl rfl (by decide) rfl rfl ?_
    by_cases c3 : σ 58 44 ≠ 0
    · rw [if_pos c3] at H
      refine k_z rfl (by decide) (hM _ _) (q := true) (decide_eq_true c3) rfl ?_
      obtain ⟨rfl, rfl⟩ := H
      exact k_r0 hM rfl rfl rfl
    · rw [if_neg c3] at H
      refine k_z rfl (by decide) (hM _ _) (q := false) (decide_eq_false c3) rfl ?_
      refine k_inc rfl rfl (by decide) ?_
      refine k_l rfl rfl rfl ?_
      refine k_gr (t := 83) rfl rfl rfl (by decide) rfl ?_
      refine k_l rfl rfl rfl ?_
      obtain ⟨g4, H⟩ := H
      refine k_al rfl rfl (fun _ => rfl) rfl rfl g4 (by decide) rfl ?_
      refine k_l rfl rfl rfl ?_
      refine k_l rfl rfl rfl ?_
      refine k_gr (t := 85) rfl rfl rfl (by decide) rfl ?_
      refine k_l rfl rfl rfl ?_
      refine k_gf rfl rfl rfl (by decide) rfl rfl ?_
      refine k_l rfl rfl rfl ?_
      obtain ⟨g5, H⟩ := H
      refine k_as (ok := isI) rfl rfl (fun _ => rfl) rfl rfl g5 (by decide) rfl ?_
      refine k_l rfl rfl rfl ?_
      refine k_p rfl rfl rfl ?_
      refine k_gf rfl rfl rfl (by decide) rfl (mup_ne (by decide)) ?_
      refine k_p rfl rfl rfl ?_
      refine k_add rfl ?_
      obtain ⟨g6, H⟩ := H
      refine k_pf rfl rfl rfl (by decide) rfl rfl rfl rfl ?_
      refine k_l rfl rfl rfl ?_
      refine k_gr (t := 66) rfl rfl rfl (by decide) rfl ?_
      refine k_l rfl rfl rfl ?_
      obtain ⟨g7, H⟩ := H
      refine k_al rfl rfl (fun _ => rfl) rfl rfl g7 (by decide) ((mup_ne (by decide)).trans (mup_ne (by decide))) ?_
      by_cases c8 : σ 66 x4 ≠ 0
      · rw [if_pos c8] at H
        refine k_z rfl (by decide) (hM _ _) (q := true) (decide_eq_true c8) rfl ?_
        refine k_l rfl rfl rfl ?_
        refine k_gr (t := 66) rfl rfl rfl (by decide) rfl ?_
        refine k_l rfl rfl rfl ?_
        obtain ⟨g9, H⟩ := H
        refine k_al rfl rfl (fun _ => rfl) rfl rfl g9 (by decide) ((mup_ne (by decide)).trans (mup_ne (by decide))) ?_
        refine k_p rfl rfl rfl ?_
        by_cases c10 : σ 66 x4 ≠ 1
        · rw [if_pos c10] at H
          refine k_c rfl (by decide) (hM _ _) (rgk rfl) (q := true) (decide_eq_true c10) rfl ?_
          refine k_l rfl rfl rfl ?_
          refine k_l rfl rfl rfl ?_
          refine k_l rfl rfl rfl ?_
          refine k_gr (t := 66) rfl rfl rfl (by decide) rfl ?_
          refine k_l rfl rfl rfl ?_
          obtain ⟨g11, H⟩ := H
          refine k_al rfl rfl (fun _ => rfl) rfl rfl g11 (by decide) ((mup_ne (by decide)).trans (mup_ne (by decide))) ?_
          refine k_p rfl rfl rfl ?_
          by_cases c12 : σ 66 x4 ≠ 2
          · rw [if_pos c12] at H
            refine k_c rfl (by decide) (hM _ _) (rgk rfl) (q := true) (decide_eq_true c12) rfl ?_
            refine k_l rfl rfl rfl ?_
            refine k_gr (t := 66) rfl rfl rfl (by decide) rfl ?_
            refine k_l rfl rfl rfl ?_
            obtain ⟨g13, H⟩ := H
            refine k_al rfl rfl (fun _ => rfl) rfl rfl g13 (by decide) ((mup_ne (by decide)).trans (mup_ne (by decide))) ?_
            refine k_p rfl rfl rfl ?_
            by_cases c14 : σ 66 x4 ≠ 3
            · rw [if_pos c14] at H
              refine k_c rfl (by decide) (hM _ _) (rgk rfl) (q := true) (decide_eq_true c14) rfl ?_
              refine k_l rfl rfl rfl ?_
              refine k_p rfl rfl rfl ?_
              refine k_l rfl rfl rfl ?_
              obtain ⟨v15, m15, R15, H⟩ := H
              refine k_iv rfl rfl rfl rfl rfl (by decide) rfl ((hM.up (hM _ _)).up g6) R15 (fun hM15 hv15 => ?_)
              refine k_p rfl rfl rfl ?_
              obtain ⟨v16, m16, R16, H⟩ := H
              refine k_iv rfl rfl rfl rfl rfl (by decide) rfl hM15 R16 (fun hM16 hv16 => ?_)
              obtain ⟨g17, H⟩ := H
              exact k_lab (K_Mo_patternTypes_213 hx1 g17 hx4 (hM _ _) hv16 H) hM16 (lvS_cons rfl rfl (lvS_cons rfl rfl (lvS_cons rfl rfl (lvS_cons rfl rfl lvS_nil))))
            · rw [if_neg c14] at H
              refine k_c rfl (by decide) (hM _ _) (rgk rfl) (q := false) (decide_eq_false c14) rfl ?_
              refine k_p rfl rfl rfl ?_
              refine k_b rfl rfl rfl rfl ?_
              obtain ⟨g18, H⟩ := H
              exact k_lab (K_Mo_patternTypes_213 hx1 g18 hx4 (hM _ _) (rgk rfl) H) ((hM.up (hM _ _)).up g6) (lvS_cons rfl rfl (lvS_cons rfl rfl (lvS_cons rfl rfl (lvS_cons rfl rfl lvS_nil))))
          · rw [if_neg c12] at H
            refine k_c rfl (by decide) (hM _ _) (rgk rfl) (q := false) (decide_eq_false c12) rfl ?_
            refine k_p rfl rfl rfl ?_
            refine k_b rfl rfl rfl rfl ?_
            obtain ⟨g19, H⟩ := H
            exact k_lab (K_Mo_patternTypes_213 hx1 g19 hx4 (hM _ _) (rgk rfl) H) ((hM.up (hM _ _)).up g6) (lvS_cons rfl rfl (lvS_cons rfl rfl (lvS_cons rfl rfl (lvS_cons rfl rfl lvS_nil))))
        · rw [if_neg c10] at H
          refine k_c rfl (by decide) (hM _ _) (rgk rfl) (q := false) (decide_eq_false c10) rfl ?_
          refine k_l rfl rfl rfl ?_
          refine k_gr (t := 67) rfl rfl rfl (by decide) rfl ?_
          refine k_l rfl rfl rfl ?_
          obtain ⟨g20, H⟩ := H
          refine k_al rfl rfl (fun _ => rfl) rfl rfl g20 (by decide) ((mup_ne (by decide)).trans (mup_ne (by decide))) ?_
          by_cases c21 : σ 67 x4 ≤ 0
          · rw [if_pos c21] at H
            refine k_z rfl (by decide) (hM _ _) (q := true) (decide_eq_true c21) rfl ?_
            obtain ⟨g22, H⟩ := H
            exact k_lab (K_Mo_patternTypes_216 hx1 g22 hx4 H) ((hM.up (hM _ _)).up g6) (lvS_cons rfl rfl (lvS_cons rfl rfl (lvS_cons rfl rfl (lvS_cons rfl rfl lvS_nil))))
          · rw [if_neg c21] at H
            refine k_z rfl (by decide) (hM _ _) (q := false) (decide_eq_false c21) rfl ?_
            refine k_l rfl rfl rfl ?_
            refine k_l rfl rfl rfl ?_
            refine k_gr (t := 67) rfl rfl rfl (by decide) rfl ?_
            refine k_l rfl rfl rfl ?_
            obtain ⟨g23, H⟩ := H
            refine k_al rfl rfl (fun _ => rfl) rfl rfl g23 (by decide) ((mup_ne (by decide)).trans (mup_ne (by decide))) ?_
            refine k_l rfl rfl rfl ?_
            obtain ⟨m24, R24, H⟩ := H
            refine k_iw rfl rfl rfl rfl rfl (by decide) rfl ((hM.up (hM _ _)).up g6) R24 (fun hM24 => ?_)
            refine k_b rfl rfl rfl rfl ?_
            obtain ⟨g25, H⟩ := H
            exact k_lab (K_Mo_patternTypes_216 hx1 g25 hx4 H) hM24 (lvS_cons rfl rfl (lvS_cons rfl rfl (lvS_cons rfl rfl (lvS_cons rfl rfl lvS_nil))))
      · rw [if_neg c8] at H
        refine k_z rfl (by decide) (hM _ _) (q := false) (decide_eq_false c8) rfl ?_
        refine k_l rfl rfl rfl ?_
        obtain ⟨v26, m26, R26, H⟩ := H
        refine k_iv rfl rfl rfl rfl rfl (by decide) rfl ((hM.up (hM _ _)).up g6) R26 (fun hM26 hv26 => ?_)
        refine k_l rfl rfl rfl ?_
        refine k_l rfl rfl rfl ?_
        refine k_p rfl rfl rfl ?_
        refine k_l rfl rfl rfl ?_
        refine k_p rfl rfl rfl ?_
        obtain ⟨v27, m27, R27, H⟩ := H
        refine k_iv rfl rfl rfl rfl rfl (by decide) rfl hM26 R27 (fun hM27 hv27 => ?_)
        refine k_l rfl rfl rfl ?_
        refine k_l rfl rfl rfl ?_
        refine k_l rfl rfl rfl ?_
        refine k_l rfl rfl rfl ?_
        obtain ⟨m28, R28, H⟩ := H
        refine k_iw rfl rfl rfl rfl rfl (by decide) rfl hM27 R28 (fun hM28 => ?_)
        refine k_l rfl rfl rfl ?_
        refine k_gr (t := 83) rfl rfl rfl (by decide) rfl ?_
        refine k_l rfl rfl rfl ?_
        refine k_l rfl rfl rfl ?_
        obtain ⟨g29, H⟩ := H
        refine k_as (ok := isI) rfl rfl (fun _ => rfl) rfl rfl g29 (by decide) rfl ?_
        refine k_l rfl rfl rfl ?_
        refine k_gr (t := 83) rfl rfl rfl (by decide) rfl ?_
        refine k_l rfl rfl rfl ?_
        refine k_p rfl rfl rfl ?_
        refine k_add rfl ?_
        refine k_l rfl rfl rfl ?_
        obtain ⟨g30, H⟩ := H
        refine k_as (ok := isI) rfl rfl (fun _ => rfl) rfl rfl g30 (by decide) rfl ?_
        refine k_inc rfl rfl (by decide) ?_
        refine k_b rfl rfl rfl rfl ?_
        obtain ⟨g31, H⟩ := H
        exact k_lab (K_Mo_patternTypes_216 hx1 g31 hx4 H) ((hM28.up hv27).up hv26) (lvS_cons rfl rfl (lvS_cons rfl rfl (lvS_cons rfl rfl (lvS_cons rfl rfl lvS_nil))))
def B_Mo_applied (d : Nat) (σ : Mem) (o : Option Int) (s' : Mem) : Prop := ∃ (v1 : Int) (m1 : Mem), Rn (d + 3) yMo_pop [.ref 58] σ (some v1) m1 ∧ (∃ (v2 : Int) (m2 : Mem), Rn (d + 3) yMo_fresh [.ref 58] m1 (some v2) m2 ∧ (∃ (v3 : Int) (m3 : Mem), Rn (d + 3) yMo_pop [.ref 58] m2 (some v3) m3 ∧ (∃ (v4 : Int) (m4 : Mem), Rn (d + 3) yMo_make [.ref 58, vi 5, vi v1, vi v2] m3 (some v4) m4 ∧ (∃ (m5 : Mem), Rn (d + 3) yMo_unify [.ref 58, vi v3, vi v4] m4 none m5 ∧ (∃ (m6 : Mem), Rn (d + 3) yMo_push [.ref 58, vi v2] m5 none m6 ∧ (o = none ∧ s' = m6))))))
theorem M_Mo_applied {d : Nat} {σ s' : Mem} {o : Option Int}  (H : B_Mo_applied d  σ o s') : Rn (d + 4) yMo_applied [.ref 58] σ o s' := by
  refine k_m (Nat.le_of_ble_eq_true rfl) (fun hM => ?_)
  unfold B_Mo_applied at H
  refine k_l rfl rfl rfl ?_
  obtain ⟨v1, m1, R1, H⟩ := H
  refine k_iv rfl rfl rfl rfl rfl (by decide) rfl hM R1 (fun hM1 hv1 => ?_)
  refine k_l rfl rfl rfl ?_
  refine k_l rfl rfl rfl ?_
  obtain ⟨v2, m2, R2, H⟩ := H
  refine k_iv rfl rfl rfl rfl rfl (by decide) rfl hM1 R2 (fun hM2 hv2 => ?_)
  refine k_l rfl rfl rfl ?_
  refine k_l rfl rfl rfl ?_
  refine k_l rfl rfl rfl ?_
  obtain ⟨v3, m3, R3, H⟩ := H
  refine k_iv rfl rfl rfl rfl rfl (by decide) rfl hM2 R3 (fun hM3 hv3 => ?_)
  refine k_l rfl rfl rfl ?_
  refine k_p rfl rfl rfl ?_
  refine k_l rfl rfl rfl ?_
  refine k_l rfl rfl rfl ?_
  obtain ⟨v4, m4, R4, H⟩ := H
  refine k_iv rfl rfl rfl rfl rfl (by decide) rfl hM3 R4 (fun hM4 hv4 => ?_)
  obtain ⟨m5, R5, H⟩ := H
  refine k_iw rfl rfl rfl rfl rfl (by decide) rfl hM4 R5 (fun hM5 => ?_)
  refine k_l rfl rfl rfl ?_
  refine k_l rfl rfl rfl ?_
  obtain ⟨m6, R6, H⟩ := H
  refine k_iw rfl rfl rfl rfl rfl (by decide) rfl hM5 R6 (fun hM6 => ?_)
  obtain ⟨rfl, rfl⟩ := H
  exact k_r0 hM6 rfl rfl rfl
def B_Mo_typeOf_239 (d : Nat) (t1 t2 : Int) (σ : Mem) (o : Option Int) (s' : Mem) : Prop := (rg (t1 - t2)) ∧ (o = none ∧ s' = mup σ 58 30 (t1 - t2))
theorem K_Mo_typeOf_239 {d : Nat} {t1 t2 : Int} {σ s' : Mem} {o : Option Int} (ht1 : rg t1) (ht2 : rg t2) (H : B_Mo_typeOf_239 d t1 t2 σ o s') : Lb (d + 3) yMo_typeOf 239 [] [vi t2, vi t1, .ref 58] σ o s' := by
  intro hM
  unfold B_Mo_typeOf_239 at H
  refine k_sub rfl ?_
  obtain ⟨g1, H⟩ := H
  refine k_pf rfl rfl rfl (by decide) rfl rfl rfl rfl ?_
  obtain ⟨rfl, rfl⟩ := H
  exact k_r0 (hM.up g1) rfl rfl rfl
def B_Mo_typeOf_213 (d : Nat) (x2 x3 : Int) (σ : Mem) (o : Option Int) (s' : Mem) : Prop := if x2 ≠ 7 then (if x2 ≠ 12 then (B_Mo_typeOf_239 d (σ 58 30) 0 σ o s') else (B_Mo_typeOf_239 d (σ 58 30) x3 σ o s')) else (B_Mo_typeOf_239 d (σ 58 30) 1 σ o s')
theorem K_Mo_typeOf_213 {d : Nat} {x2 x3 : Int} {σ s' : Mem} {o : Option Int} (hx2 : rg x2) (hx3 : rg x3) (H : B_Mo_typeOf_213 d x2 x3 σ o s') : Lb (d + 3) yMo_typeOf 213 [(0, .ref 58), (2, vi x2), (3, vi x3)] [] σ o s' := by
  intro hM
  unfold B_Mo_typeOf_213 at H
  refine k_l rfl rfl rfl ?_
  refine k_p rfl rfl rfl ?_
  refine k_gf rfl rfl rfl (by decide) rfl rfl ?_
  refine k_l rfl rfl rfl ?_
  refine k_k (x := 7) rfl rfl rfl rfl ?_
  by_cases c1 : x2 ≠ 7
  · rw [if_pos c1] at H
    refine k_c rfl (by decide) hx2 (rgk rfl) (q := true) (decide_eq_true c1) rfl ?_
    refine k_l rfl rfl rfl ?_
    refine k_k (x := 12) rfl rfl rfl rfl ?_
    by_cases c2 : x2 ≠ 12
    · rw [if_pos c2] at H
      refine k_c rfl (by decide) hx2 (rgk rfl) (q := true) (decide_eq_true c2) rfl ?_
      refine k_p rfl rfl rfl ?_
      exact k_lab (K_Mo_typeOf_239 (hM _ _) (rgk rfl) H) hM lvS_nil
    · rw [if_neg c2] at H
      refine k_c rfl (by decide) hx2 (rgk rfl) (q := false) (decide_eq_false c2) rfl ?_
      refine k_l rfl rfl rfl ?_
      refine k_b rfl rfl rfl rfl ?_
      exact k_lab (K_Mo_typeOf_239 (hM _ _) hx3 H) hM lvS_nil
  · rw [if_neg c1] at H
    refine k_c rfl (by decide) hx2 (rgk rfl) (q := false) (decide_eq_false c1) rfl ?_
    refine k_p rfl rfl rfl ?_
    refine k_b rfl rfl rfl rfl ?_
    exact k_lab (K_Mo_typeOf_239 (hM _ _) (rgk rfl) H) hM lvS_nil
def B_Mo_typeOf_135 (d : Nat) (x2 x3 t1 : Int) (σ : Mem) (o : Option Int) (s' : Mem) : Prop := ∃ (m1 : Mem), Rn (d + 3) yMo_push [.ref 58, vi t1] σ none m1 ∧ (B_Mo_typeOf_213 d x2 x3 m1 o s')
theorem K_Mo_typeOf_135 {d : Nat} {x2 x3 t1 : Int} {σ s' : Mem} {o : Option Int} (hx2 : rg x2) (hx3 : rg x3) (ht1 : rg t1) (H : B_Mo_typeOf_135 d x2 x3 t1 σ o s') : Lb (d + 3) yMo_typeOf 135 [(0, .ref 58), (2, vi x2), (3, vi x3)] [vi t1, .ref 58] σ o s' := by
  intro hM
  unfold B_Mo_typeOf_135 at H
  obtain ⟨m1, R1, H⟩ := H
  refine k_iw rfl rfl rfl rfl rfl (by decide) rfl hM R1 (fun hM1 => ?_)
  refine k_b rfl rfl rfl rfl ?_
  exact k_lab (K_Mo_typeOf_213 hx2 hx3 H) hM1 (lvS_cons rfl rfl (lvS_cons rfl rfl (lvS_cons rfl rfl lvS_nil)))
def B_Mo_typeOf_89 (d : Nat) (x2 x3 t2 t3 t4 : Int) (σ : Mem) (o : Option Int) (s' : Mem) : Prop := ∃ (v1 : Int) (m1 : Mem), Rn (d + 3) yMo_make [.ref 58, vi t2, vi t3, vi t4] σ (some v1) m1 ∧ (∃ (m2 : Mem), Rn (d + 3) yMo_push [.ref 58, vi v1] m1 none m2 ∧ (B_Mo_typeOf_213 d x2 x3 m2 o s'))
theorem K_Mo_typeOf_89 {d : Nat} {x2 x3 t2 t3 t4 : Int} {σ s' : Mem} {o : Option Int} (hx2 : rg x2) (hx3 : rg x3) (ht2 : rg t2) (ht3 : rg t3) (ht4 : rg t4) (H : B_Mo_typeOf_89 d x2 x3 t2 t3 t4 σ o s') : Lb (d + 3) yMo_typeOf 89 [(0, .ref 58), (2, vi x2), (3, vi x3)] [vi t4, vi t3, vi t2, .ref 58, .ref 58] σ o s' := by
  intro hM
  unfold B_Mo_typeOf_89 at H
  obtain ⟨v1, m1, R1, H⟩ := H
  refine k_iv rfl rfl rfl rfl rfl (by decide) rfl hM R1 (fun hM1 hv1 => ?_)
  obtain ⟨m2, R2, H⟩ := H
  refine k_iw rfl rfl rfl rfl rfl (by decide) rfl hM1 R2 (fun hM2 => ?_)
  refine k_b rfl rfl rfl rfl ?_
  exact k_lab (K_Mo_typeOf_213 hx2 hx3 H) hM2 (lvS_cons rfl rfl (lvS_cons rfl rfl (lvS_cons rfl rfl lvS_nil)))
def B_Mo_typeOf_78 (d : Nat) (x2 x3 t2 t3 : Int) (σ : Mem) (o : Option Int) (s' : Mem) : Prop := if x3 ≠ 82 then (B_Mo_typeOf_89 d x2 x3 t2 t3 0 σ o s') else (B_Mo_typeOf_89 d x2 x3 t2 t3 2 σ o s')
theorem K_Mo_typeOf_78 {d : Nat} {x2 x3 t2 t3 : Int} {σ s' : Mem} {o : Option Int} (hx2 : rg x2) (hx3 : rg x3) (ht2 : rg t2) (ht3 : rg t3) (H : B_Mo_typeOf_78 d x2 x3 t2 t3 σ o s') : Lb (d + 3) yMo_typeOf 78 [(0, .ref 58), (2, vi x2), (3, vi x3)] [vi t3, vi t2, .ref 58, .ref 58] σ o s' := by
  intro hM
  unfold B_Mo_typeOf_78 at H
  refine k_l rfl rfl rfl ?_
  refine k_k (x := 82) rfl rfl rfl rfl ?_
  by_cases c1 : x3 ≠ 82
  · rw [if_pos c1] at H
    refine k_c rfl (by decide) hx3 (rgk rfl) (q := true) (decide_eq_true c1) rfl ?_
    refine k_p rfl rfl rfl ?_
    exact k_lab (K_Mo_typeOf_89 hx2 hx3 ht2 ht3 (rgk rfl) H) hM (lvS_cons rfl rfl (lvS_cons rfl rfl (lvS_cons rfl rfl lvS_nil)))
  · rw [if_neg c1] at H
    refine k_c rfl (by decide) hx3 (rgk rfl) (q := false) (decide_eq_false c1) rfl ?_
    refine k_p rfl rfl rfl ?_
    refine k_b rfl rfl rfl rfl ?_
    exact k_lab (K_Mo_typeOf_89 hx2 hx3 ht2 ht3 (rgk rfl) H) hM (lvS_cons rfl rfl (lvS_cons rfl rfl (lvS_cons rfl rfl lvS_nil)))
def B_Mo_typeOf (d : Nat) (x1 : Int) (σ : Mem) (o : Option Int) (s' : Mem) : Prop := ((0 : Int) ≤ x1 ∧ x1 < (124 : Int)) ∧ (((0 : Int) ≤ x1 ∧ x1 < (124 : Int)) ∧ (if σ 60 x1 ≥ 3 then (if σ 60 x1 ≠ 3 then (if σ 60 x1 ≠ 4 then (if σ 60 x1 ≠ 5 then (if σ 60 x1 ≠ 7 then (if σ 60 x1 ≠ 8 then (if σ 60 x1 ≠ 9 then (if σ 60 x1 = 12 then (B_Mo_typeOf_213 d (σ 60 x1) (σ 61 x1) σ o s') else (∃ (m11 : Mem), Rn (d + 3) yMo_bindingType [.ref 58, vi x1, vi (σ 60 x1)] σ none m11 ∧ (B_Mo_typeOf_213 d (σ 60 x1) (σ 61 x1) m11 o s'))) else (∃ (m12 : Mem), Rn (d + 3) yMo_operation [.ref 58, vi (σ 61 x1)] σ none m12 ∧ (B_Mo_typeOf_213 d (σ 60 x1) (σ 61 x1) m12 o s'))) else (∃ (m13 : Mem), Rn (d + 3) yMo_applied [.ref 58] σ none m13 ∧ (B_Mo_typeOf_213 d (σ 60 x1) (σ 61 x1) m13 o s'))) else (((0 : Int) ≤ (σ 58 30) - 1 ∧ (σ 58 30) - 1 < (64 : Int)) ∧ (∃ (v15 : Int) (m15 : Mem), Rn (d + 3) yMo_pop [.ref 58] σ (some v15) m15 ∧ (∃ (v16 : Int) (m16 : Mem), Rn (d + 3) yMo_make [.ref 58, vi 5, vi (σ 77 ((σ 58 30) - 1)), vi v15] m15 (some v16) m16 ∧ (∃ (m17 : Mem), Rn (d + 3) yMo_push [.ref 58, vi v16] m16 none m17 ∧ (B_Mo_typeOf_213 d (σ 60 x1) (σ 61 x1) m17 o s')))))) else (((0 : Int) ≤ ((σ 58 30) - 1) - (σ 61 x1) ∧ ((σ 58 30) - 1) - (σ 61 x1) < (64 : Int)) ∧ (if σ 78 (((σ 58 30) - 1) - (σ 61 x1)) = 0 then (((0 : Int) ≤ ((σ 58 30) - 1) - (σ 61 x1) ∧ ((σ 58 30) - 1) - (σ 61 x1) < (64 : Int)) ∧ (B_Mo_typeOf_135 d (σ 60 x1) (σ 61 x1) (σ 77 (((σ 58 30) - 1) - (σ 61 x1))) σ o s')) else (((0 : Int) ≤ ((σ 58 30) - 1) - (σ 61 x1) ∧ ((σ 58 30) - 1) - (σ 61 x1) < (64 : Int)) ∧ (∃ (v22 : Int) (m22 : Mem), Rn (d + 3) yMo_instance [.ref 58, vi (σ 77 (((σ 58 30) - 1) - (σ 61 x1)))] σ (some v22) m22 ∧ (B_Mo_typeOf_135 d (σ 60 x1) (σ 61 x1) v22 m22 o s')))))) else (if σ 61 x1 ≠ 82 then (B_Mo_typeOf_78 d (σ 60 x1) (σ 61 x1) 5 2 σ o s') else (B_Mo_typeOf_78 d (σ 60 x1) (σ 61 x1) 5 0 σ o s'))) else (∃ (v24 : Int) (m24 : Mem), Rn (d + 3) yMo_fresh [.ref 58] σ (some v24) m24 ∧ (∃ (v25 : Int) (m25 : Mem), Rn (d + 3) yMo_make [.ref 58, vi 4, vi v24, vi 0] m24 (some v25) m25 ∧ (∃ (m26 : Mem), Rn (d + 3) yMo_push [.ref 58, vi v25] m25 none m26 ∧ (B_Mo_typeOf_213 d (σ 60 x1) (σ 61 x1) m26 o s'))))) else (∃ (m27 : Mem), Rn (d + 3) yMo_push [.ref 58, vi (σ 60 x1)] σ none m27 ∧ (B_Mo_typeOf_213 d (σ 60 x1) (σ 61 x1) m27 o s'))))
theorem M_Mo_typeOf {d : Nat} {x1 : Int} {σ s' : Mem} {o : Option Int} (hx1 : rg x1) (H : B_Mo_typeOf d x1 σ o s') : Rn (d + 4) yMo_typeOf [.ref 58, vi x1] σ o s' := by
  refine k_m (Nat.le_of_ble_eq_true rfl) (fun hM => ?_)
  unfold B_Mo_typeOf at H
  refine k_l rfl rfl rfl ?_
  refine k_gr (t := 60) rfl rfl rfl (by decide) rfl ?_
  refine k_l rfl rfl rfl ?_
  obtain ⟨g1, H⟩ := H
  refine k_al rfl rfl (fun _ => rfl) rfl rfl g1 (by decide) rfl ?_
  refine k_l rfl rfl rfl ?_
  refine k_l rfl rfl rfl ?_
  refine k_gr (t := 61) rfl rfl rfl (by decide) rfl ?_
  refine k_l rfl rfl rfl ?_
  obtain ⟨g2, H⟩ := H
  refine k_al rfl rfl (fun _ => rfl) rfl rfl g2 (by decide) rfl ?_
  refine k_l rfl rfl rfl ?_
  refine k_l rfl rfl rfl ?_
  refine k_gf rfl rfl rfl (by decide) rfl rfl ?_
  refine k_p rfl rfl rfl ?_
  refine k_sub rfl ?_
  refine k_l rfl rfl rfl ?_
  refine k_sub rfl ?_
  refine k_l rfl rfl rfl ?_
  refine k_l rfl rfl rfl ?_
  refine k_p rfl rfl rfl ?_
  by_cases c3 : σ 60 x1 ≥ 3
  · rw [if_pos c3] at H
    refine k_c rfl (by decide) (hM _ _) (rgk rfl) (q := true) (decide_eq_true c3) rfl ?_
    refine k_l rfl rfl rfl ?_
    refine k_p rfl rfl rfl ?_
    by_cases c4 : σ 60 x1 ≠ 3
    · rw [if_pos c4] at H
      refine k_c rfl (by decide) (hM _ _) (rgk rfl) (q := true) (decide_eq_true c4) rfl ?_
      refine k_l rfl rfl rfl ?_
      refine k_p rfl rfl rfl ?_
      by_cases c5 : σ 60 x1 ≠ 4
      · rw [if_pos c5] at H
        refine k_c rfl (by decide) (hM _ _) (rgk rfl) (q := true) (decide_eq_true c5) rfl ?_
        refine k_l rfl rfl rfl ?_
        refine k_p rfl rfl rfl ?_
        by_cases c6 : σ 60 x1 ≠ 5
        · rw [if_pos c6] at H
          refine k_c rfl (by decide) (hM _ _) (rgk rfl) (q := true) (decide_eq_true c6) rfl ?_
          refine k_l rfl rfl rfl ?_
          refine k_k (x := 7) rfl rfl rfl rfl ?_
          by_cases c7 : σ 60 x1 ≠ 7
          · rw [if_pos c7] at H
            refine k_c rfl (by decide) (hM _ _) (rgk rfl) (q := true) (decide_eq_true c7) rfl ?_
            refine k_l rfl rfl rfl ?_
            refine k_k (x := 8) rfl rfl rfl rfl ?_
            by_cases c8 : σ 60 x1 ≠ 8
            · rw [if_pos c8] at H
              refine k_c rfl (by decide) (hM _ _) (rgk rfl) (q := true) (decide_eq_true c8) rfl ?_
              refine k_l rfl rfl rfl ?_
              refine k_k (x := 9) rfl rfl rfl rfl ?_
              by_cases c9 : σ 60 x1 ≠ 9
              · rw [if_pos c9] at H
                refine k_c rfl (by decide) (hM _ _) (rgk rfl) (q := true) (decide_eq_true c9) rfl ?_
                refine k_l rfl rfl rfl ?_
                refine k_k (x := 12) rfl rfl rfl rfl ?_
                by_cases c10 : σ 60 x1 = 12
                · rw [if_pos c10] at H
                  refine k_c rfl (by decide) (hM _ _) (rgk rfl) (q := true) (decide_eq_true c10) rfl ?_
                  exact k_lab (K_Mo_typeOf_213 (hM _ _) (hM _ _) H) hM (lvS_cons rfl rfl (lvS_cons rfl rfl (lvS_cons rfl rfl lvS_nil)))
                · rw [if_neg c10] at H
                  refine k_c rfl (by decide) (hM _ _) (rgk rfl) (q := false) (decide_eq_false c10) rfl ?_
                  refine k_l rfl rfl rfl ?_
                  refine k_l rfl rfl rfl ?_
                  refine k_l rfl rfl rfl ?_
                  obtain ⟨m11, R11, H⟩ := H
                  refine k_iw rfl rfl rfl rfl rfl (by decide) rfl hM R11 (fun hM11 => ?_)
                  exact k_lab (K_Mo_typeOf_213 (hM _ _) (hM _ _) H) hM11 (lvS_cons rfl rfl (lvS_cons rfl rfl (lvS_cons rfl rfl lvS_nil)))
              · rw [if_neg c9] at H
                refine k_c rfl (by decide) (hM _ _) (rgk rfl) (q := false) (decide_eq_false c9) rfl ?_
                refine k_l rfl rfl rfl ?_
                refine k_l rfl rfl rfl ?_
                obtain ⟨m12, R12, H⟩ := H
                refine k_iw rfl rfl rfl rfl rfl (by decide) rfl hM R12 (fun hM12 => ?_)
                refine k_b rfl rfl rfl rfl ?_
                exact k_lab (K_Mo_typeOf_213 (hM _ _) (hM _ _) H) hM12 (lvS_cons rfl rfl (lvS_cons rfl rfl (lvS_cons rfl rfl lvS_nil)))
            · rw [if_neg c8] at H
              refine k_c rfl (by decide) (hM _ _) (rgk rfl) (q := false) (decide_eq_false c8) rfl ?_
              refine k_l rfl rfl rfl ?_
              obtain ⟨m13, R13, H⟩ := H
              refine k_iw rfl rfl rfl rfl rfl (by decide) rfl hM R13 (fun hM13 => ?_)
              refine k_b rfl rfl rfl rfl ?_
              exact k_lab (K_Mo_typeOf_213 (hM _ _) (hM _ _) H) hM13 (lvS_cons rfl rfl (lvS_cons rfl rfl (lvS_cons rfl rfl lvS_nil)))
          · rw [if_neg c7] at H
            refine k_c rfl (by decide) (hM _ _) (rgk rfl) (q := false) (decide_eq_false c7) rfl ?_
            refine k_l rfl rfl rfl ?_
            refine k_l rfl rfl rfl ?_
            refine k_p rfl rfl rfl ?_
            refine k_l rfl rfl rfl ?_
            refine k_gr (t := 77) rfl rfl rfl (by decide) rfl ?_
            refine k_l rfl rfl rfl ?_
            refine k_gf rfl rfl rfl (by decide) rfl rfl ?_
            refine k_p rfl rfl rfl ?_
            refine k_sub rfl ?_
            obtain ⟨g14, H⟩ := H
            refine k_al rfl rfl (fun _ => rfl) rfl rfl g14 (by decide) rfl ?_
            refine k_l rfl rfl rfl ?_
            obtain ⟨v15, m15, R15, H⟩ := H
            refine k_iv rfl rfl rfl rfl rfl (by decide) rfl hM R15 (fun hM15 hv15 => ?_)
            obtain ⟨v16, m16, R16, H⟩ := H
            refine k_iv rfl rfl rfl rfl rfl (by decide) rfl hM15 R16 (fun hM16 hv16 => ?_)
            obtain ⟨m17, R17, H⟩ := H
            refine k_iw rfl rfl rfl rfl rfl (by decide) rfl hM16 R17 (fun hM17 => ?_)
            refine k_b rfl rfl rfl rfl ?_
            exact k_lab (K_Mo_typeOf_213 (hM _ _) (hM _ _) H) hM17 (lvS_cons rfl rfl (lvS_cons rfl rfl (lvS_cons rfl rfl lvS_nil)))
        · rw [if_neg c6] at H
          refine k_c rfl (by decide) (hM _ _) (rgk rfl) (q := false) (decide_eq_false c6) rfl ?_
          refine k_l rfl rfl rfl ?_
          refine k_l rfl rfl rfl ?_
          refine k_gr (t := 78) rfl rfl rfl (by decide) rfl ?_
          refine k_l rfl rfl rfl ?_
          obtain ⟨g18, H⟩ := H
          refine k_al rfl rfl (fun _ => rfl) rfl rfl g18 (by decide) rfl ?_
          by_cases c19 : σ 78 (((σ 58 30) - 1) - (σ 61 x1)) = 0
          · rw [if_pos c19] at H
            refine k_z rfl (by decide) (hM _ _) (q := true) (decide_eq_true c19) rfl ?_
            refine k_l rfl rfl rfl ?_
            refine k_gr (t := 77) rfl rfl rfl (by decide) rfl ?_
            refine k_l rfl rfl rfl ?_
            obtain ⟨g20, H⟩ := H
            refine k_al rfl rfl (fun _ => rfl) rfl rfl g20 (by decide) rfl ?_
            exact k_lab (K_Mo_typeOf_135 (hM _ _) (hM _ _) (hM _ _) H) hM (lvS_cons rfl rfl (lvS_cons rfl rfl (lvS_cons rfl rfl lvS_nil)))
          · rw [if_neg c19] at H
            refine k_z rfl (by decide) (hM _ _) (q := false) (decide_eq_false c19) rfl ?_
            refine k_l rfl rfl rfl ?_
            refine k_l rfl rfl rfl ?_
            refine k_gr (t := 77) rfl rfl rfl (by decide) rfl ?_
            refine k_l rfl rfl rfl ?_
            obtain ⟨g21, H⟩ := H
            refine k_al rfl rfl (fun _ => rfl) rfl rfl g21 (by decide) rfl ?_
            obtain ⟨v22, m22, R22, H⟩ := H
            refine k_iv rfl rfl rfl rfl rfl (by decide) rfl hM R22 (fun hM22 hv22 => ?_)
            refine k_b rfl rfl rfl rfl ?_
            exact k_lab (K_Mo_typeOf_135 (hM _ _) (hM _ _) hv22 H) hM22 (lvS_cons rfl rfl (lvS_cons rfl rfl (lvS_cons rfl rfl lvS_nil)))
      · rw [if_neg c5] at H
        refine k_c rfl (by decide) (hM _ _) (rgk rfl) (q := false) (decide_eq_false c5) rfl ?_
        refine k_l rfl rfl rfl ?_
        refine k_l rfl rfl rfl ?_
        refine k_p rfl rfl rfl ?_
        refine k_l rfl rfl rfl ?_
        refine k_k (x := 82) rfl rfl rfl rfl ?_
        by_cases c23 : σ 61 x1 ≠ 82
        · rw [if_pos c23] at H
          refine k_c rfl (by decide) (hM _ _) (rgk rfl) (q := true) (decide_eq_true c23) rfl ?_
          refine k_p rfl rfl rfl ?_
          exact k_lab (K_Mo_typeOf_78 (hM _ _) (hM _ _) (rgk rfl) (rgk rfl) H) hM (lvS_cons rfl rfl (lvS_cons rfl rfl (lvS_cons rfl rfl lvS_nil)))
        · rw [if_neg c23] at H
          refine k_c rfl (by decide) (hM _ _) (rgk rfl) (q := false) (decide_eq_false c23) rfl ?_
          refine k_p rfl rfl rfl ?_
          refine k_b rfl rfl rfl rfl ?_
          exact k_lab (K_Mo_typeOf_78 (hM _ _) (hM _ _) (rgk rfl) (rgk rfl) H) hM (lvS_cons rfl rfl (lvS_cons rfl rfl (lvS_cons rfl rfl lvS_nil)))
    · rw [if_neg c4] at H
      refine k_c rfl (by decide) (hM _ _) (rgk rfl) (q := false) (decide_eq_false c4) rfl ?_
      refine k_l rfl rfl rfl ?_
      refine k_l rfl rfl rfl ?_
      refine k_p rfl rfl rfl ?_
      refine k_l rfl rfl rfl ?_
      obtain ⟨v24, m24, R24, H⟩ := H
      refine k_iv rfl rfl rfl rfl rfl (by decide) rfl hM R24 (fun hM24 hv24 => ?_)
      refine k_p rfl rfl rfl ?_
      obtain ⟨v25, m25, R25, H⟩ := H
      refine k_iv rfl rfl rfl rfl rfl (by decide) rfl hM24 R25 (fun hM25 hv25 => ?_)
      obtain ⟨m26, R26, H⟩ := H
      refine k_iw rfl rfl rfl rfl rfl (by decide) rfl hM25 R26 (fun hM26 => ?_)
      refine k_b rfl rfl rfl rfl ?_
      exact k_lab (K_Mo_typeOf_213 (hM _ _) (hM _ _) H) hM26 (lvS_cons rfl rfl (lvS_cons rfl rfl (lvS_cons rfl rfl lvS_nil)))
  · rw [if_neg c3] at H
    refine k_c rfl (by decide) (hM _ _) (rgk rfl) (q := false) (decide_eq_false c3) rfl ?_
    refine k_l rfl rfl rfl ?_
    refine k_l rfl rfl rfl ?_
    obtain ⟨m27, R27, H⟩ := H
    refine k_iw rfl rfl rfl rfl rfl (by decide) rfl hM R27 (fun hM27 => ?_)
    refine k_b rfl rfl rfl rfl ?_
    exact k_lab (K_Mo_typeOf_213 (hM _ _) (hM _ _) H) hM27 (lvS_cons rfl rfl (lvS_cons rfl rfl (lvS_cons rfl rfl lvS_nil)))
def B_Mo_bindingType_12 (d : Nat) (x1 : Int) (σ : Mem) (o : Option Int) (s' : Mem) : Prop := ((0 : Int) ≤ x1 ∧ x1 < (124 : Int)) ∧ (∃ (v2 : Int) (m2 : Mem), Rn (d + 3) yMo_fresh [.ref 58] σ (some v2) m2 ∧ (∃ (m3 : Mem), Rn (d + 3) yMo_bind [.ref 58, vi (σ 62 x1), vi v2] m2 none m3 ∧ (o = none ∧ s' = m3)))
theorem K_Mo_bindingType_12 {d : Nat} {x1 : Int} {σ s' : Mem} {o : Option Int} (hx1 : rg x1) (H : B_Mo_bindingType_12 d x1 σ o s') : Lb (d + 3) yMo_bindingType 12 [(0, .ref 58), (1, vi x1)] [] σ o s' := by
  intro hM
  unfold B_Mo_bindingType_12 at H
  refine k_l rfl rfl rfl ?_
  refine k_l rfl rfl rfl ?_
  refine k_gr (t := 62) rfl rfl rfl (by decide) rfl ?_
  refine k_l rfl rfl rfl ?_
  obtain ⟨g1, H⟩ := H
  refine k_al rfl rfl (fun _ => rfl) rfl rfl g1 (by decide) rfl ?_
  refine k_l rfl rfl rfl ?_
  obtain ⟨v2, m2, R2, H⟩ := H
  refine k_iv rfl rfl rfl rfl rfl (by decide) rfl hM R2 (fun hM2 hv2 => ?_)
  obtain ⟨m3, R3, H⟩ := H
  refine k_iw rfl rfl rfl rfl rfl (by decide) rfl hM2 R3 (fun hM3 => ?_)
  refine k_b rfl rfl rfl rfl ?_
  obtain ⟨rfl, rfl⟩ := H
  exact k_r0 hM3 rfl rfl rfl
def B_Mo_bindingType_147 (d : Nat) (x3 : Int) (σ : Mem) (o : Option Int) (s' : Mem) : Prop := ((0 : Int) ≤ σ 58 41 ∧ σ 58 41 < (60 : Int)) ∧ (∃ (v2 : Int) (m2 : Mem), Rn (d + 3) yMo_fresh [.ref 58] (mup σ 84 (σ 58 41) x3) (some v2) m2 ∧ (((0 : Int) ≤ (σ 58 41) + 1 ∧ (σ 58 41) + 1 < (60 : Int)) ∧ ((rg ((m2 58 41) + 2)) ∧ (o = none ∧ s' = mup (mup m2 84 ((σ 58 41) + 1) v2) 58 41 ((m2 58 41) + 2)))))
theorem K_Mo_bindingType_147 {d : Nat} {x3 : Int} {σ s' : Mem} {o : Option Int} (hx3 : rg x3) (H : B_Mo_bindingType_147 d x3 σ o s') : Lb (d + 3) yMo_bindingType 147 [(0, .ref 58), (3, vi x3)] [] σ o s' := by
  intro hM
  unfold B_Mo_bindingType_147 at H
  refine k_l rfl rfl rfl ?_
  refine k_gr (t := 84) rfl rfl rfl (by decide) rfl ?_
  refine k_l rfl rfl rfl ?_
  refine k_gf rfl rfl rfl (by decide) rfl rfl ?_
  refine k_l rfl rfl rfl ?_
  obtain ⟨g1, H⟩ := H
  refine k_as (ok := isI) rfl rfl (fun _ => rfl) rfl rfl g1 (by decide) rfl ?_
  refine k_l rfl rfl rfl ?_
  refine k_gr (t := 84) rfl rfl rfl (by decide) rfl ?_
  refine k_l rfl rfl rfl ?_
  refine k_gf rfl rfl rfl (by decide) rfl (mup_ne (by decide)) ?_
  refine k_p rfl rfl rfl ?_
  refine k_add rfl ?_
  refine k_l rfl rfl rfl ?_
  obtain ⟨v2, m2, R2, H⟩ := H
  refine k_iv rfl rfl rfl rfl rfl (by decide) rfl (hM.up hx3) R2 (fun hM2 hv2 => ?_)
  obtain ⟨g3, H⟩ := H
  refine k_as (ok := isI) rfl rfl (fun _ => rfl) rfl rfl g3 (by decide) rfl ?_
  refine k_l rfl rfl rfl ?_
  refine k_p rfl rfl rfl ?_
  refine k_gf rfl rfl rfl (by decide) rfl (mup_ne (by decide)) ?_
  refine k_p rfl rfl rfl ?_
  refine k_add rfl ?_
  obtain ⟨g4, H⟩ := H
  refine k_pf rfl rfl rfl (by decide) rfl rfl rfl rfl ?_
  refine k_b rfl rfl rfl rfl ?_
  obtain ⟨rfl, rfl⟩ := H
  exact k_r0 ((hM2.up hv2).up g4) rfl rfl rfl
def B_Mo_bindingType_130 (d : Nat) (x2 : Int) (σ : Mem) (o : Option Int) (s' : Mem) : Prop := ∃ (v1 : Int) (m1 : Mem), Rn (d + 3) yMo_pop [.ref 58] σ (some v1) m1 ∧ (if x2 ≠ 13 then (B_Mo_bindingType_147 d v1 m1 o s') else (∃ (m3 : Mem), Rn (d + 3) yMo_unify [.ref 58, vi v1, vi 1] m1 none m3 ∧ (B_Mo_bindingType_147 d v1 m3 o s')))
theorem K_Mo_bindingType_130 {d : Nat} {x2 : Int} {σ s' : Mem} {o : Option Int} (hx2 : rg x2) (H : B_Mo_bindingType_130 d x2 σ o s') : Lb (d + 3) yMo_bindingType 130 [(0, .ref 58), (2, vi x2)] [] σ o s' := by
  intro hM
  unfold B_Mo_bindingType_130 at H
  refine k_l rfl rfl rfl ?_
  obtain ⟨v1, m1, R1, H⟩ := H
  refine k_iv rfl rfl rfl rfl rfl (by decide) rfl hM R1 (fun hM1 hv1 => ?_)
  refine k_l rfl rfl rfl ?_
  refine k_l rfl rfl rfl ?_
  refine k_k (x := 13) rfl rfl rfl rfl ?_
  by_cases c2 : x2 ≠ 13
  · rw [if_pos c2] at H
    refine k_c rfl (by decide) hx2 (rgk rfl) (q := true) (decide_eq_true c2) rfl ?_
    exact k_lab (K_Mo_bindingType_147 hv1 H) hM1 (lvS_cons rfl rfl (lvS_cons rfl rfl lvS_nil))
  · rw [if_neg c2] at H
    refine k_c rfl (by decide) hx2 (rgk rfl) (q := false) (decide_eq_false c2) rfl ?_
    refine k_l rfl rfl rfl ?_
    refine k_l rfl rfl rfl ?_
    refine k_p rfl rfl rfl ?_
    obtain ⟨m3, R3, H⟩ := H
    refine k_iw rfl rfl rfl rfl rfl (by decide) rfl hM1 R3 (fun hM3 => ?_)
    exact k_lab (K_Mo_bindingType_147 hv1 H) hM3 (lvS_cons rfl rfl (lvS_cons rfl rfl lvS_nil))
def B_Mo_bindingType_263 (d : Nat) (σ : Mem) (o : Option Int) (s' : Mem) : Prop := ((0 : Int) ≤ (σ 58 41) - 1 ∧ (σ 58 41) - 1 < (60 : Int)) ∧ (∃ (m2 : Mem), Rn (d + 3) yMo_push [.ref 58, vi (σ 84 ((σ 58 41) - 1))] σ none m2 ∧ ((rg ((m2 58 41) - 2)) ∧ (o = none ∧ s' = mup m2 58 41 ((m2 58 41) - 2))))
theorem K_Mo_bindingType_263 {d : Nat} {σ s' : Mem} {o : Option Int}  (H : B_Mo_bindingType_263 d  σ o s') : Lb (d + 3) yMo_bindingType 263 [(0, .ref 58)] [] σ o s' := by
  intro hM
  unfold B_Mo_bindingType_263 at H
  refine k_l rfl rfl rfl ?_
  refine k_l rfl rfl rfl ?_
  refine k_gr (t := 84) rfl rfl rfl (by decide) rfl ?_
  refine k_l rfl rfl rfl ?_
  refine k_gf rfl rfl rfl (by decide) rfl rfl ?_
  refine k_p rfl rfl rfl ?_
  refine k_sub rfl ?_
  obtain ⟨g1, H⟩ := H
  refine k_al rfl rfl (fun _ => rfl) rfl rfl g1 (by decide) rfl ?_
  obtain ⟨m2, R2, H⟩ := H
  refine k_iw rfl rfl rfl rfl rfl (by decide) rfl hM R2 (fun hM2 => ?_)
  refine k_l rfl rfl rfl ?_
  refine k_p rfl rfl rfl ?_
  refine k_gf rfl rfl rfl (by decide) rfl rfl ?_
  refine k_p rfl rfl rfl ?_
  refine k_sub rfl ?_
  obtain ⟨g3, H⟩ := H
  refine k_pf rfl rfl rfl (by decide) rfl rfl rfl rfl ?_
  obtain ⟨rfl, rfl⟩ := H
  exact k_r0 (hM2.up g3) rfl rfl rfl
def B_Mo_bindingType (d : Nat) (x1 x2 : Int) (σ : Mem) (o : Option Int) (s' : Mem) : Prop := if x2 = 6 then (B_Mo_bindingType_12 d x1 σ o s') else (if x2 ≠ 19 then (if x2 ≠ 10 then (if x2 ≠ 11 then (if x2 = 13 then (B_Mo_bindingType_130 d x2 σ o s') else (if x2 ≠ 15 then (if x2 ≠ 16 then (if x2 ≠ 14 then (if x2 ≠ 18 then (B_Mo_bindingType_263 d  σ o s') else (((0 : Int) ≤ (σ 58 41) - 1 ∧ (σ 58 41) - 1 < (60 : Int)) ∧ (∃ (v11 : Int) (m11 : Mem), Rn (d + 3) yMo_pop [.ref 58] σ (some v11) m11 ∧ (∃ (m12 : Mem), Rn (d + 3) yMo_unify [.ref 58, vi (σ 84 ((σ 58 41) - 1)), vi v11] m11 none m12 ∧ (B_Mo_bindingType_263 d  m12 o s'))))) else (((0 : Int) ≤ (σ 58 41) - 1 ∧ (σ 58 41) - 1 < (60 : Int)) ∧ (∃ (v14 : Int) (m14 : Mem), Rn (d + 3) yMo_pop [.ref 58] σ (some v14) m14 ∧ (∃ (m15 : Mem), Rn (d + 3) yMo_unify [.ref 58, vi (σ 84 ((σ 58 41) - 1)), vi v14] m14 none m15 ∧ (o = none ∧ s' = m15))))) else (((0 : Int) ≤ (σ 58 41) - 2 ∧ (σ 58 41) - 2 < (60 : Int)) ∧ (∃ (m17 : Mem), Rn (d + 3) yMo_patternTypes [.ref 58, vi x1, vi (σ 84 ((σ 58 41) - 2))] σ none m17 ∧ (o = none ∧ s' = m17)))) else (B_Mo_bindingType_130 d x2 σ o s'))) else (((0 : Int) ≤ (σ 58 30) - 1 ∧ (σ 58 30) - 1 < (64 : Int)) ∧ (∃ (v19 : Int) (m19 : Mem), Rn (d + 3) yMo_pop [.ref 58] σ (some v19) m19 ∧ (∃ (m20 : Mem), Rn (d + 3) yMo_unify [.ref 58, vi (σ 77 ((σ 58 30) - 1)), vi v19] m19 none m20 ∧ (((0 : Int) ≤ (m20 58 30) - 1 ∧ (m20 58 30) - 1 < (64 : Int)) ∧ (∃ (m22 : Mem), Rn (d + 3) yMo_generalize [.ref 58, vi (σ 77 ((σ 58 30) - 1))] (mup m20 78 ((m20 58 30) - 1) 1) none m22 ∧ (o = none ∧ s' = m22))))))) else (∃ (v23 : Int) (m23 : Mem), Rn (d + 3) yMo_pop [.ref 58] σ (some v23) m23 ∧ (∃ (m24 : Mem), Rn (d + 3) yMo_generalize [.ref 58, vi v23] m23 none m24 ∧ (((0 : Int) ≤ x1 ∧ x1 < (124 : Int)) ∧ (∃ (m26 : Mem), Rn (d + 3) yMo_bind [.ref 58, vi (m24 62 x1), vi v23] m24 none m26 ∧ (((0 : Int) ≤ (m26 58 30) - 1 ∧ (m26 58 30) - 1 < (64 : Int)) ∧ (o = none ∧ s' = mup m26 78 ((m26 58 30) - 1) 1))))))) else (B_Mo_bindingType_12 d x1 σ o s'))
theorem M_Mo_bindingType {d : Nat} {x1 x2 : Int} {σ s' : Mem} {o : Option Int} (hx1 : rg x1) (hx2 : rg x2) (H : B_Mo_bindingType d x1 x2 σ o s') : Rn (d + 4) yMo_bindingType [.ref 58, vi x1, vi x2] σ o s' := by
  refine k_m (Nat.le_of_ble_eq_true rfl) (fun hM => ?_)
  unfold B_Mo_bindingType at H
  refine k_l rfl rfl rfl ?_
  refine k_k (x := 6) rfl rfl rfl rfl ?_
  by_cases c1 : x2 = 6
  · rw [if_pos c1] at H
    refine k_c rfl (by decide) hx2 (rgk rfl) (q := true) (decide_eq_true c1) rfl ?_
    exact k_lab (K_Mo_bindingType_12 hx1 H) hM (lvS_cons rfl rfl (lvS_cons rfl rfl lvS_nil))
  · rw [if_neg c1] at H
    refine k_c rfl (by decide) hx2 (rgk rfl) (q := false) (decide_eq_false c1) rfl ?_
    refine k_l rfl rfl rfl ?_
    refine k_k (x := 19) rfl rfl rfl rfl ?_
    by_cases c2 : x2 ≠ 19
    · rw [if_pos c2] at H
      refine k_c rfl (by decide) hx2 (rgk rfl) (q := true) (decide_eq_true c2) rfl ?_
      refine k_l rfl rfl rfl ?_
      refine k_k (x := 10) rfl rfl rfl rfl ?_
      by_cases c3 : x2 ≠ 10
      · rw [if_pos c3] at H
        refine k_c rfl (by decide) hx2 (rgk rfl) (q := true) (decide_eq_true c3) rfl ?_
        refine k_l rfl rfl rfl ?_
        refine k_k (x := 11) rfl rfl rfl rfl ?_
        by_cases c4 : x2 ≠ 11
        · rw [if_pos c4] at H
          refine k_c rfl (by decide) hx2 (rgk rfl) (q := true) (decide_eq_true c4) rfl ?_
          refine k_l rfl rfl rfl ?_
          refine k_k (x := 13) rfl rfl rfl rfl ?_
          by_cases c5 : x2 = 13
          · rw [if_pos c5] at H
            refine k_c rfl (by decide) hx2 (rgk rfl) (q := true) (decide_eq_true c5) rfl ?_
            exact k_lab (K_Mo_bindingType_130 hx2 H) hM (lvS_cons rfl rfl (lvS_cons rfl rfl lvS_nil))
          · rw [if_neg c5] at H
            refine k_c rfl (by decide) hx2 (rgk rfl) (q := false) (decide_eq_false c5) rfl ?_
            refine k_l rfl rfl rfl ?_
            refine k_k (x := 15) rfl rfl rfl rfl ?_
            by_cases c6 : x2 ≠ 15
            · rw [if_pos c6] at H
              refine k_c rfl (by decide) hx2 (rgk rfl) (q := true) (decide_eq_true c6) rfl ?_
              refine k_l rfl rfl rfl ?_
              refine k_k (x := 16) rfl rfl rfl rfl ?_
              by_cases c7 : x2 ≠ 16
              · rw [if_pos c7] at H
                refine k_c rfl (by decide) hx2 (rgk rfl) (q := true) (decide_eq_true c7) rfl ?_
                refine k_l rfl rfl rfl ?_
                refine k_k (x := 14) rfl rfl rfl rfl ?_
                by_cases c8 : x2 ≠ 14
                · rw [if_pos c8] at H
                  refine k_c rfl (by decide) hx2 (rgk rfl) (q := true) (decide_eq_true c8) rfl ?_
                  refine k_l rfl rfl rfl ?_
                  refine k_k (x := 18) rfl rfl rfl rfl ?_
                  by_cases c9 : x2 ≠ 18
                  · rw [if_pos c9] at H
                    refine k_c rfl (by decide) hx2 (rgk rfl) (q := true) (decide_eq_true c9) rfl ?_
                    exact k_lab (K_Mo_bindingType_263  H) hM (lvS_cons rfl rfl lvS_nil)
                  · rw [if_neg c9] at H
                    refine k_c rfl (by decide) hx2 (rgk rfl) (q := false) (decide_eq_false c9) rfl ?_
                    refine k_l rfl rfl rfl ?_
                    refine k_l rfl rfl rfl ?_
                    refine k_gr (t := 84) rfl rfl rfl (by decide) rfl ?_
                    refine k_l rfl rfl rfl ?_
                    refine k_gf rfl rfl rfl (by decide) rfl rfl ?_
                    refine k_p rfl rfl rfl ?_
                    refine k_sub rfl ?_
                    obtain ⟨g10, H⟩ := H
                    refine k_al rfl rfl (fun _ => rfl) rfl rfl g10 (by decide) rfl ?_
                    refine k_l rfl rfl rfl ?_
                    obtain ⟨v11, m11, R11, H⟩ := H
                    refine k_iv rfl rfl rfl rfl rfl (by decide) rfl hM R11 (fun hM11 hv11 => ?_)
                    obtain ⟨m12, R12, H⟩ := H
                    refine k_iw rfl rfl rfl rfl rfl (by decide) rfl hM11 R12 (fun hM12 => ?_)
                    exact k_lab (K_Mo_bindingType_263  H) hM12 (lvS_cons rfl rfl lvS_nil)
                · rw [if_neg c8] at H
                  refine k_c rfl (by decide) hx2 (rgk rfl) (q := false) (decide_eq_false c8) rfl ?_
                  refine k_l rfl rfl rfl ?_
                  refine k_l rfl rfl rfl ?_
                  refine k_gr (t := 84) rfl rfl rfl (by decide) rfl ?_
                  refine k_l rfl rfl rfl ?_
                  refine k_gf rfl rfl rfl (by decide) rfl rfl ?_
                  refine k_p rfl rfl rfl ?_
                  refine k_sub rfl ?_
                  obtain ⟨g13, H⟩ := H
                  refine k_al rfl rfl (fun _ => rfl) rfl rfl g13 (by decide) rfl ?_
                  refine k_l rfl rfl rfl ?_
                  obtain ⟨v14, m14, R14, H⟩ := H
                  refine k_iv rfl rfl rfl rfl rfl (by decide) rfl hM R14 (fun hM14 hv14 => ?_)
                  obtain ⟨m15, R15, H⟩ := H
                  refine k_iw rfl rfl rfl rfl rfl (by decide) rfl hM14 R15 (fun hM15 => ?_)
                  refine k_b rfl rfl rfl rfl ?_
                  obtain ⟨rfl, rfl⟩ := H
                  exact k_r0 hM15 rfl rfl rfl
              · rw [if_neg c7] at H
                refine k_c rfl (by decide) hx2 (rgk rfl) (q := false) (decide_eq_false c7) rfl ?_
                refine k_l rfl rfl rfl ?_
                refine k_l rfl rfl rfl ?_
                refine k_l rfl rfl rfl ?_
                refine k_gr (t := 84) rfl rfl rfl (by decide) rfl ?_
                refine k_l rfl rfl rfl ?_
                refine k_gf rfl rfl rfl (by decide) rfl rfl ?_
                refine k_p rfl rfl rfl ?_
                refine k_sub rfl ?_
                obtain ⟨g16, H⟩ := H
                refine k_al rfl rfl (fun _ => rfl) rfl rfl g16 (by decide) rfl ?_
                obtain ⟨m17, R17, H⟩ := H
                refine k_iw rfl rfl rfl rfl rfl (by decide) rfl hM R17 (fun hM17 => ?_)
                refine k_b rfl rfl rfl rfl ?_
                obtain ⟨rfl, rfl⟩ := H
                exact k_r0 hM17 rfl rfl rfl
            · rw [if_neg c6] at H
              refine k_c rfl (by decide) hx2 (rgk rfl) (q := false) (decide_eq_false c6) rfl ?_
              exact k_lab (K_Mo_bindingType_130 hx2 H) hM (lvS_cons rfl rfl (lvS_cons rfl rfl lvS_nil))
        · rw [if_neg c4] at H
          refine k_c rfl (by decide) hx2 (rgk rfl) (q := false) (decide_eq_false c4) rfl ?_
          refine k_l rfl rfl rfl ?_
          refine k_gr (t := 77) rfl rfl rfl (by decide) rfl ?_
          refine k_l rfl rfl rfl ?_
          refine k_gf rfl rfl rfl (by decide) rfl rfl ?_
          refine k_p rfl rfl rfl ?_
          refine k_sub rfl ?_
          obtain ⟨g18, H⟩ := H
          refine k_al rfl rfl (fun _ => rfl) rfl rfl g18 (by decide) rfl ?_
          refine k_l rfl rfl rfl ?_
          refine k_l rfl rfl rfl ?_
          refine k_l rfl rfl rfl ?_
          refine k_l rfl rfl rfl ?_
          obtain ⟨v19, m19, R19, H⟩ := H
          refine k_iv rfl rfl rfl rfl rfl (by decide) rfl hM R19 (fun hM19 hv19 => ?_)
          obtain ⟨m20, R20, H⟩ := H
          refine k_iw rfl rfl rfl rfl rfl (by decide) rfl hM19 R20 (fun hM20 => ?_)
          refine k_l rfl rfl rfl ?_
          refine k_gr (t := 78) rfl rfl rfl (by decide) rfl ?_
          refine k_l rfl rfl rfl ?_
          refine k_gf rfl rfl rfl (by decide) rfl rfl ?_
          refine k_p rfl rfl rfl ?_
          refine k_sub rfl ?_
          refine k_p rfl rfl rfl ?_
          obtain ⟨g21, H⟩ := H
          refine k_as (ok := (fun v => fits .boolean v)) rfl rfl (fun _ => rfl) rfl rfl g21 (by decide) rfl ?_
          refine k_l rfl rfl rfl ?_
          refine k_l rfl rfl rfl ?_
          obtain ⟨m22, R22, H⟩ := H
          refine k_iw rfl rfl rfl rfl rfl (by decide) rfl (hM20.up (rgk rfl)) R22 (fun hM22 => ?_)
          refine k_b rfl rfl rfl rfl ?_
          obtain ⟨rfl, rfl⟩ := H
          exact k_r0 hM22 rfl rfl rfl
      · rw [if_neg c3] at H
        refine k_c rfl (by decide) hx2 (rgk rfl) (q := false) (decide_eq_false c3) rfl ?_
        refine k_l rfl rfl rfl ?_
        obtain ⟨v23, m23, R23, H⟩ := H
        refine k_iv rfl rfl rfl rfl rfl (by decide) rfl hM R23 (fun hM23 hv23 => ?_)
        refine k_l rfl rfl rfl ?_
        refine k_l rfl rfl rfl ?_
        refine k_l rfl rfl rfl ?_
        obtain ⟨m24, R24, H⟩ := H
        refine k_iw rfl rfl rfl rfl rfl (by decide) rfl hM23 R24 (fun hM24 => ?_)
        refine k_l rfl rfl rfl ?_
        refine k_l rfl rfl rfl ?_
        refine k_gr (t := 62) rfl rfl rfl (by decide) rfl ?_
        refine k_l rfl rfl rfl ?_
        obtain ⟨g25, H⟩ := H
        refine k_al rfl rfl (fun _ => rfl) rfl rfl g25 (by decide) rfl ?_
        refine k_l rfl rfl rfl ?_
        obtain ⟨m26, R26, H⟩ := H
        refine k_iw rfl rfl rfl rfl rfl (by decide) rfl hM24 R26 (fun hM26 => ?_)
        refine k_l rfl rfl rfl ?_
        refine k_gr (t := 78) rfl rfl rfl (by decide) rfl ?_
        refine k_l rfl rfl rfl ?_
        refine k_gf rfl rfl rfl (by decide) rfl rfl ?_
        refine k_p rfl rfl rfl ?_
        refine k_sub rfl ?_
        refine k_p rfl rfl rfl ?_
        obtain ⟨g27, H⟩ := H
        refine k_as (ok := (fun v => fits .boolean v)) rfl rfl (fun _ => rfl) rfl rfl g27 (by decide) rfl ?_
        refine k_b rfl rfl rfl rfl ?_
        obtain ⟨rfl, rfl⟩ := H
        exact k_r0 (hM26.up (rgk rfl)) rfl rfl rfl
    · rw [if_neg c2] at H
      refine k_c rfl (by decide) hx2 (rgk rfl) (q := false) (decide_eq_false c2) rfl ?_
      exact k_lab (K_Mo_bindingType_12 hx1 H) hM (lvS_cons rfl rfl (lvS_cons rfl rfl lvS_nil))
def B_Mo_typesFound (d : Nat) (σ : Mem) (o : Option Int) (s' : Mem) : Prop := ∃ (v1 : Int) (m1 : Mem), Rn (d + 3) yMo_make [.ref 58, vi 1, vi 0, vi 0] (mup σ 58 35 0) (some v1) m1 ∧ (∃ (v2 : Int) (m2 : Mem), Rn (d + 3) yMo_make [.ref 58, vi 2, vi 0, vi 0] m1 (some v2) m2 ∧ (∃ (v3 : Int) (m3 : Mem), Rn (d + 3) yMo_make [.ref 58, vi 3, vi 0, vi 0] m2 (some v3) m3 ∧ (Lb (d + 3) yMo_typesFound 57 [(0, .ref 58), (4, vi 0)] [] (mup (mup (mup (mup (mup m3 58 30 0) 58 37 0) 58 41 0) 58 43 0) 58 44 0) o s')))
theorem M_Mo_typesFound {d : Nat} {σ s' : Mem} {o : Option Int}  (H : B_Mo_typesFound d  σ o s') : Rn (d + 4) yMo_typesFound [.ref 58] σ o s' := by
  refine k_m (Nat.le_of_ble_eq_true rfl) (fun hM => ?_)
  unfold B_Mo_typesFound at H
  refine k_l rfl rfl rfl ?_
  refine k_p rfl rfl rfl ?_
  refine k_pf rfl rfl rfl (by decide) rfl rfl rfl rfl ?_
  refine k_l rfl rfl rfl ?_
  refine k_p rfl rfl rfl ?_
  refine k_p rfl rfl rfl ?_
  refine k_p rfl rfl rfl ?_
  obtain ⟨v1, m1, R1, H⟩ := H
  refine k_iv rfl rfl rfl rfl rfl (by decide) rfl (hM.up (rgk rfl)) R1 (fun hM1 hv1 => ?_)
  refine k_l rfl rfl rfl ?_
  refine k_l rfl rfl rfl ?_
  refine k_p rfl rfl rfl ?_
  refine k_p rfl rfl rfl ?_
  refine k_p rfl rfl rfl ?_
  obtain ⟨v2, m2, R2, H⟩ := H
  refine k_iv rfl rfl rfl rfl rfl (by decide) rfl hM1 R2 (fun hM2 hv2 => ?_)
  refine k_l rfl rfl rfl ?_
  refine k_l rfl rfl rfl ?_
  refine k_p rfl rfl rfl ?_
  refine k_p rfl rfl rfl ?_
  refine k_p rfl rfl rfl ?_
  obtain ⟨v3, m3, R3, H⟩ := H
  refine k_iv rfl rfl rfl rfl rfl (by decide) rfl hM2 R3 (fun hM3 hv3 => ?_)
  refine k_l rfl rfl rfl ?_
  refine k_l rfl rfl rfl ?_
  refine k_p rfl rfl rfl ?_
  refine k_pf rfl rfl rfl (by decide) rfl rfl rfl rfl ?_
  refine k_l rfl rfl rfl ?_
  refine k_p rfl rfl rfl ?_
  refine k_pf rfl rfl rfl (by decide) rfl rfl rfl rfl ?_
  refine k_l rfl rfl rfl ?_
  refine k_p rfl rfl rfl ?_
  refine k_pf rfl rfl rfl (by decide) rfl rfl rfl rfl ?_
  refine k_l rfl rfl rfl ?_
  refine k_p rfl rfl rfl ?_
  refine k_pf rfl rfl rfl (by decide) rfl rfl rfl rfl ?_
  refine k_l rfl rfl rfl ?_
  refine k_p rfl rfl rfl ?_
  refine k_pf rfl rfl rfl (by decide) rfl rfl rfl rfl ?_
  refine k_p rfl rfl rfl ?_
  refine k_l rfl rfl rfl ?_
  exact k_lab H (((((hM3.up (rgk rfl)).up (rgk rfl)).up (rgk rfl)).up (rgk rfl)).up (rgk rfl)) (lvS_cons rfl rfl (lvS_cons rfl rfl lvS_nil))
def B_Mo_typesFound_135 (d : Nat) (σ : Mem) (o : Option Int) (s' : Mem) : Prop := if σ 58 44 ≠ 0 then (o = some 0 ∧ s' = σ) else (o = some 1 ∧ s' = σ)
theorem K_Mo_typesFound_135 {d : Nat} {σ s' : Mem} {o : Option Int}  (H : B_Mo_typesFound_135 d  σ o s') : Lb (d + 3) yMo_typesFound 135 [(0, .ref 58)] [] σ o s' := by
  intro hM
  unfold B_Mo_typesFound_135 at H
  refine k_l rfl rfl rfl ?_
  refine k_gf rfl rfl rfl (by decide) rfl rfl ?_
  by_cases c1 : σ 58 44 ≠ 0
  · rw [if_pos c1] at H
    refine k_z rfl (by decide) (hM _ _) (q := true) (decide_eq_true c1) rfl ?_
    refine k_p rfl rfl rfl ?_
    obtain ⟨rfl, rfl⟩ := H
    exact k_r1 hM (rgk rfl) rfl rfl rfl
  · rw [if_neg c1] at H
    refine k_z rfl (by decide) (hM _ _) (q := false) (decide_eq_false c1) rfl ?_
    refine k_p rfl rfl rfl ?_
    refine k_b rfl rfl rfl rfl ?_
    obtain ⟨rfl, rfl⟩ := H
    exact k_r1 hM (rgk rfl) rfl rfl rfl
def B_Mo_typesFound_57 (d : Nat) (x4 : Int) (σ : Mem) (o : Option Int) (s' : Mem) : Prop := if x4 ≥ σ 58 7 then (B_Mo_typesFound_135 d  σ o s') else (if σ 58 44 ≠ 0 then (B_Mo_typesFound_135 d  σ o s') else (∃ (m3 : Mem), Rn (d + 3) yMo_typeOf [.ref 58, vi x4] σ none m3 ∧ (Lb (d + 3) yMo_typesFound 82 [(0, .ref 58), (4, vi x4), (5, vi 0)] [] m3 o s')))
theorem K_Mo_typesFound_57 {d : Nat} {x4 : Int} {σ s' : Mem} {o : Option Int} (hx4 : rg x4) (H : B_Mo_typesFound_57 d x4 σ o s') : Lb (d + 3) yMo_typesFound 57 [(0, .ref 58), (4, vi x4)] [] σ o s' := by
  intro hM
  unfold B_Mo_typesFound_57 at H
  refine k_l rfl rfl rfl ?_
  refine k_l rfl rfl rfl ?_
  refine k_gf rfl rfl rfl (by decide) rfl rfl ?_
  by_cases c1 : x4 ≥ σ 58 7
  · rw [if_pos c1] at H
    refine k_c rfl (by decide) hx4 (hM _ _) (q := true) (decide_eq_true c1) rfl ?_
    exact k_lab (K_Mo_typesFound_135  H) hM (lvS_cons rfl rfl lvS_nil)
  · rw [if_neg c1] at H
    refine k_c rfl (by decide) hx4 (hM _ _) (q := false) (decide_eq_false c1) rfl ?_
    refine k_l rfl rfl rfl ?_
    refine k_gf rfl rfl rfl (by decide) rfl rfl ?_
    by_cases c2 : σ 58 44 ≠ 0
    · rw [if_pos c2] at H
      refine k_z rfl (by decide) (hM _ _) (q := true) (decide_eq_true c2) rfl ?_
      exact k_lab (K_Mo_typesFound_135  H) hM (lvS_cons rfl rfl lvS_nil)
    · rw [if_neg c2] at H
      refine k_z rfl (by decide) (hM _ _) (q := false) (decide_eq_false c2) rfl ?_
      refine k_l rfl rfl rfl ?_
      refine k_l rfl rfl rfl ?_
      obtain ⟨m3, R3, H⟩ := H
      refine k_iw rfl rfl rfl rfl rfl (by decide) rfl hM R3 (fun hM3 => ?_)
      refine k_p rfl rfl rfl ?_
      refine k_l rfl rfl rfl ?_
      exact k_lab H hM3 (lvS_cons rfl rfl (lvS_cons rfl rfl (lvS_cons rfl rfl lvS_nil)))
def B_Mo_typesFound_120 (d : Nat) (x4 x5 t1 : Int) (σ : Mem) (o : Option Int) (s' : Mem) : Prop := (t1 = 0 ∨ t1 = 1) ∧ ((rg (x5 + 1)) ∧ (Lb (d + 3) yMo_typesFound 82 [(0, .ref 58), (4, vi x4), (5, vi (x5 + 1))] [] (mup σ 58 44 t1) o s'))
theorem K_Mo_typesFound_120 {d : Nat} {x4 x5 t1 : Int} {σ s' : Mem} {o : Option Int} (hx4 : rg x4) (hx5 : rg x5) (ht1 : rg t1) (H : B_Mo_typesFound_120 d x4 x5 t1 σ o s') : Lb (d + 3) yMo_typesFound 120 [(0, .ref 58), (4, vi x4), (5, vi x5)] [vi t1, .ref 58] σ o s' := by
  intro hM
  unfold B_Mo_typesFound_120 at H
  obtain ⟨g1, H⟩ := H
  refine k_pf rfl rfl rfl (by decide) rfl rfl (fitb g1) rfl ?_
  refine k_inc rfl rfl (by decide) ?_
  refine k_b rfl rfl rfl rfl ?_
  obtain ⟨g2, H⟩ := H
  exact k_lab H (hM.up ht1) (lvS_cons rfl rfl (lvS_cons rfl rfl (lvS_cons rfl rfl lvS_nil)))
def B_Mo_typesFound_115 (d : Nat) (x4 x5 : Int) (σ : Mem) (o : Option Int) (s' : Mem) : Prop := B_Mo_typesFound_120 d x4 x5 1 σ o s'
theorem K_Mo_typesFound_115 {d : Nat} {x4 x5 : Int} {σ s' : Mem} {o : Option Int} (hx4 : rg x4) (hx5 : rg x5) (H : B_Mo_typesFound_115 d x4 x5 σ o s') : Lb (d + 3) yMo_typesFound 115 [(0, .ref 58), (4, vi x4), (5, vi x5)] [.ref 58] σ o s' := by
  intro hM
  unfold B_Mo_typesFound_115 at H
  refine k_p rfl rfl rfl ?_
  refine k_b rfl rfl rfl rfl ?_
  exact k_lab (K_Mo_typesFound_120 hx4 hx5 (rgk rfl) H) hM (lvS_cons rfl rfl (lvS_cons rfl rfl (lvS_cons rfl rfl lvS_nil)))
def B_Mo_typesFound_82 (d : Nat) (x4 x5 : Int) (σ : Mem) (o : Option Int) (s' : Mem) : Prop := if x5 ≥ σ 58 43 then ((rg (x4 + 1)) ∧ (Lb (d + 3) yMo_typesFound 57 [(0, .ref 58), (4, vi (x4 + 1))] [] σ o s')) else (if σ 58 44 ≠ 0 then (B_Mo_typesFound_115 d x4 x5 σ o s') else (((0 : Int) ≤ x5 ∧ x5 < (260 : Int)) ∧ (∃ (v5 : Int) (m5 : Mem), Rn (d + 3) yMo_width [.ref 58, vi (σ 85 x5)] σ (some v5) m5 ∧ (if v5 ≤ 80 then (B_Mo_typesFound_120 d x4 x5 0 m5 o s') else (B_Mo_typesFound_115 d x4 x5 m5 o s')))))
theorem K_Mo_typesFound_82 {d : Nat} {x4 x5 : Int} {σ s' : Mem} {o : Option Int} (hx4 : rg x4) (hx5 : rg x5) (H : B_Mo_typesFound_82 d x4 x5 σ o s') : Lb (d + 3) yMo_typesFound 82 [(0, .ref 58), (4, vi x4), (5, vi x5)] [] σ o s' := by
  intro hM
  unfold B_Mo_typesFound_82 at H
  refine k_l rfl rfl rfl ?_
  refine k_l rfl rfl rfl ?_
  refine k_gf rfl rfl rfl (by decide) rfl rfl ?_
  by_cases c1 : x5 ≥ σ 58 43
  · rw [if_pos c1] at H
    refine k_c rfl (by decide) hx5 (hM _ _) (q := true) (decide_eq_true c1) rfl ?_
    refine k_inc rfl rfl (by decide) ?_
    refine k_b rfl rfl rfl rfl ?_
    obtain ⟨g2, H⟩ := H
    exact k_lab H hM (lvS_cons rfl rfl (lvS_cons rfl rfl lvS_nil))
  · rw [if_neg c1] at H
    refine k_c rfl (by decide) hx5 (hM _ _) (q := false) (decide_eq_false c1) rfl ?_
    refine k_l rfl rfl rfl ?_
    refine k_l rfl rfl rfl ?_
    refine k_gf rfl rfl rfl (by decide) rfl rfl ?_
    by_cases c3 : σ 58 44 ≠ 0
    · rw [if_pos c3] at H
      refine k_z rfl (by decide) (hM _ _) (q := true) (decide_eq_true c3) rfl ?_
      exact k_lab (K_Mo_typesFound_115 hx4 hx5 H) hM (lvS_cons rfl rfl (lvS_cons rfl rfl (lvS_cons rfl rfl lvS_nil)))
    · rw [if_neg c3] at H
      refine k_z rfl (by decide) (hM _ _) (q := false) (decide_eq_false c3) rfl ?_
      refine k_l rfl rfl rfl ?_
      refine k_l rfl rfl rfl ?_
      refine k_gr (t := 85) rfl rfl rfl (by decide) rfl ?_
      refine k_l rfl rfl rfl ?_
      obtain ⟨g4, H⟩ := H
      refine k_al rfl rfl (fun _ => rfl) rfl rfl g4 (by decide) rfl ?_
      obtain ⟨v5, m5, R5, H⟩ := H
      refine k_iv rfl rfl rfl rfl rfl (by decide) rfl hM R5 (fun hM5 hv5 => ?_)
      refine k_k (x := 80) rfl rfl rfl rfl ?_
      by_cases c6 : v5 ≤ 80
      · rw [if_pos c6] at H
        refine k_c rfl (by decide) hv5 (rgk rfl) (q := true) (decide_eq_true c6) rfl ?_
        refine k_p rfl rfl rfl ?_
        exact k_lab (K_Mo_typesFound_120 hx4 hx5 (rgk rfl) H) hM5 (lvS_cons rfl rfl (lvS_cons rfl rfl (lvS_cons rfl rfl lvS_nil)))
      · rw [if_neg c6] at H
        refine k_c rfl (by decide) hv5 (rgk rfl) (q := false) (decide_eq_false c6) rfl ?_
        exact k_lab (K_Mo_typesFound_115 hx4 hx5 H) hM5 (lvS_cons rfl rfl (lvS_cons rfl rfl (lvS_cons rfl rfl lvS_nil)))
def B_Mo_show (d : Nat) (x1 : Int) (σ : Mem) (o : Option Int) (s' : Mem) : Prop := ((0 : Int) ≤ 0 ∧ 0 < (160 : Int)) ∧ (Lb (d + 3) yMo_show 16 [(0, .ref 58), (2, vi 1), (3, vi 0)] [] (mup (mup σ 58 49 0) 86 0 x1) o s')
theorem M_Mo_show {d : Nat} {x1 : Int} {σ s' : Mem} {o : Option Int} (hx1 : rg x1) (H : B_Mo_show d x1 σ o s') : Rn (d + 4) yMo_show [.ref 58, vi x1] σ o s' := by
  refine k_m (Nat.le_of_ble_eq_true rfl) (fun hM => ?_)
  unfold B_Mo_show at H
  refine k_p rfl rfl rfl ?_
  refine k_l rfl rfl rfl ?_
  refine k_p rfl rfl rfl ?_
  refine k_l rfl rfl rfl ?_
  refine k_l rfl rfl rfl ?_
  refine k_p rfl rfl rfl ?_
  refine k_pf rfl rfl rfl (by decide) rfl rfl rfl rfl ?_
  refine k_l rfl rfl rfl ?_
  refine k_gr (t := 86) rfl rfl rfl (by decide) rfl ?_
  refine k_p rfl rfl rfl ?_
  refine k_l rfl rfl rfl ?_
  obtain ⟨g1, H⟩ := H
  refine k_as (ok := isI) rfl rfl (fun _ => rfl) rfl rfl g1 (by decide) rfl ?_
  exact k_lab H ((hM.up (rgk rfl)).up hx1) (lvS_cons rfl rfl (lvS_cons rfl rfl (lvS_cons rfl rfl lvS_nil)))
def B_Mo_show_289 (d : Nat) (x2 x3 : Int) (σ : Mem) (o : Option Int) (s' : Mem) : Prop := Lb (d + 3) yMo_show 16 [(0, .ref 58), (2, vi x2), (3, vi x3)] [] σ o s'
theorem K_Mo_show_289 {d : Nat} {x2 x3 : Int} {σ s' : Mem} {o : Option Int} (hx2 : rg x2) (hx3 : rg x3) (H : B_Mo_show_289 d x2 x3 σ o s') : Lb (d + 3) yMo_show 289 [(0, .ref 58), (2, vi x2), (3, vi x3)] [] σ o s' := by
  intro hM
  unfold B_Mo_show_289 at H
  refine k_b rfl rfl rfl rfl ?_
  exact k_lab H hM (lvS_cons rfl rfl (lvS_cons rfl rfl (lvS_cons rfl rfl lvS_nil)))
def B_Mo_show_168 (d : Nat) (x2 x3 t1 t2 : Int) (σ : Mem) (o : Option Int) (s' : Mem) : Prop := ((0 : Int) ≤ t1 ∧ t1 < (80 : Int)) ∧ (((0 : Int) ≤ zChr t2 ∧ zChr t2 < (65536 : Int)) ∧ ((rg ((σ 58 49) + 1)) ∧ (B_Mo_show_289 d x2 x3 (mup (mup σ 88 t1 (zChr t2)) 58 49 ((σ 58 49) + 1)) o s')))
theorem K_Mo_show_168 {d : Nat} {x2 x3 t1 t2 : Int} {σ s' : Mem} {o : Option Int} (hx2 : rg x2) (hx3 : rg x3) (ht1 : rg t1) (ht2 : rg t2) (H : B_Mo_show_168 d x2 x3 t1 t2 σ o s') : Lb (d + 3) yMo_show 168 [(0, .ref 58), (2, vi x2), (3, vi x3)] [vi t2, vi t1, .ref 88] σ o s' := by
  intro hM
  unfold B_Mo_show_168 at H
  refine k_chr rfl ?_
  obtain ⟨g1, H⟩ := H
  obtain ⟨g2, H⟩ := H
  refine k_as (ok := (fun v => fits .char v)) rfl rfl (fun _ => rfl) rfl rfl g1 (by decide) (fitc g2) ?_
  refine k_l rfl rfl rfl ?_
  refine k_p rfl rfl rfl ?_
  refine k_gf rfl rfl rfl (by decide) rfl (mup_ne (by decide)) ?_
  refine k_p rfl rfl rfl ?_
  refine k_add rfl ?_
  obtain ⟨g3, H⟩ := H
  refine k_pf rfl rfl rfl (by decide) rfl rfl rfl rfl ?_
  refine k_b rfl rfl rfl rfl ?_
  exact k_lab (K_Mo_show_289 hx2 hx3 H) ((hM.up rg_zChr).up g3) (lvS_cons rfl rfl (lvS_cons rfl rfl (lvS_cons rfl rfl lvS_nil)))
def B_Mo_show_91 (d : Nat) (x2 x3 x4 : Int) (σ : Mem) (o : Option Int) (s' : Mem) : Prop := if x4 ≥ 0 then (((0 : Int) ≤ x4 ∧ x4 < (1300 : Int)) ∧ (if σ 79 x4 ≠ 1 then (((0 : Int) ≤ x4 ∧ x4 < (1300 : Int)) ∧ (if σ 79 x4 ≠ 2 then (((0 : Int) ≤ x4 ∧ x4 < (1300 : Int)) ∧ (if σ 79 x4 ≠ 3 then (((0 : Int) ≤ x4 ∧ x4 < (1300 : Int)) ∧ ((rg (97 + (σ 82 x4))) ∧ (B_Mo_show_168 d x2 x3 (σ 58 49) (97 + (σ 82 x4)) σ o s'))) else (B_Mo_show_168 d x2 x3 (σ 58 49) 114 σ o s'))) else (B_Mo_show_168 d x2 x3 (σ 58 49) 98 σ o s'))) else (B_Mo_show_168 d x2 x3 (σ 58 49) 105 σ o s'))) else (B_Mo_show_168 d x2 x3 (σ 58 49) (zNeg x4) σ o s')
theorem K_Mo_show_91 {d : Nat} {x2 x3 x4 : Int} {σ s' : Mem} {o : Option Int} (hx2 : rg x2) (hx3 : rg x3) (hx4 : rg x4) (H : B_Mo_show_91 d x2 x3 x4 σ o s') : Lb (d + 3) yMo_show 91 [(0, .ref 58), (2, vi x2), (3, vi x3), (4, vi x4)] [] σ o s' := by
  intro hM
  unfold B_Mo_show_91 at H
  refine k_l rfl rfl rfl ?_
  refine k_gr (t := 88) rfl rfl rfl (by decide) rfl ?_
  refine k_l rfl rfl rfl ?_
  refine k_gf rfl rfl rfl (by decide) rfl rfl ?_
  refine k_l rfl rfl rfl ?_
  by_cases c1 : x4 ≥ 0
  · rw [if_pos c1] at H
    refine k_z rfl (by decide) hx4 (q := true) (decide_eq_true c1) rfl ?_
    refine k_l rfl rfl rfl ?_
    refine k_gr (t := 79) rfl rfl rfl (by decide) rfl ?_
    refine k_l rfl rfl rfl ?_
    obtain ⟨g2, H⟩ := H
    refine k_al rfl rfl (fun _ => rfl) rfl rfl g2 (by decide) rfl ?_
    refine k_p rfl rfl rfl ?_
    by_cases c3 : σ 79 x4 ≠ 1
    · rw [if_pos c3] at H
      refine k_c rfl (by decide) (hM _ _) (rgk rfl) (q := true) (decide_eq_true c3) rfl ?_
      refine k_l rfl rfl rfl ?_
      refine k_gr (t := 79) rfl rfl rfl (by decide) rfl ?_
      refine k_l rfl rfl rfl ?_
      obtain ⟨g4, H⟩ := H
      refine k_al rfl rfl (fun _ => rfl) rfl rfl g4 (by decide) rfl ?_
      refine k_p rfl rfl rfl ?_
      by_cases c5 : σ 79 x4 ≠ 2
      · rw [if_pos c5] at H
        refine k_c rfl (by decide) (hM _ _) (rgk rfl) (q := true) (decide_eq_true c5) rfl ?_
        refine k_l rfl rfl rfl ?_
        refine k_gr (t := 79) rfl rfl rfl (by decide) rfl ?_
        refine k_l rfl rfl rfl ?_
        obtain ⟨g6, H⟩ := H
        refine k_al rfl rfl (fun _ => rfl) rfl rfl g6 (by decide) rfl ?_
        refine k_p rfl rfl rfl ?_
        by_cases c7 : σ 79 x4 ≠ 3
        · rw [if_pos c7] at H
          refine k_c rfl (by decide) (hM _ _) (rgk rfl) (q := true) (decide_eq_true c7) rfl ?_
          refine k_k (x := 97) rfl rfl rfl rfl ?_
          refine k_l rfl rfl rfl ?_
          refine k_gr (t := 82) rfl rfl rfl (by decide) rfl ?_
          refine k_l rfl rfl rfl ?_
          obtain ⟨g8, H⟩ := H
          refine k_al rfl rfl (fun _ => rfl) rfl rfl g8 (by decide) rfl ?_
          refine k_add rfl ?_
          obtain ⟨g9, H⟩ := H
          exact k_lab (K_Mo_show_168 hx2 hx3 (hM _ _) g9 H) hM (lvS_cons rfl rfl (lvS_cons rfl rfl (lvS_cons rfl rfl lvS_nil)))
        · rw [if_neg c7] at H
          refine k_c rfl (by decide) (hM _ _) (rgk rfl) (q := false) (decide_eq_false c7) rfl ?_
          refine k_k (x := 114) rfl rfl rfl rfl ?_
          refine k_b rfl rfl rfl rfl ?_
          exact k_lab (K_Mo_show_168 hx2 hx3 (hM _ _) (rgk rfl) H) hM (lvS_cons rfl rfl (lvS_cons rfl rfl (lvS_cons rfl rfl lvS_nil)))
      · rw [if_neg c5] at H
        refine k_c rfl (by decide) (hM _ _) (rgk rfl) (q := false) (decide_eq_false c5) rfl ?_
        refine k_k (x := 98) rfl rfl rfl rfl ?_
        refine k_b rfl rfl rfl rfl ?_
        exact k_lab (K_Mo_show_168 hx2 hx3 (hM _ _) (rgk rfl) H) hM (lvS_cons rfl rfl (lvS_cons rfl rfl (lvS_cons rfl rfl lvS_nil)))
    · rw [if_neg c3] at H
      refine k_c rfl (by decide) (hM _ _) (rgk rfl) (q := false) (decide_eq_false c3) rfl ?_
      refine k_k (x := 105) rfl rfl rfl rfl ?_
      refine k_b rfl rfl rfl rfl ?_
      exact k_lab (K_Mo_show_168 hx2 hx3 (hM _ _) (rgk rfl) H) hM (lvS_cons rfl rfl (lvS_cons rfl rfl (lvS_cons rfl rfl lvS_nil)))
  · rw [if_neg c1] at H
    refine k_z rfl (by decide) hx4 (q := false) (decide_eq_false c1) rfl ?_
    refine k_l rfl rfl rfl ?_
    refine k_neg rfl ?_
    refine k_b rfl rfl rfl rfl ?_
    exact k_lab (K_Mo_show_168 hx2 hx3 (hM _ _) rg_zNeg H) hM (lvS_cons rfl rfl (lvS_cons rfl rfl (lvS_cons rfl rfl lvS_nil)))
def B_Mo_show_285 (d : Nat) (x2 x3 t1 t2 : Int) (σ : Mem) (o : Option Int) (s' : Mem) : Prop := ((0 : Int) ≤ t1 ∧ t1 < (160 : Int)) ∧ ((rg (x2 + 2)) ∧ (B_Mo_show_289 d (x2 + 2) x3 (mup σ 86 t1 t2) o s'))
theorem K_Mo_show_285 {d : Nat} {x2 x3 t1 t2 : Int} {σ s' : Mem} {o : Option Int} (hx2 : rg x2) (hx3 : rg x3) (ht1 : rg t1) (ht2 : rg t2) (H : B_Mo_show_285 d x2 x3 t1 t2 σ o s') : Lb (d + 3) yMo_show 285 [(0, .ref 58), (2, vi x2), (3, vi x3)] [vi t2, vi t1, .ref 86] σ o s' := by
  intro hM
  unfold B_Mo_show_285 at H
  obtain ⟨g1, H⟩ := H
  refine k_as (ok := isI) rfl rfl (fun _ => rfl) rfl rfl g1 (by decide) rfl ?_
  refine k_inc rfl rfl (by decide) ?_
  obtain ⟨g2, H⟩ := H
  exact k_lab (K_Mo_show_289 g2 hx3 H) (hM.up ht2) (lvS_cons rfl rfl (lvS_cons rfl rfl (lvS_cons rfl rfl lvS_nil)))
def B_Mo_show_253 (d : Nat) (x2 x3 x4 x5 : Int) (σ : Mem) (o : Option Int) (s' : Mem) : Prop := ((0 : Int) ≤ x4 ∧ x4 < (1300 : Int)) ∧ (((0 : Int) ≤ x2 ∧ x2 < (160 : Int)) ∧ (if x5 = 0 then ((rg (x2 + 1)) ∧ (B_Mo_show_285 d x2 x3 (x2 + 1) ((-40)) (mup σ 86 x2 (σ 80 x4)) o s')) else ((rg (x2 + 1)) ∧ (B_Mo_show_285 d x2 x3 (x2 + 1) ((-91)) (mup σ 86 x2 (σ 80 x4)) o s'))))
theorem K_Mo_show_253 {d : Nat} {x2 x3 x4 x5 : Int} {σ s' : Mem} {o : Option Int} (hx2 : rg x2) (hx3 : rg x3) (hx4 : rg x4) (hx5 : rg x5) (H : B_Mo_show_253 d x2 x3 x4 x5 σ o s') : Lb (d + 3) yMo_show 253 [(0, .ref 58), (2, vi x2), (3, vi x3), (4, vi x4), (5, vi x5)] [] σ o s' := by
  intro hM
  unfold B_Mo_show_253 at H
  refine k_l rfl rfl rfl ?_
  refine k_gr (t := 86) rfl rfl rfl (by decide) rfl ?_
  refine k_l rfl rfl rfl ?_
  refine k_l rfl rfl rfl ?_
  refine k_gr (t := 80) rfl rfl rfl (by decide) rfl ?_
  refine k_l rfl rfl rfl ?_
  obtain ⟨g1, H⟩ := H
  refine k_al rfl rfl (fun _ => rfl) rfl rfl g1 (by decide) rfl ?_
  obtain ⟨g2, H⟩ := H
  refine k_as (ok := isI) rfl rfl (fun _ => rfl) rfl rfl g2 (by decide) rfl ?_
  refine k_l rfl rfl rfl ?_
  refine k_gr (t := 86) rfl rfl rfl (by decide) rfl ?_
  refine k_l rfl rfl rfl ?_
  refine k_p rfl rfl rfl ?_
  refine k_add rfl ?_
  refine k_l rfl rfl rfl ?_
  by_cases c3 : x5 = 0
  · rw [if_pos c3] at H
    refine k_z rfl (by decide) hx5 (q := true) (decide_eq_true c3) rfl ?_
    refine k_k (x := -40) rfl rfl rfl rfl ?_
    obtain ⟨g4, H⟩ := H
    exact k_lab (K_Mo_show_285 hx2 hx3 g4 (rgk rfl) H) (hM.up (hM _ _)) (lvS_cons rfl rfl (lvS_cons rfl rfl (lvS_cons rfl rfl lvS_nil)))
  · rw [if_neg c3] at H
    refine k_z rfl (by decide) hx5 (q := false) (decide_eq_false c3) rfl ?_
    refine k_k (x := -91) rfl rfl rfl rfl ?_
    refine k_b rfl rfl rfl rfl ?_
    obtain ⟨g5, H⟩ := H
    exact k_lab (K_Mo_show_285 hx2 hx3 g5 (rgk rfl) H) (hM.up (hM _ _)) (lvS_cons rfl rfl (lvS_cons rfl rfl (lvS_cons rfl rfl lvS_nil)))
def B_Mo_show_218 (d : Nat) (x2 x3 x4 x5 t1 t2 : Int) (σ : Mem) (o : Option Int) (s' : Mem) : Prop := ((0 : Int) ≤ t1 ∧ t1 < (160 : Int)) ∧ (if x5 ≠ 0 then ((rg (x2 + 1)) ∧ (B_Mo_show_253 d (x2 + 1) x3 x4 x5 (mup σ 86 t1 t2) o s')) else (((0 : Int) ≤ x4 ∧ x4 < (1300 : Int)) ∧ (((0 : Int) ≤ x2 + 1 ∧ x2 + 1 < (160 : Int)) ∧ (((0 : Int) ≤ (x2 + 1) + 1 ∧ (x2 + 1) + 1 < (160 : Int)) ∧ ((rg (x2 + 1 + 2)) ∧ (B_Mo_show_253 d (x2 + 1 + 2) x3 x4 x5 (mup (mup (mup σ 86 t1 t2) 86 (x2 + 1) (σ 81 x4)) 86 ((x2 + 1) + 1) ((-62))) o s'))))))
theorem K_Mo_show_218 {d : Nat} {x2 x3 x4 x5 t1 t2 : Int} {σ s' : Mem} {o : Option Int} (hx2 : rg x2) (hx3 : rg x3) (hx4 : rg x4) (hx5 : rg x5) (ht1 : rg t1) (ht2 : rg t2) (H : B_Mo_show_218 d x2 x3 x4 x5 t1 t2 σ o s') : Lb (d + 3) yMo_show 218 [(0, .ref 58), (2, vi x2), (3, vi x3), (4, vi x4), (5, vi x5)] [vi t2, vi t1, .ref 86] σ o s' := by
  intro hM
  unfold B_Mo_show_218 at H
  obtain ⟨g1, H⟩ := H
  refine k_as (ok := isI) rfl rfl (fun _ => rfl) rfl rfl g1 (by decide) rfl ?_
  refine k_inc rfl rfl (by decide) ?_
  refine k_l rfl rfl rfl ?_
  by_cases c2 : x5 ≠ 0
  · rw [if_pos c2] at H
    refine k_z rfl (by decide) hx5 (q := true) (decide_eq_true c2) rfl ?_
    obtain ⟨g3, H⟩ := H
    exact k_lab (K_Mo_show_253 g3 hx3 hx4 hx5 H) (hM.up ht2) (lvS_cons rfl rfl (lvS_cons rfl rfl (lvS_cons rfl rfl (lvS_cons rfl rfl (lvS_cons rfl rfl lvS_nil)))))
  · rw [if_neg c2] at H
    refine k_z rfl (by decide) hx5 (q := false) (decide_eq_false c2) rfl ?_
    refine k_l rfl rfl rfl ?_
    refine k_gr (t := 86) rfl rfl rfl (by decide) rfl ?_
    refine k_l rfl rfl rfl ?_
    refine k_l rfl rfl rfl ?_
    refine k_gr (t := 81) rfl rfl rfl (by decide) rfl ?_
    refine k_l rfl rfl rfl ?_
    obtain ⟨g4, H⟩ := H
    refine k_al rfl rfl (fun _ => rfl) rfl rfl g4 (by decide) (mup_ne (by decide)) ?_
    obtain ⟨g5, H⟩ := H
    refine k_as (ok := isI) rfl rfl (fun _ => rfl) rfl rfl g5 (by decide) rfl ?_
    refine k_l rfl rfl rfl ?_
    refine k_gr (t := 86) rfl rfl rfl (by decide) rfl ?_
    refine k_l rfl rfl rfl ?_
    refine k_p rfl rfl rfl ?_
    refine k_add rfl ?_
    refine k_k (x := -62) rfl rfl rfl rfl ?_
    obtain ⟨g6, H⟩ := H
    refine k_as (ok := isI) rfl rfl (fun _ => rfl) rfl rfl g6 (by decide) rfl ?_
    refine k_inc rfl rfl (by decide) ?_
    obtain ⟨g7, H⟩ := H
    exact k_lab (K_Mo_show_253 g7 hx3 hx4 hx5 H) (((hM.up ht2).up (hM _ _)).up (rgk rfl)) (lvS_cons rfl rfl (lvS_cons rfl rfl (lvS_cons rfl rfl (lvS_cons rfl rfl (lvS_cons rfl rfl lvS_nil)))))
def B_Mo_show_199 (d : Nat) (x2 x3 x4 t0 : Int) (σ : Mem) (o : Option Int) (s' : Mem) : Prop := if t0 = 0 then (B_Mo_show_218 d x2 x3 x4 t0 x2 ((-41)) σ o s') else (B_Mo_show_218 d x2 x3 x4 t0 x2 ((-93)) σ o s')
theorem K_Mo_show_199 {d : Nat} {x2 x3 x4 t0 : Int} {σ s' : Mem} {o : Option Int} (hx2 : rg x2) (hx3 : rg x3) (hx4 : rg x4) (ht0 : rg t0) (H : B_Mo_show_199 d x2 x3 x4 t0 σ o s') : Lb (d + 3) yMo_show 199 [(0, .ref 58), (2, vi x2), (3, vi x3), (4, vi x4)] [vi t0] σ o s' := by
  intro hM
  unfold B_Mo_show_199 at H
  refine k_l rfl rfl rfl ?_
  refine k_l rfl rfl rfl ?_
  refine k_gr (t := 86) rfl rfl rfl (by decide) rfl ?_
  refine k_l rfl rfl rfl ?_
  refine k_l rfl rfl rfl ?_
  by_cases c1 : t0 = 0
  · rw [if_pos c1] at H
    refine k_z rfl (by decide) ht0 (q := true) (decide_eq_true c1) rfl ?_
    refine k_k (x := -41) rfl rfl rfl rfl ?_
    exact k_lab (K_Mo_show_218 hx2 hx3 hx4 ht0 hx2 (rgk rfl) H) hM (lvS_cons rfl rfl (lvS_cons rfl rfl (lvS_cons rfl rfl (lvS_cons rfl rfl (lvS_cons rfl rfl lvS_nil)))))
  · rw [if_neg c1] at H
    refine k_z rfl (by decide) ht0 (q := false) (decide_eq_false c1) rfl ?_
    refine k_k (x := -93) rfl rfl rfl rfl ?_
    refine k_b rfl rfl rfl rfl ?_
    exact k_lab (K_Mo_show_218 hx2 hx3 hx4 ht0 hx2 (rgk rfl) H) hM (lvS_cons rfl rfl (lvS_cons rfl rfl (lvS_cons rfl rfl (lvS_cons rfl rfl (lvS_cons rfl rfl lvS_nil)))))
def B_Mo_show_75 (d : Nat) (x2 x3 x4 : Int) (σ : Mem) (o : Option Int) (s' : Mem) : Prop := if x4 < 0 then (B_Mo_show_91 d x2 x3 x4 σ o s') else (((0 : Int) ≤ x4 ∧ x4 < (1300 : Int)) ∧ (if σ 79 x4 ≥ 4 then (((0 : Int) ≤ x4 ∧ x4 < (1300 : Int)) ∧ (if σ 79 x4 ≠ 4 then (B_Mo_show_199 d x2 x3 x4 0 σ o s') else (B_Mo_show_199 d x2 x3 x4 1 σ o s'))) else (B_Mo_show_91 d x2 x3 x4 σ o s')))
theorem K_Mo_show_75 {d : Nat} {x2 x3 x4 : Int} {σ s' : Mem} {o : Option Int} (hx2 : rg x2) (hx3 : rg x3) (hx4 : rg x4) (H : B_Mo_show_75 d x2 x3 x4 σ o s') : Lb (d + 3) yMo_show 75 [(0, .ref 58), (2, vi x2), (3, vi x3), (4, vi x4)] [] σ o s' := by
  intro hM
  unfold B_Mo_show_75 at H
  refine k_l rfl rfl rfl ?_
  by_cases c1 : x4 < 0
  · rw [if_pos c1] at H
    refine k_z rfl (by decide) hx4 (q := true) (decide_eq_true c1) rfl ?_
    exact k_lab (K_Mo_show_91 hx2 hx3 hx4 H) hM (lvS_cons rfl rfl (lvS_cons rfl rfl (lvS_cons rfl rfl (lvS_cons rfl rfl lvS_nil))))
  · rw [if_neg c1] at H
    refine k_z rfl (by decide) hx4 (q := false) (decide_eq_false c1) rfl ?_
    refine k_l rfl rfl rfl ?_
    refine k_gr (t := 79) rfl rfl rfl (by decide) rfl ?_
    refine k_l rfl rfl rfl ?_
    obtain ⟨g2, H⟩ := H
    refine k_al rfl rfl (fun _ => rfl) rfl rfl g2 (by decide) rfl ?_
    refine k_p rfl rfl rfl ?_
    by_cases c3 : σ 79 x4 ≥ 4
    · rw [if_pos c3] at H
      refine k_c rfl (by decide) (hM _ _) (rgk rfl) (q := true) (decide_eq_true c3) rfl ?_
      refine k_l rfl rfl rfl ?_
      refine k_gr (t := 79) rfl rfl rfl (by decide) rfl ?_
      refine k_l rfl rfl rfl ?_
      obtain ⟨g4, H⟩ := H
      refine k_al rfl rfl (fun _ => rfl) rfl rfl g4 (by decide) rfl ?_
      refine k_p rfl rfl rfl ?_
      by_cases c5 : σ 79 x4 ≠ 4
      · rw [if_pos c5] at H
        refine k_c rfl (by decide) (hM _ _) (rgk rfl) (q := true) (decide_eq_true c5) rfl ?_
        refine k_p rfl rfl rfl ?_
        exact k_lab (K_Mo_show_199 hx2 hx3 hx4 (rgk rfl) H) hM (lvS_cons rfl rfl (lvS_cons rfl rfl (lvS_cons rfl rfl (lvS_cons rfl rfl lvS_nil))))
      · rw [if_neg c5] at H
        refine k_c rfl (by decide) (hM _ _) (rgk rfl) (q := false) (decide_eq_false c5) rfl ?_
        refine k_p rfl rfl rfl ?_
        refine k_b rfl rfl rfl rfl ?_
        exact k_lab (K_Mo_show_199 hx2 hx3 hx4 (rgk rfl) H) hM (lvS_cons rfl rfl (lvS_cons rfl rfl (lvS_cons rfl rfl (lvS_cons rfl rfl lvS_nil))))
    · rw [if_neg c3] at H
      refine k_c rfl (by decide) (hM _ _) (rgk rfl) (q := false) (decide_eq_false c3) rfl ?_
      exact k_lab (K_Mo_show_91 hx2 hx3 hx4 H) hM (lvS_cons rfl rfl (lvS_cons rfl rfl (lvS_cons rfl rfl (lvS_cons rfl rfl lvS_nil))))
def B_Mo_show_16 (d : Nat) (x2 x3 : Int) (σ : Mem) (o : Option Int) (s' : Mem) : Prop := if x2 ≤ 0 then (o = none ∧ s' = σ) else (((0 : Int) ≤ x2 + (-1) ∧ x2 + (-1) < (160 : Int)) ∧ (if σ 86 (x2 + (-1)) < 0 then ((rg (x2 + (-1))) ∧ (B_Mo_show_75 d (x2 + (-1)) x3 (σ 86 (x2 + (-1))) σ o s')) else (∃ (v5 : Int) (m5 : Mem), Rn (d + 3) yMo_realType [.ref 58, vi (σ 86 (x2 + (-1)))] σ (some v5) m5 ∧ (((0 : Int) ≤ v5 ∧ v5 < (1300 : Int)) ∧ (if m5 79 v5 ≠ 0 then ((rg (x2 + (-1))) ∧ (B_Mo_show_75 d (x2 + (-1)) x3 v5 m5 o s')) else (((0 : Int) ≤ v5 ∧ v5 < (1300 : Int)) ∧ (if m5 82 v5 ≥ 0 then ((rg (x2 + (-1))) ∧ (B_Mo_show_75 d (x2 + (-1)) x3 v5 m5 o s')) else (((0 : Int) ≤ v5 ∧ v5 < (1300 : Int)) ∧ ((rg (x2 + (-1))) ∧ ((rg (x3 + 1)) ∧ (B_Mo_show_75 d (x2 + (-1)) (x3 + 1) v5 (mup m5 82 v5 x3) o s')))))))))))
theorem K_Mo_show_16 {d : Nat} {x2 x3 : Int} {σ s' : Mem} {o : Option Int} (hx2 : rg x2) (hx3 : rg x3) (H : B_Mo_show_16 d x2 x3 σ o s') : Lb (d + 3) yMo_show 16 [(0, .ref 58), (2, vi x2), (3, vi x3)] [] σ o s' := by
  intro hM
  unfold B_Mo_show_16 at H
  refine k_l rfl rfl rfl ?_
  by_cases c1 : x2 ≤ 0
  · rw [if_pos c1] at H
    refine k_z rfl (by decide) hx2 (q := true) (decide_eq_true c1) rfl ?_
    obtain ⟨rfl, rfl⟩ := H
    exact k_r0 hM rfl rfl rfl
  · rw [if_neg c1] at H
    refine k_z rfl (by decide) hx2 (q := false) (decide_eq_false c1) rfl ?_
    refine k_inc rfl rfl (by decide) ?_
    refine k_l rfl rfl rfl ?_
    refine k_gr (t := 86) rfl rfl rfl (by decide) rfl ?_
    refine k_l rfl rfl rfl ?_
    obtain ⟨g2, H⟩ := H
    refine k_al rfl rfl (fun _ => rfl) rfl rfl g2 (by decide) rfl ?_
    refine k_l rfl rfl rfl ?_
    refine k_l rfl rfl rfl ?_
    by_cases c3 : σ 86 (x2 + (-1)) < 0
    · rw [if_pos c3] at H
      refine k_z rfl (by decide) (hM _ _) (q := true) (decide_eq_true c3) rfl ?_
      obtain ⟨g4, H⟩ := H
      exact k_lab (K_Mo_show_75 g4 hx3 (hM _ _) H) hM (lvS_cons rfl rfl (lvS_cons rfl rfl (lvS_cons rfl rfl (lvS_cons rfl rfl lvS_nil))))
    · rw [if_neg c3] at H
      refine k_z rfl (by decide) (hM _ _) (q := false) (decide_eq_false c3) rfl ?_
      refine k_l rfl rfl rfl ?_
      refine k_l rfl rfl rfl ?_
      obtain ⟨v5, m5, R5, H⟩ := H
      refine k_iv rfl rfl rfl rfl rfl (by decide) rfl hM R5 (fun hM5 hv5 => ?_)
      refine k_l rfl rfl rfl ?_
      refine k_l rfl rfl rfl ?_
      refine k_gr (t := 79) rfl rfl rfl (by decide) rfl ?_
      refine k_l rfl rfl rfl ?_
      obtain ⟨g6, H⟩ := H
      refine k_al rfl rfl (fun _ => rfl) rfl rfl g6 (by decide) rfl ?_
      by_cases c7 : m5 79 v5 ≠ 0
      · rw [if_pos c7] at H
        refine k_z rfl (by decide) (hM5 _ _) (q := true) (decide_eq_true c7) rfl ?_
        obtain ⟨g8, H⟩ := H
        exact k_lab (K_Mo_show_75 g8 hx3 hv5 H) hM5 (lvS_cons rfl rfl (lvS_cons rfl rfl (lvS_cons rfl rfl (lvS_cons rfl rfl lvS_nil))))
      · rw [if_neg c7] at H
        refine k_z rfl (by decide) (hM5 _ _) (q := false) (decide_eq_false c7) rfl ?_
        refine k_l rfl rfl rfl ?_
        refine k_gr (t := 82) rfl rfl rfl (by decide) rfl ?_
        refine k_l rfl rfl rfl ?_
        obtain ⟨g9, H⟩ := H
        refine k_al rfl rfl (fun _ => rfl) rfl rfl g9 (by decide) rfl ?_
        by_cases c10 : m5 82 v5 ≥ 0
        · rw [if_pos c10] at H
          refine k_z rfl (by decide) (hM5 _ _) (q := true) (decide_eq_true c10) rfl ?_
          obtain ⟨g11, H⟩ := H
          exact k_lab (K_Mo_show_75 g11 hx3 hv5 H) hM5 (lvS_cons rfl rfl (lvS_cons rfl rfl (lvS_cons rfl rfl (lvS_cons rfl rfl lvS_nil))))
        · rw [if_neg c10] at H
          refine k_z rfl (by decide) (hM5 _ _) (q := false) (decide_eq_false c10) rfl ?_
          refine k_l rfl rfl rfl ?_
          refine k_gr (t := 82) rfl rfl rfl (by decide) rfl ?_
          refine k_l rfl rfl rfl ?_
          refine k_l rfl rfl rfl ?_
          obtain ⟨g12, H⟩ := H
          refine k_as (ok := isI) rfl rfl (fun _ => rfl) rfl rfl g12 (by decide) rfl ?_
          refine k_inc rfl rfl (by decide) ?_
          obtain ⟨g13, H⟩ := H
          obtain ⟨g14, H⟩ := H
          exact k_lab (K_Mo_show_75 g13 g14 hv5 H) (hM5.up hx3) (lvS_cons rfl rfl (lvS_cons rfl rfl (lvS_cons rfl rfl (lvS_cons rfl rfl lvS_nil))))
def B_Mo_startProgram (d : Nat) (σ : Mem) (o : Option Int) (s' : Mem) : Prop := Lb (d + 3) yMo_startProgram 10 [(0, .ref 58), (1, vi 0)] [] (mup σ 58 11 (σ 58 7)) o s'
theorem M_Mo_startProgram {d : Nat} {σ s' : Mem} {o : Option Int}  (H : B_Mo_startProgram d  σ o s') : Rn (d + 4) yMo_startProgram [.ref 58] σ o s' := by
  refine k_m (Nat.le_of_ble_eq_true rfl) (fun hM => ?_)
  unfold B_Mo_startProgram at H
  refine k_l rfl rfl rfl ?_
  refine k_l rfl rfl rfl ?_
  refine k_gf rfl rfl rfl (by decide) rfl rfl ?_
  refine k_pf rfl rfl rfl (by decide) rfl rfl rfl rfl ?_
  refine k_p rfl rfl rfl ?_
  refine k_l rfl rfl rfl ?_
  exact k_lab H (hM.up (hM _ _)) (lvS_cons rfl rfl (lvS_cons rfl rfl lvS_nil))
def B_Mo_startProgram_10 (d : Nat) (x1 : Int) (σ : Mem) (o : Option Int) (s' : Mem) : Prop := if x1 ≥ σ 58 7 then (Lb (d + 3) yMo_startProgram 74 [(0, .ref 58), (1, vi 0)] [] σ o s') else (((0 : Int) ≤ x1 ∧ x1 < (124 : Int)) ∧ (((0 : Int) ≤ x1 ∧ x1 < (124 : Int)) ∧ (((0 : Int) ≤ x1 ∧ x1 < (124 : Int)) ∧ (((0 : Int) ≤ x1 ∧ x1 < (124 : Int)) ∧ (((0 : Int) ≤ x1 ∧ x1 < (124 : Int)) ∧ (((0 : Int) ≤ x1 ∧ x1 < (124 : Int)) ∧ (((0 : Int) ≤ x1 ∧ x1 < (124 : Int)) ∧ (((0 : Int) ≤ x1 ∧ x1 < (124 : Int)) ∧ ((rg (x1 + 1)) ∧ (Lb (d + 3) yMo_startProgram 10 [(0, .ref 58), (1, vi (x1 + 1))] [] (mup (mup (mup (mup σ 63 x1 (σ 60 x1)) 64 x1 (σ 61 x1)) 65 x1 (σ 62 x1)) 75 x1 (σ 74 x1)) o s'))))))))))
theorem K_Mo_startProgram_10 {d : Nat} {x1 : Int} {σ s' : Mem} {o : Option Int} (hx1 : rg x1) (H : B_Mo_startProgram_10 d x1 σ o s') : Lb (d + 3) yMo_startProgram 10 [(0, .ref 58), (1, vi x1)] [] σ o s' := by
  intro hM
  unfold B_Mo_startProgram_10 at H
  refine k_l rfl rfl rfl ?_
  refine k_l rfl rfl rfl ?_
  refine k_gf rfl rfl rfl (by decide) rfl rfl ?_
  by_cases c1 : x1 ≥ σ 58 7
  · rw [if_pos c1] at H
    refine k_c rfl (by decide) hx1 (hM _ _) (q := true) (decide_eq_true c1) rfl ?_
    refine k_p rfl rfl rfl ?_
    refine k_l rfl rfl rfl ?_
    exact k_lab H hM (lvS_cons rfl rfl (lvS_cons rfl rfl lvS_nil))
  · rw [if_neg c1] at H
    refine k_c rfl (by decide) hx1 (hM _ _) (q := false) (decide_eq_false c1) rfl ?_
    refine k_l rfl rfl rfl ?_
    refine k_gr (t := 63) rfl rfl rfl (by decide) rfl ?_
    refine k_l rfl rfl rfl ?_
    refine k_l rfl rfl rfl ?_
    refine k_gr (t := 60) rfl rfl rfl (by decide) rfl ?_
    refine k_l rfl rfl rfl ?_
    obtain ⟨g2, H⟩ := H
    refine k_al rfl rfl (fun _ => rfl) rfl rfl g2 (by decide) rfl ?_
    obtain ⟨g3, H⟩ := H
    refine k_as (ok := isI) rfl rfl (fun _ => rfl) rfl rfl g3 (by decide) rfl ?_
    refine k_l rfl rfl rfl ?_
    refine k_gr (t := 64) rfl rfl rfl (by decide) rfl ?_
    refine k_l rfl rfl rfl ?_
    refine k_l rfl rfl rfl ?_
    refine k_gr (t := 61) rfl rfl rfl (by decide) rfl ?_
    refine k_l rfl rfl rfl ?_
    obtain ⟨g4, H⟩ := H
    refine k_al rfl rfl (fun _ => rfl) rfl rfl g4 (by decide) (mup_ne (by decide)) ?_
    obtain ⟨g5, H⟩ := H
    refine k_as (ok := isI) rfl rfl (fun _ => rfl) rfl rfl g5 (by decide) rfl ?_
    refine k_l rfl rfl rfl ?_
    refine k_gr (t := 65) rfl rfl rfl (by decide) rfl ?_
    refine k_l rfl rfl rfl ?_
    refine k_l rfl rfl rfl ?_
    refine k_gr (t := 62) rfl rfl rfl (by decide) rfl ?_
    refine k_l rfl rfl rfl ?_
    obtain ⟨g6, H⟩ := H
    refine k_al rfl rfl (fun _ => rfl) rfl rfl g6 (by decide) ((mup_ne (by decide)).trans (mup_ne (by decide))) ?_
    obtain ⟨g7, H⟩ := H
    refine k_as (ok := isI) rfl rfl (fun _ => rfl) rfl rfl g7 (by decide) rfl ?_
    refine k_l rfl rfl rfl ?_
    refine k_gr (t := 75) rfl rfl rfl (by decide) rfl ?_
    refine k_l rfl rfl rfl ?_
    refine k_l rfl rfl rfl ?_
    refine k_gr (t := 74) rfl rfl rfl (by decide) rfl ?_
    refine k_l rfl rfl rfl ?_
    obtain ⟨g8, H⟩ := H
    refine k_al rfl rfl (fun _ => rfl) rfl rfl g8 (by decide) ((mup_ne (by decide)).trans ((mup_ne (by decide)).trans (mup_ne (by decide)))) ?_
    obtain ⟨g9, H⟩ := H
    refine k_as (ok := isI) rfl rfl (fun _ => rfl) rfl rfl g9 (by decide) rfl ?_
    refine k_inc rfl rfl (by decide) ?_
    refine k_b rfl rfl rfl rfl ?_
    obtain ⟨g10, H⟩ := H
    exact k_lab H ((((hM.up (hM _ _)).up (hM _ _)).up (hM _ _)).up (hM _ _)) (lvS_cons rfl rfl (lvS_cons rfl rfl lvS_nil))
def B_Mo_startProgram_74 (d : Nat) (x1 : Int) (σ : Mem) (o : Option Int) (s' : Mem) : Prop := if x1 ≥ σ 58 14 then (((0 : Int) ≤ 0 ∧ 0 < (120 : Int)) ∧ (∃ (m3 : Mem), Rn (d + 3) yMo_show [.ref 58, vi (σ 83 0)] σ none m3 ∧ (o = none ∧ s' = mup (mup (mup (mup (mup (mup (mup (mup (mup (mup (mup m3 58 2 0) 58 51 0) 58 54 0) 58 57 0) 58 58 0) 58 61 0) 58 63 0) 58 64 0) 58 65 1) 58 66 0) 58 67 0))) else (((0 : Int) ≤ x1 ∧ x1 < (80 : Int)) ∧ (((0 : Int) ≤ x1 ∧ x1 < (80 : Int)) ∧ (((0 : Int) ≤ x1 ∧ x1 < (80 : Int)) ∧ (((0 : Int) ≤ x1 ∧ x1 < (80 : Int)) ∧ ((rg (x1 + 1)) ∧ (Lb (d + 3) yMo_startProgram 74 [(0, .ref 58), (1, vi (x1 + 1))] [] (mup (mup σ 68 x1 (σ 66 x1)) 69 x1 (σ 67 x1)) o s'))))))
theorem K_Mo_startProgram_74 {d : Nat} {x1 : Int} {σ s' : Mem} {o : Option Int} (hx1 : rg x1) (H : B_Mo_startProgram_74 d x1 σ o s') : Lb (d + 3) yMo_startProgram 74 [(0, .ref 58), (1, vi x1)] [] σ o s' := by
  intro hM
  unfold B_Mo_startProgram_74 at H
  refine k_l rfl rfl rfl ?_
  refine k_l rfl rfl rfl ?_
  refine k_gf rfl rfl rfl (by decide) rfl rfl ?_
  by_cases c1 : x1 ≥ σ 58 14
  · rw [if_pos c1] at H
    refine k_c rfl (by decide) hx1 (hM _ _) (q := true) (decide_eq_true c1) rfl ?_
    refine k_l rfl rfl rfl ?_
    refine k_l rfl rfl rfl ?_
    refine k_gr (t := 83) rfl rfl rfl (by decide) rfl ?_
    refine k_p rfl rfl rfl ?_
    obtain ⟨g2, H⟩ := H
    refine k_al rfl rfl (fun _ => rfl) rfl rfl g2 (by decide) rfl ?_
    obtain ⟨m3, R3, H⟩ := H
    refine k_iw rfl rfl rfl rfl rfl (by decide) rfl hM R3 (fun hM3 => ?_)
    refine k_l rfl rfl rfl ?_
    refine k_p rfl rfl rfl ?_
    refine k_pf rfl rfl rfl (by decide) rfl rfl rfl rfl ?_
    refine k_l rfl rfl rfl ?_
    refine k_p rfl rfl rfl ?_
    refine k_pf rfl rfl rfl (by decide) rfl rfl rfl rfl ?_
    refine k_l rfl rfl rfl ?_
    refine k_p rfl rfl rfl ?_
    refine k_pf rfl rfl rfl (by decide) rfl rfl rfl rfl ?_
    refine k_l rfl rfl rfl ?_
    refine k_p rfl rfl rfl ?_
    refine k_pf rfl rfl rfl (by decide) rfl rfl rfl rfl ?_
    refine k_l rfl rfl rfl ?_
    refine k_p rfl rfl rfl ?_
    refine k_pf rfl rfl rfl (by decide) rfl rfl rfl rfl ?_
    refine k_l rfl rfl rfl ?_
    refine k_p rfl rfl rfl ?_
    refine k_pf rfl rfl rfl (by decide) rfl rfl rfl rfl ?_
    refine k_l rfl rfl rfl ?_
    refine k_p rfl rfl rfl ?_
    refine k_pf rfl rfl rfl (by decide) rfl rfl rfl rfl ?_
    refine k_l rfl rfl rfl ?_
    refine k_p rfl rfl rfl ?_
    refine k_pf rfl rfl rfl (by decide) rfl rfl rfl rfl ?_
    refine k_l rfl rfl rfl ?_
    refine k_p rfl rfl rfl ?_
    refine k_pf rfl rfl rfl (by decide) rfl rfl rfl rfl ?_
    refine k_l rfl rfl rfl ?_
    refine k_p rfl rfl rfl ?_
    refine k_pf rfl rfl rfl (by decide) rfl rfl rfl rfl ?_
    refine k_l rfl rfl rfl ?_
    refine k_p rfl rfl rfl ?_
    refine k_pf rfl rfl rfl (by decide) rfl rfl rfl rfl ?_
    obtain ⟨rfl, rfl⟩ := H
    exact k_r0 (((((((((((hM3.up (rgk rfl)).up (rgk rfl)).up (rgk rfl)).up (rgk rfl)).up (rgk rfl)).up (rgk rfl)).up (rgk rfl)).up (rgk rfl)).up (rgk rfl)).up (rgk rfl)).up (rgk rfl)) rfl rfl rfl
  · rw [if_neg c1] at H
    refine k_c rfl (by decide) hx1 (hM _ _) (q := false) (decide_eq_false c1) rfl ?_
    refine k_l rfl rfl rfl ?_
    refine k_gr (t := 68) rfl rfl rfl (by decide) rfl ?_
    refine k_l rfl rfl rfl ?_
    refine k_l rfl rfl rfl ?_
    refine k_gr (t := 66) rfl rfl rfl (by decide) rfl ?_
    refine k_l rfl rfl rfl ?_
    obtain ⟨g4, H⟩ := H
    refine k_al rfl rfl (fun _ => rfl) rfl rfl g4 (by decide) rfl ?_
    obtain ⟨g5, H⟩ := H
    refine k_as (ok := isI) rfl rfl (fun _ => rfl) rfl rfl g5 (by decide) rfl ?_
    refine k_l rfl rfl rfl ?_
    refine k_gr (t := 69) rfl rfl rfl (by decide) rfl ?_
    refine k_l rfl rfl rfl ?_
    refine k_l rfl rfl rfl ?_
    refine k_gr (t := 67) rfl rfl rfl (by decide) rfl ?_
    refine k_l rfl rfl rfl ?_
    obtain ⟨g6, H⟩ := H
    refine k_al rfl rfl (fun _ => rfl) rfl rfl g6 (by decide) (mup_ne (by decide)) ?_
    obtain ⟨g7, H⟩ := H
    refine k_as (ok := isI) rfl rfl (fun _ => rfl) rfl rfl g7 (by decide) rfl ?_
    refine k_inc rfl rfl (by decide) ?_
    refine k_b rfl rfl rfl rfl ?_
    obtain ⟨g8, H⟩ := H
    exact k_lab H ((hM.up (hM _ _)).up (hM _ _)) (lvS_cons rfl rfl (lvS_cons rfl rfl lvS_nil))
def B_Mo_load_35 (d : Nat) (t1 : Int) (σ : Mem) (o : Option Int) (s' : Mem) : Prop := if t1 ≤ 0 then (∃ (m2 : Mem), Rn (d + 3) yMo_startProgram [.ref 58] (mup σ 58 0 t1) none m2 ∧ (o = some (m2 58 49) ∧ s' = m2)) else (o = some 0 ∧ s' = mup σ 58 0 t1)
theorem K_Mo_load_35 {d : Nat} {t1 : Int} {σ s' : Mem} {o : Option Int} (ht1 : rg t1) (H : B_Mo_load_35 d t1 σ o s') : Lb (d + 3) yMo_load 35 [(0, .ref 58)] [vi t1, .ref 58] σ o s' := by
  intro hM
  unfold B_Mo_load_35 at H
  refine k_pf rfl rfl rfl (by decide) rfl rfl rfl rfl ?_
  refine k_l rfl rfl rfl ?_
  refine k_gf rfl rfl rfl (by decide) rfl mup_eq ?_
  by_cases c1 : t1 ≤ 0
  · rw [if_pos c1] at H
    refine k_z rfl (by decide) ht1 (q := true) (decide_eq_true c1) rfl ?_
    refine k_l rfl rfl rfl ?_
    obtain ⟨m2, R2, H⟩ := H
    refine k_iw rfl rfl rfl rfl rfl (by decide) rfl (hM.up ht1) R2 (fun hM2 => ?_)
    refine k_l rfl rfl rfl ?_
    refine k_gf rfl rfl rfl (by decide) rfl rfl ?_
    obtain ⟨rfl, rfl⟩ := H
    exact k_r1 hM2 (hM2 _ _) rfl rfl rfl
  · rw [if_neg c1] at H
    refine k_z rfl (by decide) ht1 (q := false) (decide_eq_false c1) rfl ?_
    refine k_p rfl rfl rfl ?_
    obtain ⟨rfl, rfl⟩ := H
    exact k_r1 (hM.up ht1) (rgk rfl) rfl rfl rfl
def B_Mo_load (d : Nat) (σ : Mem) (o : Option Int) (s' : Mem) : Prop := ∃ (v1 : Int) (m1 : Mem), Rn (d + 3) yMo_reads [.ref 58] σ (some v1) m1 ∧ (if v1 ≠ 0 then (∃ (v3 : Int) (m3 : Mem), Rn (d + 3) yMo_namesFound [.ref 58] m1 (some v3) m3 ∧ (if v3 ≠ 0 then (∃ (v5 : Int) (m5 : Mem), Rn (d + 3) yMo_typesFound [.ref 58] m3 (some v5) m5 ∧ (if v5 ≠ 0 then (B_Mo_load_35 d 0 m5 o s') else (B_Mo_load_35 d 3 m5 o s'))) else (B_Mo_load_35 d 2 m3 o s'))) else (B_Mo_load_35 d 1 m1 o s'))
theorem M_Mo_load {d : Nat} {σ s' : Mem} {o : Option Int}  (H : B_Mo_load d  σ o s') : Rn (d + 4) yMo_load [.ref 58] σ o s' := by
  refine k_m (Nat.le_of_ble_eq_true rfl) (fun hM => ?_)
  unfold B_Mo_load at H
  refine k_l rfl rfl rfl ?_
  refine k_l rfl rfl rfl ?_
  obtain ⟨v1, m1, R1, H⟩ := H
  refine k_iv rfl rfl rfl rfl rfl (by decide) rfl hM R1 (fun hM1 hv1 => ?_)
  by_cases c2 : v1 ≠ 0
  · rw [if_pos c2] at H
    refine k_z rfl (by decide) hv1 (q := true) (decide_eq_true c2) rfl ?_
    refine k_l rfl rfl rfl ?_
    obtain ⟨v3, m3, R3, H⟩ := H
    refine k_iv rfl rfl rfl rfl rfl (by decide) rfl hM1 R3 (fun hM3 hv3 => ?_)
    by_cases c4 : v3 ≠ 0
    · rw [if_pos c4] at H
      refine k_z rfl (by decide) hv3 (q := true) (decide_eq_true c4) rfl ?_
      refine k_l rfl rfl rfl ?_
      obtain ⟨v5, m5, R5, H⟩ := H
      refine k_iv rfl rfl rfl rfl rfl (by decide) rfl hM3 R5 (fun hM5 hv5 => ?_)
      by_cases c6 : v5 ≠ 0
      · rw [if_pos c6] at H
        refine k_z rfl (by decide) hv5 (q := true) (decide_eq_true c6) rfl ?_
        refine k_p rfl rfl rfl ?_
        exact k_lab (K_Mo_load_35 (rgk rfl) H) hM5 (lvS_cons rfl rfl lvS_nil)
      · rw [if_neg c6] at H
        refine k_z rfl (by decide) hv5 (q := false) (decide_eq_false c6) rfl ?_
        refine k_p rfl rfl rfl ?_
        refine k_b rfl rfl rfl rfl ?_
        exact k_lab (K_Mo_load_35 (rgk rfl) H) hM5 (lvS_cons rfl rfl lvS_nil)
    · rw [if_neg c4] at H
      refine k_z rfl (by decide) hv3 (q := false) (decide_eq_false c4) rfl ?_
      refine k_p rfl rfl rfl ?_
      refine k_b rfl rfl rfl rfl ?_
      exact k_lab (K_Mo_load_35 (rgk rfl) H) hM3 (lvS_cons rfl rfl lvS_nil)
  · rw [if_neg c2] at H
    refine k_z rfl (by decide) hv1 (q := false) (decide_eq_false c2) rfl ?_
    refine k_p rfl rfl rfl ?_
    refine k_b rfl rfl rfl rfl ?_
    exact k_lab (K_Mo_load_35 (rgk rfl) H) hM1 (lvS_cons rfl rfl lvS_nil)
def B_Mo_shown_17 (d : Nat) (σ : Mem) (o : Option Int) (s' : Mem) : Prop := o = some ((-1)) ∧ s' = σ
theorem K_Mo_shown_17 {d : Nat} {σ s' : Mem} {o : Option Int}  (H : B_Mo_shown_17 d  σ o s') : Lb (d + 3) yMo_shown 17 [] [] σ o s' := by
  intro hM
  unfold B_Mo_shown_17 at H
  refine k_p rfl rfl rfl ?_
  refine k_b rfl rfl rfl rfl ?_
  obtain ⟨rfl, rfl⟩ := H
  exact k_r1 hM (rgk rfl) rfl rfl rfl
def B_Mo_shown (d : Nat) (x1 : Int) (σ : Mem) (o : Option Int) (s' : Mem) : Prop := if x1 < 0 then (B_Mo_shown_17 d  (mup σ 58 0 0) o s') else (if x1 < σ 58 49 then (((0 : Int) ≤ x1 ∧ x1 < (80 : Int)) ∧ (o = some (σ 88 x1) ∧ s' = mup σ 58 0 0)) else (B_Mo_shown_17 d  (mup σ 58 0 0) o s'))
theorem M_Mo_shown {d : Nat} {x1 : Int} {σ s' : Mem} {o : Option Int} (hx1 : rg x1) (H : B_Mo_shown d x1 σ o s') : Rn (d + 4) yMo_shown [.ref 58, vi x1] σ o s' := by
  refine k_m (Nat.le_of_ble_eq_true rfl) (fun hM => ?_)
  unfold B_Mo_shown at H
  refine k_l rfl rfl rfl ?_
  refine k_p rfl rfl rfl ?_
  refine k_pf rfl rfl rfl (by decide) rfl rfl rfl rfl ?_
  refine k_l rfl rfl rfl ?_
  by_cases c1 : x1 < 0
  · rw [if_pos c1] at H
    refine k_z rfl (by decide) hx1 (q := true) (decide_eq_true c1) rfl ?_
    exact k_lab (K_Mo_shown_17  H) (hM.up (rgk rfl)) lvS_nil
  · rw [if_neg c1] at H
    refine k_z rfl (by decide) hx1 (q := false) (decide_eq_false c1) rfl ?_
    refine k_l rfl rfl rfl ?_
    refine k_l rfl rfl rfl ?_
    refine k_gf rfl rfl rfl (by decide) rfl (mup_nk (by decide)) ?_
    by_cases c2 : x1 < σ 58 49
    · rw [if_pos c2] at H
      refine k_c rfl (by decide) hx1 (hM _ _) (q := true) (decide_eq_true c2) rfl ?_
      refine k_l rfl rfl rfl ?_
      refine k_gr (t := 88) rfl rfl rfl (by decide) rfl ?_
      refine k_l rfl rfl rfl ?_
      obtain ⟨g3, H⟩ := H
      refine k_al rfl rfl (fun _ => rfl) rfl rfl g3 (by decide) (mup_ne (by decide)) ?_
      obtain ⟨rfl, rfl⟩ := H
      exact k_r1 (hM.up (rgk rfl)) (hM _ _) rfl rfl rfl
    · rw [if_neg c2] at H
      refine k_c rfl (by decide) hx1 (hM _ _) (q := false) (decide_eq_false c2) rfl ?_
      exact k_lab (K_Mo_shown_17  H) (hM.up (rgk rfl)) lvS_nil
def B_Mo_type (d : Nat) (x1 : Int) (σ : Mem) (o : Option Int) (s' : Mem) : Prop := if x1 < 32 then (o = some 0 ∧ s' = mup σ 58 0 0) else (if x1 > 126 then (o = some 0 ∧ s' = mup σ 58 0 0) else (if σ 58 2 ≠ 60 then (((0 : Int) ≤ σ 58 2 ∧ σ 58 2 < (60 : Int)) ∧ (((0 : Int) ≤ x1 ∧ x1 < (65536 : Int)) ∧ ((rg ((σ 58 2) + 1)) ∧ (o = some 1 ∧ s' = mup (mup (mup σ 58 0 0) 59 (σ 58 2) x1) 58 2 ((σ 58 2) + 1))))) else (o = some 0 ∧ s' = mup σ 58 0 0)))
theorem M_Mo_type {d : Nat} {x1 : Int} {σ s' : Mem} {o : Option Int} (hx1 : rg x1) (H : B_Mo_type d x1 σ o s') : Rn (d + 4) yMo_type [.ref 58, vi x1] σ o s' := by
  refine k_m (Nat.le_of_ble_eq_true rfl) (fun hM => ?_)
  unfold B_Mo_type at H
  refine k_l rfl rfl rfl ?_
  refine k_p rfl rfl rfl ?_
  refine k_pf rfl rfl rfl (by decide) rfl rfl rfl rfl ?_
  refine k_l rfl rfl rfl ?_
  refine k_k (x := 32) rfl rfl rfl rfl ?_
  by_cases c1 : x1 < 32
  · rw [if_pos c1] at H
    refine k_c rfl (by decide) hx1 (rgk rfl) (q := true) (decide_eq_true c1) rfl ?_
    refine k_p rfl rfl rfl ?_
    obtain ⟨rfl, rfl⟩ := H
    exact k_r1 (hM.up (rgk rfl)) (rgk rfl) rfl rfl rfl
  · rw [if_neg c1] at H
    refine k_c rfl (by decide) hx1 (rgk rfl) (q := false) (decide_eq_false c1) rfl ?_
    refine k_l rfl rfl rfl ?_
    refine k_k (x := 126) rfl rfl rfl rfl ?_
    by_cases c2 : x1 > 126
    · rw [if_pos c2] at H
      refine k_c rfl (by decide) hx1 (rgk rfl) (q := true) (decide_eq_true c2) rfl ?_
      refine k_p rfl rfl rfl ?_
      obtain ⟨rfl, rfl⟩ := H
      exact k_r1 (hM.up (rgk rfl)) (rgk rfl) rfl rfl rfl
    · rw [if_neg c2] at H
      refine k_c rfl (by decide) hx1 (rgk rfl) (q := false) (decide_eq_false c2) rfl ?_
      refine k_l rfl rfl rfl ?_
      refine k_gf rfl rfl rfl (by decide) rfl (mup_nk (by decide)) ?_
      refine k_k (x := 60) rfl rfl rfl rfl ?_
      by_cases c3 : σ 58 2 ≠ 60
      · rw [if_pos c3] at H
        refine k_c rfl (by decide) (hM _ _) (rgk rfl) (q := true) (decide_eq_true c3) rfl ?_
        refine k_l rfl rfl rfl ?_
        refine k_gr (t := 59) rfl rfl rfl (by decide) rfl ?_
        refine k_l rfl rfl rfl ?_
        refine k_gf rfl rfl rfl (by decide) rfl (mup_nk (by decide)) ?_
        refine k_l rfl rfl rfl ?_
        obtain ⟨g4, H⟩ := H
        obtain ⟨g5, H⟩ := H
        refine k_as (ok := (fun v => fits .char v)) rfl rfl (fun _ => rfl) rfl rfl g4 (by decide) (fitc g5) ?_
        refine k_l rfl rfl rfl ?_
        refine k_p rfl rfl rfl ?_
        refine k_gf rfl rfl rfl (by decide) rfl ((mup_ne (by decide)).trans (mup_nk (by decide))) ?_
        refine k_p rfl rfl rfl ?_
        refine k_add rfl ?_
        obtain ⟨g6, H⟩ := H
        refine k_pf rfl rfl rfl (by decide) rfl rfl rfl rfl ?_
        refine k_p rfl rfl rfl ?_
        obtain ⟨rfl, rfl⟩ := H
        exact k_r1 (((hM.up (rgk rfl)).up hx1).up g6) (rgk rfl) rfl rfl rfl
      · rw [if_neg c3] at H
        refine k_c rfl (by decide) (hM _ _) (rgk rfl) (q := false) (decide_eq_false c3) rfl ?_
        refine k_p rfl rfl rfl ?_
        obtain ⟨rfl, rfl⟩ := H
        exact k_r1 (hM.up (rgk rfl)) (rgk rfl) rfl rfl rfl
def B_Mo_wipe (d : Nat) (σ : Mem) (o : Option Int) (s' : Mem) : Prop := o = none ∧ s' = mup (mup σ 58 0 0) 58 2 0
theorem M_Mo_wipe {d : Nat} {σ s' : Mem} {o : Option Int}  (H : B_Mo_wipe d  σ o s') : Rn (d + 4) yMo_wipe [.ref 58] σ o s' := by
  refine k_m (Nat.le_of_ble_eq_true rfl) (fun hM => ?_)
  unfold B_Mo_wipe at H
  refine k_l rfl rfl rfl ?_
  refine k_p rfl rfl rfl ?_
  refine k_pf rfl rfl rfl (by decide) rfl rfl rfl rfl ?_
  refine k_l rfl rfl rfl ?_
  refine k_p rfl rfl rfl ?_
  refine k_pf rfl rfl rfl (by decide) rfl rfl rfl rfl ?_
  obtain ⟨rfl, rfl⟩ := H
  exact k_r0 ((hM.up (rgk rfl)).up (rgk rfl)) rfl rfl rfl
def B_Mo_thrown (d : Nat) (σ : Mem) (o : Option Int) (s' : Mem) : Prop := o = some (σ 58 0) ∧ s' = σ
theorem M_Mo_thrown {d : Nat} {σ s' : Mem} {o : Option Int}  (H : B_Mo_thrown d  σ o s') : Rn (d + 4) yMo_thrown [.ref 58] σ o s' := by
  refine k_m (Nat.le_of_ble_eq_true rfl) (fun hM => ?_)
  unfold B_Mo_thrown at H
  refine k_l rfl rfl rfl ?_
  refine k_gf rfl rfl rfl (by decide) rfl rfl ?_
  obtain ⟨rfl, rfl⟩ := H
  exact k_r1 hM (hM _ _) rfl rfl rfl
def B_Mo_state (d : Nat) (x1 : Int) (σ : Mem) (o : Option Int) (s' : Mem) : Prop := if x1 ≠ 0 then (if x1 ≠ 1 then (if x1 ≠ 2 then (if x1 ≠ 3 then (o = some ((-1)) ∧ s' = mup σ 58 0 0) else (o = some (σ 58 68) ∧ s' = mup σ 58 0 0)) else (o = some (σ 58 67) ∧ s' = mup σ 58 0 0)) else (o = some (σ 58 66) ∧ s' = mup σ 58 0 0)) else (o = some (σ 58 65) ∧ s' = mup σ 58 0 0)
theorem M_Mo_state {d : Nat} {x1 : Int} {σ s' : Mem} {o : Option Int} (hx1 : rg x1) (H : B_Mo_state d x1 σ o s') : Rn (d + 4) yMo_state [.ref 58, vi x1] σ o s' := by
  refine k_m (Nat.le_of_ble_eq_true rfl) (fun hM => ?_)
  unfold B_Mo_state at H
  refine k_l rfl rfl rfl ?_
  refine k_p rfl rfl rfl ?_
  refine k_pf rfl rfl rfl (by decide) rfl rfl rfl rfl ?_
  refine k_l rfl rfl rfl ?_
  by_cases c1 : x1 ≠ 0
  · rw [if_pos c1] at H
    refine k_z rfl (by decide) hx1 (q := true) (decide_eq_true c1) rfl ?_
    refine k_l rfl rfl rfl ?_
    refine k_p rfl rfl rfl ?_
    by_cases c2 : x1 ≠ 1
    · rw [if_pos c2] at H
      refine k_c rfl (by decide) hx1 (rgk rfl) (q := true) (decide_eq_true c2) rfl ?_
      refine k_l rfl rfl rfl ?_
      refine k_p rfl rfl rfl ?_
      by_cases c3 : x1 ≠ 2
      · rw [if_pos c3] at H
        refine k_c rfl (by decide) hx1 (rgk rfl) (q := true) (decide_eq_true c3) rfl ?_
        refine k_l rfl rfl rfl ?_
        refine k_p rfl rfl rfl ?_
        by_cases c4 : x1 ≠ 3
        · rw [if_pos c4] at H
          refine k_c rfl (by decide) hx1 (rgk rfl) (q := true) (decide_eq_true c4) rfl ?_
          refine k_p rfl rfl rfl ?_
          obtain ⟨rfl, rfl⟩ := H
          exact k_r1 (hM.up (rgk rfl)) (rgk rfl) rfl rfl rfl
        · rw [if_neg c4] at H
          refine k_c rfl (by decide) hx1 (rgk rfl) (q := false) (decide_eq_false c4) rfl ?_
          refine k_l rfl rfl rfl ?_
          refine k_gf rfl rfl rfl (by decide) rfl (mup_nk (by decide)) ?_
          refine k_b rfl rfl rfl rfl ?_
          obtain ⟨rfl, rfl⟩ := H
          exact k_r1 (hM.up (rgk rfl)) (hM _ _) rfl rfl rfl
      · rw [if_neg c3] at H
        refine k_c rfl (by decide) hx1 (rgk rfl) (q := false) (decide_eq_false c3) rfl ?_
        refine k_l rfl rfl rfl ?_
        refine k_gf rfl rfl rfl (by decide) rfl (mup_nk (by decide)) ?_
        refine k_b rfl rfl rfl rfl ?_
        obtain ⟨rfl, rfl⟩ := H
        exact k_r1 (hM.up (rgk rfl)) (hM _ _) rfl rfl rfl
    · rw [if_neg c2] at H
      refine k_c rfl (by decide) hx1 (rgk rfl) (q := false) (decide_eq_false c2) rfl ?_
      refine k_l rfl rfl rfl ?_
      refine k_gf rfl rfl rfl (by decide) rfl (mup_nk (by decide)) ?_
      refine k_b rfl rfl rfl rfl ?_
      obtain ⟨rfl, rfl⟩ := H
      exact k_r1 (hM.up (rgk rfl)) (hM _ _) rfl rfl rfl
  · rw [if_neg c1] at H
    refine k_z rfl (by decide) hx1 (q := false) (decide_eq_false c1) rfl ?_
    refine k_l rfl rfl rfl ?_
    refine k_gf rfl rfl rfl (by decide) rfl (mup_nk (by decide)) ?_
    refine k_b rfl rfl rfl rfl ?_
    obtain ⟨rfl, rfl⟩ := H
    exact k_r1 (hM.up (rgk rfl)) (hM _ _) rfl rfl rfl
