/-! Lifted methods: the model's reader. -/
def B_Mo_digit (d : Nat) (x0 : Int) (σ : Mem) (o : Option Int) (s' : Mem) : Prop := if x0 < 48 then (o = some 0 ∧ s' = σ) else (if x0 > 57 then (o = some 0 ∧ s' = σ) else (o = some 1 ∧ s' = σ))
theorem M_Mo_digit {d : Nat} {x0 : Int} {σ s' : Mem} {o : Option Int} (hx0 : rg x0) (H : B_Mo_digit d x0 σ o s') : Rn (d + 2) yMo_digit [vi x0] σ o s' := by
  refine k_m (Nat.le_of_ble_eq_true rfl) (fun hM => ?_)
  unfold B_Mo_digit at H
  refine k_l rfl rfl rfl ?_
  refine k_k (x := 48) rfl rfl rfl rfl ?_
  by_cases c1 : x0 < 48
  · rw [if_pos c1] at H
    refine k_c rfl (by decide) hx0 (rgk rfl) (q := true) (decide_eq_true c1) rfl ?_
    refine k_p rfl rfl rfl ?_
    obtain ⟨rfl, rfl⟩ := H
    exact k_r1 hM (rgk rfl) rfl rfl rfl
  · rw [if_neg c1] at H
    refine k_c rfl (by decide) hx0 (rgk rfl) (q := false) (decide_eq_false c1) rfl ?_
    refine k_l rfl rfl rfl ?_
    refine k_k (x := 57) rfl rfl rfl rfl ?_
    by_cases c2 : x0 > 57
    · rw [if_pos c2] at H
      refine k_c rfl (by decide) hx0 (rgk rfl) (q := true) (decide_eq_true c2) rfl ?_
      refine k_p rfl rfl rfl ?_
      obtain ⟨rfl, rfl⟩ := H
      exact k_r1 hM (rgk rfl) rfl rfl rfl
    · rw [if_neg c2] at H
      refine k_c rfl (by decide) hx0 (rgk rfl) (q := false) (decide_eq_false c2) rfl ?_
      refine k_p rfl rfl rfl ?_
      refine k_b rfl rfl rfl rfl ?_
      obtain ⟨rfl, rfl⟩ := H
      exact k_r1 hM (rgk rfl) rfl rfl rfl
def B_Mo_letter (d : Nat) (x0 : Int) (σ : Mem) (o : Option Int) (s' : Mem) : Prop := if x0 < 97 then (o = some 0 ∧ s' = σ) else (if x0 > 122 then (o = some 0 ∧ s' = σ) else (o = some 1 ∧ s' = σ))
theorem M_Mo_letter {d : Nat} {x0 : Int} {σ s' : Mem} {o : Option Int} (hx0 : rg x0) (H : B_Mo_letter d x0 σ o s') : Rn (d + 2) yMo_letter [vi x0] σ o s' := by
  refine k_m (Nat.le_of_ble_eq_true rfl) (fun hM => ?_)
  unfold B_Mo_letter at H
  refine k_l rfl rfl rfl ?_
  refine k_k (x := 97) rfl rfl rfl rfl ?_
  by_cases c1 : x0 < 97
  · rw [if_pos c1] at H
    refine k_c rfl (by decide) hx0 (rgk rfl) (q := true) (decide_eq_true c1) rfl ?_
    refine k_p rfl rfl rfl ?_
    obtain ⟨rfl, rfl⟩ := H
    exact k_r1 hM (rgk rfl) rfl rfl rfl
  · rw [if_neg c1] at H
    refine k_c rfl (by decide) hx0 (rgk rfl) (q := false) (decide_eq_false c1) rfl ?_
    refine k_l rfl rfl rfl ?_
    refine k_k (x := 122) rfl rfl rfl rfl ?_
    by_cases c2 : x0 > 122
    · rw [if_pos c2] at H
      refine k_c rfl (by decide) hx0 (rgk rfl) (q := true) (decide_eq_true c2) rfl ?_
      refine k_p rfl rfl rfl ?_
      obtain ⟨rfl, rfl⟩ := H
      exact k_r1 hM (rgk rfl) rfl rfl rfl
    · rw [if_neg c2] at H
      refine k_c rfl (by decide) hx0 (rgk rfl) (q := false) (decide_eq_false c2) rfl ?_
      refine k_p rfl rfl rfl ?_
      refine k_b rfl rfl rfl rfl ?_
      obtain ⟨rfl, rfl⟩ := H
      exact k_r1 hM (rgk rfl) rfl rfl rfl
def ltr (c : Int) : Int := if c < 97 then 0 else if c > 122 then 0 else 1
theorem R_Mo_digit {d : Nat} {x0 : Int} {σ : Mem} (hx0 : rg x0) : Rn (d + 2) yMo_digit [vi x0] σ (some (dgt x0)) σ := M_Mo_digit hx0 (by
  unfold B_Mo_digit dgt
  split
  · exact ⟨rfl, rfl⟩
  · split <;> exact ⟨rfl, rfl⟩)
theorem R_Mo_letter {d : Nat} {x0 : Int} {σ : Mem} (hx0 : rg x0) : Rn (d + 2) yMo_letter [vi x0] σ (some (ltr x0)) σ := M_Mo_letter hx0 (by
  unfold B_Mo_letter ltr
  split
  · exact ⟨rfl, rfl⟩
  · split <;> exact ⟨rfl, rfl⟩)
def B_Mo_here (d : Nat) (σ : Mem) (o : Option Int) (s' : Mem) : Prop := if σ 58 3 ≥ σ 58 2 then (((0 : Int) ≤ 10 ∧ 10 < (65536 : Int)) ∧ (o = some 10 ∧ s' = σ)) else (((0 : Int) ≤ σ 58 3 ∧ σ 58 3 < (60 : Int)) ∧ (((0 : Int) ≤ σ 59 (σ 58 3) ∧ σ 59 (σ 58 3) < (65536 : Int)) ∧ (o = some (σ 59 (σ 58 3)) ∧ s' = σ)))
theorem M_Mo_here {d : Nat} {σ s' : Mem} {o : Option Int}  (H : B_Mo_here d  σ o s') : Rn (d + 4) yMo_here [.ref 58] σ o s' := by
  refine k_m (Nat.le_of_ble_eq_true rfl) (fun hM => ?_)
  unfold B_Mo_here at H
  refine k_l rfl rfl rfl ?_
  refine k_gf rfl rfl rfl (by decide) rfl rfl ?_
  refine k_l rfl rfl rfl ?_
  refine k_gf rfl rfl rfl (by decide) rfl rfl ?_
  by_cases c1 : σ 58 3 ≥ σ 58 2
  · rw [if_pos c1] at H
    refine k_c rfl (by decide) (hM _ _) (hM _ _) (q := true) (decide_eq_true c1) rfl ?_
    refine k_k (x := 10) rfl rfl rfl rfl ?_
    obtain ⟨g2, H⟩ := H
    obtain ⟨rfl, rfl⟩ := H
    exact k_r1 hM (rgk rfl) rfl rfl (ret_c rfl g2)
  · rw [if_neg c1] at H
    refine k_c rfl (by decide) (hM _ _) (hM _ _) (q := false) (decide_eq_false c1) rfl ?_
    refine k_l rfl rfl rfl ?_
    refine k_gr (t := 59) rfl rfl rfl (by decide) rfl ?_
    refine k_l rfl rfl rfl ?_
    refine k_gf rfl rfl rfl (by decide) rfl rfl ?_
    obtain ⟨g3, H⟩ := H
    refine k_al rfl rfl (fun _ => rfl) rfl rfl g3 (by decide) rfl ?_
    refine k_b rfl rfl rfl rfl ?_
    obtain ⟨g4, H⟩ := H
    obtain ⟨rfl, rfl⟩ := H
    exact k_r1 hM (hM _ _) rfl rfl (ret_c rfl g4)
def B_Mo_peek_0 (d : Nat) (σ : Mem) (o : Option Int) (s' : Mem) : Prop := ∃ (v1 : Int) (m1 : Mem), Rn (d + 3) yMo_here [.ref 58] σ (some v1) m1 ∧ (if v1 ≠ 32 then (∃ (v3 : Int) (m3 : Mem), Rn (d + 3) yMo_here [.ref 58] m1 (some v3) m3 ∧ (((0 : Int) ≤ v3 ∧ v3 < (65536 : Int)) ∧ (o = some v3 ∧ s' = m3))) else ((rg ((m1 58 3) + 1)) ∧ (Lb (d + 3) yMo_peek 0 [(0, .ref 58)] [] (mup m1 58 3 ((m1 58 3) + 1)) o s')))
theorem K_Mo_peek_0 {d : Nat} {σ s' : Mem} {o : Option Int}  (H : B_Mo_peek_0 d  σ o s') : Lb (d + 3) yMo_peek 0 [(0, .ref 58)] [] σ o s' := by
  intro hM
  unfold B_Mo_peek_0 at H
  refine k_l rfl rfl rfl ?_
  obtain ⟨v1, m1, R1, H⟩ := H
  refine k_iv rfl rfl rfl rfl rfl (by decide) rfl hM R1 (fun hM1 hv1 => ?_)
  refine k_k (x := 32) rfl rfl rfl rfl ?_
  by_cases c2 : v1 ≠ 32
  · rw [if_pos c2] at H
    refine k_c rfl (by decide) hv1 (rgk rfl) (q := true) (decide_eq_true c2) rfl ?_
    refine k_l rfl rfl rfl ?_
    obtain ⟨v3, m3, R3, H⟩ := H
    refine k_iv rfl rfl rfl rfl rfl (by decide) rfl hM1 R3 (fun hM3 hv3 => ?_)
    obtain ⟨g4, H⟩ := H
    obtain ⟨rfl, rfl⟩ := H
    exact k_r1 hM3 hv3 rfl rfl (ret_c rfl g4)
  · rw [if_neg c2] at H
    refine k_c rfl (by decide) hv1 (rgk rfl) (q := false) (decide_eq_false c2) rfl ?_
    refine k_l rfl rfl rfl ?_
    refine k_p rfl rfl rfl ?_
    refine k_gf rfl rfl rfl (by decide) rfl rfl ?_
    refine k_p rfl rfl rfl ?_
    refine k_add rfl ?_
    obtain ⟨g5, H⟩ := H
    refine k_pf rfl rfl rfl (by decide) rfl rfl rfl rfl ?_
    refine k_b rfl rfl rfl rfl ?_
    exact k_lab H (hM1.up g5) (lvS_cons rfl rfl lvS_nil)
theorem M_Mo_peek {d : Nat} {σ s' : Mem} {o : Option Int}  (H : B_Mo_peek_0 d  σ o s') : Rn (d + 4) yMo_peek [.ref 58] σ o s' := k_m (Nat.le_of_ble_eq_true rfl) (fun hM => k_lab (K_Mo_peek_0  H) hM (lvS_cons rfl rfl lvS_nil))
def B_Mo_eat_32 (d : Nat) (x2 t1 : Int) (σ : Mem) (o : Option Int) (s' : Mem) : Prop := (x2 = 0 ∨ x2 = 1) ∧ (o = some x2 ∧ s' = mup σ 58 3 t1)
theorem K_Mo_eat_32 {d : Nat} {x2 t1 : Int} {σ s' : Mem} {o : Option Int} (hx2 : rg x2) (ht1 : rg t1) (H : B_Mo_eat_32 d x2 t1 σ o s') : Lb (d + 3) yMo_eat 32 [(2, vi x2)] [vi t1, .ref 58] σ o s' := by
  intro hM
  unfold B_Mo_eat_32 at H
  refine k_pf rfl rfl rfl (by decide) rfl rfl rfl rfl ?_
  refine k_l rfl rfl rfl ?_
  obtain ⟨g1, H⟩ := H
  obtain ⟨rfl, rfl⟩ := H
  exact k_r1 (hM.up ht1) hx2 rfl rfl (ret_b rfl g1)
def B_Mo_eat_13 (d : Nat) (t0 : Int) (σ : Mem) (o : Option Int) (s' : Mem) : Prop := if t0 = 0 then (B_Mo_eat_32 d t0 (σ 58 3) σ o s') else ((rg ((σ 58 3) + 1)) ∧ (B_Mo_eat_32 d t0 ((σ 58 3) + 1) σ o s'))
theorem K_Mo_eat_13 {d : Nat} {t0 : Int} {σ s' : Mem} {o : Option Int} (ht0 : rg t0) (H : B_Mo_eat_13 d t0 σ o s') : Lb (d + 3) yMo_eat 13 [(0, .ref 58)] [vi t0] σ o s' := by
  intro hM
  unfold B_Mo_eat_13 at H
  refine k_l rfl rfl rfl ?_
  refine k_l rfl rfl rfl ?_
  refine k_l rfl rfl rfl ?_
  by_cases c1 : t0 = 0
  · rw [if_pos c1] at H
    refine k_z rfl (by decide) ht0 (q := true) (decide_eq_true c1) rfl ?_
    refine k_l rfl rfl rfl ?_
    refine k_gf rfl rfl rfl (by decide) rfl rfl ?_
    exact k_lab (K_Mo_eat_32 ht0 (hM _ _) H) hM (lvS_cons rfl rfl lvS_nil)
  · rw [if_neg c1] at H
    refine k_z rfl (by decide) ht0 (q := false) (decide_eq_false c1) rfl ?_
    refine k_l rfl rfl rfl ?_
    refine k_gf rfl rfl rfl (by decide) rfl rfl ?_
    refine k_p rfl rfl rfl ?_
    refine k_add rfl ?_
    refine k_b rfl rfl rfl rfl ?_
    obtain ⟨g2, H⟩ := H
    exact k_lab (K_Mo_eat_32 ht0 g2 H) hM (lvS_cons rfl rfl lvS_nil)
def B_Mo_eat (d : Nat) (x1 : Int) (σ : Mem) (o : Option Int) (s' : Mem) : Prop := ∃ (v1 : Int) (m1 : Mem), Rn (d + 3) yMo_peek [.ref 58] σ (some v1) m1 ∧ (if v1 ≠ x1 then (B_Mo_eat_13 d 0 m1 o s') else (B_Mo_eat_13 d 1 m1 o s'))
theorem M_Mo_eat {d : Nat} {x1 : Int} {σ s' : Mem} {o : Option Int} (hx1 : rg x1) (H : B_Mo_eat d x1 σ o s') : Rn (d + 4) yMo_eat [.ref 58, vi x1] σ o s' := by
  refine k_m (Nat.le_of_ble_eq_true rfl) (fun hM => ?_)
  unfold B_Mo_eat at H
  refine k_l rfl rfl rfl ?_
  obtain ⟨v1, m1, R1, H⟩ := H
  refine k_iv rfl rfl rfl rfl rfl (by decide) rfl hM R1 (fun hM1 hv1 => ?_)
  refine k_l rfl rfl rfl ?_
  by_cases c2 : v1 ≠ x1
  · rw [if_pos c2] at H
    refine k_c rfl (by decide) hv1 hx1 (q := true) (decide_eq_true c2) rfl ?_
    refine k_p rfl rfl rfl ?_
    exact k_lab (K_Mo_eat_13 (rgk rfl) H) hM1 (lvS_cons rfl rfl lvS_nil)
  · rw [if_neg c2] at H
    refine k_c rfl (by decide) hv1 hx1 (q := false) (decide_eq_false c2) rfl ?_
    refine k_p rfl rfl rfl ?_
    refine k_b rfl rfl rfl rfl ?_
    exact k_lab (K_Mo_eat_13 (rgk rfl) H) hM1 (lvS_cons rfl rfl lvS_nil)
def B_Mo_want_21 (d : Nat) (t1 : Int) (σ : Mem) (o : Option Int) (s' : Mem) : Prop := (t1 = 0 ∨ t1 = 1) ∧ (o = none ∧ s' = mup σ 58 24 t1)
theorem K_Mo_want_21 {d : Nat} {t1 : Int} {σ s' : Mem} {o : Option Int} (ht1 : rg t1) (H : B_Mo_want_21 d t1 σ o s') : Lb (d + 3) yMo_want 21 [] [vi t1, .ref 58] σ o s' := by
  intro hM
  unfold B_Mo_want_21 at H
  obtain ⟨g1, H⟩ := H
  refine k_pf rfl rfl rfl (by decide) rfl rfl (fitb g1) rfl ?_
  obtain ⟨rfl, rfl⟩ := H
  exact k_r0 (hM.up ht1) rfl rfl rfl
def B_Mo_want_16 (d : Nat) (σ : Mem) (o : Option Int) (s' : Mem) : Prop := B_Mo_want_21 d 1 σ o s'
theorem K_Mo_want_16 {d : Nat} {σ s' : Mem} {o : Option Int}  (H : B_Mo_want_16 d  σ o s') : Lb (d + 3) yMo_want 16 [] [.ref 58] σ o s' := by
  intro hM
  unfold B_Mo_want_16 at H
  refine k_p rfl rfl rfl ?_
  refine k_b rfl rfl rfl rfl ?_
  exact k_lab (K_Mo_want_21 (rgk rfl) H) hM lvS_nil
def B_Mo_want (d : Nat) (x1 : Int) (σ : Mem) (o : Option Int) (s' : Mem) : Prop := ∃ (v1 : Int) (m1 : Mem), Rn (d + 3) yMo_eat [.ref 58, vi x1] σ (some v1) m1 ∧ (if v1 = 0 then (B_Mo_want_16 d  m1 o s') else (if m1 58 24 = 0 then (B_Mo_want_21 d 0 m1 o s') else (B_Mo_want_16 d  m1 o s')))
theorem M_Mo_want {d : Nat} {x1 : Int} {σ s' : Mem} {o : Option Int} (hx1 : rg x1) (H : B_Mo_want d x1 σ o s') : Rn (d + 4) yMo_want [.ref 58, vi x1] σ o s' := by
  refine k_m (Nat.le_of_ble_eq_true rfl) (fun hM => ?_)
  unfold B_Mo_want at H
  refine k_l rfl rfl rfl ?_
  refine k_l rfl rfl rfl ?_
  refine k_l rfl rfl rfl ?_
  obtain ⟨v1, m1, R1, H⟩ := H
  refine k_iv rfl rfl rfl rfl rfl (by decide) rfl hM R1 (fun hM1 hv1 => ?_)
  by_cases c2 : v1 = 0
  · rw [if_pos c2] at H
    refine k_z rfl (by decide) hv1 (q := true) (decide_eq_true c2) rfl ?_
    exact k_lab (K_Mo_want_16  H) hM1 lvS_nil
  · rw [if_neg c2] at H
    refine k_z rfl (by decide) hv1 (q := false) (decide_eq_false c2) rfl ?_
    refine k_l rfl rfl rfl ?_
    refine k_gf rfl rfl rfl (by decide) rfl rfl ?_
    by_cases c3 : m1 58 24 = 0
    · rw [if_pos c3] at H
      refine k_z rfl (by decide) (hM1 _ _) (q := true) (decide_eq_true c3) rfl ?_
      refine k_p rfl rfl rfl ?_
      exact k_lab (K_Mo_want_21 (rgk rfl) H) hM1 lvS_nil
    · rw [if_neg c3] at H
      refine k_z rfl (by decide) (hM1 _ _) (q := false) (decide_eq_false c3) rfl ?_
      exact k_lab (K_Mo_want_16  H) hM1 lvS_nil
def B_Mo_atomBegins_56 (d : Nat) (σ : Mem) (o : Option Int) (s' : Mem) : Prop := o = some 1 ∧ s' = σ
theorem K_Mo_atomBegins_56 {d : Nat} {σ s' : Mem} {o : Option Int}  (H : B_Mo_atomBegins_56 d  σ o s') : Lb (d + 3) yMo_atomBegins 56 [] [] σ o s' := by
  intro hM
  unfold B_Mo_atomBegins_56 at H
  refine k_p rfl rfl rfl ?_
  refine k_b rfl rfl rfl rfl ?_
  obtain ⟨rfl, rfl⟩ := H
  exact k_r1 hM (rgk rfl) rfl rfl rfl
def B_Mo_atomBegins (d : Nat) (x0 : Int) (σ : Mem) (o : Option Int) (s' : Mem) : Prop := if dgt x0 ≠ 0 then (B_Mo_atomBegins_56 d  σ o s') else (if ltr x0 ≠ 0 then (B_Mo_atomBegins_56 d  σ o s') else (if x0 = 84 then (B_Mo_atomBegins_56 d  σ o s') else (if x0 = 70 then (B_Mo_atomBegins_56 d  σ o s') else (if x0 = 82 then (B_Mo_atomBegins_56 d  σ o s') else (if x0 = 73 then (B_Mo_atomBegins_56 d  σ o s') else (if x0 = 126 then (B_Mo_atomBegins_56 d  σ o s') else (if x0 = 91 then (B_Mo_atomBegins_56 d  σ o s') else (if x0 ≠ 40 then (o = some 0 ∧ s' = σ) else (B_Mo_atomBegins_56 d  σ o s')))))))))
theorem M_Mo_atomBegins {d : Nat} {x0 : Int} {σ s' : Mem} {o : Option Int} (hx0 : rg x0) (H : B_Mo_atomBegins d x0 σ o s') : Rn (d + 4) yMo_atomBegins [vi x0] σ o s' := by
  refine k_m (Nat.le_of_ble_eq_true rfl) (fun hM => ?_)
  unfold B_Mo_atomBegins at H
  refine k_l rfl rfl rfl ?_
  refine k_is (v := dgt x0) rfl (by decide) (Nat.le_of_ble_eq_true rfl) rfl rfl rfl hM (R_Mo_digit hx0) (fun _ q1 => ?_)
  by_cases c2 : dgt x0 ≠ 0
  · rw [if_pos c2] at H
    refine k_z rfl (by decide) q1 (q := true) (decide_eq_true c2) rfl ?_
    exact k_lab (K_Mo_atomBegins_56  H) hM lvS_nil
  · rw [if_neg c2] at H
    refine k_z rfl (by decide) q1 (q := false) (decide_eq_false c2) rfl ?_
    refine k_l rfl rfl rfl ?_
    refine k_is (v := ltr x0) rfl (by decide) (Nat.le_of_ble_eq_true rfl) rfl rfl rfl hM (R_Mo_letter hx0) (fun _ q3 => ?_)
    by_cases c4 : ltr x0 ≠ 0
    · rw [if_pos c4] at H
      refine k_z rfl (by decide) q3 (q := true) (decide_eq_true c4) rfl ?_
      exact k_lab (K_Mo_atomBegins_56  H) hM lvS_nil
    · rw [if_neg c4] at H
      refine k_z rfl (by decide) q3 (q := false) (decide_eq_false c4) rfl ?_
      refine k_l rfl rfl rfl ?_
      refine k_k (x := 84) rfl rfl rfl rfl ?_
      by_cases c5 : x0 = 84
      · rw [if_pos c5] at H
        refine k_c rfl (by decide) hx0 (rgk rfl) (q := true) (decide_eq_true c5) rfl ?_
        exact k_lab (K_Mo_atomBegins_56  H) hM lvS_nil
      · rw [if_neg c5] at H
        refine k_c rfl (by decide) hx0 (rgk rfl) (q := false) (decide_eq_false c5) rfl ?_
        refine k_l rfl rfl rfl ?_
        refine k_k (x := 70) rfl rfl rfl rfl ?_
        by_cases c6 : x0 = 70
        · rw [if_pos c6] at H
          refine k_c rfl (by decide) hx0 (rgk rfl) (q := true) (decide_eq_true c6) rfl ?_
          exact k_lab (K_Mo_atomBegins_56  H) hM lvS_nil
        · rw [if_neg c6] at H
          refine k_c rfl (by decide) hx0 (rgk rfl) (q := false) (decide_eq_false c6) rfl ?_
          refine k_l rfl rfl rfl ?_
          refine k_k (x := 82) rfl rfl rfl rfl ?_
          by_cases c7 : x0 = 82
          · rw [if_pos c7] at H
            refine k_c rfl (by decide) hx0 (rgk rfl) (q := true) (decide_eq_true c7) rfl ?_
            exact k_lab (K_Mo_atomBegins_56  H) hM lvS_nil
          · rw [if_neg c7] at H
            refine k_c rfl (by decide) hx0 (rgk rfl) (q := false) (decide_eq_false c7) rfl ?_
            refine k_l rfl rfl rfl ?_
            refine k_k (x := 73) rfl rfl rfl rfl ?_
            by_cases c8 : x0 = 73
            · rw [if_pos c8] at H
              refine k_c rfl (by decide) hx0 (rgk rfl) (q := true) (decide_eq_true c8) rfl ?_
              exact k_lab (K_Mo_atomBegins_56  H) hM lvS_nil
            · rw [if_neg c8] at H
              refine k_c rfl (by decide) hx0 (rgk rfl) (q := false) (decide_eq_false c8) rfl ?_
              refine k_l rfl rfl rfl ?_
              refine k_k (x := 126) rfl rfl rfl rfl ?_
              by_cases c9 : x0 = 126
              · rw [if_pos c9] at H
                refine k_c rfl (by decide) hx0 (rgk rfl) (q := true) (decide_eq_true c9) rfl ?_
                exact k_lab (K_Mo_atomBegins_56  H) hM lvS_nil
              · rw [if_neg c9] at H
                refine k_c rfl (by decide) hx0 (rgk rfl) (q := false) (decide_eq_false c9) rfl ?_
                refine k_l rfl rfl rfl ?_
                refine k_k (x := 91) rfl rfl rfl rfl ?_
                by_cases c10 : x0 = 91
                · rw [if_pos c10] at H
                  refine k_c rfl (by decide) hx0 (rgk rfl) (q := true) (decide_eq_true c10) rfl ?_
                  exact k_lab (K_Mo_atomBegins_56  H) hM lvS_nil
                · rw [if_neg c10] at H
                  refine k_c rfl (by decide) hx0 (rgk rfl) (q := false) (decide_eq_false c10) rfl ?_
                  refine k_l rfl rfl rfl ?_
                  refine k_k (x := 40) rfl rfl rfl rfl ?_
                  by_cases c11 : x0 ≠ 40
                  · rw [if_pos c11] at H
                    refine k_c rfl (by decide) hx0 (rgk rfl) (q := true) (decide_eq_true c11) rfl ?_
                    refine k_p rfl rfl rfl ?_
                    obtain ⟨rfl, rfl⟩ := H
                    exact k_r1 hM (rgk rfl) rfl rfl rfl
                  · rw [if_neg c11] at H
                    refine k_c rfl (by decide) hx0 (rgk rfl) (q := false) (decide_eq_false c11) rfl ?_
                    exact k_lab (K_Mo_atomBegins_56  H) hM lvS_nil
def B_Mo_name_25 (d : Nat) (x1 t1 : Int) (σ : Mem) (o : Option Int) (s' : Mem) : Prop := (t1 = 0 ∨ t1 = 1) ∧ ((rg ((σ 58 3) + 1)) ∧ (o = some x1 ∧ s' = mup (mup σ 58 24 t1) 58 3 ((σ 58 3) + 1)))
theorem K_Mo_name_25 {d : Nat} {x1 t1 : Int} {σ s' : Mem} {o : Option Int} (hx1 : rg x1) (ht1 : rg t1) (H : B_Mo_name_25 d x1 t1 σ o s') : Lb (d + 3) yMo_name 25 [(0, .ref 58), (1, vi x1)] [vi t1, .ref 58] σ o s' := by
  intro hM
  unfold B_Mo_name_25 at H
  obtain ⟨g1, H⟩ := H
  refine k_pf rfl rfl rfl (by decide) rfl rfl (fitb g1) rfl ?_
  refine k_l rfl rfl rfl ?_
  refine k_p rfl rfl rfl ?_
  refine k_gf rfl rfl rfl (by decide) rfl (mup_nk (by decide)) ?_
  refine k_p rfl rfl rfl ?_
  refine k_add rfl ?_
  obtain ⟨g2, H⟩ := H
  refine k_pf rfl rfl rfl (by decide) rfl rfl rfl rfl ?_
  refine k_l rfl rfl rfl ?_
  obtain ⟨rfl, rfl⟩ := H
  exact k_r1 ((hM.up ht1).up g2) hx1 rfl rfl rfl
def B_Mo_name_20 (d : Nat) (x1 : Int) (σ : Mem) (o : Option Int) (s' : Mem) : Prop := B_Mo_name_25 d x1 1 σ o s'
theorem K_Mo_name_20 {d : Nat} {x1 : Int} {σ s' : Mem} {o : Option Int} (hx1 : rg x1) (H : B_Mo_name_20 d x1 σ o s') : Lb (d + 3) yMo_name 20 [(0, .ref 58), (1, vi x1)] [.ref 58] σ o s' := by
  intro hM
  unfold B_Mo_name_20 at H
  refine k_p rfl rfl rfl ?_
  refine k_b rfl rfl rfl rfl ?_
  exact k_lab (K_Mo_name_25 hx1 (rgk rfl) H) hM (lvS_cons rfl rfl (lvS_cons rfl rfl lvS_nil))
def B_Mo_name (d : Nat) (σ : Mem) (o : Option Int) (s' : Mem) : Prop := ∃ (v1 : Int) (m1 : Mem), Rn (d + 3) yMo_peek [.ref 58] σ (some v1) m1 ∧ (if m1 58 24 ≠ 0 then (B_Mo_name_20 d v1 m1 o s') else (if ltr v1 ≠ 0 then (B_Mo_name_25 d v1 0 m1 o s') else (B_Mo_name_20 d v1 m1 o s')))
theorem M_Mo_name {d : Nat} {σ s' : Mem} {o : Option Int}  (H : B_Mo_name d  σ o s') : Rn (d + 4) yMo_name [.ref 58] σ o s' := by
  refine k_m (Nat.le_of_ble_eq_true rfl) (fun hM => ?_)
  unfold B_Mo_name at H
  refine k_l rfl rfl rfl ?_
  obtain ⟨v1, m1, R1, H⟩ := H
  refine k_iv rfl rfl rfl rfl rfl (by decide) rfl hM R1 (fun hM1 hv1 => ?_)
  refine k_l rfl rfl rfl ?_
  refine k_l rfl rfl rfl ?_
  refine k_l rfl rfl rfl ?_
  refine k_gf rfl rfl rfl (by decide) rfl rfl ?_
  by_cases c2 : m1 58 24 ≠ 0
  · rw [if_pos c2] at H
    refine k_z rfl (by decide) (hM1 _ _) (q := true) (decide_eq_true c2) rfl ?_
    exact k_lab (K_Mo_name_20 hv1 H) hM1 (lvS_cons rfl rfl (lvS_cons rfl rfl lvS_nil))
  · rw [if_neg c2] at H
    refine k_z rfl (by decide) (hM1 _ _) (q := false) (decide_eq_false c2) rfl ?_
    refine k_l rfl rfl rfl ?_
    refine k_is (v := ltr v1) rfl (by decide) (Nat.le_of_ble_eq_true rfl) rfl rfl rfl hM1 (R_Mo_letter hv1) (fun _ q3 => ?_)
    by_cases c4 : ltr v1 ≠ 0
    · rw [if_pos c4] at H
      refine k_z rfl (by decide) q3 (q := true) (decide_eq_true c4) rfl ?_
      refine k_p rfl rfl rfl ?_
      exact k_lab (K_Mo_name_25 hv1 (rgk rfl) H) hM1 (lvS_cons rfl rfl (lvS_cons rfl rfl lvS_nil))
    · rw [if_neg c4] at H
      refine k_z rfl (by decide) q3 (q := false) (decide_eq_false c4) rfl ?_
      exact k_lab (K_Mo_name_20 hv1 H) hM1 (lvS_cons rfl rfl (lvS_cons rfl rfl lvS_nil))
def B_Mo_digits (d : Nat) (x1 : Int) (σ : Mem) (o : Option Int) (s' : Mem) : Prop := Lb (d + 3) yMo_digits 4 [(0, .ref 58), (1, vi x1), (2, vi 0), (3, vi 0)] [] σ o s'
theorem M_Mo_digits {d : Nat} {x1 : Int} {σ s' : Mem} {o : Option Int} (hx1 : rg x1) (H : B_Mo_digits d x1 σ o s') : Rn (d + 4) yMo_digits [.ref 58, vi x1] σ o s' := by
  refine k_m (Nat.le_of_ble_eq_true rfl) (fun hM => ?_)
  unfold B_Mo_digits at H
  refine k_p rfl rfl rfl ?_
  refine k_l rfl rfl rfl ?_
  refine k_p rfl rfl rfl ?_
  refine k_l rfl rfl rfl ?_
  exact k_lab H hM (lvS_cons rfl rfl (lvS_cons rfl rfl (lvS_cons rfl rfl (lvS_cons rfl rfl lvS_nil))))
def B_Mo_digits_70 (d : Nat) (x2 t1 : Int) (σ : Mem) (o : Option Int) (s' : Mem) : Prop := (t1 = 0 ∨ t1 = 1) ∧ (o = some x2 ∧ s' = mup σ 58 24 t1)
theorem K_Mo_digits_70 {d : Nat} {x2 t1 : Int} {σ s' : Mem} {o : Option Int} (hx2 : rg x2) (ht1 : rg t1) (H : B_Mo_digits_70 d x2 t1 σ o s') : Lb (d + 3) yMo_digits 70 [(2, vi x2)] [vi t1, .ref 58] σ o s' := by
  intro hM
  unfold B_Mo_digits_70 at H
  obtain ⟨g1, H⟩ := H
  refine k_pf rfl rfl rfl (by decide) rfl rfl (fitb g1) rfl ?_
  refine k_l rfl rfl rfl ?_
  obtain ⟨rfl, rfl⟩ := H
  exact k_r1 (hM.up ht1) hx2 rfl rfl rfl
def B_Mo_digits_65 (d : Nat) (x2 : Int) (σ : Mem) (o : Option Int) (s' : Mem) : Prop := B_Mo_digits_70 d x2 1 σ o s'
theorem K_Mo_digits_65 {d : Nat} {x2 : Int} {σ s' : Mem} {o : Option Int} (hx2 : rg x2) (H : B_Mo_digits_65 d x2 σ o s') : Lb (d + 3) yMo_digits 65 [(2, vi x2)] [.ref 58] σ o s' := by
  intro hM
  unfold B_Mo_digits_65 at H
  refine k_p rfl rfl rfl ?_
  refine k_b rfl rfl rfl rfl ?_
  exact k_lab (K_Mo_digits_70 hx2 (rgk rfl) H) hM (lvS_cons rfl rfl lvS_nil)
def B_Mo_digits_48 (d : Nat) (x1 x2 x3 : Int) (σ : Mem) (o : Option Int) (s' : Mem) : Prop := if σ 58 24 ≠ 0 then (B_Mo_digits_65 d x2 σ o s') else (if x3 = 0 then (B_Mo_digits_65 d x2 σ o s') else (if x3 ≤ x1 then (B_Mo_digits_70 d x2 0 σ o s') else (B_Mo_digits_65 d x2 σ o s')))
theorem K_Mo_digits_48 {d : Nat} {x1 x2 x3 : Int} {σ s' : Mem} {o : Option Int} (hx1 : rg x1) (hx2 : rg x2) (hx3 : rg x3) (H : B_Mo_digits_48 d x1 x2 x3 σ o s') : Lb (d + 3) yMo_digits 48 [(0, .ref 58), (1, vi x1), (2, vi x2), (3, vi x3)] [] σ o s' := by
  intro hM
  unfold B_Mo_digits_48 at H
  refine k_l rfl rfl rfl ?_
  refine k_l rfl rfl rfl ?_
  refine k_gf rfl rfl rfl (by decide) rfl rfl ?_
  by_cases c1 : σ 58 24 ≠ 0
  · rw [if_pos c1] at H
    refine k_z rfl (by decide) (hM _ _) (q := true) (decide_eq_true c1) rfl ?_
    exact k_lab (K_Mo_digits_65 hx2 H) hM (lvS_cons rfl rfl lvS_nil)
  · rw [if_neg c1] at H
    refine k_z rfl (by decide) (hM _ _) (q := false) (decide_eq_false c1) rfl ?_
    refine k_l rfl rfl rfl ?_
    by_cases c2 : x3 = 0
    · rw [if_pos c2] at H
      refine k_z rfl (by decide) hx3 (q := true) (decide_eq_true c2) rfl ?_
      exact k_lab (K_Mo_digits_65 hx2 H) hM (lvS_cons rfl rfl lvS_nil)
    · rw [if_neg c2] at H
      refine k_z rfl (by decide) hx3 (q := false) (decide_eq_false c2) rfl ?_
      refine k_l rfl rfl rfl ?_
      refine k_l rfl rfl rfl ?_
      by_cases c3 : x3 ≤ x1
      · rw [if_pos c3] at H
        refine k_c rfl (by decide) hx3 hx1 (q := true) (decide_eq_true c3) rfl ?_
        refine k_p rfl rfl rfl ?_
        exact k_lab (K_Mo_digits_70 hx2 (rgk rfl) H) hM (lvS_cons rfl rfl lvS_nil)
      · rw [if_neg c3] at H
        refine k_c rfl (by decide) hx3 hx1 (q := false) (decide_eq_false c3) rfl ?_
        exact k_lab (K_Mo_digits_65 hx2 H) hM (lvS_cons rfl rfl lvS_nil)
def B_Mo_digits_4 (d : Nat) (x1 x2 x3 : Int) (σ : Mem) (o : Option Int) (s' : Mem) : Prop := ∃ (v1 : Int) (m1 : Mem), Rn (d + 3) yMo_here [.ref 58] σ (some v1) m1 ∧ (if dgt v1 = 0 then (B_Mo_digits_48 d x1 x2 x3 m1 o s') else (if x3 > x1 then (B_Mo_digits_48 d x1 x2 x3 m1 o s') else (∃ (v5 : Int) (m5 : Mem), Rn (d + 3) yMo_here [.ref 58] m1 (some v5) m5 ∧ ((rg ((m5 58 3) + 1)) ∧ ((rg (((10 * x2) + v5) - 48)) ∧ ((rg (x3 + 1)) ∧ (Lb (d + 3) yMo_digits 4 [(0, .ref 58), (1, vi x1), (2, vi (((10 * x2) + v5) - 48)), (3, vi (x3 + 1))] [] (mup m5 58 3 ((m5 58 3) + 1)) o s')))))))
theorem K_Mo_digits_4 {d : Nat} {x1 x2 x3 : Int} {σ s' : Mem} {o : Option Int} (hx1 : rg x1) (hx2 : rg x2) (hx3 : rg x3) (H : B_Mo_digits_4 d x1 x2 x3 σ o s') : Lb (d + 3) yMo_digits 4 [(0, .ref 58), (1, vi x1), (2, vi x2), (3, vi x3)] [] σ o s' := by
  intro hM
  unfold B_Mo_digits_4 at H
  refine k_l rfl rfl rfl ?_
  obtain ⟨v1, m1, R1, H⟩ := H
  refine k_iv rfl rfl rfl rfl rfl (by decide) rfl hM R1 (fun hM1 hv1 => ?_)
  refine k_is (v := dgt v1) rfl (by decide) (Nat.le_of_ble_eq_true rfl) rfl rfl rfl hM1 (R_Mo_digit hv1) (fun _ q2 => ?_)
  by_cases c3 : dgt v1 = 0
  · rw [if_pos c3] at H
    refine k_z rfl (by decide) q2 (q := true) (decide_eq_true c3) rfl ?_
    exact k_lab (K_Mo_digits_48 hx1 hx2 hx3 H) hM1 (lvS_cons rfl rfl (lvS_cons rfl rfl (lvS_cons rfl rfl (lvS_cons rfl rfl lvS_nil))))
  · rw [if_neg c3] at H
    refine k_z rfl (by decide) q2 (q := false) (decide_eq_false c3) rfl ?_
    refine k_l rfl rfl rfl ?_
    refine k_l rfl rfl rfl ?_
    by_cases c4 : x3 > x1
    · rw [if_pos c4] at H
      refine k_c rfl (by decide) hx3 hx1 (q := true) (decide_eq_true c4) rfl ?_
      exact k_lab (K_Mo_digits_48 hx1 hx2 hx3 H) hM1 (lvS_cons rfl rfl (lvS_cons rfl rfl (lvS_cons rfl rfl (lvS_cons rfl rfl lvS_nil))))
    · rw [if_neg c4] at H
      refine k_c rfl (by decide) hx3 hx1 (q := false) (decide_eq_false c4) rfl ?_
      refine k_k (x := 10) rfl rfl rfl rfl ?_
      refine k_l rfl rfl rfl ?_
      refine k_mul rfl ?_
      refine k_l rfl rfl rfl ?_
      obtain ⟨v5, m5, R5, H⟩ := H
      refine k_iv rfl rfl rfl rfl rfl (by decide) rfl hM1 R5 (fun hM5 hv5 => ?_)
      refine k_add rfl ?_
      refine k_k (x := 48) rfl rfl rfl rfl ?_
      refine k_sub rfl ?_
      refine k_l rfl rfl rfl ?_
      refine k_l rfl rfl rfl ?_
      refine k_p rfl rfl rfl ?_
      refine k_gf rfl rfl rfl (by decide) rfl rfl ?_
      refine k_p rfl rfl rfl ?_
      refine k_add rfl ?_
      obtain ⟨g6, H⟩ := H
      refine k_pf rfl rfl rfl (by decide) rfl rfl rfl rfl ?_
      refine k_inc rfl rfl (by decide) ?_
      refine k_b rfl rfl rfl rfl ?_
      obtain ⟨g7, H⟩ := H
      obtain ⟨g8, H⟩ := H
      exact k_lab H (hM5.up g6) (lvS_cons rfl rfl (lvS_cons rfl rfl (lvS_cons rfl rfl (lvS_cons rfl rfl lvS_nil))))
def B_Mo_operator_71 (d : Nat) (x2 t0 : Int) (σ : Mem) (o : Option Int) (s' : Mem) : Prop := if t0 ≠ 0 then ((rg ((σ 58 3) + 1)) ∧ (if x2 = 61 then (o = some x2 ∧ s' = mup σ 58 3 ((σ 58 3) + 1)) else (∃ (v4 : Int) (m4 : Mem), Rn (d + 3) yMo_here [.ref 58] (mup σ 58 3 ((σ 58 3) + 1)) (some v4) m4 ∧ (if v4 ≠ 46 then (o = some x2 ∧ s' = m4) else ((rg ((m4 58 3) + 1)) ∧ ((rg (x2 + 128)) ∧ (o = some (x2 + 128) ∧ s' = mup m4 58 3 ((m4 58 3) + 1)))))))) else (o = some 0 ∧ s' = σ)
theorem K_Mo_operator_71 {d : Nat} {x2 t0 : Int} {σ s' : Mem} {o : Option Int} (hx2 : rg x2) (ht0 : rg t0) (H : B_Mo_operator_71 d x2 t0 σ o s') : Lb (d + 3) yMo_operator 71 [(0, .ref 58), (2, vi x2)] [vi t0] σ o s' := by
  intro hM
  unfold B_Mo_operator_71 at H
  refine k_l rfl rfl rfl ?_
  refine k_l rfl rfl rfl ?_
  by_cases c1 : t0 ≠ 0
  · rw [if_pos c1] at H
    refine k_z rfl (by decide) ht0 (q := true) (decide_eq_true c1) rfl ?_
    refine k_l rfl rfl rfl ?_
    refine k_p rfl rfl rfl ?_
    refine k_gf rfl rfl rfl (by decide) rfl rfl ?_
    refine k_p rfl rfl rfl ?_
    refine k_add rfl ?_
    obtain ⟨g2, H⟩ := H
    refine k_pf rfl rfl rfl (by decide) rfl rfl rfl rfl ?_
    refine k_l rfl rfl rfl ?_
    refine k_k (x := 61) rfl rfl rfl rfl ?_
    by_cases c3 : x2 = 61
    · rw [if_pos c3] at H
      refine k_c rfl (by decide) hx2 (rgk rfl) (q := true) (decide_eq_true c3) rfl ?_
      refine k_l rfl rfl rfl ?_
      obtain ⟨rfl, rfl⟩ := H
      exact k_r1 (hM.up g2) hx2 rfl rfl rfl
    · rw [if_neg c3] at H
      refine k_c rfl (by decide) hx2 (rgk rfl) (q := false) (decide_eq_false c3) rfl ?_
      refine k_l rfl rfl rfl ?_
      obtain ⟨v4, m4, R4, H⟩ := H
      refine k_iv rfl rfl rfl rfl rfl (by decide) rfl (hM.up g2) R4 (fun hM4 hv4 => ?_)
      refine k_k (x := 46) rfl rfl rfl rfl ?_
      by_cases c5 : v4 ≠ 46
      · rw [if_pos c5] at H
        refine k_c rfl (by decide) hv4 (rgk rfl) (q := true) (decide_eq_true c5) rfl ?_
        refine k_l rfl rfl rfl ?_
        obtain ⟨rfl, rfl⟩ := H
        exact k_r1 hM4 hx2 rfl rfl rfl
      · rw [if_neg c5] at H
        refine k_c rfl (by decide) hv4 (rgk rfl) (q := false) (decide_eq_false c5) rfl ?_
        refine k_l rfl rfl rfl ?_
        refine k_p rfl rfl rfl ?_
        refine k_gf rfl rfl rfl (by decide) rfl rfl ?_
        refine k_p rfl rfl rfl ?_
        refine k_add rfl ?_
        obtain ⟨g6, H⟩ := H
        refine k_pf rfl rfl rfl (by decide) rfl rfl rfl rfl ?_
        refine k_l rfl rfl rfl ?_
        refine k_k (x := 128) rfl rfl rfl rfl ?_
        refine k_add rfl ?_
        obtain ⟨g7, H⟩ := H
        obtain ⟨rfl, rfl⟩ := H
        exact k_r1 (hM4.up g6) g7 rfl rfl rfl
  · rw [if_neg c1] at H
    refine k_z rfl (by decide) ht0 (q := false) (decide_eq_false c1) rfl ?_
    refine k_p rfl rfl rfl ?_
    obtain ⟨rfl, rfl⟩ := H
    exact k_r1 hM (rgk rfl) rfl rfl rfl
def B_Mo_operator_66 (d : Nat) (x2 : Int) (σ : Mem) (o : Option Int) (s' : Mem) : Prop := B_Mo_operator_71 d x2 1 σ o s'
theorem K_Mo_operator_66 {d : Nat} {x2 : Int} {σ s' : Mem} {o : Option Int} (hx2 : rg x2) (H : B_Mo_operator_66 d x2 σ o s') : Lb (d + 3) yMo_operator 66 [(0, .ref 58), (2, vi x2)] [] σ o s' := by
  intro hM
  unfold B_Mo_operator_66 at H
  refine k_p rfl rfl rfl ?_
  refine k_b rfl rfl rfl rfl ?_
  exact k_lab (K_Mo_operator_71 hx2 (rgk rfl) H) hM (lvS_cons rfl rfl (lvS_cons rfl rfl lvS_nil))
def B_Mo_operator_46 (d : Nat) (x2 : Int) (σ : Mem) (o : Option Int) (s' : Mem) : Prop := B_Mo_operator_71 d x2 1 σ o s'
theorem K_Mo_operator_46 {d : Nat} {x2 : Int} {σ s' : Mem} {o : Option Int} (hx2 : rg x2) (H : B_Mo_operator_46 d x2 σ o s') : Lb (d + 3) yMo_operator 46 [(0, .ref 58), (2, vi x2)] [] σ o s' := by
  intro hM
  unfold B_Mo_operator_46 at H
  refine k_p rfl rfl rfl ?_
  refine k_b rfl rfl rfl rfl ?_
  exact k_lab (K_Mo_operator_71 hx2 (rgk rfl) H) hM (lvS_cons rfl rfl (lvS_cons rfl rfl lvS_nil))
def B_Mo_operator_21 (d : Nat) (x2 : Int) (σ : Mem) (o : Option Int) (s' : Mem) : Prop := B_Mo_operator_71 d x2 1 σ o s'
theorem K_Mo_operator_21 {d : Nat} {x2 : Int} {σ s' : Mem} {o : Option Int} (hx2 : rg x2) (H : B_Mo_operator_21 d x2 σ o s') : Lb (d + 3) yMo_operator 21 [(0, .ref 58), (2, vi x2)] [] σ o s' := by
  intro hM
  unfold B_Mo_operator_21 at H
  refine k_p rfl rfl rfl ?_
  refine k_b rfl rfl rfl rfl ?_
  exact k_lab (K_Mo_operator_71 hx2 (rgk rfl) H) hM (lvS_cons rfl rfl (lvS_cons rfl rfl lvS_nil))
def B_Mo_operator (d : Nat) (x1 : Int) (σ : Mem) (o : Option Int) (s' : Mem) : Prop := ∃ (v1 : Int) (m1 : Mem), Rn (d + 3) yMo_peek [.ref 58] σ (some v1) m1 ∧ (if x1 ≠ 0 then (if x1 ≠ 1 then (if v1 = 42 then (B_Mo_operator_66 d v1 m1 o s') else (if v1 ≠ 47 then (B_Mo_operator_71 d v1 0 m1 o s') else (B_Mo_operator_66 d v1 m1 o s'))) else (if v1 = 43 then (B_Mo_operator_46 d v1 m1 o s') else (if v1 ≠ 45 then (B_Mo_operator_71 d v1 0 m1 o s') else (B_Mo_operator_46 d v1 m1 o s')))) else (if v1 = 60 then (B_Mo_operator_21 d v1 m1 o s') else (if v1 ≠ 61 then (B_Mo_operator_71 d v1 0 m1 o s') else (B_Mo_operator_21 d v1 m1 o s'))))
theorem M_Mo_operator {d : Nat} {x1 : Int} {σ s' : Mem} {o : Option Int} (hx1 : rg x1) (H : B_Mo_operator d x1 σ o s') : Rn (d + 4) yMo_operator [.ref 58, vi x1] σ o s' := by
  refine k_m (Nat.le_of_ble_eq_true rfl) (fun hM => ?_)
  unfold B_Mo_operator at H
  refine k_l rfl rfl rfl ?_
  obtain ⟨v1, m1, R1, H⟩ := H
  refine k_iv rfl rfl rfl rfl rfl (by decide) rfl hM R1 (fun hM1 hv1 => ?_)
  refine k_l rfl rfl rfl ?_
  refine k_l rfl rfl rfl ?_
  by_cases c2 : x1 ≠ 0
  · rw [if_pos c2] at H
    refine k_z rfl (by decide) hx1 (q := true) (decide_eq_true c2) rfl ?_
    refine k_l rfl rfl rfl ?_
    refine k_p rfl rfl rfl ?_
    by_cases c3 : x1 ≠ 1
    · rw [if_pos c3] at H
      refine k_c rfl (by decide) hx1 (rgk rfl) (q := true) (decide_eq_true c3) rfl ?_
      refine k_l rfl rfl rfl ?_
      refine k_k (x := 42) rfl rfl rfl rfl ?_
      by_cases c4 : v1 = 42
      · rw [if_pos c4] at H
        refine k_c rfl (by decide) hv1 (rgk rfl) (q := true) (decide_eq_true c4) rfl ?_
        exact k_lab (K_Mo_operator_66 hv1 H) hM1 (lvS_cons rfl rfl (lvS_cons rfl rfl lvS_nil))
      · rw [if_neg c4] at H
        refine k_c rfl (by decide) hv1 (rgk rfl) (q := false) (decide_eq_false c4) rfl ?_
        refine k_l rfl rfl rfl ?_
        refine k_k (x := 47) rfl rfl rfl rfl ?_
        by_cases c5 : v1 ≠ 47
        · rw [if_pos c5] at H
          refine k_c rfl (by decide) hv1 (rgk rfl) (q := true) (decide_eq_true c5) rfl ?_
          refine k_p rfl rfl rfl ?_
          exact k_lab (K_Mo_operator_71 hv1 (rgk rfl) H) hM1 (lvS_cons rfl rfl (lvS_cons rfl rfl lvS_nil))
        · rw [if_neg c5] at H
          refine k_c rfl (by decide) hv1 (rgk rfl) (q := false) (decide_eq_false c5) rfl ?_
          exact k_lab (K_Mo_operator_66 hv1 H) hM1 (lvS_cons rfl rfl (lvS_cons rfl rfl lvS_nil))
    · rw [if_neg c3] at H
      refine k_c rfl (by decide) hx1 (rgk rfl) (q := false) (decide_eq_false c3) rfl ?_
      refine k_l rfl rfl rfl ?_
      refine k_k (x := 43) rfl rfl rfl rfl ?_
      by_cases c6 : v1 = 43
      · rw [if_pos c6] at H
        refine k_c rfl (by decide) hv1 (rgk rfl) (q := true) (decide_eq_true c6) rfl ?_
        exact k_lab (K_Mo_operator_46 hv1 H) hM1 (lvS_cons rfl rfl (lvS_cons rfl rfl lvS_nil))
      · rw [if_neg c6] at H
        refine k_c rfl (by decide) hv1 (rgk rfl) (q := false) (decide_eq_false c6) rfl ?_
        refine k_l rfl rfl rfl ?_
        refine k_k (x := 45) rfl rfl rfl rfl ?_
        by_cases c7 : v1 ≠ 45
        · rw [if_pos c7] at H
          refine k_c rfl (by decide) hv1 (rgk rfl) (q := true) (decide_eq_true c7) rfl ?_
          refine k_p rfl rfl rfl ?_
          refine k_b rfl rfl rfl rfl ?_
          exact k_lab (K_Mo_operator_71 hv1 (rgk rfl) H) hM1 (lvS_cons rfl rfl (lvS_cons rfl rfl lvS_nil))
        · rw [if_neg c7] at H
          refine k_c rfl (by decide) hv1 (rgk rfl) (q := false) (decide_eq_false c7) rfl ?_
          exact k_lab (K_Mo_operator_46 hv1 H) hM1 (lvS_cons rfl rfl (lvS_cons rfl rfl lvS_nil))
  · rw [if_neg c2] at H
    refine k_z rfl (by decide) hx1 (q := false) (decide_eq_false c2) rfl ?_
    refine k_l rfl rfl rfl ?_
    refine k_k (x := 60) rfl rfl rfl rfl ?_
    by_cases c8 : v1 = 60
    · rw [if_pos c8] at H
      refine k_c rfl (by decide) hv1 (rgk rfl) (q := true) (decide_eq_true c8) rfl ?_
      exact k_lab (K_Mo_operator_21 hv1 H) hM1 (lvS_cons rfl rfl (lvS_cons rfl rfl lvS_nil))
    · rw [if_neg c8] at H
      refine k_c rfl (by decide) hv1 (rgk rfl) (q := false) (decide_eq_false c8) rfl ?_
      refine k_l rfl rfl rfl ?_
      refine k_k (x := 61) rfl rfl rfl rfl ?_
      by_cases c9 : v1 ≠ 61
      · rw [if_pos c9] at H
        refine k_c rfl (by decide) hv1 (rgk rfl) (q := true) (decide_eq_true c9) rfl ?_
        refine k_p rfl rfl rfl ?_
        refine k_b rfl rfl rfl rfl ?_
        exact k_lab (K_Mo_operator_71 hv1 (rgk rfl) H) hM1 (lvS_cons rfl rfl (lvS_cons rfl rfl lvS_nil))
      · rw [if_neg c9] at H
        refine k_c rfl (by decide) hv1 (rgk rfl) (q := false) (decide_eq_false c9) rfl ?_
        exact k_lab (K_Mo_operator_21 hv1 H) hM1 (lvS_cons rfl rfl (lvS_cons rfl rfl lvS_nil))
def B_Mo_put (d : Nat) (x1 x2 x3 : Int) (σ : Mem) (o : Option Int) (s' : Mem) : Prop := ((0 : Int) ≤ σ 58 7 ∧ σ 58 7 < (124 : Int)) ∧ (((0 : Int) ≤ σ 58 7 ∧ σ 58 7 < (124 : Int)) ∧ (((0 : Int) ≤ σ 58 7 ∧ σ 58 7 < (124 : Int)) ∧ ((rg ((σ 58 7) + 1)) ∧ (o = none ∧ s' = mup (mup (mup (mup σ 60 (σ 58 7) x1) 61 (σ 58 7) x2) 62 (σ 58 7) x3) 58 7 ((σ 58 7) + 1)))))
theorem M_Mo_put {d : Nat} {x1 x2 x3 : Int} {σ s' : Mem} {o : Option Int} (hx1 : rg x1) (hx2 : rg x2) (hx3 : rg x3) (H : B_Mo_put d x1 x2 x3 σ o s') : Rn (d + 4) yMo_put [.ref 58, vi x1, vi x2, vi x3] σ o s' := by
  refine k_m (Nat.le_of_ble_eq_true rfl) (fun hM => ?_)
  unfold B_Mo_put at H
  refine k_l rfl rfl rfl ?_
  refine k_gr (t := 60) rfl rfl rfl (by decide) rfl ?_
  refine k_l rfl rfl rfl ?_
  refine k_gf rfl rfl rfl (by decide) rfl rfl ?_
  refine k_l rfl rfl rfl ?_
  obtain ⟨g1, H⟩ := H
  refine k_as (ok := isI) rfl rfl (fun _ => rfl) rfl rfl g1 (by decide) rfl ?_
  refine k_l rfl rfl rfl ?_
  refine k_gr (t := 61) rfl rfl rfl (by decide) rfl ?_
  refine k_l rfl rfl rfl ?_
  refine k_gf rfl rfl rfl (by decide) rfl (mup_ne (by decide)) ?_
  refine k_l rfl rfl rfl ?_
  obtain ⟨g2, H⟩ := H
  refine k_as (ok := isI) rfl rfl (fun _ => rfl) rfl rfl g2 (by decide) rfl ?_
  refine k_l rfl rfl rfl ?_
  refine k_gr (t := 62) rfl rfl rfl (by decide) rfl ?_
  refine k_l rfl rfl rfl ?_
  refine k_gf rfl rfl rfl (by decide) rfl ((mup_ne (by decide)).trans (mup_ne (by decide))) ?_
  refine k_l rfl rfl rfl ?_
  obtain ⟨g3, H⟩ := H
  refine k_as (ok := isI) rfl rfl (fun _ => rfl) rfl rfl g3 (by decide) rfl ?_
  refine k_l rfl rfl rfl ?_
  refine k_p rfl rfl rfl ?_
  refine k_gf rfl rfl rfl (by decide) rfl ((mup_ne (by decide)).trans ((mup_ne (by decide)).trans (mup_ne (by decide)))) ?_
  refine k_p rfl rfl rfl ?_
  refine k_add rfl ?_
  obtain ⟨g4, H⟩ := H
  refine k_pf rfl rfl rfl (by decide) rfl rfl rfl rfl ?_
  obtain ⟨rfl, rfl⟩ := H
  exact k_r0 ((((hM.up hx1).up hx2).up hx3).up g4) rfl rfl rfl
def B_Mo_putSign (d : Nat) (x1 x2 : Int) (σ : Mem) (o : Option Int) (s' : Mem) : Prop := ((0 : Int) ≤ σ 58 14 ∧ σ 58 14 < (80 : Int)) ∧ (((0 : Int) ≤ σ 58 14 ∧ σ 58 14 < (80 : Int)) ∧ ((rg ((σ 58 14) + 1)) ∧ (o = none ∧ s' = mup (mup (mup σ 66 (σ 58 14) x1) 67 (σ 58 14) x2) 58 14 ((σ 58 14) + 1))))
theorem M_Mo_putSign {d : Nat} {x1 x2 : Int} {σ s' : Mem} {o : Option Int} (hx1 : rg x1) (hx2 : rg x2) (H : B_Mo_putSign d x1 x2 σ o s') : Rn (d + 4) yMo_putSign [.ref 58, vi x1, vi x2] σ o s' := by
  refine k_m (Nat.le_of_ble_eq_true rfl) (fun hM => ?_)
  unfold B_Mo_putSign at H
  refine k_l rfl rfl rfl ?_
  refine k_gr (t := 66) rfl rfl rfl (by decide) rfl ?_
  refine k_l rfl rfl rfl ?_
  refine k_gf rfl rfl rfl (by decide) rfl rfl ?_
  refine k_l rfl rfl rfl ?_
  obtain ⟨g1, H⟩ := H
  refine k_as (ok := isI) rfl rfl (fun _ => rfl) rfl rfl g1 (by decide) rfl ?_
  refine k_l rfl rfl rfl ?_
  refine k_gr (t := 67) rfl rfl rfl (by decide) rfl ?_
  refine k_l rfl rfl rfl ?_
  refine k_gf rfl rfl rfl (by decide) rfl (mup_ne (by decide)) ?_
  refine k_l rfl rfl rfl ?_
  obtain ⟨g2, H⟩ := H
  refine k_as (ok := isI) rfl rfl (fun _ => rfl) rfl rfl g2 (by decide) rfl ?_
  refine k_l rfl rfl rfl ?_
  refine k_p rfl rfl rfl ?_
  refine k_gf rfl rfl rfl (by decide) rfl ((mup_ne (by decide)).trans (mup_ne (by decide))) ?_
  refine k_p rfl rfl rfl ?_
  refine k_add rfl ?_
  obtain ⟨g3, H⟩ := H
  refine k_pf rfl rfl rfl (by decide) rfl rfl rfl rfl ?_
  obtain ⟨rfl, rfl⟩ := H
  exact k_r0 (((hM.up hx1).up hx2).up g3) rfl rfl rfl
def B_Mo_insertSign (d : Nat) (x1 : Int) (σ : Mem) (o : Option Int) (s' : Mem) : Prop := Lb (d + 3) yMo_insertSign 5 [(0, .ref 58), (1, vi x1), (2, vi (σ 58 14))] [] σ o s'
theorem M_Mo_insertSign {d : Nat} {x1 : Int} {σ s' : Mem} {o : Option Int} (hx1 : rg x1) (H : B_Mo_insertSign d x1 σ o s') : Rn (d + 4) yMo_insertSign [.ref 58, vi x1] σ o s' := by
  refine k_m (Nat.le_of_ble_eq_true rfl) (fun hM => ?_)
  unfold B_Mo_insertSign at H
  refine k_l rfl rfl rfl ?_
  refine k_gf rfl rfl rfl (by decide) rfl rfl ?_
  refine k_l rfl rfl rfl ?_
  exact k_lab H hM (lvS_cons rfl rfl (lvS_cons rfl rfl (lvS_cons rfl rfl lvS_nil)))
def B_Mo_insertSign_5 (d : Nat) (x1 x2 : Int) (σ : Mem) (o : Option Int) (s' : Mem) : Prop := if x2 ≤ x1 then (((0 : Int) ≤ x1 ∧ x1 < (80 : Int)) ∧ (((0 : Int) ≤ x1 ∧ x1 < (80 : Int)) ∧ ((rg ((σ 58 14) + 1)) ∧ (o = none ∧ s' = mup (mup (mup σ 66 x1 0) 67 x1 0) 58 14 ((σ 58 14) + 1))))) else (((0 : Int) ≤ x2 - 1 ∧ x2 - 1 < (80 : Int)) ∧ (((0 : Int) ≤ x2 ∧ x2 < (80 : Int)) ∧ (((0 : Int) ≤ x2 - 1 ∧ x2 - 1 < (80 : Int)) ∧ (((0 : Int) ≤ x2 ∧ x2 < (80 : Int)) ∧ ((rg (x2 + (-1))) ∧ (Lb (d + 3) yMo_insertSign 5 [(0, .ref 58), (1, vi x1), (2, vi (x2 + (-1)))] [] (mup (mup σ 66 x2 (σ 66 (x2 - 1))) 67 x2 (σ 67 (x2 - 1))) o s'))))))
theorem K_Mo_insertSign_5 {d : Nat} {x1 x2 : Int} {σ s' : Mem} {o : Option Int} (hx1 : rg x1) (hx2 : rg x2) (H : B_Mo_insertSign_5 d x1 x2 σ o s') : Lb (d + 3) yMo_insertSign 5 [(0, .ref 58), (1, vi x1), (2, vi x2)] [] σ o s' := by
  intro hM
  unfold B_Mo_insertSign_5 at H
  refine k_l rfl rfl rfl ?_
  refine k_l rfl rfl rfl ?_
  by_cases c1 : x2 ≤ x1
  · rw [if_pos c1] at H
    refine k_c rfl (by decide) hx2 hx1 (q := true) (decide_eq_true c1) rfl ?_
    refine k_l rfl rfl rfl ?_
    refine k_gr (t := 66) rfl rfl rfl (by decide) rfl ?_
    refine k_l rfl rfl rfl ?_
    refine k_p rfl rfl rfl ?_
    obtain ⟨g2, H⟩ := H
    refine k_as (ok := isI) rfl rfl (fun _ => rfl) rfl rfl g2 (by decide) rfl ?_
    refine k_l rfl rfl rfl ?_
    refine k_gr (t := 67) rfl rfl rfl (by decide) rfl ?_
    refine k_l rfl rfl rfl ?_
    refine k_p rfl rfl rfl ?_
    obtain ⟨g3, H⟩ := H
    refine k_as (ok := isI) rfl rfl (fun _ => rfl) rfl rfl g3 (by decide) rfl ?_
    refine k_l rfl rfl rfl ?_
    refine k_p rfl rfl rfl ?_
    refine k_gf rfl rfl rfl (by decide) rfl ((mup_ne (by decide)).trans (mup_ne (by decide))) ?_
    refine k_p rfl rfl rfl ?_
    refine k_add rfl ?_
    obtain ⟨g4, H⟩ := H
    refine k_pf rfl rfl rfl (by decide) rfl rfl rfl rfl ?_
    obtain ⟨rfl, rfl⟩ := H
    exact k_r0 (((hM.up (rgk rfl)).up (rgk rfl)).up g4) rfl rfl rfl
  · rw [if_neg c1] at H
    refine k_c rfl (by decide) hx2 hx1 (q := false) (decide_eq_false c1) rfl ?_
    refine k_l rfl rfl rfl ?_
    refine k_gr (t := 66) rfl rfl rfl (by decide) rfl ?_
    refine k_l rfl rfl rfl ?_
    refine k_l rfl rfl rfl ?_
    refine k_gr (t := 66) rfl rfl rfl (by decide) rfl ?_
    refine k_l rfl rfl rfl ?_
    refine k_p rfl rfl rfl ?_
    refine k_sub rfl ?_
    obtain ⟨g5, H⟩ := H
    refine k_al rfl rfl (fun _ => rfl) rfl rfl g5 (by decide) rfl ?_
    obtain ⟨g6, H⟩ := H
    refine k_as (ok := isI) rfl rfl (fun _ => rfl) rfl rfl g6 (by decide) rfl ?_
    refine k_l rfl rfl rfl ?_
    refine k_gr (t := 67) rfl rfl rfl (by decide) rfl ?_
    refine k_l rfl rfl rfl ?_
    refine k_l rfl rfl rfl ?_
    refine k_gr (t := 67) rfl rfl rfl (by decide) rfl ?_
    refine k_l rfl rfl rfl ?_
    refine k_p rfl rfl rfl ?_
    refine k_sub rfl ?_
    obtain ⟨g7, H⟩ := H
    refine k_al rfl rfl (fun _ => rfl) rfl rfl g7 (by decide) (mup_ne (by decide)) ?_
    obtain ⟨g8, H⟩ := H
    refine k_as (ok := isI) rfl rfl (fun _ => rfl) rfl rfl g8 (by decide) rfl ?_
    refine k_inc rfl rfl (by decide) ?_
    refine k_b rfl rfl rfl rfl ?_
    obtain ⟨g9, H⟩ := H
    exact k_lab H ((hM.up (hM _ _)).up (hM _ _)) (lvS_cons rfl rfl (lvS_cons rfl rfl (lvS_cons rfl rfl lvS_nil)))
def B_Mo_begin (d : Nat) (x1 : Int) (σ : Mem) (o : Option Int) (s' : Mem) : Prop := ((0 : Int) ≤ σ 58 21 ∧ σ 58 21 < (180 : Int)) ∧ (((0 : Int) ≤ σ 58 21 ∧ σ 58 21 < (180 : Int)) ∧ (((0 : Int) ≤ σ 58 21 ∧ σ 58 21 < (180 : Int)) ∧ (((0 : Int) ≤ σ 58 21 ∧ σ 58 21 < (180 : Int)) ∧ ((rg ((σ 58 21) + 1)) ∧ (o = none ∧ s' = mup (mup (mup (mup (mup σ 70 (σ 58 21) x1) 71 (σ 58 21) 0) 72 (σ 58 21) 0) 73 (σ 58 21) 0) 58 21 ((σ 58 21) + 1))))))
theorem M_Mo_begin {d : Nat} {x1 : Int} {σ s' : Mem} {o : Option Int} (hx1 : rg x1) (H : B_Mo_begin d x1 σ o s') : Rn (d + 4) yMo_begin [.ref 58, vi x1] σ o s' := by
  refine k_m (Nat.le_of_ble_eq_true rfl) (fun hM => ?_)
  unfold B_Mo_begin at H
  refine k_l rfl rfl rfl ?_
  refine k_gr (t := 70) rfl rfl rfl (by decide) rfl ?_
  refine k_l rfl rfl rfl ?_
  refine k_gf rfl rfl rfl (by decide) rfl rfl ?_
  refine k_l rfl rfl rfl ?_
  obtain ⟨g1, H⟩ := H
  refine k_as (ok := isI) rfl rfl (fun _ => rfl) rfl rfl g1 (by decide) rfl ?_
  refine k_l rfl rfl rfl ?_
  refine k_gr (t := 71) rfl rfl rfl (by decide) rfl ?_
  refine k_l rfl rfl rfl ?_
  refine k_gf rfl rfl rfl (by decide) rfl (mup_ne (by decide)) ?_
  refine k_p rfl rfl rfl ?_
  obtain ⟨g2, H⟩ := H
  refine k_as (ok := isI) rfl rfl (fun _ => rfl) rfl rfl g2 (by decide) rfl ?_
  refine k_l rfl rfl rfl ?_
  refine k_gr (t := 72) rfl rfl rfl (by decide) rfl ?_
  refine k_l rfl rfl rfl ?_
  refine k_gf rfl rfl rfl (by decide) rfl ((mup_ne (by decide)).trans (mup_ne (by decide))) ?_
  refine k_p rfl rfl rfl ?_
  obtain ⟨g3, H⟩ := H
  refine k_as (ok := isI) rfl rfl (fun _ => rfl) rfl rfl g3 (by decide) rfl ?_
  refine k_l rfl rfl rfl ?_
  refine k_gr (t := 73) rfl rfl rfl (by decide) rfl ?_
  refine k_l rfl rfl rfl ?_
  refine k_gf rfl rfl rfl (by decide) rfl ((mup_ne (by decide)).trans ((mup_ne (by decide)).trans (mup_ne (by decide)))) ?_
  refine k_p rfl rfl rfl ?_
  obtain ⟨g4, H⟩ := H
  refine k_as (ok := isI) rfl rfl (fun _ => rfl) rfl rfl g4 (by decide) rfl ?_
  refine k_l rfl rfl rfl ?_
  refine k_p rfl rfl rfl ?_
  refine k_gf rfl rfl rfl (by decide) rfl ((mup_ne (by decide)).trans ((mup_ne (by decide)).trans ((mup_ne (by decide)).trans (mup_ne (by decide))))) ?_
  refine k_p rfl rfl rfl ?_
  refine k_add rfl ?_
  obtain ⟨g5, H⟩ := H
  refine k_pf rfl rfl rfl (by decide) rfl rfl rfl rfl ?_
  obtain ⟨rfl, rfl⟩ := H
  exact k_r0 (((((hM.up hx1).up (rgk rfl)).up (rgk rfl)).up (rgk rfl)).up g5) rfl rfl rfl
def B_Mo_after (d : Nat) (x1 x2 : Int) (σ : Mem) (o : Option Int) (s' : Mem) : Prop := ((0 : Int) ≤ (σ 58 21) - 1 ∧ (σ 58 21) - 1 < (180 : Int)) ∧ (∃ (m2 : Mem), Rn (d + 3) yMo_begin [.ref 58, vi x2] (mup σ 71 ((σ 58 21) - 1) x1) none m2 ∧ (o = none ∧ s' = m2))
theorem M_Mo_after {d : Nat} {x1 x2 : Int} {σ s' : Mem} {o : Option Int} (hx1 : rg x1) (hx2 : rg x2) (H : B_Mo_after d x1 x2 σ o s') : Rn (d + 4) yMo_after [.ref 58, vi x1, vi x2] σ o s' := by
  refine k_m (Nat.le_of_ble_eq_true rfl) (fun hM => ?_)
  unfold B_Mo_after at H
  refine k_l rfl rfl rfl ?_
  refine k_gr (t := 71) rfl rfl rfl (by decide) rfl ?_
  refine k_l rfl rfl rfl ?_
  refine k_gf rfl rfl rfl (by decide) rfl rfl ?_
  refine k_p rfl rfl rfl ?_
  refine k_sub rfl ?_
  refine k_l rfl rfl rfl ?_
  obtain ⟨g1, H⟩ := H
  refine k_as (ok := isI) rfl rfl (fun _ => rfl) rfl rfl g1 (by decide) rfl ?_
  refine k_l rfl rfl rfl ?_
  refine k_l rfl rfl rfl ?_
  obtain ⟨m2, R2, H⟩ := H
  refine k_iw rfl rfl rfl rfl rfl (by decide) rfl (hM.up hx1) R2 (fun hM2 => ?_)
  obtain ⟨rfl, rfl⟩ := H
  exact k_r0 hM2 rfl rfl rfl
def B_Mo_deeper_32 (d : Nat) (t1 : Int) (σ : Mem) (o : Option Int) (s' : Mem) : Prop := (t1 = 0 ∨ t1 = 1) ∧ (o = none ∧ s' = mup σ 58 24 t1)
theorem K_Mo_deeper_32 {d : Nat} {t1 : Int} {σ s' : Mem} {o : Option Int} (ht1 : rg t1) (H : B_Mo_deeper_32 d t1 σ o s') : Lb (d + 3) yMo_deeper 32 [] [vi t1, .ref 58] σ o s' := by
  intro hM
  unfold B_Mo_deeper_32 at H
  obtain ⟨g1, H⟩ := H
  refine k_pf rfl rfl rfl (by decide) rfl rfl (fitb g1) rfl ?_
  obtain ⟨rfl, rfl⟩ := H
  exact k_r0 (hM.up ht1) rfl rfl rfl
def B_Mo_deeper_27 (d : Nat) (σ : Mem) (o : Option Int) (s' : Mem) : Prop := B_Mo_deeper_32 d 1 σ o s'
theorem K_Mo_deeper_27 {d : Nat} {σ s' : Mem} {o : Option Int}  (H : B_Mo_deeper_27 d  σ o s') : Lb (d + 3) yMo_deeper 27 [] [.ref 58] σ o s' := by
  intro hM
  unfold B_Mo_deeper_27 at H
  refine k_p rfl rfl rfl ?_
  refine k_b rfl rfl rfl rfl ?_
  exact k_lab (K_Mo_deeper_32 (rgk rfl) H) hM lvS_nil
def B_Mo_deeper (d : Nat) (σ : Mem) (o : Option Int) (s' : Mem) : Prop := (rg ((σ 58 22) + 1)) ∧ (if σ 58 24 ≠ 0 then (B_Mo_deeper_27 d  (mup σ 58 22 ((σ 58 22) + 1)) o s') else (if (σ 58 22) + 1 ≤ 16 then (B_Mo_deeper_32 d 0 (mup σ 58 22 ((σ 58 22) + 1)) o s') else (B_Mo_deeper_27 d  (mup σ 58 22 ((σ 58 22) + 1)) o s')))
theorem M_Mo_deeper {d : Nat} {σ s' : Mem} {o : Option Int}  (H : B_Mo_deeper d  σ o s') : Rn (d + 4) yMo_deeper [.ref 58] σ o s' := by
  refine k_m (Nat.le_of_ble_eq_true rfl) (fun hM => ?_)
  unfold B_Mo_deeper at H
  refine k_l rfl rfl rfl ?_
  refine k_p rfl rfl rfl ?_
  refine k_gf rfl rfl rfl (by decide) rfl rfl ?_
  refine k_p rfl rfl rfl ?_
  refine k_add rfl ?_
  obtain ⟨g1, H⟩ := H
  refine k_pf rfl rfl rfl (by decide) rfl rfl rfl rfl ?_
  refine k_l rfl rfl rfl ?_
  refine k_l rfl rfl rfl ?_
  refine k_gf rfl rfl rfl (by decide) rfl (mup_nk (by decide)) ?_
  by_cases c2 : σ 58 24 ≠ 0
  · rw [if_pos c2] at H
    refine k_z rfl (by decide) (hM _ _) (q := true) (decide_eq_true c2) rfl ?_
    exact k_lab (K_Mo_deeper_27  H) (hM.up g1) lvS_nil
  · rw [if_neg c2] at H
    refine k_z rfl (by decide) (hM _ _) (q := false) (decide_eq_false c2) rfl ?_
    refine k_l rfl rfl rfl ?_
    refine k_gf rfl rfl rfl (by decide) rfl mup_eq ?_
    refine k_k (x := 16) rfl rfl rfl rfl ?_
    by_cases c3 : (σ 58 22) + 1 ≤ 16
    · rw [if_pos c3] at H
      refine k_c rfl (by decide) g1 (rgk rfl) (q := true) (decide_eq_true c3) rfl ?_
      refine k_p rfl rfl rfl ?_
      exact k_lab (K_Mo_deeper_32 (rgk rfl) H) (hM.up g1) lvS_nil
    · rw [if_neg c3] at H
      refine k_c rfl (by decide) g1 (rgk rfl) (q := false) (decide_eq_false c3) rfl ?_
      exact k_lab (K_Mo_deeper_27  H) (hM.up g1) lvS_nil
def B_Mo_endsDeep (d : Nat) (σ : Mem) (o : Option Int) (s' : Mem) : Prop := (rg ((σ 58 22) - 1)) ∧ ((rg ((σ 58 21) - 1)) ∧ (o = none ∧ s' = mup (mup σ 58 22 ((σ 58 22) - 1)) 58 21 ((σ 58 21) - 1)))
theorem M_Mo_endsDeep {d : Nat} {σ s' : Mem} {o : Option Int}  (H : B_Mo_endsDeep d  σ o s') : Rn (d + 4) yMo_endsDeep [.ref 58] σ o s' := by
  refine k_m (Nat.le_of_ble_eq_true rfl) (fun hM => ?_)
  unfold B_Mo_endsDeep at H
  refine k_l rfl rfl rfl ?_
  refine k_p rfl rfl rfl ?_
  refine k_gf rfl rfl rfl (by decide) rfl rfl ?_
  refine k_p rfl rfl rfl ?_
  refine k_sub rfl ?_
  obtain ⟨g1, H⟩ := H
  refine k_pf rfl rfl rfl (by decide) rfl rfl rfl rfl ?_
  refine k_l rfl rfl rfl ?_
  refine k_p rfl rfl rfl ?_
  refine k_gf rfl rfl rfl (by decide) rfl (mup_nk (by decide)) ?_
  refine k_p rfl rfl rfl ?_
  refine k_sub rfl ?_
  obtain ⟨g2, H⟩ := H
  refine k_pf rfl rfl rfl (by decide) rfl rfl rfl rfl ?_
  obtain ⟨rfl, rfl⟩ := H
  exact k_r0 ((hM.up g1).up g2) rfl rfl rfl
def B_Mo_exprBegins_92 (d : Nat) (t1 : Int) (σ : Mem) (o : Option Int) (s' : Mem) : Prop := ∃ (m1 : Mem), Rn (d + 3) yMo_after [.ref 58, vi t1, vi 0] σ none m1 ∧ (o = none ∧ s' = m1)
theorem K_Mo_exprBegins_92 {d : Nat} {t1 : Int} {σ s' : Mem} {o : Option Int} (ht1 : rg t1) (H : B_Mo_exprBegins_92 d t1 σ o s') : Lb (d + 3) yMo_exprBegins 92 [] [vi t1, .ref 58] σ o s' := by
  intro hM
  unfold B_Mo_exprBegins_92 at H
  refine k_p rfl rfl rfl ?_
  obtain ⟨m1, R1, H⟩ := H
  refine k_iw rfl rfl rfl rfl rfl (by decide) rfl hM R1 (fun hM1 => ?_)
  obtain ⟨rfl, rfl⟩ := H
  exact k_r0 hM1 rfl rfl rfl
def B_Mo_exprBegins_79 (d : Nat) (x2 : Int) (σ : Mem) (o : Option Int) (s' : Mem) : Prop := if x2 ≠ 63 then (B_Mo_exprBegins_92 d 8 σ o s') else (B_Mo_exprBegins_92 d 5 σ o s')
theorem K_Mo_exprBegins_79 {d : Nat} {x2 : Int} {σ s' : Mem} {o : Option Int} (hx2 : rg x2) (H : B_Mo_exprBegins_79 d x2 σ o s') : Lb (d + 3) yMo_exprBegins 79 [(0, .ref 58), (2, vi x2)] [] σ o s' := by
  intro hM
  unfold B_Mo_exprBegins_79 at H
  refine k_l rfl rfl rfl ?_
  refine k_l rfl rfl rfl ?_
  refine k_k (x := 63) rfl rfl rfl rfl ?_
  by_cases c1 : x2 ≠ 63
  · rw [if_pos c1] at H
    refine k_c rfl (by decide) hx2 (rgk rfl) (q := true) (decide_eq_true c1) rfl ?_
    refine k_k (x := 8) rfl rfl rfl rfl ?_
    exact k_lab (K_Mo_exprBegins_92 (rgk rfl) H) hM lvS_nil
  · rw [if_neg c1] at H
    refine k_c rfl (by decide) hx2 (rgk rfl) (q := false) (decide_eq_false c1) rfl ?_
    refine k_p rfl rfl rfl ?_
    refine k_b rfl rfl rfl rfl ?_
    exact k_lab (K_Mo_exprBegins_92 (rgk rfl) H) hM lvS_nil
def B_Mo_exprBegins_217 (d : Nat) (t1 : Int) (σ : Mem) (o : Option Int) (s' : Mem) : Prop := ∃ (m1 : Mem), Rn (d + 3) yMo_after [.ref 58, vi t1, vi 0] σ none m1 ∧ (o = none ∧ s' = m1)
theorem K_Mo_exprBegins_217 {d : Nat} {t1 : Int} {σ s' : Mem} {o : Option Int} (ht1 : rg t1) (H : B_Mo_exprBegins_217 d t1 σ o s') : Lb (d + 3) yMo_exprBegins 217 [] [vi t1, .ref 58] σ o s' := by
  intro hM
  unfold B_Mo_exprBegins_217 at H
  refine k_p rfl rfl rfl ?_
  obtain ⟨m1, R1, H⟩ := H
  refine k_iw rfl rfl rfl rfl rfl (by decide) rfl hM R1 (fun hM1 => ?_)
  obtain ⟨rfl, rfl⟩ := H
  exact k_r0 hM1 rfl rfl rfl
def B_Mo_exprBegins_195 (d : Nat) (x2 : Int) (σ : Mem) (o : Option Int) (s' : Mem) : Prop := if x2 ≠ 92 then (if x2 ≠ 33 then (B_Mo_exprBegins_217 d 3 σ o s') else (B_Mo_exprBegins_217 d 2 σ o s')) else (B_Mo_exprBegins_217 d 1 σ o s')
theorem K_Mo_exprBegins_195 {d : Nat} {x2 : Int} {σ s' : Mem} {o : Option Int} (hx2 : rg x2) (H : B_Mo_exprBegins_195 d x2 σ o s') : Lb (d + 3) yMo_exprBegins 195 [(0, .ref 58), (2, vi x2)] [] σ o s' := by
  intro hM
  unfold B_Mo_exprBegins_195 at H
  refine k_l rfl rfl rfl ?_
  refine k_l rfl rfl rfl ?_
  refine k_k (x := 92) rfl rfl rfl rfl ?_
  by_cases c1 : x2 ≠ 92
  · rw [if_pos c1] at H
    refine k_c rfl (by decide) hx2 (rgk rfl) (q := true) (decide_eq_true c1) rfl ?_
    refine k_l rfl rfl rfl ?_
    refine k_k (x := 33) rfl rfl rfl rfl ?_
    by_cases c2 : x2 ≠ 33
    · rw [if_pos c2] at H
      refine k_c rfl (by decide) hx2 (rgk rfl) (q := true) (decide_eq_true c2) rfl ?_
      refine k_p rfl rfl rfl ?_
      exact k_lab (K_Mo_exprBegins_217 (rgk rfl) H) hM lvS_nil
    · rw [if_neg c2] at H
      refine k_c rfl (by decide) hx2 (rgk rfl) (q := false) (decide_eq_false c2) rfl ?_
      refine k_p rfl rfl rfl ?_
      refine k_b rfl rfl rfl rfl ?_
      exact k_lab (K_Mo_exprBegins_217 (rgk rfl) H) hM lvS_nil
  · rw [if_neg c1] at H
    refine k_c rfl (by decide) hx2 (rgk rfl) (q := false) (decide_eq_false c1) rfl ?_
    refine k_p rfl rfl rfl ?_
    refine k_b rfl rfl rfl rfl ?_
    exact k_lab (K_Mo_exprBegins_217 (rgk rfl) H) hM lvS_nil
def B_Mo_exprBegins_168 (d : Nat) (x1 x2 x4 : Int) (σ : Mem) (o : Option Int) (s' : Mem) : Prop := if x2 ≠ 92 then (B_Mo_exprBegins_195 d x2 σ o s') else (∃ (m2 : Mem), Rn (d + 3) yMo_put [.ref 58, vi 6, vi 0, vi x4] σ none m2 ∧ (((0 : Int) ≤ x1 ∧ x1 < (180 : Int)) ∧ ((rg ((m2 58 7) - 1)) ∧ (B_Mo_exprBegins_195 d x2 (mup m2 72 x1 ((m2 58 7) - 1)) o s'))))
theorem K_Mo_exprBegins_168 {d : Nat} {x1 x2 x4 : Int} {σ s' : Mem} {o : Option Int} (hx1 : rg x1) (hx2 : rg x2) (hx4 : rg x4) (H : B_Mo_exprBegins_168 d x1 x2 x4 σ o s') : Lb (d + 3) yMo_exprBegins 168 [(0, .ref 58), (1, vi x1), (2, vi x2), (4, vi x4)] [] σ o s' := by
  intro hM
  unfold B_Mo_exprBegins_168 at H
  refine k_l rfl rfl rfl ?_
  refine k_k (x := 92) rfl rfl rfl rfl ?_
  by_cases c1 : x2 ≠ 92
  · rw [if_pos c1] at H
    refine k_c rfl (by decide) hx2 (rgk rfl) (q := true) (decide_eq_true c1) rfl ?_
    exact k_lab (K_Mo_exprBegins_195 hx2 H) hM (lvS_cons rfl rfl (lvS_cons rfl rfl lvS_nil))
  · rw [if_neg c1] at H
    refine k_c rfl (by decide) hx2 (rgk rfl) (q := false) (decide_eq_false c1) rfl ?_
    refine k_l rfl rfl rfl ?_
    refine k_k (x := 6) rfl rfl rfl rfl ?_
    refine k_p rfl rfl rfl ?_
    refine k_l rfl rfl rfl ?_
    obtain ⟨m2, R2, H⟩ := H
    refine k_iw rfl rfl rfl rfl rfl (by decide) rfl hM R2 (fun hM2 => ?_)
    refine k_l rfl rfl rfl ?_
    refine k_gr (t := 72) rfl rfl rfl (by decide) rfl ?_
    refine k_l rfl rfl rfl ?_
    refine k_l rfl rfl rfl ?_
    refine k_gf rfl rfl rfl (by decide) rfl rfl ?_
    refine k_p rfl rfl rfl ?_
    refine k_sub rfl ?_
    obtain ⟨g3, H⟩ := H
    obtain ⟨g4, H⟩ := H
    refine k_as (ok := isI) rfl rfl (fun _ => rfl) rfl rfl g3 (by decide) rfl ?_
    exact k_lab (K_Mo_exprBegins_195 hx2 H) (hM2.up g4) (lvS_cons rfl rfl (lvS_cons rfl rfl lvS_nil))
def B_Mo_exprBegins_156 (d : Nat) (x1 x2 x4 t1 : Int) (σ : Mem) (o : Option Int) (s' : Mem) : Prop := (t1 = 0 ∨ t1 = 1) ∧ (∃ (m2 : Mem), Rn (d + 3) yMo_put [.ref 58, vi 19, vi 0, vi x4] (mup σ 58 24 t1) none m2 ∧ (B_Mo_exprBegins_168 d x1 x2 x4 m2 o s'))
theorem K_Mo_exprBegins_156 {d : Nat} {x1 x2 x4 t1 : Int} {σ s' : Mem} {o : Option Int} (hx1 : rg x1) (hx2 : rg x2) (hx4 : rg x4) (ht1 : rg t1) (H : B_Mo_exprBegins_156 d x1 x2 x4 t1 σ o s') : Lb (d + 3) yMo_exprBegins 156 [(0, .ref 58), (1, vi x1), (2, vi x2), (4, vi x4)] [vi t1, .ref 58] σ o s' := by
  intro hM
  unfold B_Mo_exprBegins_156 at H
  obtain ⟨g1, H⟩ := H
  refine k_pf rfl rfl rfl (by decide) rfl rfl (fitb g1) rfl ?_
  refine k_l rfl rfl rfl ?_
  refine k_k (x := 19) rfl rfl rfl rfl ?_
  refine k_p rfl rfl rfl ?_
  refine k_l rfl rfl rfl ?_
  obtain ⟨m2, R2, H⟩ := H
  refine k_iw rfl rfl rfl rfl rfl (by decide) rfl (hM.up ht1) R2 (fun hM2 => ?_)
  exact k_lab (K_Mo_exprBegins_168 hx1 hx2 hx4 H) hM2 (lvS_cons rfl rfl (lvS_cons rfl rfl (lvS_cons rfl rfl (lvS_cons rfl rfl lvS_nil))))
def B_Mo_exprBegins_151 (d : Nat) (x1 x2 x4 : Int) (σ : Mem) (o : Option Int) (s' : Mem) : Prop := B_Mo_exprBegins_156 d x1 x2 x4 1 σ o s'
theorem K_Mo_exprBegins_151 {d : Nat} {x1 x2 x4 : Int} {σ s' : Mem} {o : Option Int} (hx1 : rg x1) (hx2 : rg x2) (hx4 : rg x4) (H : B_Mo_exprBegins_151 d x1 x2 x4 σ o s') : Lb (d + 3) yMo_exprBegins 151 [(0, .ref 58), (1, vi x1), (2, vi x2), (4, vi x4)] [.ref 58] σ o s' := by
  intro hM
  unfold B_Mo_exprBegins_151 at H
  refine k_p rfl rfl rfl ?_
  refine k_b rfl rfl rfl rfl ?_
  exact k_lab (K_Mo_exprBegins_156 hx1 hx2 hx4 (rgk rfl) H) hM (lvS_cons rfl rfl (lvS_cons rfl rfl (lvS_cons rfl rfl (lvS_cons rfl rfl lvS_nil))))
def B_Mo_exprBegins_117 (d : Nat) (x1 x2 x4 t1 : Int) (σ : Mem) (o : Option Int) (s' : Mem) : Prop := ∃ (m1 : Mem), Rn (d + 3) yMo_want [.ref 58, vi t1] σ none m1 ∧ (((0 : Int) ≤ x1 ∧ x1 < (180 : Int)) ∧ (if x2 ≠ 64 then (B_Mo_exprBegins_168 d x1 x2 x4 (mup m1 72 x1 x4) o s') else (if m1 58 24 ≠ 0 then (B_Mo_exprBegins_151 d x1 x2 x4 (mup m1 72 x1 x4) o s') else (∃ (v5 : Int) (m5 : Mem), Rn (d + 3) yMo_peek [.ref 58] (mup m1 72 x1 x4) (some v5) m5 ∧ (if v5 = 92 then (B_Mo_exprBegins_156 d x1 x2 x4 0 m5 o s') else (B_Mo_exprBegins_151 d x1 x2 x4 m5 o s'))))))
theorem K_Mo_exprBegins_117 {d : Nat} {x1 x2 x4 t1 : Int} {σ s' : Mem} {o : Option Int} (hx1 : rg x1) (hx2 : rg x2) (hx4 : rg x4) (ht1 : rg t1) (H : B_Mo_exprBegins_117 d x1 x2 x4 t1 σ o s') : Lb (d + 3) yMo_exprBegins 117 [(0, .ref 58), (1, vi x1), (2, vi x2), (4, vi x4)] [vi t1, .ref 58] σ o s' := by
  intro hM
  unfold B_Mo_exprBegins_117 at H
  obtain ⟨m1, R1, H⟩ := H
  refine k_iw rfl rfl rfl rfl rfl (by decide) rfl hM R1 (fun hM1 => ?_)
  refine k_l rfl rfl rfl ?_
  refine k_gr (t := 72) rfl rfl rfl (by decide) rfl ?_
  refine k_l rfl rfl rfl ?_
  refine k_l rfl rfl rfl ?_
  obtain ⟨g2, H⟩ := H
  refine k_as (ok := isI) rfl rfl (fun _ => rfl) rfl rfl g2 (by decide) rfl ?_
  refine k_l rfl rfl rfl ?_
  refine k_k (x := 64) rfl rfl rfl rfl ?_
  by_cases c3 : x2 ≠ 64
  · rw [if_pos c3] at H
    refine k_c rfl (by decide) hx2 (rgk rfl) (q := true) (decide_eq_true c3) rfl ?_
    exact k_lab (K_Mo_exprBegins_168 hx1 hx2 hx4 H) (hM1.up hx4) (lvS_cons rfl rfl (lvS_cons rfl rfl (lvS_cons rfl rfl (lvS_cons rfl rfl lvS_nil))))
  · rw [if_neg c3] at H
    refine k_c rfl (by decide) hx2 (rgk rfl) (q := false) (decide_eq_false c3) rfl ?_
    refine k_l rfl rfl rfl ?_
    refine k_l rfl rfl rfl ?_
    refine k_gf rfl rfl rfl (by decide) rfl (mup_ne (by decide)) ?_
    by_cases c4 : m1 58 24 ≠ 0
    · rw [if_pos c4] at H
      refine k_z rfl (by decide) (hM1 _ _) (q := true) (decide_eq_true c4) rfl ?_
      exact k_lab (K_Mo_exprBegins_151 hx1 hx2 hx4 H) (hM1.up hx4) (lvS_cons rfl rfl (lvS_cons rfl rfl (lvS_cons rfl rfl (lvS_cons rfl rfl lvS_nil))))
    · rw [if_neg c4] at H
      refine k_z rfl (by decide) (hM1 _ _) (q := false) (decide_eq_false c4) rfl ?_
      refine k_l rfl rfl rfl ?_
      obtain ⟨v5, m5, R5, H⟩ := H
      refine k_iv rfl rfl rfl rfl rfl (by decide) rfl (hM1.up hx4) R5 (fun hM5 hv5 => ?_)
      refine k_k (x := 92) rfl rfl rfl rfl ?_
      by_cases c6 : v5 = 92
      · rw [if_pos c6] at H
        refine k_c rfl (by decide) hv5 (rgk rfl) (q := true) (decide_eq_true c6) rfl ?_
        refine k_p rfl rfl rfl ?_
        exact k_lab (K_Mo_exprBegins_156 hx1 hx2 hx4 (rgk rfl) H) hM5 (lvS_cons rfl rfl (lvS_cons rfl rfl (lvS_cons rfl rfl (lvS_cons rfl rfl lvS_nil))))
      · rw [if_neg c6] at H
        refine k_c rfl (by decide) hv5 (rgk rfl) (q := false) (decide_eq_false c6) rfl ?_
        exact k_lab (K_Mo_exprBegins_151 hx1 hx2 hx4 H) hM5 (lvS_cons rfl rfl (lvS_cons rfl rfl (lvS_cons rfl rfl (lvS_cons rfl rfl lvS_nil))))
def B_Mo_exprBegins_44 (d : Nat) (x1 x2 t0 : Int) (σ : Mem) (o : Option Int) (s' : Mem) : Prop := if t0 ≠ 0 then ((rg ((σ 58 3) + 1)) ∧ (if x2 = 63 then (B_Mo_exprBegins_79 d x2 (mup σ 58 3 ((σ 58 3) + 1)) o s') else (if x2 ≠ 35 then (∃ (v5 : Int) (m5 : Mem), Rn (d + 3) yMo_name [.ref 58] (mup σ 58 3 ((σ 58 3) + 1)) (some v5) m5 ∧ (if x2 ≠ 92 then (B_Mo_exprBegins_117 d x1 x2 v5 61 m5 o s') else (B_Mo_exprBegins_117 d x1 x2 v5 46 m5 o s'))) else (B_Mo_exprBegins_79 d x2 (mup σ 58 3 ((σ 58 3) + 1)) o s')))) else (∃ (m7 : Mem), Rn (d + 3) yMo_after [.ref 58, vi 12, vi 1] σ none m7 ∧ (o = none ∧ s' = m7))
theorem K_Mo_exprBegins_44 {d : Nat} {x1 x2 t0 : Int} {σ s' : Mem} {o : Option Int} (hx1 : rg x1) (hx2 : rg x2) (ht0 : rg t0) (H : B_Mo_exprBegins_44 d x1 x2 t0 σ o s') : Lb (d + 3) yMo_exprBegins 44 [(0, .ref 58), (1, vi x1), (2, vi x2)] [vi t0] σ o s' := by
  intro hM
  unfold B_Mo_exprBegins_44 at H
  refine k_l rfl rfl rfl ?_
  refine k_l rfl rfl rfl ?_
  by_cases c1 : t0 ≠ 0
  · rw [if_pos c1] at H
    refine k_z rfl (by decide) ht0 (q := true) (decide_eq_true c1) rfl ?_
    refine k_l rfl rfl rfl ?_
    refine k_p rfl rfl rfl ?_
    refine k_gf rfl rfl rfl (by decide) rfl rfl ?_
    refine k_p rfl rfl rfl ?_
    refine k_add rfl ?_
    obtain ⟨g2, H⟩ := H
    refine k_pf rfl rfl rfl (by decide) rfl rfl rfl rfl ?_
    refine k_l rfl rfl rfl ?_
    refine k_k (x := 63) rfl rfl rfl rfl ?_
    by_cases c3 : x2 = 63
    · rw [if_pos c3] at H
      refine k_c rfl (by decide) hx2 (rgk rfl) (q := true) (decide_eq_true c3) rfl ?_
      exact k_lab (K_Mo_exprBegins_79 hx2 H) (hM.up g2) (lvS_cons rfl rfl (lvS_cons rfl rfl lvS_nil))
    · rw [if_neg c3] at H
      refine k_c rfl (by decide) hx2 (rgk rfl) (q := false) (decide_eq_false c3) rfl ?_
      refine k_l rfl rfl rfl ?_
      refine k_k (x := 35) rfl rfl rfl rfl ?_
      by_cases c4 : x2 ≠ 35
      · rw [if_pos c4] at H
        refine k_c rfl (by decide) hx2 (rgk rfl) (q := true) (decide_eq_true c4) rfl ?_
        refine k_l rfl rfl rfl ?_
        obtain ⟨v5, m5, R5, H⟩ := H
        refine k_iv rfl rfl rfl rfl rfl (by decide) rfl (hM.up g2) R5 (fun hM5 hv5 => ?_)
        refine k_l rfl rfl rfl ?_
        refine k_l rfl rfl rfl ?_
        refine k_l rfl rfl rfl ?_
        refine k_k (x := 92) rfl rfl rfl rfl ?_
        by_cases c6 : x2 ≠ 92
        · rw [if_pos c6] at H
          refine k_c rfl (by decide) hx2 (rgk rfl) (q := true) (decide_eq_true c6) rfl ?_
          refine k_k (x := 61) rfl rfl rfl rfl ?_
          exact k_lab (K_Mo_exprBegins_117 hx1 hx2 hv5 (rgk rfl) H) hM5 (lvS_cons rfl rfl (lvS_cons rfl rfl (lvS_cons rfl rfl (lvS_cons rfl rfl lvS_nil))))
        · rw [if_neg c6] at H
          refine k_c rfl (by decide) hx2 (rgk rfl) (q := false) (decide_eq_false c6) rfl ?_
          refine k_k (x := 46) rfl rfl rfl rfl ?_
          refine k_b rfl rfl rfl rfl ?_
          exact k_lab (K_Mo_exprBegins_117 hx1 hx2 hv5 (rgk rfl) H) hM5 (lvS_cons rfl rfl (lvS_cons rfl rfl (lvS_cons rfl rfl (lvS_cons rfl rfl lvS_nil))))
      · rw [if_neg c4] at H
        refine k_c rfl (by decide) hx2 (rgk rfl) (q := false) (decide_eq_false c4) rfl ?_
        exact k_lab (K_Mo_exprBegins_79 hx2 H) (hM.up g2) (lvS_cons rfl rfl (lvS_cons rfl rfl lvS_nil))
  · rw [if_neg c1] at H
    refine k_z rfl (by decide) ht0 (q := false) (decide_eq_false c1) rfl ?_
    refine k_l rfl rfl rfl ?_
    refine k_k (x := 12) rfl rfl rfl rfl ?_
    refine k_p rfl rfl rfl ?_
    obtain ⟨m7, R7, H⟩ := H
    refine k_iw rfl rfl rfl rfl rfl (by decide) rfl hM R7 (fun hM7 => ?_)
    obtain ⟨rfl, rfl⟩ := H
    exact k_r0 hM7 rfl rfl rfl
def B_Mo_exprBegins_39 (d : Nat) (x1 x2 : Int) (σ : Mem) (o : Option Int) (s' : Mem) : Prop := B_Mo_exprBegins_44 d x1 x2 1 σ o s'
theorem K_Mo_exprBegins_39 {d : Nat} {x1 x2 : Int} {σ s' : Mem} {o : Option Int} (hx1 : rg x1) (hx2 : rg x2) (H : B_Mo_exprBegins_39 d x1 x2 σ o s') : Lb (d + 3) yMo_exprBegins 39 [(0, .ref 58), (1, vi x1), (2, vi x2)] [] σ o s' := by
  intro hM
  unfold B_Mo_exprBegins_39 at H
  refine k_p rfl rfl rfl ?_
  refine k_b rfl rfl rfl rfl ?_
  exact k_lab (K_Mo_exprBegins_44 hx1 hx2 (rgk rfl) H) hM (lvS_cons rfl rfl (lvS_cons rfl rfl (lvS_cons rfl rfl lvS_nil)))
def B_Mo_exprBegins (d : Nat) (x1 : Int) (σ : Mem) (o : Option Int) (s' : Mem) : Prop := ∃ (m1 : Mem), Rn (d + 3) yMo_deeper [.ref 58] σ none m1 ∧ (∃ (v2 : Int) (m2 : Mem), Rn (d + 3) yMo_peek [.ref 58] m1 (some v2) m2 ∧ (if v2 = 92 then (B_Mo_exprBegins_39 d x1 v2 m2 o s') else (if v2 = 33 then (B_Mo_exprBegins_39 d x1 v2 m2 o s') else (if v2 = 64 then (B_Mo_exprBegins_39 d x1 v2 m2 o s') else (if v2 = 63 then (B_Mo_exprBegins_39 d x1 v2 m2 o s') else (if v2 ≠ 35 then (B_Mo_exprBegins_44 d x1 v2 0 m2 o s') else (B_Mo_exprBegins_39 d x1 v2 m2 o s')))))))
theorem M_Mo_exprBegins {d : Nat} {x1 : Int} {σ s' : Mem} {o : Option Int} (hx1 : rg x1) (H : B_Mo_exprBegins d x1 σ o s') : Rn (d + 4) yMo_exprBegins [.ref 58, vi x1] σ o s' := by
  refine k_m (Nat.le_of_ble_eq_true rfl) (fun hM => ?_)
  unfold B_Mo_exprBegins at H
  refine k_l rfl rfl rfl ?_
  obtain ⟨m1, R1, H⟩ := H
  refine k_iw rfl rfl rfl rfl rfl (by decide) rfl hM R1 (fun hM1 => ?_)
  refine k_l rfl rfl rfl ?_
  obtain ⟨v2, m2, R2, H⟩ := H
  refine k_iv rfl rfl rfl rfl rfl (by decide) rfl hM1 R2 (fun hM2 hv2 => ?_)
  refine k_l rfl rfl rfl ?_
  refine k_l rfl rfl rfl ?_
  refine k_k (x := 92) rfl rfl rfl rfl ?_
  by_cases c3 : v2 = 92
  · rw [if_pos c3] at H
    refine k_c rfl (by decide) hv2 (rgk rfl) (q := true) (decide_eq_true c3) rfl ?_
    exact k_lab (K_Mo_exprBegins_39 hx1 hv2 H) hM2 (lvS_cons rfl rfl (lvS_cons rfl rfl (lvS_cons rfl rfl lvS_nil)))
  · rw [if_neg c3] at H
    refine k_c rfl (by decide) hv2 (rgk rfl) (q := false) (decide_eq_false c3) rfl ?_
    refine k_l rfl rfl rfl ?_
    refine k_k (x := 33) rfl rfl rfl rfl ?_
    by_cases c4 : v2 = 33
    · rw [if_pos c4] at H
      refine k_c rfl (by decide) hv2 (rgk rfl) (q := true) (decide_eq_true c4) rfl ?_
      exact k_lab (K_Mo_exprBegins_39 hx1 hv2 H) hM2 (lvS_cons rfl rfl (lvS_cons rfl rfl (lvS_cons rfl rfl lvS_nil)))
    · rw [if_neg c4] at H
      refine k_c rfl (by decide) hv2 (rgk rfl) (q := false) (decide_eq_false c4) rfl ?_
      refine k_l rfl rfl rfl ?_
      refine k_k (x := 64) rfl rfl rfl rfl ?_
      by_cases c5 : v2 = 64
      · rw [if_pos c5] at H
        refine k_c rfl (by decide) hv2 (rgk rfl) (q := true) (decide_eq_true c5) rfl ?_
        exact k_lab (K_Mo_exprBegins_39 hx1 hv2 H) hM2 (lvS_cons rfl rfl (lvS_cons rfl rfl (lvS_cons rfl rfl lvS_nil)))
      · rw [if_neg c5] at H
        refine k_c rfl (by decide) hv2 (rgk rfl) (q := false) (decide_eq_false c5) rfl ?_
        refine k_l rfl rfl rfl ?_
        refine k_k (x := 63) rfl rfl rfl rfl ?_
        by_cases c6 : v2 = 63
        · rw [if_pos c6] at H
          refine k_c rfl (by decide) hv2 (rgk rfl) (q := true) (decide_eq_true c6) rfl ?_
          exact k_lab (K_Mo_exprBegins_39 hx1 hv2 H) hM2 (lvS_cons rfl rfl (lvS_cons rfl rfl (lvS_cons rfl rfl lvS_nil)))
        · rw [if_neg c6] at H
          refine k_c rfl (by decide) hv2 (rgk rfl) (q := false) (decide_eq_false c6) rfl ?_
          refine k_l rfl rfl rfl ?_
          refine k_k (x := 35) rfl rfl rfl rfl ?_
          by_cases c7 : v2 ≠ 35
          · rw [if_pos c7] at H
            refine k_c rfl (by decide) hv2 (rgk rfl) (q := true) (decide_eq_true c7) rfl ?_
            refine k_p rfl rfl rfl ?_
            exact k_lab (K_Mo_exprBegins_44 hx1 hv2 (rgk rfl) H) hM2 (lvS_cons rfl rfl (lvS_cons rfl rfl (lvS_cons rfl rfl lvS_nil)))
          · rw [if_neg c7] at H
            refine k_c rfl (by decide) hv2 (rgk rfl) (q := false) (decide_eq_false c7) rfl ?_
            exact k_lab (K_Mo_exprBegins_39 hx1 hv2 H) hM2 (lvS_cons rfl rfl (lvS_cons rfl rfl (lvS_cons rfl rfl lvS_nil)))
def B_Mo_clauseBegins_26 (d : Nat) (x1 t1 : Int) (σ : Mem) (o : Option Int) (s' : Mem) : Prop := (t1 = 0 ∨ t1 = 1) ∧ (∃ (m2 : Mem), Rn (d + 3) yMo_put [.ref 58, vi 16, vi (σ 58 14), vi 0] (mup (mup σ 58 24 t1) 58 23 0) none m2 ∧ (((0 : Int) ≤ x1 ∧ x1 < (180 : Int)) ∧ ((rg ((m2 58 7) - 1)) ∧ (∃ (m5 : Mem), Rn (d + 3) yMo_after [.ref 58, vi 10, vi 7] (mup m2 72 x1 ((m2 58 7) - 1)) none m5 ∧ (o = none ∧ s' = m5)))))
theorem K_Mo_clauseBegins_26 {d : Nat} {x1 t1 : Int} {σ s' : Mem} {o : Option Int} (hx1 : rg x1) (ht1 : rg t1) (H : B_Mo_clauseBegins_26 d x1 t1 σ o s') : Lb (d + 3) yMo_clauseBegins 26 [(0, .ref 58), (1, vi x1)] [vi t1, .ref 58] σ o s' := by
  intro hM
  unfold B_Mo_clauseBegins_26 at H
  obtain ⟨g1, H⟩ := H
  refine k_pf rfl rfl rfl (by decide) rfl rfl (fitb g1) rfl ?_
  refine k_l rfl rfl rfl ?_
  refine k_p rfl rfl rfl ?_
  refine k_pf rfl rfl rfl (by decide) rfl rfl rfl rfl ?_
  refine k_l rfl rfl rfl ?_
  refine k_k (x := 16) rfl rfl rfl rfl ?_
  refine k_l rfl rfl rfl ?_
  refine k_gf rfl rfl rfl (by decide) rfl ((mup_nk (by decide)).trans (mup_nk (by decide))) ?_
  refine k_p rfl rfl rfl ?_
  obtain ⟨m2, R2, H⟩ := H
  refine k_iw rfl rfl rfl rfl rfl (by decide) rfl ((hM.up ht1).up (rgk rfl)) R2 (fun hM2 => ?_)
  refine k_l rfl rfl rfl ?_
  refine k_gr (t := 72) rfl rfl rfl (by decide) rfl ?_
  refine k_l rfl rfl rfl ?_
  refine k_l rfl rfl rfl ?_
  refine k_gf rfl rfl rfl (by decide) rfl rfl ?_
  refine k_p rfl rfl rfl ?_
  refine k_sub rfl ?_
  obtain ⟨g3, H⟩ := H
  obtain ⟨g4, H⟩ := H
  refine k_as (ok := isI) rfl rfl (fun _ => rfl) rfl rfl g3 (by decide) rfl ?_
  refine k_l rfl rfl rfl ?_
  refine k_k (x := 10) rfl rfl rfl rfl ?_
  refine k_k (x := 7) rfl rfl rfl rfl ?_
  obtain ⟨m5, R5, H⟩ := H
  refine k_iw rfl rfl rfl rfl rfl (by decide) rfl (hM2.up g4) R5 (fun hM5 => ?_)
  obtain ⟨rfl, rfl⟩ := H
  exact k_r0 hM5 rfl rfl rfl
def B_Mo_clauseBegins_21 (d : Nat) (x1 : Int) (σ : Mem) (o : Option Int) (s' : Mem) : Prop := B_Mo_clauseBegins_26 d x1 1 σ o s'
theorem K_Mo_clauseBegins_21 {d : Nat} {x1 : Int} {σ s' : Mem} {o : Option Int} (hx1 : rg x1) (H : B_Mo_clauseBegins_21 d x1 σ o s') : Lb (d + 3) yMo_clauseBegins 21 [(0, .ref 58), (1, vi x1)] [.ref 58] σ o s' := by
  intro hM
  unfold B_Mo_clauseBegins_21 at H
  refine k_p rfl rfl rfl ?_
  refine k_b rfl rfl rfl rfl ?_
  exact k_lab (K_Mo_clauseBegins_26 hx1 (rgk rfl) H) hM (lvS_cons rfl rfl (lvS_cons rfl rfl lvS_nil))
def B_Mo_clauseBegins (d : Nat) (x1 : Int) (σ : Mem) (o : Option Int) (s' : Mem) : Prop := if σ 58 24 ≠ 0 then (B_Mo_clauseBegins_21 d x1 σ o s') else (((0 : Int) ≤ x1 ∧ x1 < (180 : Int)) ∧ (if zShr (σ 73 x1) 16 ≠ 5 then (B_Mo_clauseBegins_26 d x1 0 σ o s') else (B_Mo_clauseBegins_21 d x1 σ o s')))
theorem M_Mo_clauseBegins {d : Nat} {x1 : Int} {σ s' : Mem} {o : Option Int} (hx1 : rg x1) (H : B_Mo_clauseBegins d x1 σ o s') : Rn (d + 4) yMo_clauseBegins [.ref 58, vi x1] σ o s' := by
  refine k_m (Nat.le_of_ble_eq_true rfl) (fun hM => ?_)
  unfold B_Mo_clauseBegins at H
  refine k_l rfl rfl rfl ?_
  refine k_l rfl rfl rfl ?_
  refine k_gf rfl rfl rfl (by decide) rfl rfl ?_
  by_cases c1 : σ 58 24 ≠ 0
  · rw [if_pos c1] at H
    refine k_z rfl (by decide) (hM _ _) (q := true) (decide_eq_true c1) rfl ?_
    exact k_lab (K_Mo_clauseBegins_21 hx1 H) hM (lvS_cons rfl rfl (lvS_cons rfl rfl lvS_nil))
  · rw [if_neg c1] at H
    refine k_z rfl (by decide) (hM _ _) (q := false) (decide_eq_false c1) rfl ?_
    refine k_l rfl rfl rfl ?_
    refine k_gr (t := 73) rfl rfl rfl (by decide) rfl ?_
    refine k_l rfl rfl rfl ?_
    obtain ⟨g2, H⟩ := H
    refine k_al rfl rfl (fun _ => rfl) rfl rfl g2 (by decide) rfl ?_
    refine k_k (x := 16) rfl rfl rfl rfl ?_
    refine k_shr rfl ?_
    refine k_p rfl rfl rfl ?_
    by_cases c3 : zShr (σ 73 x1) 16 ≠ 5
    · rw [if_pos c3] at H
      refine k_c rfl (by decide) rg_zShr (rgk rfl) (q := true) (decide_eq_true c3) rfl ?_
      refine k_p rfl rfl rfl ?_
      exact k_lab (K_Mo_clauseBegins_26 hx1 (rgk rfl) H) hM (lvS_cons rfl rfl (lvS_cons rfl rfl lvS_nil))
    · rw [if_neg c3] at H
      refine k_c rfl (by decide) rg_zShr (rgk rfl) (q := false) (decide_eq_false c3) rfl ?_
      exact k_lab (K_Mo_clauseBegins_21 hx1 H) hM (lvS_cons rfl rfl (lvS_cons rfl rfl lvS_nil))
def B_Mo_clauseEnds (d : Nat) (x1 : Int) (σ : Mem) (o : Option Int) (s' : Mem) : Prop := ((0 : Int) ≤ x1 ∧ x1 < (180 : Int)) ∧ (((0 : Int) ≤ σ 72 x1 ∧ σ 72 x1 < (124 : Int)) ∧ (Lb (d + 3) yMo_clauseEnds 14 [(0, .ref 58), (1, vi x1), (2, vi 0), (3, vi (σ 61 (σ 72 x1)))] [] σ o s'))
theorem M_Mo_clauseEnds {d : Nat} {x1 : Int} {σ s' : Mem} {o : Option Int} (hx1 : rg x1) (H : B_Mo_clauseEnds d x1 σ o s') : Rn (d + 4) yMo_clauseEnds [.ref 58, vi x1] σ o s' := by
  refine k_m (Nat.le_of_ble_eq_true rfl) (fun hM => ?_)
  unfold B_Mo_clauseEnds at H
  refine k_p rfl rfl rfl ?_
  refine k_l rfl rfl rfl ?_
  refine k_l rfl rfl rfl ?_
  refine k_gr (t := 61) rfl rfl rfl (by decide) rfl ?_
  refine k_l rfl rfl rfl ?_
  refine k_gr (t := 72) rfl rfl rfl (by decide) rfl ?_
  refine k_l rfl rfl rfl ?_
  obtain ⟨g1, H⟩ := H
  refine k_al rfl rfl (fun _ => rfl) rfl rfl g1 (by decide) rfl ?_
  obtain ⟨g2, H⟩ := H
  refine k_al rfl rfl (fun _ => rfl) rfl rfl g2 (by decide) rfl ?_
  refine k_l rfl rfl rfl ?_
  exact k_lab H hM (lvS_cons rfl rfl (lvS_cons rfl rfl (lvS_cons rfl rfl (lvS_cons rfl rfl lvS_nil))))
def B_Mo_clauseEnds_54 (d : Nat) (x1 x3 t0 t1 : Int) (σ : Mem) (o : Option Int) (s' : Mem) : Prop := (rg (t0 + t1)) ∧ ((rg (x3 + 1)) ∧ (Lb (d + 3) yMo_clauseEnds 14 [(0, .ref 58), (1, vi x1), (2, vi (t0 + t1)), (3, vi (x3 + 1))] [] σ o s'))
theorem K_Mo_clauseEnds_54 {d : Nat} {x1 x3 t0 t1 : Int} {σ s' : Mem} {o : Option Int} (hx1 : rg x1) (hx3 : rg x3) (ht0 : rg t0) (ht1 : rg t1) (H : B_Mo_clauseEnds_54 d x1 x3 t0 t1 σ o s') : Lb (d + 3) yMo_clauseEnds 54 [(0, .ref 58), (1, vi x1), (3, vi x3)] [vi t1, vi t0] σ o s' := by
  intro hM
  unfold B_Mo_clauseEnds_54 at H
  refine k_add rfl ?_
  refine k_l rfl rfl rfl ?_
  refine k_inc rfl rfl (by decide) ?_
  refine k_b rfl rfl rfl rfl ?_
  obtain ⟨g1, H⟩ := H
  obtain ⟨g2, H⟩ := H
  exact k_lab H hM (lvS_cons rfl rfl (lvS_cons rfl rfl (lvS_cons rfl rfl (lvS_cons rfl rfl lvS_nil))))
def B_Mo_clauseEnds_53 (d : Nat) (x1 x3 t0 : Int) (σ : Mem) (o : Option Int) (s' : Mem) : Prop := B_Mo_clauseEnds_54 d x1 x3 t0 0 σ o s'
theorem K_Mo_clauseEnds_53 {d : Nat} {x1 x3 t0 : Int} {σ s' : Mem} {o : Option Int} (hx1 : rg x1) (hx3 : rg x3) (ht0 : rg t0) (H : B_Mo_clauseEnds_53 d x1 x3 t0 σ o s') : Lb (d + 3) yMo_clauseEnds 53 [(0, .ref 58), (1, vi x1), (3, vi x3)] [vi t0] σ o s' := by
  intro hM
  unfold B_Mo_clauseEnds_53 at H
  refine k_p rfl rfl rfl ?_
  exact k_lab (K_Mo_clauseEnds_54 hx1 hx3 ht0 (rgk rfl) H) hM (lvS_cons rfl rfl (lvS_cons rfl rfl (lvS_cons rfl rfl lvS_nil)))
def B_Mo_clauseEnds_14 (d : Nat) (x1 x2 x3 : Int) (σ : Mem) (o : Option Int) (s' : Mem) : Prop := ((0 : Int) ≤ x1 ∧ x1 < (180 : Int)) ∧ (((0 : Int) ≤ σ 72 x1 ∧ σ 72 x1 < (124 : Int)) ∧ (if x3 ≥ σ 62 (σ 72 x1) then (∃ (m4 : Mem), Rn (d + 3) yMo_put [.ref 58, vi 12, vi x2, vi 0] σ none m4 ∧ (((0 : Int) ≤ x1 ∧ x1 < (180 : Int)) ∧ (∃ (m6 : Mem), Rn (d + 3) yMo_put [.ref 58, vi 14, vi (zAnd (m4 73 x1) 65535), vi 0] m4 none m6 ∧ (((0 : Int) ≤ x1 ∧ x1 < (180 : Int)) ∧ (((0 : Int) ≤ m6 72 x1 ∧ m6 72 x1 < (124 : Int)) ∧ (((0 : Int) ≤ x1 ∧ x1 < (180 : Int)) ∧ (((0 : Int) ≤ x1 ∧ x1 < (180 : Int)) ∧ (∃ (v11 : Int) (m11 : Mem), Rn (d + 3) yMo_eat [.ref 58, vi 124] (mup (mup m6 74 (m6 72 x1) (m6 58 7)) 73 x1 (zOr (zShl ((zShr (m6 73 x1) 16) + 1) 16) ((m6 58 7) - 1))) (some v11) m11 ∧ (if v11 = 0 then (∃ (m13 : Mem), Rn (d + 3) yMo_want [.ref 58, vi 125] m11 none m13 ∧ (∃ (m14 : Mem), Rn (d + 3) yMo_put [.ref 58, vi 17, vi 0, vi 0] m13 none m14 ∧ (((0 : Int) ≤ x1 ∧ x1 < (180 : Int)) ∧ (Lb (d + 3) yMo_clauseEnds 170 [(0, .ref 58), (4, vi (zAnd (m14 73 x1) 65535))] [] m14 o s')))) else (∃ (m16 : Mem), Rn (d + 3) yMo_clauseBegins [.ref 58, vi x1] m11 none m16 ∧ (o = none ∧ s' = m16))))))))))) else (((0 : Int) ≤ x3 ∧ x3 < (80 : Int)) ∧ (if σ 66 x3 ≠ 1 then (B_Mo_clauseEnds_53 d x1 x3 x2 σ o s') else (((0 : Int) ≤ x3 ∧ x3 < (80 : Int)) ∧ (if σ 67 x3 ≤ 0 then (B_Mo_clauseEnds_53 d x1 x3 x2 σ o s') else (B_Mo_clauseEnds_54 d x1 x3 x2 1 σ o s')))))))
theorem K_Mo_clauseEnds_14 {d : Nat} {x1 x2 x3 : Int} {σ s' : Mem} {o : Option Int} (hx1 : rg x1) (hx2 : rg x2) (hx3 : rg x3) (H : B_Mo_clauseEnds_14 d x1 x2 x3 σ o s') : Lb (d + 3) yMo_clauseEnds 14 [(0, .ref 58), (1, vi x1), (2, vi x2), (3, vi x3)] [] σ o s' := by
  intro hM
  unfold B_Mo_clauseEnds_14 at H
  refine k_l rfl rfl rfl ?_
  refine k_l rfl rfl rfl ?_
  refine k_gr (t := 62) rfl rfl rfl (by decide) rfl ?_
  refine k_l rfl rfl rfl ?_
  refine k_gr (t := 72) rfl rfl rfl (by decide) rfl ?_
  refine k_l rfl rfl rfl ?_
  obtain ⟨g1, H⟩ := H
  refine k_al rfl rfl (fun _ => rfl) rfl rfl g1 (by decide) rfl ?_
  obtain ⟨g2, H⟩ := H
  refine k_al rfl rfl (fun _ => rfl) rfl rfl g2 (by decide) rfl ?_
  by_cases c3 : x3 ≥ σ 62 (σ 72 x1)
  · rw [if_pos c3] at H
    refine k_c rfl (by decide) hx3 (hM _ _) (q := true) (decide_eq_true c3) rfl ?_
    refine k_l rfl rfl rfl ?_
    refine k_k (x := 12) rfl rfl rfl rfl ?_
    refine k_l rfl rfl rfl ?_
    refine k_p rfl rfl rfl ?_
    obtain ⟨m4, R4, H⟩ := H
    refine k_iw rfl rfl rfl rfl rfl (by decide) rfl hM R4 (fun hM4 => ?_)
    refine k_l rfl rfl rfl ?_
    refine k_k (x := 14) rfl rfl rfl rfl ?_
    refine k_l rfl rfl rfl ?_
    refine k_gr (t := 73) rfl rfl rfl (by decide) rfl ?_
    refine k_l rfl rfl rfl ?_
    obtain ⟨g5, H⟩ := H
    refine k_al rfl rfl (fun _ => rfl) rfl rfl g5 (by decide) rfl ?_
    refine k_k (x := 65535) rfl rfl rfl rfl ?_
    refine k_and rfl ?_
    refine k_p rfl rfl rfl ?_
    obtain ⟨m6, R6, H⟩ := H
    refine k_iw rfl rfl rfl rfl rfl (by decide) rfl hM4 R6 (fun hM6 => ?_)
    refine k_l rfl rfl rfl ?_
    refine k_gf rfl rfl rfl (by decide) rfl rfl ?_
    refine k_p rfl rfl rfl ?_
    refine k_sub rfl ?_
    refine k_l rfl rfl rfl ?_
    refine k_l rfl rfl rfl ?_
    refine k_gr (t := 74) rfl rfl rfl (by decide) rfl ?_
    refine k_l rfl rfl rfl ?_
    refine k_gr (t := 72) rfl rfl rfl (by decide) rfl ?_
    refine k_l rfl rfl rfl ?_
    obtain ⟨g7, H⟩ := H
    refine k_al rfl rfl (fun _ => rfl) rfl rfl g7 (by decide) rfl ?_
    refine k_l rfl rfl rfl ?_
    refine k_gf rfl rfl rfl (by decide) rfl rfl ?_
    obtain ⟨g8, H⟩ := H
    refine k_as (ok := isI) rfl rfl (fun _ => rfl) rfl rfl g8 (by decide) rfl ?_
    refine k_l rfl rfl rfl ?_
    refine k_gr (t := 73) rfl rfl rfl (by decide) rfl ?_
    refine k_l rfl rfl rfl ?_
    refine k_l rfl rfl rfl ?_
    refine k_gr (t := 73) rfl rfl rfl (by decide) rfl ?_
    refine k_l rfl rfl rfl ?_
    obtain ⟨g9, H⟩ := H
    refine k_al rfl rfl (fun _ => rfl) rfl rfl g9 (by decide) (mup_ne (by decide)) ?_
    refine k_k (x := 16) rfl rfl rfl rfl ?_
    refine k_shr rfl ?_
    refine k_p rfl rfl rfl ?_
    refine k_add rfl ?_
    refine k_k (x := 16) rfl rfl rfl rfl ?_
    refine k_shl rfl ?_
    refine k_l rfl rfl rfl ?_
    refine k_or rfl ?_
    obtain ⟨g10, H⟩ := H
    refine k_as (ok := isI) rfl rfl (fun _ => rfl) rfl rfl g10 (by decide) rfl ?_
    refine k_l rfl rfl rfl ?_
    refine k_k (x := 124) rfl rfl rfl rfl ?_
    obtain ⟨v11, m11, R11, H⟩ := H
    refine k_iv rfl rfl rfl rfl rfl (by decide) rfl ((hM6.up (hM6 _ _)).up rg_zOr) R11 (fun hM11 hv11 => ?_)
    by_cases c12 : v11 = 0
    · rw [if_pos c12] at H
      refine k_z rfl (by decide) hv11 (q := true) (decide_eq_true c12) rfl ?_
      refine k_l rfl rfl rfl ?_
      refine k_k (x := 125) rfl rfl rfl rfl ?_
      obtain ⟨m13, R13, H⟩ := H
      refine k_iw rfl rfl rfl rfl rfl (by decide) rfl hM11 R13 (fun hM13 => ?_)
      refine k_l rfl rfl rfl ?_
      refine k_k (x := 17) rfl rfl rfl rfl ?_
      refine k_p rfl rfl rfl ?_
      refine k_p rfl rfl rfl ?_
      obtain ⟨m14, R14, H⟩ := H
      refine k_iw rfl rfl rfl rfl rfl (by decide) rfl hM13 R14 (fun hM14 => ?_)
      refine k_l rfl rfl rfl ?_
      refine k_gr (t := 73) rfl rfl rfl (by decide) rfl ?_
      refine k_l rfl rfl rfl ?_
      obtain ⟨g15, H⟩ := H
      refine k_al rfl rfl (fun _ => rfl) rfl rfl g15 (by decide) rfl ?_
      refine k_k (x := 65535) rfl rfl rfl rfl ?_
      refine k_and rfl ?_
      refine k_l rfl rfl rfl ?_
      exact k_lab H hM14 (lvS_cons rfl rfl (lvS_cons rfl rfl lvS_nil))
    · rw [if_neg c12] at H
      refine k_z rfl (by decide) hv11 (q := false) (decide_eq_false c12) rfl ?_
      refine k_l rfl rfl rfl ?_
      refine k_l rfl rfl rfl ?_
      obtain ⟨m16, R16, H⟩ := H
      refine k_iw rfl rfl rfl rfl rfl (by decide) rfl hM11 R16 (fun hM16 => ?_)
      obtain ⟨rfl, rfl⟩ := H
      exact k_r0 hM16 rfl rfl rfl
  · rw [if_neg c3] at H
    refine k_c rfl (by decide) hx3 (hM _ _) (q := false) (decide_eq_false c3) rfl ?_
    refine k_l rfl rfl rfl ?_
    refine k_l rfl rfl rfl ?_
    refine k_gr (t := 66) rfl rfl rfl (by decide) rfl ?_
    refine k_l rfl rfl rfl ?_
    obtain ⟨g17, H⟩ := H
    refine k_al rfl rfl (fun _ => rfl) rfl rfl g17 (by decide) rfl ?_
    refine k_p rfl rfl rfl ?_
    by_cases c18 : σ 66 x3 ≠ 1
    · rw [if_pos c18] at H
      refine k_c rfl (by decide) (hM _ _) (rgk rfl) (q := true) (decide_eq_true c18) rfl ?_
      exact k_lab (K_Mo_clauseEnds_53 hx1 hx3 hx2 H) hM (lvS_cons rfl rfl (lvS_cons rfl rfl (lvS_cons rfl rfl lvS_nil)))
    · rw [if_neg c18] at H
      refine k_c rfl (by decide) (hM _ _) (rgk rfl) (q := false) (decide_eq_false c18) rfl ?_
      refine k_l rfl rfl rfl ?_
      refine k_gr (t := 67) rfl rfl rfl (by decide) rfl ?_
      refine k_l rfl rfl rfl ?_
      obtain ⟨g19, H⟩ := H
      refine k_al rfl rfl (fun _ => rfl) rfl rfl g19 (by decide) rfl ?_
      by_cases c20 : σ 67 x3 ≤ 0
      · rw [if_pos c20] at H
        refine k_z rfl (by decide) (hM _ _) (q := true) (decide_eq_true c20) rfl ?_
        exact k_lab (K_Mo_clauseEnds_53 hx1 hx3 hx2 H) hM (lvS_cons rfl rfl (lvS_cons rfl rfl (lvS_cons rfl rfl lvS_nil)))
      · rw [if_neg c20] at H
        refine k_z rfl (by decide) (hM _ _) (q := false) (decide_eq_false c20) rfl ?_
        refine k_p rfl rfl rfl ?_
        refine k_b rfl rfl rfl rfl ?_
        exact k_lab (K_Mo_clauseEnds_54 hx1 hx3 hx2 (rgk rfl) H) hM (lvS_cons rfl rfl (lvS_cons rfl rfl (lvS_cons rfl rfl lvS_nil)))
def B_Mo_clauseEnds_170 (d : Nat) (x4 : Int) (σ : Mem) (o : Option Int) (s' : Mem) : Prop := if x4 ≤ 0 then (∃ (m2 : Mem), Rn (d + 3) yMo_endsDeep [.ref 58] σ none m2 ∧ (o = none ∧ s' = m2)) else (((0 : Int) ≤ x4 ∧ x4 < (124 : Int)) ∧ (((0 : Int) ≤ x4 ∧ x4 < (124 : Int)) ∧ (Lb (d + 3) yMo_clauseEnds 170 [(0, .ref 58), (4, vi (σ 61 x4))] [] (mup σ 61 x4 (σ 58 7)) o s')))
theorem K_Mo_clauseEnds_170 {d : Nat} {x4 : Int} {σ s' : Mem} {o : Option Int} (hx4 : rg x4) (H : B_Mo_clauseEnds_170 d x4 σ o s') : Lb (d + 3) yMo_clauseEnds 170 [(0, .ref 58), (4, vi x4)] [] σ o s' := by
  intro hM
  unfold B_Mo_clauseEnds_170 at H
  refine k_l rfl rfl rfl ?_
  by_cases c1 : x4 ≤ 0
  · rw [if_pos c1] at H
    refine k_z rfl (by decide) hx4 (q := true) (decide_eq_true c1) rfl ?_
    refine k_l rfl rfl rfl ?_
    obtain ⟨m2, R2, H⟩ := H
    refine k_iw rfl rfl rfl rfl rfl (by decide) rfl hM R2 (fun hM2 => ?_)
    obtain ⟨rfl, rfl⟩ := H
    exact k_r0 hM2 rfl rfl rfl
  · rw [if_neg c1] at H
    refine k_z rfl (by decide) hx4 (q := false) (decide_eq_false c1) rfl ?_
    refine k_l rfl rfl rfl ?_
    refine k_gr (t := 61) rfl rfl rfl (by decide) rfl ?_
    refine k_l rfl rfl rfl ?_
    obtain ⟨g3, H⟩ := H
    refine k_al rfl rfl (fun _ => rfl) rfl rfl g3 (by decide) rfl ?_
    refine k_l rfl rfl rfl ?_
    refine k_l rfl rfl rfl ?_
    refine k_gr (t := 61) rfl rfl rfl (by decide) rfl ?_
    refine k_l rfl rfl rfl ?_
    refine k_l rfl rfl rfl ?_
    refine k_gf rfl rfl rfl (by decide) rfl rfl ?_
    obtain ⟨g4, H⟩ := H
    refine k_as (ok := isI) rfl rfl (fun _ => rfl) rfl rfl g4 (by decide) rfl ?_
    refine k_l rfl rfl rfl ?_
    refine k_l rfl rfl rfl ?_
    refine k_b rfl rfl rfl rfl ?_
    exact k_lab H (hM.up (hM _ _)) (lvS_cons rfl rfl (lvS_cons rfl rfl lvS_nil))
def B_Mo_exprGoesOn_275 (d : Nat) (σ : Mem) (o : Option Int) (s' : Mem) : Prop := ∃ (m1 : Mem), Rn (d + 3) yMo_endsDeep [.ref 58] σ none m1 ∧ (o = none ∧ s' = m1)
theorem K_Mo_exprGoesOn_275 {d : Nat} {σ s' : Mem} {o : Option Int}  (H : B_Mo_exprGoesOn_275 d  σ o s') : Lb (d + 3) yMo_exprGoesOn 275 [(0, .ref 58)] [] σ o s' := by
  intro hM
  unfold B_Mo_exprGoesOn_275 at H
  refine k_l rfl rfl rfl ?_
  obtain ⟨m1, R1, H⟩ := H
  refine k_iw rfl rfl rfl rfl rfl (by decide) rfl hM R1 (fun hM1 => ?_)
  refine k_b rfl rfl rfl rfl ?_
  obtain ⟨rfl, rfl⟩ := H
  exact k_r0 hM1 rfl rfl rfl
def B_Mo_exprGoesOn_295 (d : Nat) (t1 : Int) (σ : Mem) (o : Option Int) (s' : Mem) : Prop := ∃ (m1 : Mem), Rn (d + 3) yMo_after [.ref 58, vi t1, vi 0] σ none m1 ∧ (o = none ∧ s' = m1)
theorem K_Mo_exprGoesOn_295 {d : Nat} {t1 : Int} {σ s' : Mem} {o : Option Int} (ht1 : rg t1) (H : B_Mo_exprGoesOn_295 d t1 σ o s') : Lb (d + 3) yMo_exprGoesOn 295 [] [vi t1, .ref 58] σ o s' := by
  intro hM
  unfold B_Mo_exprGoesOn_295 at H
  refine k_p rfl rfl rfl ?_
  obtain ⟨m1, R1, H⟩ := H
  refine k_iw rfl rfl rfl rfl rfl (by decide) rfl hM R1 (fun hM1 => ?_)
  obtain ⟨rfl, rfl⟩ := H
  exact k_r0 hM1 rfl rfl rfl
def B_Mo_exprGoesOn_239 (d : Nat) (x1 x2 : Int) (σ : Mem) (o : Option Int) (s' : Mem) : Prop := if x2 ≠ 8 then (if x2 = 1 then (B_Mo_exprGoesOn_275 d  σ o s') else (if x2 = 4 then (B_Mo_exprGoesOn_275 d  σ o s') else (if x2 = 7 then (B_Mo_exprGoesOn_275 d  σ o s') else (if x2 ≠ 12 then (if x2 ≥ 4 then ((rg (x2 + 1)) ∧ (B_Mo_exprGoesOn_295 d (x2 + 1) σ o s')) else (B_Mo_exprGoesOn_295 d 4 σ o s')) else (B_Mo_exprGoesOn_275 d  σ o s'))))) else (∃ (m8 : Mem), Rn (d + 3) yMo_clauseBegins [.ref 58, vi x1] σ none m8 ∧ (o = none ∧ s' = m8))
theorem K_Mo_exprGoesOn_239 {d : Nat} {x1 x2 : Int} {σ s' : Mem} {o : Option Int} (hx1 : rg x1) (hx2 : rg x2) (H : B_Mo_exprGoesOn_239 d x1 x2 σ o s') : Lb (d + 3) yMo_exprGoesOn 239 [(0, .ref 58), (1, vi x1), (2, vi x2)] [] σ o s' := by
  intro hM
  unfold B_Mo_exprGoesOn_239 at H
  refine k_l rfl rfl rfl ?_
  refine k_k (x := 8) rfl rfl rfl rfl ?_
  by_cases c1 : x2 ≠ 8
  · rw [if_pos c1] at H
    refine k_c rfl (by decide) hx2 (rgk rfl) (q := true) (decide_eq_true c1) rfl ?_
    refine k_l rfl rfl rfl ?_
    refine k_p rfl rfl rfl ?_
    by_cases c2 : x2 = 1
    · rw [if_pos c2] at H
      refine k_c rfl (by decide) hx2 (rgk rfl) (q := true) (decide_eq_true c2) rfl ?_
      exact k_lab (K_Mo_exprGoesOn_275  H) hM (lvS_cons rfl rfl lvS_nil)
    · rw [if_neg c2] at H
      refine k_c rfl (by decide) hx2 (rgk rfl) (q := false) (decide_eq_false c2) rfl ?_
      refine k_l rfl rfl rfl ?_
      refine k_p rfl rfl rfl ?_
      by_cases c3 : x2 = 4
      · rw [if_pos c3] at H
        refine k_c rfl (by decide) hx2 (rgk rfl) (q := true) (decide_eq_true c3) rfl ?_
        exact k_lab (K_Mo_exprGoesOn_275  H) hM (lvS_cons rfl rfl lvS_nil)
      · rw [if_neg c3] at H
        refine k_c rfl (by decide) hx2 (rgk rfl) (q := false) (decide_eq_false c3) rfl ?_
        refine k_l rfl rfl rfl ?_
        refine k_k (x := 7) rfl rfl rfl rfl ?_
        by_cases c4 : x2 = 7
        · rw [if_pos c4] at H
          refine k_c rfl (by decide) hx2 (rgk rfl) (q := true) (decide_eq_true c4) rfl ?_
          exact k_lab (K_Mo_exprGoesOn_275  H) hM (lvS_cons rfl rfl lvS_nil)
        · rw [if_neg c4] at H
          refine k_c rfl (by decide) hx2 (rgk rfl) (q := false) (decide_eq_false c4) rfl ?_
          refine k_l rfl rfl rfl ?_
          refine k_k (x := 12) rfl rfl rfl rfl ?_
          by_cases c5 : x2 ≠ 12
          · rw [if_pos c5] at H
            refine k_c rfl (by decide) hx2 (rgk rfl) (q := true) (decide_eq_true c5) rfl ?_
            refine k_l rfl rfl rfl ?_
            refine k_l rfl rfl rfl ?_
            refine k_p rfl rfl rfl ?_
            by_cases c6 : x2 ≥ 4
            · rw [if_pos c6] at H
              refine k_c rfl (by decide) hx2 (rgk rfl) (q := true) (decide_eq_true c6) rfl ?_
              refine k_l rfl rfl rfl ?_
              refine k_p rfl rfl rfl ?_
              refine k_add rfl ?_
              obtain ⟨g7, H⟩ := H
              exact k_lab (K_Mo_exprGoesOn_295 g7 H) hM lvS_nil
            · rw [if_neg c6] at H
              refine k_c rfl (by decide) hx2 (rgk rfl) (q := false) (decide_eq_false c6) rfl ?_
              refine k_p rfl rfl rfl ?_
              refine k_b rfl rfl rfl rfl ?_
              exact k_lab (K_Mo_exprGoesOn_295 (rgk rfl) H) hM lvS_nil
          · rw [if_neg c5] at H
            refine k_c rfl (by decide) hx2 (rgk rfl) (q := false) (decide_eq_false c5) rfl ?_
            exact k_lab (K_Mo_exprGoesOn_275  H) hM (lvS_cons rfl rfl lvS_nil)
  · rw [if_neg c1] at H
    refine k_c rfl (by decide) hx2 (rgk rfl) (q := false) (decide_eq_false c1) rfl ?_
    refine k_l rfl rfl rfl ?_
    refine k_l rfl rfl rfl ?_
    obtain ⟨m8, R8, H⟩ := H
    refine k_iw rfl rfl rfl rfl rfl (by decide) rfl hM R8 (fun hM8 => ?_)
    refine k_b rfl rfl rfl rfl ?_
    obtain ⟨rfl, rfl⟩ := H
    exact k_r0 hM8 rfl rfl rfl
def B_Mo_exprGoesOn_218 (d : Nat) (x1 x2 : Int) (σ : Mem) (o : Option Int) (s' : Mem) : Prop := if x2 ≠ 10 then (B_Mo_exprGoesOn_239 d x1 x2 σ o s') else (((0 : Int) ≤ x1 ∧ x1 < (180 : Int)) ∧ (((0 : Int) ≤ σ 72 x1 ∧ σ 72 x1 < (124 : Int)) ∧ (B_Mo_exprGoesOn_239 d x1 x2 (mup σ 62 (σ 72 x1) (σ 58 14)) o s')))
theorem K_Mo_exprGoesOn_218 {d : Nat} {x1 x2 : Int} {σ s' : Mem} {o : Option Int} (hx1 : rg x1) (hx2 : rg x2) (H : B_Mo_exprGoesOn_218 d x1 x2 σ o s') : Lb (d + 3) yMo_exprGoesOn 218 [(0, .ref 58), (1, vi x1), (2, vi x2)] [] σ o s' := by
  intro hM
  unfold B_Mo_exprGoesOn_218 at H
  refine k_l rfl rfl rfl ?_
  refine k_k (x := 10) rfl rfl rfl rfl ?_
  by_cases c1 : x2 ≠ 10
  · rw [if_pos c1] at H
    refine k_c rfl (by decide) hx2 (rgk rfl) (q := true) (decide_eq_true c1) rfl ?_
    exact k_lab (K_Mo_exprGoesOn_239 hx1 hx2 H) hM (lvS_cons rfl rfl (lvS_cons rfl rfl (lvS_cons rfl rfl lvS_nil)))
  · rw [if_neg c1] at H
    refine k_c rfl (by decide) hx2 (rgk rfl) (q := false) (decide_eq_false c1) rfl ?_
    refine k_l rfl rfl rfl ?_
    refine k_gr (t := 62) rfl rfl rfl (by decide) rfl ?_
    refine k_l rfl rfl rfl ?_
    refine k_gr (t := 72) rfl rfl rfl (by decide) rfl ?_
    refine k_l rfl rfl rfl ?_
    obtain ⟨g2, H⟩ := H
    refine k_al rfl rfl (fun _ => rfl) rfl rfl g2 (by decide) rfl ?_
    refine k_l rfl rfl rfl ?_
    refine k_gf rfl rfl rfl (by decide) rfl rfl ?_
    obtain ⟨g3, H⟩ := H
    refine k_as (ok := isI) rfl rfl (fun _ => rfl) rfl rfl g3 (by decide) rfl ?_
    exact k_lab (K_Mo_exprGoesOn_239 hx1 hx2 H) (hM.up (hM _ _)) (lvS_cons rfl rfl (lvS_cons rfl rfl (lvS_cons rfl rfl lvS_nil)))
def B_Mo_exprGoesOn_206 (d : Nat) (x1 x2 : Int) (σ : Mem) (o : Option Int) (s' : Mem) : Prop := ((0 : Int) ≤ x1 ∧ x1 < (180 : Int)) ∧ ((rg ((σ 58 7) - 1)) ∧ (B_Mo_exprGoesOn_218 d x1 x2 (mup σ 72 x1 ((σ 58 7) - 1)) o s'))
theorem K_Mo_exprGoesOn_206 {d : Nat} {x1 x2 : Int} {σ s' : Mem} {o : Option Int} (hx1 : rg x1) (hx2 : rg x2) (H : B_Mo_exprGoesOn_206 d x1 x2 σ o s') : Lb (d + 3) yMo_exprGoesOn 206 [(0, .ref 58), (1, vi x1), (2, vi x2)] [] σ o s' := by
  intro hM
  unfold B_Mo_exprGoesOn_206 at H
  refine k_l rfl rfl rfl ?_
  refine k_gr (t := 72) rfl rfl rfl (by decide) rfl ?_
  refine k_l rfl rfl rfl ?_
  refine k_l rfl rfl rfl ?_
  refine k_gf rfl rfl rfl (by decide) rfl rfl ?_
  refine k_p rfl rfl rfl ?_
  refine k_sub rfl ?_
  obtain ⟨g1, H⟩ := H
  obtain ⟨g2, H⟩ := H
  refine k_as (ok := isI) rfl rfl (fun _ => rfl) rfl rfl g1 (by decide) rfl ?_
  exact k_lab (K_Mo_exprGoesOn_218 hx1 hx2 H) (hM.up g2) (lvS_cons rfl rfl (lvS_cons rfl rfl (lvS_cons rfl rfl lvS_nil)))
def B_Mo_exprGoesOn_195 (d : Nat) (x1 x2 : Int) (σ : Mem) (o : Option Int) (s' : Mem) : Prop := if x2 = 5 then (B_Mo_exprGoesOn_206 d x1 x2 σ o s') else (if x2 ≠ 6 then (B_Mo_exprGoesOn_218 d x1 x2 σ o s') else (B_Mo_exprGoesOn_206 d x1 x2 σ o s'))
theorem K_Mo_exprGoesOn_195 {d : Nat} {x1 x2 : Int} {σ s' : Mem} {o : Option Int} (hx1 : rg x1) (hx2 : rg x2) (H : B_Mo_exprGoesOn_195 d x1 x2 σ o s') : Lb (d + 3) yMo_exprGoesOn 195 [(0, .ref 58), (1, vi x1), (2, vi x2)] [] σ o s' := by
  intro hM
  unfold B_Mo_exprGoesOn_195 at H
  refine k_l rfl rfl rfl ?_
  refine k_p rfl rfl rfl ?_
  by_cases c1 : x2 = 5
  · rw [if_pos c1] at H
    refine k_c rfl (by decide) hx2 (rgk rfl) (q := true) (decide_eq_true c1) rfl ?_
    exact k_lab (K_Mo_exprGoesOn_206 hx1 hx2 H) hM (lvS_cons rfl rfl (lvS_cons rfl rfl (lvS_cons rfl rfl lvS_nil)))
  · rw [if_neg c1] at H
    refine k_c rfl (by decide) hx2 (rgk rfl) (q := false) (decide_eq_false c1) rfl ?_
    refine k_l rfl rfl rfl ?_
    refine k_k (x := 6) rfl rfl rfl rfl ?_
    by_cases c2 : x2 ≠ 6
    · rw [if_pos c2] at H
      refine k_c rfl (by decide) hx2 (rgk rfl) (q := true) (decide_eq_true c2) rfl ?_
      exact k_lab (K_Mo_exprGoesOn_218 hx1 hx2 H) hM (lvS_cons rfl rfl (lvS_cons rfl rfl (lvS_cons rfl rfl lvS_nil)))
    · rw [if_neg c2] at H
      refine k_c rfl (by decide) hx2 (rgk rfl) (q := false) (decide_eq_false c2) rfl ?_
      exact k_lab (K_Mo_exprGoesOn_206 hx1 hx2 H) hM (lvS_cons rfl rfl (lvS_cons rfl rfl (lvS_cons rfl rfl lvS_nil)))
def B_Mo_exprGoesOn_180 (d : Nat) (x1 x2 : Int) (σ : Mem) (o : Option Int) (s' : Mem) : Prop := ((0 : Int) ≤ x1 ∧ x1 < (180 : Int)) ∧ (((0 : Int) ≤ σ 72 x1 ∧ σ 72 x1 < (124 : Int)) ∧ (B_Mo_exprGoesOn_195 d x1 x2 (mup σ 61 (σ 72 x1) (σ 58 7)) o s'))
theorem K_Mo_exprGoesOn_180 {d : Nat} {x1 x2 : Int} {σ s' : Mem} {o : Option Int} (hx1 : rg x1) (hx2 : rg x2) (H : B_Mo_exprGoesOn_180 d x1 x2 σ o s') : Lb (d + 3) yMo_exprGoesOn 180 [(0, .ref 58), (1, vi x1), (2, vi x2)] [] σ o s' := by
  intro hM
  unfold B_Mo_exprGoesOn_180 at H
  refine k_l rfl rfl rfl ?_
  refine k_gr (t := 61) rfl rfl rfl (by decide) rfl ?_
  refine k_l rfl rfl rfl ?_
  refine k_gr (t := 72) rfl rfl rfl (by decide) rfl ?_
  refine k_l rfl rfl rfl ?_
  obtain ⟨g1, H⟩ := H
  refine k_al rfl rfl (fun _ => rfl) rfl rfl g1 (by decide) rfl ?_
  refine k_l rfl rfl rfl ?_
  refine k_gf rfl rfl rfl (by decide) rfl rfl ?_
  obtain ⟨g2, H⟩ := H
  refine k_as (ok := isI) rfl rfl (fun _ => rfl) rfl rfl g2 (by decide) rfl ?_
  exact k_lab (K_Mo_exprGoesOn_195 hx1 hx2 H) (hM.up (hM _ _)) (lvS_cons rfl rfl (lvS_cons rfl rfl (lvS_cons rfl rfl lvS_nil)))
def B_Mo_exprGoesOn_169 (d : Nat) (x1 x2 : Int) (σ : Mem) (o : Option Int) (s' : Mem) : Prop := if x2 = 1 then (B_Mo_exprGoesOn_180 d x1 x2 σ o s') else (if x2 ≠ 6 then (B_Mo_exprGoesOn_195 d x1 x2 σ o s') else (B_Mo_exprGoesOn_180 d x1 x2 σ o s'))
theorem K_Mo_exprGoesOn_169 {d : Nat} {x1 x2 : Int} {σ s' : Mem} {o : Option Int} (hx1 : rg x1) (hx2 : rg x2) (H : B_Mo_exprGoesOn_169 d x1 x2 σ o s') : Lb (d + 3) yMo_exprGoesOn 169 [(0, .ref 58), (1, vi x1), (2, vi x2)] [] σ o s' := by
  intro hM
  unfold B_Mo_exprGoesOn_169 at H
  refine k_l rfl rfl rfl ?_
  refine k_p rfl rfl rfl ?_
  by_cases c1 : x2 = 1
  · rw [if_pos c1] at H
    refine k_c rfl (by decide) hx2 (rgk rfl) (q := true) (decide_eq_true c1) rfl ?_
    exact k_lab (K_Mo_exprGoesOn_180 hx1 hx2 H) hM (lvS_cons rfl rfl (lvS_cons rfl rfl (lvS_cons rfl rfl lvS_nil)))
  · rw [if_neg c1] at H
    refine k_c rfl (by decide) hx2 (rgk rfl) (q := false) (decide_eq_false c1) rfl ?_
    refine k_l rfl rfl rfl ?_
    refine k_k (x := 6) rfl rfl rfl rfl ?_
    by_cases c2 : x2 ≠ 6
    · rw [if_pos c2] at H
      refine k_c rfl (by decide) hx2 (rgk rfl) (q := true) (decide_eq_true c2) rfl ?_
      exact k_lab (K_Mo_exprGoesOn_195 hx1 hx2 H) hM (lvS_cons rfl rfl (lvS_cons rfl rfl (lvS_cons rfl rfl lvS_nil)))
    · rw [if_neg c2] at H
      refine k_c rfl (by decide) hx2 (rgk rfl) (q := false) (decide_eq_false c2) rfl ?_
      exact k_lab (K_Mo_exprGoesOn_180 hx1 hx2 H) hM (lvS_cons rfl rfl (lvS_cons rfl rfl (lvS_cons rfl rfl lvS_nil)))
def B_Mo_exprGoesOn_160 (d : Nat) (x1 x2 t1 t2 : Int) (σ : Mem) (o : Option Int) (s' : Mem) : Prop := ((0 : Int) ≤ x1 ∧ x1 < (180 : Int)) ∧ (∃ (m2 : Mem), Rn (d + 3) yMo_put [.ref 58, vi t1, vi t2, vi (σ 72 x1)] σ none m2 ∧ (B_Mo_exprGoesOn_169 d x1 x2 m2 o s'))
theorem K_Mo_exprGoesOn_160 {d : Nat} {x1 x2 t1 t2 : Int} {σ s' : Mem} {o : Option Int} (hx1 : rg x1) (hx2 : rg x2) (ht1 : rg t1) (ht2 : rg t2) (H : B_Mo_exprGoesOn_160 d x1 x2 t1 t2 σ o s') : Lb (d + 3) yMo_exprGoesOn 160 [(0, .ref 58), (1, vi x1), (2, vi x2)] [vi t2, vi t1, .ref 58] σ o s' := by
  intro hM
  unfold B_Mo_exprGoesOn_160 at H
  refine k_l rfl rfl rfl ?_
  refine k_gr (t := 72) rfl rfl rfl (by decide) rfl ?_
  refine k_l rfl rfl rfl ?_
  obtain ⟨g1, H⟩ := H
  refine k_al rfl rfl (fun _ => rfl) rfl rfl g1 (by decide) rfl ?_
  obtain ⟨m2, R2, H⟩ := H
  refine k_iw rfl rfl rfl rfl rfl (by decide) rfl hM R2 (fun hM2 => ?_)
  exact k_lab (K_Mo_exprGoesOn_169 hx1 hx2 H) hM2 (lvS_cons rfl rfl (lvS_cons rfl rfl (lvS_cons rfl rfl lvS_nil)))
def B_Mo_exprGoesOn_150 (d : Nat) (x1 x2 t1 : Int) (σ : Mem) (o : Option Int) (s' : Mem) : Prop := if x2 ≠ 4 then (B_Mo_exprGoesOn_160 d x1 x2 t1 0 σ o s') else (B_Mo_exprGoesOn_160 d x1 x2 t1 1 σ o s')
theorem K_Mo_exprGoesOn_150 {d : Nat} {x1 x2 t1 : Int} {σ s' : Mem} {o : Option Int} (hx1 : rg x1) (hx2 : rg x2) (ht1 : rg t1) (H : B_Mo_exprGoesOn_150 d x1 x2 t1 σ o s') : Lb (d + 3) yMo_exprGoesOn 150 [(0, .ref 58), (1, vi x1), (2, vi x2)] [vi t1, .ref 58] σ o s' := by
  intro hM
  unfold B_Mo_exprGoesOn_150 at H
  refine k_l rfl rfl rfl ?_
  refine k_p rfl rfl rfl ?_
  by_cases c1 : x2 ≠ 4
  · rw [if_pos c1] at H
    refine k_c rfl (by decide) hx2 (rgk rfl) (q := true) (decide_eq_true c1) rfl ?_
    refine k_p rfl rfl rfl ?_
    exact k_lab (K_Mo_exprGoesOn_160 hx1 hx2 ht1 (rgk rfl) H) hM (lvS_cons rfl rfl (lvS_cons rfl rfl (lvS_cons rfl rfl lvS_nil)))
  · rw [if_neg c1] at H
    refine k_c rfl (by decide) hx2 (rgk rfl) (q := false) (decide_eq_false c1) rfl ?_
    refine k_p rfl rfl rfl ?_
    refine k_b rfl rfl rfl rfl ?_
    exact k_lab (K_Mo_exprGoesOn_160 hx1 hx2 ht1 (rgk rfl) H) hM (lvS_cons rfl rfl (lvS_cons rfl rfl (lvS_cons rfl rfl lvS_nil)))
def B_Mo_exprGoesOn_107 (d : Nat) (x1 x2 : Int) (σ : Mem) (o : Option Int) (s' : Mem) : Prop := if x2 ≥ 9 then (B_Mo_exprGoesOn_169 d x1 x2 σ o s') else (if x2 ≠ 1 then (if x2 ≥ 7 then (if x2 ≠ 7 then (B_Mo_exprGoesOn_150 d x1 x2 15 σ o s') else (B_Mo_exprGoesOn_150 d x1 x2 18 σ o s')) else ((rg (8 + x2)) ∧ (B_Mo_exprGoesOn_150 d x1 x2 (8 + x2) σ o s'))) else (B_Mo_exprGoesOn_150 d x1 x2 7 σ o s'))
theorem K_Mo_exprGoesOn_107 {d : Nat} {x1 x2 : Int} {σ s' : Mem} {o : Option Int} (hx1 : rg x1) (hx2 : rg x2) (H : B_Mo_exprGoesOn_107 d x1 x2 σ o s') : Lb (d + 3) yMo_exprGoesOn 107 [(0, .ref 58), (1, vi x1), (2, vi x2)] [] σ o s' := by
  intro hM
  unfold B_Mo_exprGoesOn_107 at H
  refine k_l rfl rfl rfl ?_
  refine k_k (x := 9) rfl rfl rfl rfl ?_
  by_cases c1 : x2 ≥ 9
  · rw [if_pos c1] at H
    refine k_c rfl (by decide) hx2 (rgk rfl) (q := true) (decide_eq_true c1) rfl ?_
    exact k_lab (K_Mo_exprGoesOn_169 hx1 hx2 H) hM (lvS_cons rfl rfl (lvS_cons rfl rfl (lvS_cons rfl rfl lvS_nil)))
  · rw [if_neg c1] at H
    refine k_c rfl (by decide) hx2 (rgk rfl) (q := false) (decide_eq_false c1) rfl ?_
    refine k_l rfl rfl rfl ?_
    refine k_l rfl rfl rfl ?_
    refine k_p rfl rfl rfl ?_
    by_cases c2 : x2 ≠ 1
    · rw [if_pos c2] at H
      refine k_c rfl (by decide) hx2 (rgk rfl) (q := true) (decide_eq_true c2) rfl ?_
      refine k_l rfl rfl rfl ?_
      refine k_k (x := 7) rfl rfl rfl rfl ?_
      by_cases c3 : x2 ≥ 7
      · rw [if_pos c3] at H
        refine k_c rfl (by decide) hx2 (rgk rfl) (q := true) (decide_eq_true c3) rfl ?_
        refine k_l rfl rfl rfl ?_
        refine k_k (x := 7) rfl rfl rfl rfl ?_
        by_cases c4 : x2 ≠ 7
        · rw [if_pos c4] at H
          refine k_c rfl (by decide) hx2 (rgk rfl) (q := true) (decide_eq_true c4) rfl ?_
          refine k_k (x := 15) rfl rfl rfl rfl ?_
          exact k_lab (K_Mo_exprGoesOn_150 hx1 hx2 (rgk rfl) H) hM (lvS_cons rfl rfl (lvS_cons rfl rfl (lvS_cons rfl rfl lvS_nil)))
        · rw [if_neg c4] at H
          refine k_c rfl (by decide) hx2 (rgk rfl) (q := false) (decide_eq_false c4) rfl ?_
          refine k_k (x := 18) rfl rfl rfl rfl ?_
          refine k_b rfl rfl rfl rfl ?_
          exact k_lab (K_Mo_exprGoesOn_150 hx1 hx2 (rgk rfl) H) hM (lvS_cons rfl rfl (lvS_cons rfl rfl (lvS_cons rfl rfl lvS_nil)))
      · rw [if_neg c3] at H
        refine k_c rfl (by decide) hx2 (rgk rfl) (q := false) (decide_eq_false c3) rfl ?_
        refine k_k (x := 8) rfl rfl rfl rfl ?_
        refine k_l rfl rfl rfl ?_
        refine k_add rfl ?_
        refine k_b rfl rfl rfl rfl ?_
        obtain ⟨g5, H⟩ := H
        exact k_lab (K_Mo_exprGoesOn_150 hx1 hx2 g5 H) hM (lvS_cons rfl rfl (lvS_cons rfl rfl (lvS_cons rfl rfl lvS_nil)))
    · rw [if_neg c2] at H
      refine k_c rfl (by decide) hx2 (rgk rfl) (q := false) (decide_eq_false c2) rfl ?_
      refine k_k (x := 7) rfl rfl rfl rfl ?_
      refine k_b rfl rfl rfl rfl ?_
      exact k_lab (K_Mo_exprGoesOn_150 hx1 hx2 (rgk rfl) H) hM (lvS_cons rfl rfl (lvS_cons rfl rfl (lvS_cons rfl rfl lvS_nil)))
def B_Mo_exprGoesOn_74 (d : Nat) (x1 x2 : Int) (σ : Mem) (o : Option Int) (s' : Mem) : Prop := if x2 ≠ 11 then (if x2 ≠ 7 then (B_Mo_exprGoesOn_107 d x1 x2 σ o s') else (((0 : Int) ≤ x1 ∧ x1 < (180 : Int)) ∧ (((0 : Int) ≤ σ 72 x1 ∧ σ 72 x1 < (124 : Int)) ∧ (B_Mo_exprGoesOn_107 d x1 x2 (mup σ 61 (σ 72 x1) (σ 58 7)) o s')))) else (∃ (m5 : Mem), Rn (d + 3) yMo_clauseEnds [.ref 58, vi x1] σ none m5 ∧ (o = none ∧ s' = m5))
theorem K_Mo_exprGoesOn_74 {d : Nat} {x1 x2 : Int} {σ s' : Mem} {o : Option Int} (hx1 : rg x1) (hx2 : rg x2) (H : B_Mo_exprGoesOn_74 d x1 x2 σ o s') : Lb (d + 3) yMo_exprGoesOn 74 [(0, .ref 58), (1, vi x1), (2, vi x2)] [] σ o s' := by
  intro hM
  unfold B_Mo_exprGoesOn_74 at H
  refine k_l rfl rfl rfl ?_
  refine k_k (x := 11) rfl rfl rfl rfl ?_
  by_cases c1 : x2 ≠ 11
  · rw [if_pos c1] at H
    refine k_c rfl (by decide) hx2 (rgk rfl) (q := true) (decide_eq_true c1) rfl ?_
    refine k_l rfl rfl rfl ?_
    refine k_k (x := 7) rfl rfl rfl rfl ?_
    by_cases c2 : x2 ≠ 7
    · rw [if_pos c2] at H
      refine k_c rfl (by decide) hx2 (rgk rfl) (q := true) (decide_eq_true c2) rfl ?_
      exact k_lab (K_Mo_exprGoesOn_107 hx1 hx2 H) hM (lvS_cons rfl rfl (lvS_cons rfl rfl (lvS_cons rfl rfl lvS_nil)))
    · rw [if_neg c2] at H
      refine k_c rfl (by decide) hx2 (rgk rfl) (q := false) (decide_eq_false c2) rfl ?_
      refine k_l rfl rfl rfl ?_
      refine k_gr (t := 61) rfl rfl rfl (by decide) rfl ?_
      refine k_l rfl rfl rfl ?_
      refine k_gr (t := 72) rfl rfl rfl (by decide) rfl ?_
      refine k_l rfl rfl rfl ?_
      obtain ⟨g3, H⟩ := H
      refine k_al rfl rfl (fun _ => rfl) rfl rfl g3 (by decide) rfl ?_
      refine k_l rfl rfl rfl ?_
      refine k_gf rfl rfl rfl (by decide) rfl rfl ?_
      obtain ⟨g4, H⟩ := H
      refine k_as (ok := isI) rfl rfl (fun _ => rfl) rfl rfl g4 (by decide) rfl ?_
      exact k_lab (K_Mo_exprGoesOn_107 hx1 hx2 H) (hM.up (hM _ _)) (lvS_cons rfl rfl (lvS_cons rfl rfl (lvS_cons rfl rfl lvS_nil)))
  · rw [if_neg c1] at H
    refine k_c rfl (by decide) hx2 (rgk rfl) (q := false) (decide_eq_false c1) rfl ?_
    refine k_l rfl rfl rfl ?_
    refine k_l rfl rfl rfl ?_
    obtain ⟨m5, R5, H⟩ := H
    refine k_iw rfl rfl rfl rfl rfl (by decide) rfl hM R5 (fun hM5 => ?_)
    obtain ⟨rfl, rfl⟩ := H
    exact k_r0 hM5 rfl rfl rfl
def B_Mo_exprGoesOn_62 (d : Nat) (x1 x2 t0 : Int) (σ : Mem) (o : Option Int) (s' : Mem) : Prop := if t0 = 32 then (B_Mo_exprGoesOn_74 d x1 x2 σ o s') else (∃ (m2 : Mem), Rn (d + 3) yMo_want [.ref 58, vi t0] σ none m2 ∧ (B_Mo_exprGoesOn_74 d x1 x2 m2 o s'))
theorem K_Mo_exprGoesOn_62 {d : Nat} {x1 x2 t0 : Int} {σ s' : Mem} {o : Option Int} (hx1 : rg x1) (hx2 : rg x2) (ht0 : rg t0) (H : B_Mo_exprGoesOn_62 d x1 x2 t0 σ o s') : Lb (d + 3) yMo_exprGoesOn 62 [(0, .ref 58), (1, vi x1), (2, vi x2)] [vi t0] σ o s' := by
  intro hM
  unfold B_Mo_exprGoesOn_62 at H
  refine k_l rfl rfl rfl ?_
  refine k_l rfl rfl rfl ?_
  refine k_k (x := 32) rfl rfl rfl rfl ?_
  by_cases c1 : t0 = 32
  · rw [if_pos c1] at H
    refine k_c rfl (by decide) ht0 (rgk rfl) (q := true) (decide_eq_true c1) rfl ?_
    exact k_lab (K_Mo_exprGoesOn_74 hx1 hx2 H) hM (lvS_cons rfl rfl (lvS_cons rfl rfl (lvS_cons rfl rfl lvS_nil)))
  · rw [if_neg c1] at H
    refine k_c rfl (by decide) ht0 (rgk rfl) (q := false) (decide_eq_false c1) rfl ?_
    refine k_l rfl rfl rfl ?_
    refine k_l rfl rfl rfl ?_
    obtain ⟨m2, R2, H⟩ := H
    refine k_iw rfl rfl rfl rfl rfl (by decide) rfl hM R2 (fun hM2 => ?_)
    exact k_lab (K_Mo_exprGoesOn_74 hx1 hx2 H) hM2 (lvS_cons rfl rfl (lvS_cons rfl rfl (lvS_cons rfl rfl lvS_nil)))
def B_Mo_exprGoesOn_17 (d : Nat) (x1 x2 : Int) (σ : Mem) (o : Option Int) (s' : Mem) : Prop := B_Mo_exprGoesOn_62 d x1 x2 59 σ o s'
theorem K_Mo_exprGoesOn_17 {d : Nat} {x1 x2 : Int} {σ s' : Mem} {o : Option Int} (hx1 : rg x1) (hx2 : rg x2) (H : B_Mo_exprGoesOn_17 d x1 x2 σ o s') : Lb (d + 3) yMo_exprGoesOn 17 [(0, .ref 58), (1, vi x1), (2, vi x2)] [] σ o s' := by
  intro hM
  unfold B_Mo_exprGoesOn_17 at H
  refine k_k (x := 59) rfl rfl rfl rfl ?_
  refine k_b rfl rfl rfl rfl ?_
  exact k_lab (K_Mo_exprGoesOn_62 hx1 hx2 (rgk rfl) H) hM (lvS_cons rfl rfl (lvS_cons rfl rfl (lvS_cons rfl rfl lvS_nil)))
def B_Mo_exprGoesOn_33 (d : Nat) (x1 x2 : Int) (σ : Mem) (o : Option Int) (s' : Mem) : Prop := B_Mo_exprGoesOn_62 d x1 x2 58 σ o s'
theorem K_Mo_exprGoesOn_33 {d : Nat} {x1 x2 : Int} {σ s' : Mem} {o : Option Int} (hx1 : rg x1) (hx2 : rg x2) (H : B_Mo_exprGoesOn_33 d x1 x2 σ o s') : Lb (d + 3) yMo_exprGoesOn 33 [(0, .ref 58), (1, vi x1), (2, vi x2)] [] σ o s' := by
  intro hM
  unfold B_Mo_exprGoesOn_33 at H
  refine k_k (x := 58) rfl rfl rfl rfl ?_
  refine k_b rfl rfl rfl rfl ?_
  exact k_lab (K_Mo_exprGoesOn_62 hx1 hx2 (rgk rfl) H) hM (lvS_cons rfl rfl (lvS_cons rfl rfl (lvS_cons rfl rfl lvS_nil)))
def B_Mo_exprGoesOn (d : Nat) (x1 : Int) (σ : Mem) (o : Option Int) (s' : Mem) : Prop := ((0 : Int) ≤ x1 ∧ x1 < (180 : Int)) ∧ (if σ 71 x1 = 2 then (B_Mo_exprGoesOn_17 d x1 (σ 71 x1) σ o s') else (if σ 71 x1 ≠ 3 then (if σ 71 x1 = 5 then (B_Mo_exprGoesOn_33 d x1 (σ 71 x1) σ o s') else (if σ 71 x1 ≠ 10 then (if σ 71 x1 ≠ 6 then (if σ 71 x1 ≠ 8 then (B_Mo_exprGoesOn_62 d x1 (σ 71 x1) 32 σ o s') else (B_Mo_exprGoesOn_62 d x1 (σ 71 x1) 123 σ o s')) else (B_Mo_exprGoesOn_62 d x1 (σ 71 x1) 124 σ o s')) else (B_Mo_exprGoesOn_33 d x1 (σ 71 x1) σ o s'))) else (B_Mo_exprGoesOn_17 d x1 (σ 71 x1) σ o s')))
theorem M_Mo_exprGoesOn {d : Nat} {x1 : Int} {σ s' : Mem} {o : Option Int} (hx1 : rg x1) (H : B_Mo_exprGoesOn d x1 σ o s') : Rn (d + 4) yMo_exprGoesOn [.ref 58, vi x1] σ o s' := by
  refine k_m (Nat.le_of_ble_eq_true rfl) (fun hM => ?_)
  unfold B_Mo_exprGoesOn at H
  refine k_l rfl rfl rfl ?_
  refine k_gr (t := 71) rfl rfl rfl (by decide) rfl ?_
  refine k_l rfl rfl rfl ?_
  obtain ⟨g1, H⟩ := H
  refine k_al rfl rfl (fun _ => rfl) rfl rfl g1 (by decide) rfl ?_
  refine k_l rfl rfl rfl ?_
  refine k_l rfl rfl rfl ?_
  refine k_p rfl rfl rfl ?_
  by_cases c2 : σ 71 x1 = 2
  · rw [if_pos c2] at H
    refine k_c rfl (by decide) (hM _ _) (rgk rfl) (q := true) (decide_eq_true c2) rfl ?_
    exact k_lab (K_Mo_exprGoesOn_17 hx1 (hM _ _) H) hM (lvS_cons rfl rfl (lvS_cons rfl rfl (lvS_cons rfl rfl lvS_nil)))
  · rw [if_neg c2] at H
    refine k_c rfl (by decide) (hM _ _) (rgk rfl) (q := false) (decide_eq_false c2) rfl ?_
    refine k_l rfl rfl rfl ?_
    refine k_p rfl rfl rfl ?_
    by_cases c3 : σ 71 x1 ≠ 3
    · rw [if_pos c3] at H
      refine k_c rfl (by decide) (hM _ _) (rgk rfl) (q := true) (decide_eq_true c3) rfl ?_
      refine k_l rfl rfl rfl ?_
      refine k_p rfl rfl rfl ?_
      by_cases c4 : σ 71 x1 = 5
      · rw [if_pos c4] at H
        refine k_c rfl (by decide) (hM _ _) (rgk rfl) (q := true) (decide_eq_true c4) rfl ?_
        exact k_lab (K_Mo_exprGoesOn_33 hx1 (hM _ _) H) hM (lvS_cons rfl rfl (lvS_cons rfl rfl (lvS_cons rfl rfl lvS_nil)))
      · rw [if_neg c4] at H
        refine k_c rfl (by decide) (hM _ _) (rgk rfl) (q := false) (decide_eq_false c4) rfl ?_
        refine k_l rfl rfl rfl ?_
        refine k_k (x := 10) rfl rfl rfl rfl ?_
        by_cases c5 : σ 71 x1 ≠ 10
        · rw [if_pos c5] at H
          refine k_c rfl (by decide) (hM _ _) (rgk rfl) (q := true) (decide_eq_true c5) rfl ?_
          refine k_l rfl rfl rfl ?_
          refine k_k (x := 6) rfl rfl rfl rfl ?_
          by_cases c6 : σ 71 x1 ≠ 6
          · rw [if_pos c6] at H
            refine k_c rfl (by decide) (hM _ _) (rgk rfl) (q := true) (decide_eq_true c6) rfl ?_
            refine k_l rfl rfl rfl ?_
            refine k_k (x := 8) rfl rfl rfl rfl ?_
            by_cases c7 : σ 71 x1 ≠ 8
            · rw [if_pos c7] at H
              refine k_c rfl (by decide) (hM _ _) (rgk rfl) (q := true) (decide_eq_true c7) rfl ?_
              refine k_k (x := 32) rfl rfl rfl rfl ?_
              exact k_lab (K_Mo_exprGoesOn_62 hx1 (hM _ _) (rgk rfl) H) hM (lvS_cons rfl rfl (lvS_cons rfl rfl (lvS_cons rfl rfl lvS_nil)))
            · rw [if_neg c7] at H
              refine k_c rfl (by decide) (hM _ _) (rgk rfl) (q := false) (decide_eq_false c7) rfl ?_
              refine k_k (x := 123) rfl rfl rfl rfl ?_
              refine k_b rfl rfl rfl rfl ?_
              exact k_lab (K_Mo_exprGoesOn_62 hx1 (hM _ _) (rgk rfl) H) hM (lvS_cons rfl rfl (lvS_cons rfl rfl (lvS_cons rfl rfl lvS_nil)))
          · rw [if_neg c6] at H
            refine k_c rfl (by decide) (hM _ _) (rgk rfl) (q := false) (decide_eq_false c6) rfl ?_
            refine k_k (x := 124) rfl rfl rfl rfl ?_
            refine k_b rfl rfl rfl rfl ?_
            exact k_lab (K_Mo_exprGoesOn_62 hx1 (hM _ _) (rgk rfl) H) hM (lvS_cons rfl rfl (lvS_cons rfl rfl (lvS_cons rfl rfl lvS_nil)))
        · rw [if_neg c5] at H
          refine k_c rfl (by decide) (hM _ _) (rgk rfl) (q := false) (decide_eq_false c5) rfl ?_
          exact k_lab (K_Mo_exprGoesOn_33 hx1 (hM _ _) H) hM (lvS_cons rfl rfl (lvS_cons rfl rfl (lvS_cons rfl rfl lvS_nil)))
    · rw [if_neg c3] at H
      refine k_c rfl (by decide) (hM _ _) (rgk rfl) (q := false) (decide_eq_false c3) rfl ?_
      exact k_lab (K_Mo_exprGoesOn_17 hx1 (hM _ _) H) hM (lvS_cons rfl rfl (lvS_cons rfl rfl (lvS_cons rfl rfl lvS_nil)))
def B_Mo_atom_230 (d : Nat) (t1 t2 : Int) (σ : Mem) (o : Option Int) (s' : Mem) : Prop := ∃ (m1 : Mem), Rn (d + 3) yMo_after [.ref 58, vi t1, vi t2] σ none m1 ∧ (o = none ∧ s' = m1)
theorem K_Mo_atom_230 {d : Nat} {t1 t2 : Int} {σ s' : Mem} {o : Option Int} (ht1 : rg t1) (ht2 : rg t2) (H : B_Mo_atom_230 d t1 t2 σ o s') : Lb (d + 3) yMo_atom 230 [] [vi t2, vi t1, .ref 58] σ o s' := by
  intro hM
  unfold B_Mo_atom_230 at H
  obtain ⟨m1, R1, H⟩ := H
  refine k_iw rfl rfl rfl rfl rfl (by decide) rfl hM R1 (fun hM1 => ?_)
  obtain ⟨rfl, rfl⟩ := H
  exact k_r0 hM1 rfl rfl rfl
def B_Mo_atom_218 (d : Nat) (x2 t1 : Int) (σ : Mem) (o : Option Int) (s' : Mem) : Prop := if x2 ≠ 126 then (B_Mo_atom_230 d t1 0 σ o s') else (B_Mo_atom_230 d t1 6 σ o s')
theorem K_Mo_atom_218 {d : Nat} {x2 t1 : Int} {σ s' : Mem} {o : Option Int} (hx2 : rg x2) (ht1 : rg t1) (H : B_Mo_atom_218 d x2 t1 σ o s') : Lb (d + 3) yMo_atom 218 [(2, vi x2)] [vi t1, .ref 58] σ o s' := by
  intro hM
  unfold B_Mo_atom_218 at H
  refine k_l rfl rfl rfl ?_
  refine k_k (x := 126) rfl rfl rfl rfl ?_
  by_cases c1 : x2 ≠ 126
  · rw [if_pos c1] at H
    refine k_c rfl (by decide) hx2 (rgk rfl) (q := true) (decide_eq_true c1) rfl ?_
    refine k_p rfl rfl rfl ?_
    exact k_lab (K_Mo_atom_230 ht1 (rgk rfl) H) hM lvS_nil
  · rw [if_neg c1] at H
    refine k_c rfl (by decide) hx2 (rgk rfl) (q := false) (decide_eq_false c1) rfl ?_
    refine k_k (x := 6) rfl rfl rfl rfl ?_
    refine k_b rfl rfl rfl rfl ?_
    exact k_lab (K_Mo_atom_230 ht1 (rgk rfl) H) hM lvS_nil
def B_Mo_atom_206 (d : Nat) (x2 : Int) (σ : Mem) (o : Option Int) (s' : Mem) : Prop := if x2 ≠ 126 then (B_Mo_atom_218 d x2 2 σ o s') else (B_Mo_atom_218 d x2 1 σ o s')
theorem K_Mo_atom_206 {d : Nat} {x2 : Int} {σ s' : Mem} {o : Option Int} (hx2 : rg x2) (H : B_Mo_atom_206 d x2 σ o s') : Lb (d + 3) yMo_atom 206 [(0, .ref 58), (2, vi x2)] [] σ o s' := by
  intro hM
  unfold B_Mo_atom_206 at H
  refine k_l rfl rfl rfl ?_
  refine k_l rfl rfl rfl ?_
  refine k_k (x := 126) rfl rfl rfl rfl ?_
  by_cases c1 : x2 ≠ 126
  · rw [if_pos c1] at H
    refine k_c rfl (by decide) hx2 (rgk rfl) (q := true) (decide_eq_true c1) rfl ?_
    refine k_p rfl rfl rfl ?_
    exact k_lab (K_Mo_atom_218 hx2 (rgk rfl) H) hM (lvS_cons rfl rfl lvS_nil)
  · rw [if_neg c1] at H
    refine k_c rfl (by decide) hx2 (rgk rfl) (q := false) (decide_eq_false c1) rfl ?_
    refine k_p rfl rfl rfl ?_
    refine k_b rfl rfl rfl rfl ?_
    exact k_lab (K_Mo_atom_218 hx2 (rgk rfl) H) hM (lvS_cons rfl rfl lvS_nil)
def B_Mo_atom_360 (d : Nat) (t1 t2 t3 : Int) (σ : Mem) (o : Option Int) (s' : Mem) : Prop := ∃ (m1 : Mem), Rn (d + 3) yMo_put [.ref 58, vi t1, vi t2, vi t3] σ none m1 ∧ ((rg ((m1 58 21) - 1)) ∧ (o = none ∧ s' = mup m1 58 21 ((m1 58 21) - 1)))
theorem K_Mo_atom_360 {d : Nat} {t1 t2 t3 : Int} {σ s' : Mem} {o : Option Int} (ht1 : rg t1) (ht2 : rg t2) (ht3 : rg t3) (H : B_Mo_atom_360 d t1 t2 t3 σ o s') : Lb (d + 3) yMo_atom 360 [(0, .ref 58)] [vi t3, vi t2, vi t1, .ref 58] σ o s' := by
  intro hM
  unfold B_Mo_atom_360 at H
  obtain ⟨m1, R1, H⟩ := H
  refine k_iw rfl rfl rfl rfl rfl (by decide) rfl hM R1 (fun hM1 => ?_)
  refine k_l rfl rfl rfl ?_
  refine k_p rfl rfl rfl ?_
  refine k_gf rfl rfl rfl (by decide) rfl rfl ?_
  refine k_p rfl rfl rfl ?_
  refine k_sub rfl ?_
  obtain ⟨g2, H⟩ := H
  refine k_pf rfl rfl rfl (by decide) rfl rfl rfl rfl ?_
  obtain ⟨rfl, rfl⟩ := H
  exact k_r0 (hM1.up g2) rfl rfl rfl
def B_Mo_atom_350 (d : Nat) (x2 x3 t1 t2 : Int) (σ : Mem) (o : Option Int) (s' : Mem) : Prop := if x3 ≠ 5 then (B_Mo_atom_360 d t1 t2 0 σ o s') else (B_Mo_atom_360 d t1 t2 x2 σ o s')
theorem K_Mo_atom_350 {d : Nat} {x2 x3 t1 t2 : Int} {σ s' : Mem} {o : Option Int} (hx2 : rg x2) (hx3 : rg x3) (ht1 : rg t1) (ht2 : rg t2) (H : B_Mo_atom_350 d x2 x3 t1 t2 σ o s') : Lb (d + 3) yMo_atom 350 [(0, .ref 58), (2, vi x2), (3, vi x3)] [vi t2, vi t1, .ref 58] σ o s' := by
  intro hM
  unfold B_Mo_atom_350 at H
  refine k_l rfl rfl rfl ?_
  refine k_p rfl rfl rfl ?_
  by_cases c1 : x3 ≠ 5
  · rw [if_pos c1] at H
    refine k_c rfl (by decide) hx3 (rgk rfl) (q := true) (decide_eq_true c1) rfl ?_
    refine k_p rfl rfl rfl ?_
    exact k_lab (K_Mo_atom_360 ht1 ht2 (rgk rfl) H) hM (lvS_cons rfl rfl lvS_nil)
  · rw [if_neg c1] at H
    refine k_c rfl (by decide) hx3 (rgk rfl) (q := false) (decide_eq_false c1) rfl ?_
    refine k_l rfl rfl rfl ?_
    refine k_b rfl rfl rfl rfl ?_
    exact k_lab (K_Mo_atom_360 ht1 ht2 hx2 H) hM (lvS_cons rfl rfl lvS_nil)
def B_Mo_atom_318 (d : Nat) (x2 t0 : Int) (σ : Mem) (o : Option Int) (s' : Mem) : Prop := if t0 ≠ 1 then (if t0 ≠ 4 then (B_Mo_atom_350 d x2 t0 t0 0 σ o s') else (B_Mo_atom_350 d x2 t0 t0 x2 σ o s')) else (if x2 ≠ 84 then (B_Mo_atom_350 d x2 t0 t0 0 σ o s') else (B_Mo_atom_350 d x2 t0 t0 1 σ o s'))
theorem K_Mo_atom_318 {d : Nat} {x2 t0 : Int} {σ s' : Mem} {o : Option Int} (hx2 : rg x2) (ht0 : rg t0) (H : B_Mo_atom_318 d x2 t0 σ o s') : Lb (d + 3) yMo_atom 318 [(0, .ref 58), (2, vi x2)] [vi t0] σ o s' := by
  intro hM
  unfold B_Mo_atom_318 at H
  refine k_l rfl rfl rfl ?_
  refine k_l rfl rfl rfl ?_
  refine k_l rfl rfl rfl ?_
  refine k_l rfl rfl rfl ?_
  refine k_p rfl rfl rfl ?_
  by_cases c1 : t0 ≠ 1
  · rw [if_pos c1] at H
    refine k_c rfl (by decide) ht0 (rgk rfl) (q := true) (decide_eq_true c1) rfl ?_
    refine k_l rfl rfl rfl ?_
    refine k_p rfl rfl rfl ?_
    by_cases c2 : t0 ≠ 4
    · rw [if_pos c2] at H
      refine k_c rfl (by decide) ht0 (rgk rfl) (q := true) (decide_eq_true c2) rfl ?_
      refine k_p rfl rfl rfl ?_
      exact k_lab (K_Mo_atom_350 hx2 ht0 ht0 (rgk rfl) H) hM (lvS_cons rfl rfl (lvS_cons rfl rfl (lvS_cons rfl rfl lvS_nil)))
    · rw [if_neg c2] at H
      refine k_c rfl (by decide) ht0 (rgk rfl) (q := false) (decide_eq_false c2) rfl ?_
      refine k_l rfl rfl rfl ?_
      refine k_b rfl rfl rfl rfl ?_
      exact k_lab (K_Mo_atom_350 hx2 ht0 ht0 hx2 H) hM (lvS_cons rfl rfl (lvS_cons rfl rfl (lvS_cons rfl rfl lvS_nil)))
  · rw [if_neg c1] at H
    refine k_c rfl (by decide) ht0 (rgk rfl) (q := false) (decide_eq_false c1) rfl ?_
    refine k_l rfl rfl rfl ?_
    refine k_k (x := 84) rfl rfl rfl rfl ?_
    by_cases c3 : x2 ≠ 84
    · rw [if_pos c3] at H
      refine k_c rfl (by decide) hx2 (rgk rfl) (q := true) (decide_eq_true c3) rfl ?_
      refine k_p rfl rfl rfl ?_
      refine k_b rfl rfl rfl rfl ?_
      exact k_lab (K_Mo_atom_350 hx2 ht0 ht0 (rgk rfl) H) hM (lvS_cons rfl rfl (lvS_cons rfl rfl (lvS_cons rfl rfl lvS_nil)))
    · rw [if_neg c3] at H
      refine k_c rfl (by decide) hx2 (rgk rfl) (q := false) (decide_eq_false c3) rfl ?_
      refine k_p rfl rfl rfl ?_
      refine k_b rfl rfl rfl rfl ?_
      exact k_lab (K_Mo_atom_350 hx2 ht0 ht0 (rgk rfl) H) hM (lvS_cons rfl rfl (lvS_cons rfl rfl (lvS_cons rfl rfl lvS_nil)))
def B_Mo_atom_287 (d : Nat) (x2 : Int) (σ : Mem) (o : Option Int) (s' : Mem) : Prop := B_Mo_atom_318 d x2 1 σ o s'
theorem K_Mo_atom_287 {d : Nat} {x2 : Int} {σ s' : Mem} {o : Option Int} (hx2 : rg x2) (H : B_Mo_atom_287 d x2 σ o s') : Lb (d + 3) yMo_atom 287 [(0, .ref 58), (2, vi x2)] [] σ o s' := by
  intro hM
  unfold B_Mo_atom_287 at H
  refine k_p rfl rfl rfl ?_
  refine k_b rfl rfl rfl rfl ?_
  exact k_lab (K_Mo_atom_318 hx2 (rgk rfl) H) hM (lvS_cons rfl rfl (lvS_cons rfl rfl lvS_nil))
def B_Mo_atom_313 (d : Nat) (x2 : Int) (σ : Mem) (o : Option Int) (s' : Mem) : Prop := B_Mo_atom_318 d x2 4 σ o s'
theorem K_Mo_atom_313 {d : Nat} {x2 : Int} {σ s' : Mem} {o : Option Int} (hx2 : rg x2) (H : B_Mo_atom_313 d x2 σ o s') : Lb (d + 3) yMo_atom 313 [(0, .ref 58), (2, vi x2)] [] σ o s' := by
  intro hM
  unfold B_Mo_atom_313 at H
  refine k_p rfl rfl rfl ?_
  refine k_b rfl rfl rfl rfl ?_
  exact k_lab (K_Mo_atom_318 hx2 (rgk rfl) H) hM (lvS_cons rfl rfl (lvS_cons rfl rfl lvS_nil))
def B_Mo_atom_275 (d : Nat) (x2 : Int) (σ : Mem) (o : Option Int) (s' : Mem) : Prop := if x2 = 84 then (B_Mo_atom_287 d x2 σ o s') else (if x2 ≠ 70 then (if x2 ≠ 91 then (if x2 = 82 then (B_Mo_atom_313 d x2 σ o s') else (if x2 ≠ 73 then (B_Mo_atom_318 d x2 5 σ o s') else (B_Mo_atom_313 d x2 σ o s'))) else (B_Mo_atom_318 d x2 3 σ o s')) else (B_Mo_atom_287 d x2 σ o s'))
theorem K_Mo_atom_275 {d : Nat} {x2 : Int} {σ s' : Mem} {o : Option Int} (hx2 : rg x2) (H : B_Mo_atom_275 d x2 σ o s') : Lb (d + 3) yMo_atom 275 [(0, .ref 58), (2, vi x2)] [] σ o s' := by
  intro hM
  unfold B_Mo_atom_275 at H
  refine k_l rfl rfl rfl ?_
  refine k_k (x := 84) rfl rfl rfl rfl ?_
  by_cases c1 : x2 = 84
  · rw [if_pos c1] at H
    refine k_c rfl (by decide) hx2 (rgk rfl) (q := true) (decide_eq_true c1) rfl ?_
    exact k_lab (K_Mo_atom_287 hx2 H) hM (lvS_cons rfl rfl (lvS_cons rfl rfl lvS_nil))
  · rw [if_neg c1] at H
    refine k_c rfl (by decide) hx2 (rgk rfl) (q := false) (decide_eq_false c1) rfl ?_
    refine k_l rfl rfl rfl ?_
    refine k_k (x := 70) rfl rfl rfl rfl ?_
    by_cases c2 : x2 ≠ 70
    · rw [if_pos c2] at H
      refine k_c rfl (by decide) hx2 (rgk rfl) (q := true) (decide_eq_true c2) rfl ?_
      refine k_l rfl rfl rfl ?_
      refine k_k (x := 91) rfl rfl rfl rfl ?_
      by_cases c3 : x2 ≠ 91
      · rw [if_pos c3] at H
        refine k_c rfl (by decide) hx2 (rgk rfl) (q := true) (decide_eq_true c3) rfl ?_
        refine k_l rfl rfl rfl ?_
        refine k_k (x := 82) rfl rfl rfl rfl ?_
        by_cases c4 : x2 = 82
        · rw [if_pos c4] at H
          refine k_c rfl (by decide) hx2 (rgk rfl) (q := true) (decide_eq_true c4) rfl ?_
          exact k_lab (K_Mo_atom_313 hx2 H) hM (lvS_cons rfl rfl (lvS_cons rfl rfl lvS_nil))
        · rw [if_neg c4] at H
          refine k_c rfl (by decide) hx2 (rgk rfl) (q := false) (decide_eq_false c4) rfl ?_
          refine k_l rfl rfl rfl ?_
          refine k_k (x := 73) rfl rfl rfl rfl ?_
          by_cases c5 : x2 ≠ 73
          · rw [if_pos c5] at H
            refine k_c rfl (by decide) hx2 (rgk rfl) (q := true) (decide_eq_true c5) rfl ?_
            refine k_p rfl rfl rfl ?_
            exact k_lab (K_Mo_atom_318 hx2 (rgk rfl) H) hM (lvS_cons rfl rfl (lvS_cons rfl rfl lvS_nil))
          · rw [if_neg c5] at H
            refine k_c rfl (by decide) hx2 (rgk rfl) (q := false) (decide_eq_false c5) rfl ?_
            exact k_lab (K_Mo_atom_313 hx2 H) hM (lvS_cons rfl rfl (lvS_cons rfl rfl lvS_nil))
      · rw [if_neg c3] at H
        refine k_c rfl (by decide) hx2 (rgk rfl) (q := false) (decide_eq_false c3) rfl ?_
        refine k_p rfl rfl rfl ?_
        refine k_b rfl rfl rfl rfl ?_
        exact k_lab (K_Mo_atom_318 hx2 (rgk rfl) H) hM (lvS_cons rfl rfl (lvS_cons rfl rfl lvS_nil))
    · rw [if_neg c2] at H
      refine k_c rfl (by decide) hx2 (rgk rfl) (q := false) (decide_eq_false c2) rfl ?_
      exact k_lab (K_Mo_atom_287 hx2 H) hM (lvS_cons rfl rfl (lvS_cons rfl rfl lvS_nil))
def B_Mo_atom_262 (d : Nat) (x2 t1 : Int) (σ : Mem) (o : Option Int) (s' : Mem) : Prop := (t1 = 0 ∨ t1 = 1) ∧ ((rg ((σ 58 3) + 1)) ∧ (B_Mo_atom_275 d x2 (mup (mup σ 58 24 t1) 58 3 ((σ 58 3) + 1)) o s'))
theorem K_Mo_atom_262 {d : Nat} {x2 t1 : Int} {σ s' : Mem} {o : Option Int} (hx2 : rg x2) (ht1 : rg t1) (H : B_Mo_atom_262 d x2 t1 σ o s') : Lb (d + 3) yMo_atom 262 [(0, .ref 58), (2, vi x2)] [vi t1, .ref 58] σ o s' := by
  intro hM
  unfold B_Mo_atom_262 at H
  obtain ⟨g1, H⟩ := H
  refine k_pf rfl rfl rfl (by decide) rfl rfl (fitb g1) rfl ?_
  refine k_l rfl rfl rfl ?_
  refine k_p rfl rfl rfl ?_
  refine k_gf rfl rfl rfl (by decide) rfl (mup_nk (by decide)) ?_
  refine k_p rfl rfl rfl ?_
  refine k_add rfl ?_
  obtain ⟨g2, H⟩ := H
  refine k_pf rfl rfl rfl (by decide) rfl rfl rfl rfl ?_
  exact k_lab (K_Mo_atom_275 hx2 H) ((hM.up ht1).up g2) (lvS_cons rfl rfl (lvS_cons rfl rfl lvS_nil))
def B_Mo_atom_257 (d : Nat) (x2 : Int) (σ : Mem) (o : Option Int) (s' : Mem) : Prop := B_Mo_atom_262 d x2 1 σ o s'
theorem K_Mo_atom_257 {d : Nat} {x2 : Int} {σ s' : Mem} {o : Option Int} (hx2 : rg x2) (H : B_Mo_atom_257 d x2 σ o s') : Lb (d + 3) yMo_atom 257 [(0, .ref 58), (2, vi x2)] [.ref 58] σ o s' := by
  intro hM
  unfold B_Mo_atom_257 at H
  refine k_p rfl rfl rfl ?_
  refine k_b rfl rfl rfl rfl ?_
  exact k_lab (K_Mo_atom_262 hx2 (rgk rfl) H) hM (lvS_cons rfl rfl (lvS_cons rfl rfl lvS_nil))
def B_Mo_atom_173 (d : Nat) (σ : Mem) (o : Option Int) (s' : Mem) : Prop := (rg ((σ 58 21) - 1)) ∧ (o = none ∧ s' = mup σ 58 21 ((σ 58 21) - 1))
theorem K_Mo_atom_173 {d : Nat} {σ s' : Mem} {o : Option Int}  (H : B_Mo_atom_173 d  σ o s') : Lb (d + 3) yMo_atom 173 [(0, .ref 58)] [] σ o s' := by
  intro hM
  unfold B_Mo_atom_173 at H
  refine k_l rfl rfl rfl ?_
  refine k_p rfl rfl rfl ?_
  refine k_gf rfl rfl rfl (by decide) rfl rfl ?_
  refine k_p rfl rfl rfl ?_
  refine k_sub rfl ?_
  obtain ⟨g1, H⟩ := H
  refine k_pf rfl rfl rfl (by decide) rfl rfl rfl rfl ?_
  obtain ⟨rfl, rfl⟩ := H
  exact k_r0 (hM.up g1) rfl rfl rfl
def B_Mo_atom_73 (d : Nat) (x2 t1 : Int) (σ : Mem) (o : Option Int) (s' : Mem) : Prop := (t1 = 0 ∨ t1 = 1) ∧ (if dgt x2 = 0 then ((rg ((σ 58 3) + 1)) ∧ (if x2 = 126 then (B_Mo_atom_206 d x2 (mup (mup σ 58 24 t1) 58 3 ((σ 58 3) + 1)) o s') else (if x2 ≠ 40 then (if x2 ≠ 91 then (B_Mo_atom_275 d x2 (mup (mup σ 58 24 t1) 58 3 ((σ 58 3) + 1)) o s') else (if t1 ≠ 0 then (B_Mo_atom_257 d x2 (mup (mup σ 58 24 t1) 58 3 ((σ 58 3) + 1)) o s') else (∃ (v9 : Int) (m9 : Mem), Rn (d + 3) yMo_here [.ref 58] (mup (mup σ 58 24 t1) 58 3 ((σ 58 3) + 1)) (some v9) m9 ∧ (if v9 = 93 then (B_Mo_atom_262 d x2 0 m9 o s') else (B_Mo_atom_257 d x2 m9 o s'))))) else (B_Mo_atom_206 d x2 (mup (mup σ 58 24 t1) 58 3 ((σ 58 3) + 1)) o s')))) else (∃ (v11 : Int) (m11 : Mem), Rn (d + 3) yMo_digits [.ref 58, vi 4] (mup σ 58 24 t1) (some v11) m11 ∧ (∃ (v12 : Int) (m12 : Mem), Rn (d + 3) yMo_here [.ref 58] m11 (some v12) m12 ∧ (if v12 = 46 then ((rg ((m12 58 3) + 1)) ∧ (∃ (v15 : Int) (m15 : Mem), Rn (d + 3) yMo_digits [.ref 58, vi 3] (mup m12 58 3 ((m12 58 3) + 1)) (some v15) m15 ∧ ((rg ((m15 58 3) - ((m12 58 3) + 1))) ∧ (Lb (d + 3) yMo_atom 140 [(0, .ref 58), (3, vi v11), (5, vi v15), (6, vi ((m15 58 3) - ((m12 58 3) + 1)))] [] m15 o s')))) else (∃ (m17 : Mem), Rn (d + 3) yMo_put [.ref 58, vi 0, vi v11, vi 0] m12 none m17 ∧ (B_Mo_atom_173 d  m17 o s'))))))
theorem K_Mo_atom_73 {d : Nat} {x2 t1 : Int} {σ s' : Mem} {o : Option Int} (hx2 : rg x2) (ht1 : rg t1) (H : B_Mo_atom_73 d x2 t1 σ o s') : Lb (d + 3) yMo_atom 73 [(0, .ref 58), (2, vi x2)] [vi t1, .ref 58] σ o s' := by
  intro hM
  unfold B_Mo_atom_73 at H
  obtain ⟨g1, H⟩ := H
  refine k_pf rfl rfl rfl (by decide) rfl rfl (fitb g1) rfl ?_
  refine k_l rfl rfl rfl ?_
  refine k_is (v := dgt x2) rfl (by decide) (Nat.le_of_ble_eq_true rfl) rfl rfl rfl (hM.up ht1) (R_Mo_digit hx2) (fun _ q2 => ?_)
  by_cases c3 : dgt x2 = 0
  · rw [if_pos c3] at H
    refine k_z rfl (by decide) q2 (q := true) (decide_eq_true c3) rfl ?_
    refine k_l rfl rfl rfl ?_
    refine k_p rfl rfl rfl ?_
    refine k_gf rfl rfl rfl (by decide) rfl (mup_nk (by decide)) ?_
    refine k_p rfl rfl rfl ?_
    refine k_add rfl ?_
    obtain ⟨g4, H⟩ := H
    refine k_pf rfl rfl rfl (by decide) rfl rfl rfl rfl ?_
    refine k_l rfl rfl rfl ?_
    refine k_k (x := 126) rfl rfl rfl rfl ?_
    by_cases c5 : x2 = 126
    · rw [if_pos c5] at H
      refine k_c rfl (by decide) hx2 (rgk rfl) (q := true) (decide_eq_true c5) rfl ?_
      exact k_lab (K_Mo_atom_206 hx2 H) ((hM.up ht1).up g4) (lvS_cons rfl rfl (lvS_cons rfl rfl lvS_nil))
    · rw [if_neg c5] at H
      refine k_c rfl (by decide) hx2 (rgk rfl) (q := false) (decide_eq_false c5) rfl ?_
      refine k_l rfl rfl rfl ?_
      refine k_k (x := 40) rfl rfl rfl rfl ?_
      by_cases c6 : x2 ≠ 40
      · rw [if_pos c6] at H
        refine k_c rfl (by decide) hx2 (rgk rfl) (q := true) (decide_eq_true c6) rfl ?_
        refine k_l rfl rfl rfl ?_
        refine k_k (x := 91) rfl rfl rfl rfl ?_
        by_cases c7 : x2 ≠ 91
        · rw [if_pos c7] at H
          refine k_c rfl (by decide) hx2 (rgk rfl) (q := true) (decide_eq_true c7) rfl ?_
          exact k_lab (K_Mo_atom_275 hx2 H) ((hM.up ht1).up g4) (lvS_cons rfl rfl (lvS_cons rfl rfl lvS_nil))
        · rw [if_neg c7] at H
          refine k_c rfl (by decide) hx2 (rgk rfl) (q := false) (decide_eq_false c7) rfl ?_
          refine k_l rfl rfl rfl ?_
          refine k_l rfl rfl rfl ?_
          refine k_gf rfl rfl rfl (by decide) rfl ((mup_nk (by decide)).trans mup_eq) ?_
          by_cases c8 : t1 ≠ 0
          · rw [if_pos c8] at H
            refine k_z rfl (by decide) ht1 (q := true) (decide_eq_true c8) rfl ?_
            exact k_lab (K_Mo_atom_257 hx2 H) ((hM.up ht1).up g4) (lvS_cons rfl rfl (lvS_cons rfl rfl lvS_nil))
          · rw [if_neg c8] at H
            refine k_z rfl (by decide) ht1 (q := false) (decide_eq_false c8) rfl ?_
            refine k_l rfl rfl rfl ?_
            obtain ⟨v9, m9, R9, H⟩ := H
            refine k_iv rfl rfl rfl rfl rfl (by decide) rfl ((hM.up ht1).up g4) R9 (fun hM9 hv9 => ?_)
            refine k_k (x := 93) rfl rfl rfl rfl ?_
            by_cases c10 : v9 = 93
            · rw [if_pos c10] at H
              refine k_c rfl (by decide) hv9 (rgk rfl) (q := true) (decide_eq_true c10) rfl ?_
              refine k_p rfl rfl rfl ?_
              exact k_lab (K_Mo_atom_262 hx2 (rgk rfl) H) hM9 (lvS_cons rfl rfl (lvS_cons rfl rfl lvS_nil))
            · rw [if_neg c10] at H
              refine k_c rfl (by decide) hv9 (rgk rfl) (q := false) (decide_eq_false c10) rfl ?_
              exact k_lab (K_Mo_atom_257 hx2 H) hM9 (lvS_cons rfl rfl (lvS_cons rfl rfl lvS_nil))
      · rw [if_neg c6] at H
        refine k_c rfl (by decide) hx2 (rgk rfl) (q := false) (decide_eq_false c6) rfl ?_
        exact k_lab (K_Mo_atom_206 hx2 H) ((hM.up ht1).up g4) (lvS_cons rfl rfl (lvS_cons rfl rfl lvS_nil))
  · rw [if_neg c3] at H
    refine k_z rfl (by decide) q2 (q := false) (decide_eq_false c3) rfl ?_
    refine k_l rfl rfl rfl ?_
    refine k_p rfl rfl rfl ?_
    obtain ⟨v11, m11, R11, H⟩ := H
    refine k_iv rfl rfl rfl rfl rfl (by decide) rfl (hM.up ht1) R11 (fun hM11 hv11 => ?_)
    refine k_l rfl rfl rfl ?_
    refine k_l rfl rfl rfl ?_
    obtain ⟨v12, m12, R12, H⟩ := H
    refine k_iv rfl rfl rfl rfl rfl (by decide) rfl hM11 R12 (fun hM12 hv12 => ?_)
    refine k_k (x := 46) rfl rfl rfl rfl ?_
    by_cases c13 : v12 = 46
    · rw [if_pos c13] at H
      refine k_c rfl (by decide) hv12 (rgk rfl) (q := true) (decide_eq_true c13) rfl ?_
      refine k_l rfl rfl rfl ?_
      refine k_p rfl rfl rfl ?_
      refine k_gf rfl rfl rfl (by decide) rfl rfl ?_
      refine k_p rfl rfl rfl ?_
      refine k_add rfl ?_
      obtain ⟨g14, H⟩ := H
      refine k_pf rfl rfl rfl (by decide) rfl rfl rfl rfl ?_
      refine k_l rfl rfl rfl ?_
      refine k_gf rfl rfl rfl (by decide) rfl mup_eq ?_
      refine k_l rfl rfl rfl ?_
      refine k_l rfl rfl rfl ?_
      refine k_p rfl rfl rfl ?_
      obtain ⟨v15, m15, R15, H⟩ := H
      refine k_iv rfl rfl rfl rfl rfl (by decide) rfl (hM12.up g14) R15 (fun hM15 hv15 => ?_)
      refine k_l rfl rfl rfl ?_
      refine k_l rfl rfl rfl ?_
      refine k_gf rfl rfl rfl (by decide) rfl rfl ?_
      refine k_l rfl rfl rfl ?_
      refine k_sub rfl ?_
      refine k_l rfl rfl rfl ?_
      obtain ⟨g16, H⟩ := H
      exact k_lab H hM15 (lvS_cons rfl rfl (lvS_cons rfl rfl (lvS_cons rfl rfl (lvS_cons rfl rfl lvS_nil))))
    · rw [if_neg c13] at H
      refine k_c rfl (by decide) hv12 (rgk rfl) (q := false) (decide_eq_false c13) rfl ?_
      refine k_l rfl rfl rfl ?_
      refine k_p rfl rfl rfl ?_
      refine k_l rfl rfl rfl ?_
      refine k_p rfl rfl rfl ?_
      obtain ⟨m17, R17, H⟩ := H
      refine k_iw rfl rfl rfl rfl rfl (by decide) rfl hM12 R17 (fun hM17 => ?_)
      refine k_b rfl rfl rfl rfl ?_
      exact k_lab (K_Mo_atom_173  H) hM17 (lvS_cons rfl rfl lvS_nil)
def B_Mo_atom_68 (d : Nat) (x2 : Int) (σ : Mem) (o : Option Int) (s' : Mem) : Prop := B_Mo_atom_73 d x2 1 σ o s'
theorem K_Mo_atom_68 {d : Nat} {x2 : Int} {σ s' : Mem} {o : Option Int} (hx2 : rg x2) (H : B_Mo_atom_68 d x2 σ o s') : Lb (d + 3) yMo_atom 68 [(0, .ref 58), (2, vi x2)] [.ref 58] σ o s' := by
  intro hM
  unfold B_Mo_atom_68 at H
  refine k_p rfl rfl rfl ?_
  refine k_b rfl rfl rfl rfl ?_
  exact k_lab (K_Mo_atom_73 hx2 (rgk rfl) H) hM (lvS_cons rfl rfl (lvS_cons rfl rfl lvS_nil))
def B_Mo_atom_42 (d : Nat) (σ : Mem) (o : Option Int) (s' : Mem) : Prop := (rg ((σ 58 21) - 1)) ∧ (o = none ∧ s' = mup σ 58 21 ((σ 58 21) - 1))
theorem K_Mo_atom_42 {d : Nat} {σ s' : Mem} {o : Option Int}  (H : B_Mo_atom_42 d  σ o s') : Lb (d + 3) yMo_atom 42 [(0, .ref 58)] [] σ o s' := by
  intro hM
  unfold B_Mo_atom_42 at H
  refine k_l rfl rfl rfl ?_
  refine k_p rfl rfl rfl ?_
  refine k_gf rfl rfl rfl (by decide) rfl rfl ?_
  refine k_p rfl rfl rfl ?_
  refine k_sub rfl ?_
  obtain ⟨g1, H⟩ := H
  refine k_pf rfl rfl rfl (by decide) rfl rfl rfl rfl ?_
  obtain ⟨rfl, rfl⟩ := H
  exact k_r0 (hM.up g1) rfl rfl rfl
def B_Mo_atom (d : Nat) (x1 : Int) (σ : Mem) (o : Option Int) (s' : Mem) : Prop := ∃ (v1 : Int) (m1 : Mem), Rn (d + 3) yMo_peek [.ref 58] σ (some v1) m1 ∧ (((0 : Int) ≤ x1 ∧ x1 < (180 : Int)) ∧ (if m1 71 x1 ≤ 0 then (if m1 58 24 ≠ 0 then (B_Mo_atom_68 d v1 m1 o s') else (∃ (v5 : Int) (m5 : Mem), Rn (d + 3) yMo_atomBegins [vi v1] m1 (some v5) m5 ∧ (if v5 ≠ 0 then (B_Mo_atom_73 d v1 0 m5 o s') else (B_Mo_atom_68 d v1 m5 o s')))) else (((0 : Int) ≤ x1 ∧ x1 < (180 : Int)) ∧ (if m1 71 x1 ≠ 1 then (∃ (m9 : Mem), Rn (d + 3) yMo_want [.ref 58, vi 41] m1 none m9 ∧ (B_Mo_atom_42 d  m9 o s')) else (∃ (m10 : Mem), Rn (d + 3) yMo_put [.ref 58, vi 9, vi 126, vi 0] m1 none m10 ∧ (B_Mo_atom_42 d  m10 o s'))))))
theorem M_Mo_atom {d : Nat} {x1 : Int} {σ s' : Mem} {o : Option Int} (hx1 : rg x1) (H : B_Mo_atom d x1 σ o s') : Rn (d + 4) yMo_atom [.ref 58, vi x1] σ o s' := by
  refine k_m (Nat.le_of_ble_eq_true rfl) (fun hM => ?_)
  unfold B_Mo_atom at H
  refine k_l rfl rfl rfl ?_
  obtain ⟨v1, m1, R1, H⟩ := H
  refine k_iv rfl rfl rfl rfl rfl (by decide) rfl hM R1 (fun hM1 hv1 => ?_)
  refine k_l rfl rfl rfl ?_
  refine k_l rfl rfl rfl ?_
  refine k_gr (t := 71) rfl rfl rfl (by decide) rfl ?_
  refine k_l rfl rfl rfl ?_
  obtain ⟨g2, H⟩ := H
  refine k_al rfl rfl (fun _ => rfl) rfl rfl g2 (by decide) rfl ?_
  by_cases c3 : m1 71 x1 ≤ 0
  · rw [if_pos c3] at H
    refine k_z rfl (by decide) (hM1 _ _) (q := true) (decide_eq_true c3) rfl ?_
    refine k_l rfl rfl rfl ?_
    refine k_l rfl rfl rfl ?_
    refine k_gf rfl rfl rfl (by decide) rfl rfl ?_
    by_cases c4 : m1 58 24 ≠ 0
    · rw [if_pos c4] at H
      refine k_z rfl (by decide) (hM1 _ _) (q := true) (decide_eq_true c4) rfl ?_
      exact k_lab (K_Mo_atom_68 hv1 H) hM1 (lvS_cons rfl rfl (lvS_cons rfl rfl lvS_nil))
    · rw [if_neg c4] at H
      refine k_z rfl (by decide) (hM1 _ _) (q := false) (decide_eq_false c4) rfl ?_
      refine k_l rfl rfl rfl ?_
      obtain ⟨v5, m5, R5, H⟩ := H
      refine k_is rfl (by decide) (Nat.le_of_ble_eq_true rfl) rfl rfl rfl hM1 R5 (fun hM5 hv5 => ?_)
      by_cases c6 : v5 ≠ 0
      · rw [if_pos c6] at H
        refine k_z rfl (by decide) hv5 (q := true) (decide_eq_true c6) rfl ?_
        refine k_p rfl rfl rfl ?_
        exact k_lab (K_Mo_atom_73 hv1 (rgk rfl) H) hM5 (lvS_cons rfl rfl (lvS_cons rfl rfl lvS_nil))
      · rw [if_neg c6] at H
        refine k_z rfl (by decide) hv5 (q := false) (decide_eq_false c6) rfl ?_
        exact k_lab (K_Mo_atom_68 hv1 H) hM5 (lvS_cons rfl rfl (lvS_cons rfl rfl lvS_nil))
  · rw [if_neg c3] at H
    refine k_z rfl (by decide) (hM1 _ _) (q := false) (decide_eq_false c3) rfl ?_
    refine k_l rfl rfl rfl ?_
    refine k_gr (t := 71) rfl rfl rfl (by decide) rfl ?_
    refine k_l rfl rfl rfl ?_
    obtain ⟨g7, H⟩ := H
    refine k_al rfl rfl (fun _ => rfl) rfl rfl g7 (by decide) rfl ?_
    refine k_p rfl rfl rfl ?_
    by_cases c8 : m1 71 x1 ≠ 1
    · rw [if_pos c8] at H
      refine k_c rfl (by decide) (hM1 _ _) (rgk rfl) (q := true) (decide_eq_true c8) rfl ?_
      refine k_l rfl rfl rfl ?_
      refine k_k (x := 41) rfl rfl rfl rfl ?_
      obtain ⟨m9, R9, H⟩ := H
      refine k_iw rfl rfl rfl rfl rfl (by decide) rfl hM1 R9 (fun hM9 => ?_)
      exact k_lab (K_Mo_atom_42  H) hM9 (lvS_cons rfl rfl lvS_nil)
    · rw [if_neg c8] at H
      refine k_c rfl (by decide) (hM1 _ _) (rgk rfl) (q := false) (decide_eq_false c8) rfl ?_
      refine k_l rfl rfl rfl ?_
      refine k_k (x := 9) rfl rfl rfl rfl ?_
      refine k_k (x := 126) rfl rfl rfl rfl ?_
      refine k_p rfl rfl rfl ?_
      obtain ⟨m10, R10, H⟩ := H
      refine k_iw rfl rfl rfl rfl rfl (by decide) rfl hM1 R10 (fun hM10 => ?_)
      refine k_b rfl rfl rfl rfl ?_
      exact k_lab (K_Mo_atom_42  H) hM10 (lvS_cons rfl rfl lvS_nil)
def B_Mo_atom_140 (d : Nat) (x3 x5 x6 : Int) (σ : Mem) (o : Option Int) (s' : Mem) : Prop := if x6 ≥ 3 then (∃ (m2 : Mem), Rn (d + 3) yMo_put [.ref 58, vi 2, vi ((1000 * x3) + x5), vi 0] σ none m2 ∧ (B_Mo_atom_173 d  m2 o s')) else ((rg (10 * x5)) ∧ ((rg (x6 + 1)) ∧ (Lb (d + 3) yMo_atom 140 [(0, .ref 58), (3, vi x3), (5, vi (10 * x5)), (6, vi (x6 + 1))] [] σ o s')))
theorem K_Mo_atom_140 {d : Nat} {x3 x5 x6 : Int} {σ s' : Mem} {o : Option Int} (hx3 : rg x3) (hx5 : rg x5) (hx6 : rg x6) (H : B_Mo_atom_140 d x3 x5 x6 σ o s') : Lb (d + 3) yMo_atom 140 [(0, .ref 58), (3, vi x3), (5, vi x5), (6, vi x6)] [] σ o s' := by
  intro hM
  unfold B_Mo_atom_140 at H
  refine k_l rfl rfl rfl ?_
  refine k_p rfl rfl rfl ?_
  by_cases c1 : x6 ≥ 3
  · rw [if_pos c1] at H
    refine k_c rfl (by decide) hx6 (rgk rfl) (q := true) (decide_eq_true c1) rfl ?_
    refine k_l rfl rfl rfl ?_
    refine k_p rfl rfl rfl ?_
    refine k_k (x := 1000) rfl rfl rfl rfl ?_
    refine k_l rfl rfl rfl ?_
    refine k_mul rfl ?_
    refine k_l rfl rfl rfl ?_
    refine k_add rfl ?_
    refine k_p rfl rfl rfl ?_
    obtain ⟨m2, R2, H⟩ := H
    refine k_iw rfl rfl rfl rfl rfl (by decide) rfl hM R2 (fun hM2 => ?_)
    exact k_lab (K_Mo_atom_173  H) hM2 (lvS_cons rfl rfl lvS_nil)
  · rw [if_neg c1] at H
    refine k_c rfl (by decide) hx6 (rgk rfl) (q := false) (decide_eq_false c1) rfl ?_
    refine k_k (x := 10) rfl rfl rfl rfl ?_
    refine k_l rfl rfl rfl ?_
    refine k_mul rfl ?_
    refine k_l rfl rfl rfl ?_
    refine k_inc rfl rfl (by decide) ?_
    refine k_b rfl rfl rfl rfl ?_
    obtain ⟨g3, H⟩ := H
    obtain ⟨g4, H⟩ := H
    exact k_lab H hM (lvS_cons rfl rfl (lvS_cons rfl rfl (lvS_cons rfl rfl (lvS_cons rfl rfl lvS_nil))))
def B_Mo_part_247 (d : Nat) (σ : Mem) (o : Option Int) (s' : Mem) : Prop := (rg ((σ 58 21) - 1)) ∧ (o = none ∧ s' = mup σ 58 21 ((σ 58 21) - 1))
theorem K_Mo_part_247 {d : Nat} {σ s' : Mem} {o : Option Int}  (H : B_Mo_part_247 d  σ o s') : Lb (d + 3) yMo_part 247 [(0, .ref 58)] [] σ o s' := by
  intro hM
  unfold B_Mo_part_247 at H
  refine k_l rfl rfl rfl ?_
  refine k_p rfl rfl rfl ?_
  refine k_gf rfl rfl rfl (by decide) rfl rfl ?_
  refine k_p rfl rfl rfl ?_
  refine k_sub rfl ?_
  obtain ⟨g1, H⟩ := H
  refine k_pf rfl rfl rfl (by decide) rfl rfl rfl rfl ?_
  obtain ⟨rfl, rfl⟩ := H
  exact k_r0 (hM.up g1) rfl rfl rfl
def B_Mo_part_158 (d : Nat) (t1 t2 : Int) (σ : Mem) (o : Option Int) (s' : Mem) : Prop := ∃ (m1 : Mem), Rn (d + 3) yMo_putSign [.ref 58, vi t1, vi t2] σ none m1 ∧ (B_Mo_part_247 d  m1 o s')
theorem K_Mo_part_158 {d : Nat} {t1 t2 : Int} {σ s' : Mem} {o : Option Int} (ht1 : rg t1) (ht2 : rg t2) (H : B_Mo_part_158 d t1 t2 σ o s') : Lb (d + 3) yMo_part 158 [(0, .ref 58)] [vi t2, vi t1, .ref 58] σ o s' := by
  intro hM
  unfold B_Mo_part_158 at H
  obtain ⟨m1, R1, H⟩ := H
  refine k_iw rfl rfl rfl rfl rfl (by decide) rfl hM R1 (fun hM1 => ?_)
  refine k_b rfl rfl rfl rfl ?_
  exact k_lab (K_Mo_part_247  H) hM1 (lvS_cons rfl rfl lvS_nil)
def B_Mo_part_145 (d : Nat) (x2 : Int) (σ : Mem) (o : Option Int) (s' : Mem) : Prop := if x2 ≠ 84 then (B_Mo_part_158 d 3 0 σ o s') else (B_Mo_part_158 d 3 1 σ o s')
theorem K_Mo_part_145 {d : Nat} {x2 : Int} {σ s' : Mem} {o : Option Int} (hx2 : rg x2) (H : B_Mo_part_145 d x2 σ o s') : Lb (d + 3) yMo_part 145 [(0, .ref 58), (2, vi x2)] [] σ o s' := by
  intro hM
  unfold B_Mo_part_145 at H
  refine k_l rfl rfl rfl ?_
  refine k_p rfl rfl rfl ?_
  refine k_l rfl rfl rfl ?_
  refine k_k (x := 84) rfl rfl rfl rfl ?_
  by_cases c1 : x2 ≠ 84
  · rw [if_pos c1] at H
    refine k_c rfl (by decide) hx2 (rgk rfl) (q := true) (decide_eq_true c1) rfl ?_
    refine k_p rfl rfl rfl ?_
    exact k_lab (K_Mo_part_158 (rgk rfl) (rgk rfl) H) hM (lvS_cons rfl rfl lvS_nil)
  · rw [if_neg c1] at H
    refine k_c rfl (by decide) hx2 (rgk rfl) (q := false) (decide_eq_false c1) rfl ?_
    refine k_p rfl rfl rfl ?_
    refine k_b rfl rfl rfl rfl ?_
    exact k_lab (K_Mo_part_158 (rgk rfl) (rgk rfl) H) hM (lvS_cons rfl rfl lvS_nil)
def B_Mo_part_244 (d : Nat) (t1 t2 : Int) (σ : Mem) (o : Option Int) (s' : Mem) : Prop := ∃ (m1 : Mem), Rn (d + 3) yMo_putSign [.ref 58, vi t1, vi t2] σ none m1 ∧ (B_Mo_part_247 d  m1 o s')
theorem K_Mo_part_244 {d : Nat} {t1 t2 : Int} {σ s' : Mem} {o : Option Int} (ht1 : rg t1) (ht2 : rg t2) (H : B_Mo_part_244 d t1 t2 σ o s') : Lb (d + 3) yMo_part 244 [(0, .ref 58)] [vi t2, vi t1, .ref 58] σ o s' := by
  intro hM
  unfold B_Mo_part_244 at H
  obtain ⟨m1, R1, H⟩ := H
  refine k_iw rfl rfl rfl rfl rfl (by decide) rfl hM R1 (fun hM1 => ?_)
  exact k_lab (K_Mo_part_247  H) hM1 (lvS_cons rfl rfl lvS_nil)
def B_Mo_part_229 (d : Nat) (x2 x3 t1 t2 : Int) (σ : Mem) (o : Option Int) (s' : Mem) : Prop := if x3 = 0 then (B_Mo_part_244 d 1 0 (mup σ 58 23 (zOr t1 t2)) o s') else (B_Mo_part_244 d 1 x2 (mup σ 58 23 (zOr t1 t2)) o s')
theorem K_Mo_part_229 {d : Nat} {x2 x3 t1 t2 : Int} {σ s' : Mem} {o : Option Int} (hx2 : rg x2) (hx3 : rg x3) (ht1 : rg t1) (ht2 : rg t2) (H : B_Mo_part_229 d x2 x3 t1 t2 σ o s') : Lb (d + 3) yMo_part 229 [(0, .ref 58), (2, vi x2), (3, vi x3)] [vi t2, vi t1, .ref 58] σ o s' := by
  intro hM
  unfold B_Mo_part_229 at H
  refine k_or rfl ?_
  refine k_pf rfl rfl rfl (by decide) rfl rfl rfl rfl ?_
  refine k_l rfl rfl rfl ?_
  refine k_p rfl rfl rfl ?_
  refine k_l rfl rfl rfl ?_
  by_cases c1 : x3 = 0
  · rw [if_pos c1] at H
    refine k_z rfl (by decide) hx3 (q := true) (decide_eq_true c1) rfl ?_
    refine k_p rfl rfl rfl ?_
    exact k_lab (K_Mo_part_244 (rgk rfl) (rgk rfl) H) (hM.up rg_zOr) (lvS_cons rfl rfl lvS_nil)
  · rw [if_neg c1] at H
    refine k_z rfl (by decide) hx3 (q := false) (decide_eq_false c1) rfl ?_
    refine k_l rfl rfl rfl ?_
    refine k_b rfl rfl rfl rfl ?_
    exact k_lab (K_Mo_part_244 (rgk rfl) hx2 H) (hM.up rg_zOr) (lvS_cons rfl rfl lvS_nil)
def B_Mo_part_207 (d : Nat) (x2 x3 t1 : Int) (σ : Mem) (o : Option Int) (s' : Mem) : Prop := (t1 = 0 ∨ t1 = 1) ∧ (if x3 = 0 then (B_Mo_part_229 d x2 x3 (σ 58 23) 0 (mup σ 58 24 t1) o s') else (B_Mo_part_229 d x2 x3 (σ 58 23) (zShl 1 (x2 - 97)) (mup σ 58 24 t1) o s'))
theorem K_Mo_part_207 {d : Nat} {x2 x3 t1 : Int} {σ s' : Mem} {o : Option Int} (hx2 : rg x2) (hx3 : rg x3) (ht1 : rg t1) (H : B_Mo_part_207 d x2 x3 t1 σ o s') : Lb (d + 3) yMo_part 207 [(0, .ref 58), (2, vi x2), (3, vi x3)] [vi t1, .ref 58] σ o s' := by
  intro hM
  unfold B_Mo_part_207 at H
  obtain ⟨g1, H⟩ := H
  refine k_pf rfl rfl rfl (by decide) rfl rfl (fitb g1) rfl ?_
  refine k_l rfl rfl rfl ?_
  refine k_p rfl rfl rfl ?_
  refine k_gf rfl rfl rfl (by decide) rfl (mup_nk (by decide)) ?_
  refine k_l rfl rfl rfl ?_
  by_cases c2 : x3 = 0
  · rw [if_pos c2] at H
    refine k_z rfl (by decide) hx3 (q := true) (decide_eq_true c2) rfl ?_
    refine k_p rfl rfl rfl ?_
    exact k_lab (K_Mo_part_229 hx2 hx3 (hM _ _) (rgk rfl) H) (hM.up ht1) (lvS_cons rfl rfl (lvS_cons rfl rfl (lvS_cons rfl rfl lvS_nil)))
  · rw [if_neg c2] at H
    refine k_z rfl (by decide) hx3 (q := false) (decide_eq_false c2) rfl ?_
    refine k_p rfl rfl rfl ?_
    refine k_l rfl rfl rfl ?_
    refine k_k (x := 97) rfl rfl rfl rfl ?_
    refine k_sub rfl ?_
    refine k_shl rfl ?_
    refine k_b rfl rfl rfl rfl ?_
    exact k_lab (K_Mo_part_229 hx2 hx3 (hM _ _) rg_zShl H) (hM.up ht1) (lvS_cons rfl rfl (lvS_cons rfl rfl (lvS_cons rfl rfl lvS_nil)))
def B_Mo_part_202 (d : Nat) (x2 x3 : Int) (σ : Mem) (o : Option Int) (s' : Mem) : Prop := B_Mo_part_207 d x2 x3 1 σ o s'
theorem K_Mo_part_202 {d : Nat} {x2 x3 : Int} {σ s' : Mem} {o : Option Int} (hx2 : rg x2) (hx3 : rg x3) (H : B_Mo_part_202 d x2 x3 σ o s') : Lb (d + 3) yMo_part 202 [(0, .ref 58), (2, vi x2), (3, vi x3)] [.ref 58] σ o s' := by
  intro hM
  unfold B_Mo_part_202 at H
  refine k_p rfl rfl rfl ?_
  refine k_b rfl rfl rfl rfl ?_
  exact k_lab (K_Mo_part_207 hx2 hx3 (rgk rfl) H) hM (lvS_cons rfl rfl (lvS_cons rfl rfl (lvS_cons rfl rfl lvS_nil)))
def B_Mo_part_206 (d : Nat) (x2 x3 : Int) (σ : Mem) (o : Option Int) (s' : Mem) : Prop := B_Mo_part_207 d x2 x3 0 σ o s'
theorem K_Mo_part_206 {d : Nat} {x2 x3 : Int} {σ s' : Mem} {o : Option Int} (hx2 : rg x2) (hx3 : rg x3) (H : B_Mo_part_206 d x2 x3 σ o s') : Lb (d + 3) yMo_part 206 [(0, .ref 58), (2, vi x2), (3, vi x3)] [.ref 58] σ o s' := by
  intro hM
  unfold B_Mo_part_206 at H
  refine k_p rfl rfl rfl ?_
  exact k_lab (K_Mo_part_207 hx2 hx3 (rgk rfl) H) hM (lvS_cons rfl rfl (lvS_cons rfl rfl (lvS_cons rfl rfl lvS_nil)))
def B_Mo_part_111 (d : Nat) (t1 : Int) (σ : Mem) (o : Option Int) (s' : Mem) : Prop := (t1 = 0 ∨ t1 = 1) ∧ ((rg ((σ 58 3) + 1)) ∧ (∃ (m3 : Mem), Rn (d + 3) yMo_putSign [.ref 58, vi 4, vi 0] (mup (mup σ 58 24 t1) 58 3 ((σ 58 3) + 1)) none m3 ∧ (B_Mo_part_247 d  m3 o s')))
theorem K_Mo_part_111 {d : Nat} {t1 : Int} {σ s' : Mem} {o : Option Int} (ht1 : rg t1) (H : B_Mo_part_111 d t1 σ o s') : Lb (d + 3) yMo_part 111 [(0, .ref 58)] [vi t1, .ref 58] σ o s' := by
  intro hM
  unfold B_Mo_part_111 at H
  obtain ⟨g1, H⟩ := H
  refine k_pf rfl rfl rfl (by decide) rfl rfl (fitb g1) rfl ?_
  refine k_l rfl rfl rfl ?_
  refine k_p rfl rfl rfl ?_
  refine k_gf rfl rfl rfl (by decide) rfl (mup_nk (by decide)) ?_
  refine k_p rfl rfl rfl ?_
  refine k_add rfl ?_
  obtain ⟨g2, H⟩ := H
  refine k_pf rfl rfl rfl (by decide) rfl rfl rfl rfl ?_
  refine k_l rfl rfl rfl ?_
  refine k_p rfl rfl rfl ?_
  refine k_p rfl rfl rfl ?_
  obtain ⟨m3, R3, H⟩ := H
  refine k_iw rfl rfl rfl rfl rfl (by decide) rfl ((hM.up ht1).up g2) R3 (fun hM3 => ?_)
  refine k_b rfl rfl rfl rfl ?_
  exact k_lab (K_Mo_part_247  H) hM3 (lvS_cons rfl rfl lvS_nil)
def B_Mo_part_106 (d : Nat) (σ : Mem) (o : Option Int) (s' : Mem) : Prop := B_Mo_part_111 d 1 σ o s'
theorem K_Mo_part_106 {d : Nat} {σ s' : Mem} {o : Option Int}  (H : B_Mo_part_106 d  σ o s') : Lb (d + 3) yMo_part 106 [(0, .ref 58)] [.ref 58] σ o s' := by
  intro hM
  unfold B_Mo_part_106 at H
  refine k_p rfl rfl rfl ?_
  refine k_b rfl rfl rfl rfl ?_
  exact k_lab (K_Mo_part_111 (rgk rfl) H) hM (lvS_cons rfl rfl lvS_nil)
def B_Mo_part (d : Nat) (x1 : Int) (σ : Mem) (o : Option Int) (s' : Mem) : Prop := ((0 : Int) ≤ x1 ∧ x1 < (180 : Int)) ∧ (if σ 71 x1 ≤ 0 then (∃ (v3 : Int) (m3 : Mem), Rn (d + 3) yMo_peek [.ref 58] σ (some v3) m3 ∧ (if dgt v3 = 0 then ((rg ((m3 58 3) + 1)) ∧ (if v3 ≠ 40 then (if v3 ≠ 91 then (if v3 = 84 then (B_Mo_part_145 d v3 (mup m3 58 3 ((m3 58 3) + 1)) o s') else (if v3 ≠ 70 then (if m3 58 24 ≠ 0 then (B_Mo_part_202 d v3 (ltr v3) (mup m3 58 3 ((m3 58 3) + 1)) o s') else (if v3 = 95 then (B_Mo_part_206 d v3 (ltr v3) (mup m3 58 3 ((m3 58 3) + 1)) o s') else (if ltr v3 = 0 then (B_Mo_part_202 d v3 (ltr v3) (mup m3 58 3 ((m3 58 3) + 1)) o s') else (if zAnd (zShr (m3 58 23) (v3 - 97)) 1 ≠ 1 then (B_Mo_part_206 d v3 (ltr v3) (mup m3 58 3 ((m3 58 3) + 1)) o s') else (B_Mo_part_202 d v3 (ltr v3) (mup m3 58 3 ((m3 58 3) + 1)) o s'))))) else (B_Mo_part_145 d v3 (mup m3 58 3 ((m3 58 3) + 1)) o s'))) else (if m3 58 24 ≠ 0 then (B_Mo_part_106 d  (mup m3 58 3 ((m3 58 3) + 1)) o s') else (∃ (v17 : Int) (m17 : Mem), Rn (d + 3) yMo_here [.ref 58] (mup m3 58 3 ((m3 58 3) + 1)) (some v17) m17 ∧ (if v17 = 93 then (B_Mo_part_111 d 0 m17 o s') else (B_Mo_part_106 d  m17 o s'))))) else (∃ (m19 : Mem), Rn (d + 3) yMo_after [.ref 58, vi 1, vi 7] (mup m3 58 3 ((m3 58 3) + 1)) none m19 ∧ (o = none ∧ s' = m19)))) else (∃ (v20 : Int) (m20 : Mem), Rn (d + 3) yMo_digits [.ref 58, vi 4] m3 (some v20) m20 ∧ (∃ (m21 : Mem), Rn (d + 3) yMo_putSign [.ref 58, vi 2, vi v20] m20 none m21 ∧ ((rg ((m21 58 21) - 1)) ∧ (o = none ∧ s' = mup m21 58 21 ((m21 58 21) - 1))))))) else (∃ (m23 : Mem), Rn (d + 3) yMo_want [.ref 58, vi 41] σ none m23 ∧ ((rg ((m23 58 21) - 1)) ∧ (o = none ∧ s' = mup m23 58 21 ((m23 58 21) - 1)))))
theorem M_Mo_part {d : Nat} {x1 : Int} {σ s' : Mem} {o : Option Int} (hx1 : rg x1) (H : B_Mo_part d x1 σ o s') : Rn (d + 4) yMo_part [.ref 58, vi x1] σ o s' := by
  refine k_m (Nat.le_of_ble_eq_true rfl) (fun hM => ?_)
  unfold B_Mo_part at H
  refine k_l rfl rfl rfl ?_
  refine k_gr (t := 71) rfl rfl rfl (by decide) rfl ?_
  refine k_l rfl rfl rfl ?_
  obtain ⟨g1, H⟩ := H
  refine k_al rfl rfl (fun _ => rfl) rfl rfl g1 (by decide) rfl ?_
  by_cases c2 : σ 71 x1 ≤ 0
  · rw [if_pos c2] at H
    refine k_z rfl (by decide) (hM _ _) (q := true) (decide_eq_true c2) rfl ?_
    refine k_l rfl rfl rfl ?_
    obtain ⟨v3, m3, R3, H⟩ := H
    refine k_iv rfl rfl rfl rfl rfl (by decide) rfl hM R3 (fun hM3 hv3 => ?_)
    refine k_l rfl rfl rfl ?_
    refine k_l rfl rfl rfl ?_
    refine k_is (v := dgt v3) rfl (by decide) (Nat.le_of_ble_eq_true rfl) rfl rfl rfl hM3 (R_Mo_digit hv3) (fun _ q4 => ?_)
    by_cases c5 : dgt v3 = 0
    · rw [if_pos c5] at H
      refine k_z rfl (by decide) q4 (q := true) (decide_eq_true c5) rfl ?_
      refine k_l rfl rfl rfl ?_
      refine k_p rfl rfl rfl ?_
      refine k_gf rfl rfl rfl (by decide) rfl rfl ?_
      refine k_p rfl rfl rfl ?_
      refine k_add rfl ?_
      obtain ⟨g6, H⟩ := H
      refine k_pf rfl rfl rfl (by decide) rfl rfl rfl rfl ?_
      refine k_l rfl rfl rfl ?_
      refine k_k (x := 40) rfl rfl rfl rfl ?_
      by_cases c7 : v3 ≠ 40
      · rw [if_pos c7] at H
        refine k_c rfl (by decide) hv3 (rgk rfl) (q := true) (decide_eq_true c7) rfl ?_
        refine k_l rfl rfl rfl ?_
        refine k_k (x := 91) rfl rfl rfl rfl ?_
        by_cases c8 : v3 ≠ 91
        · rw [if_pos c8] at H
          refine k_c rfl (by decide) hv3 (rgk rfl) (q := true) (decide_eq_true c8) rfl ?_
          refine k_l rfl rfl rfl ?_
          refine k_k (x := 84) rfl rfl rfl rfl ?_
          by_cases c9 : v3 = 84
          · rw [if_pos c9] at H
            refine k_c rfl (by decide) hv3 (rgk rfl) (q := true) (decide_eq_true c9) rfl ?_
            exact k_lab (K_Mo_part_145 hv3 H) (hM3.up g6) (lvS_cons rfl rfl (lvS_cons rfl rfl lvS_nil))
          · rw [if_neg c9] at H
            refine k_c rfl (by decide) hv3 (rgk rfl) (q := false) (decide_eq_false c9) rfl ?_
            refine k_l rfl rfl rfl ?_
            refine k_k (x := 70) rfl rfl rfl rfl ?_
            by_cases c10 : v3 ≠ 70
            · rw [if_pos c10] at H
              refine k_c rfl (by decide) hv3 (rgk rfl) (q := true) (decide_eq_true c10) rfl ?_
              refine k_l rfl rfl rfl ?_
              refine k_is (v := ltr v3) rfl (by decide) (Nat.le_of_ble_eq_true rfl) rfl rfl rfl (hM3.up g6) (R_Mo_letter hv3) (fun _ q11 => ?_)
              refine k_l rfl rfl rfl ?_
              refine k_l rfl rfl rfl ?_
              refine k_l rfl rfl rfl ?_
              refine k_gf rfl rfl rfl (by decide) rfl (mup_nk (by decide)) ?_
              by_cases c12 : m3 58 24 ≠ 0
              · rw [if_pos c12] at H
                refine k_z rfl (by decide) (hM3 _ _) (q := true) (decide_eq_true c12) rfl ?_
                exact k_lab (K_Mo_part_202 hv3 q11 H) (hM3.up g6) (lvS_cons rfl rfl (lvS_cons rfl rfl (lvS_cons rfl rfl lvS_nil)))
              · rw [if_neg c12] at H
                refine k_z rfl (by decide) (hM3 _ _) (q := false) (decide_eq_false c12) rfl ?_
                refine k_l rfl rfl rfl ?_
                refine k_k (x := 95) rfl rfl rfl rfl ?_
                by_cases c13 : v3 = 95
                · rw [if_pos c13] at H
                  refine k_c rfl (by decide) hv3 (rgk rfl) (q := true) (decide_eq_true c13) rfl ?_
                  exact k_lab (K_Mo_part_206 hv3 q11 H) (hM3.up g6) (lvS_cons rfl rfl (lvS_cons rfl rfl (lvS_cons rfl rfl lvS_nil)))
                · rw [if_neg c13] at H
                  refine k_c rfl (by decide) hv3 (rgk rfl) (q := false) (decide_eq_false c13) rfl ?_
                  refine k_l rfl rfl rfl ?_
                  by_cases c14 : ltr v3 = 0
                  · rw [if_pos c14] at H
                    refine k_z rfl (by decide) q11 (q := true) (decide_eq_true c14) rfl ?_
                    exact k_lab (K_Mo_part_202 hv3 q11 H) (hM3.up g6) (lvS_cons rfl rfl (lvS_cons rfl rfl (lvS_cons rfl rfl lvS_nil)))
                  · rw [if_neg c14] at H
                    refine k_z rfl (by decide) q11 (q := false) (decide_eq_false c14) rfl ?_
                    refine k_l rfl rfl rfl ?_
                    refine k_gf rfl rfl rfl (by decide) rfl (mup_nk (by decide)) ?_
                    refine k_l rfl rfl rfl ?_
                    refine k_k (x := 97) rfl rfl rfl rfl ?_
                    refine k_sub rfl ?_
                    refine k_shr rfl ?_
                    refine k_p rfl rfl rfl ?_
                    refine k_and rfl ?_
                    refine k_p rfl rfl rfl ?_
                    by_cases c15 : zAnd (zShr (m3 58 23) (v3 - 97)) 1 ≠ 1
                    · rw [if_pos c15] at H
                      refine k_c rfl (by decide) rg_zAnd (rgk rfl) (q := true) (decide_eq_true c15) rfl ?_
                      exact k_lab (K_Mo_part_206 hv3 q11 H) (hM3.up g6) (lvS_cons rfl rfl (lvS_cons rfl rfl (lvS_cons rfl rfl lvS_nil)))
                    · rw [if_neg c15] at H
                      refine k_c rfl (by decide) rg_zAnd (rgk rfl) (q := false) (decide_eq_false c15) rfl ?_
                      exact k_lab (K_Mo_part_202 hv3 q11 H) (hM3.up g6) (lvS_cons rfl rfl (lvS_cons rfl rfl (lvS_cons rfl rfl lvS_nil)))
            · rw [if_neg c10] at H
              refine k_c rfl (by decide) hv3 (rgk rfl) (q := false) (decide_eq_false c10) rfl ?_
              exact k_lab (K_Mo_part_145 hv3 H) (hM3.up g6) (lvS_cons rfl rfl (lvS_cons rfl rfl lvS_nil))
        · rw [if_neg c8] at H
          refine k_c rfl (by decide) hv3 (rgk rfl) (q := false) (decide_eq_false c8) rfl ?_
          refine k_l rfl rfl rfl ?_
          refine k_l rfl rfl rfl ?_
          refine k_gf rfl rfl rfl (by decide) rfl (mup_nk (by decide)) ?_
          by_cases c16 : m3 58 24 ≠ 0
          · rw [if_pos c16] at H
            refine k_z rfl (by decide) (hM3 _ _) (q := true) (decide_eq_true c16) rfl ?_
            exact k_lab (K_Mo_part_106  H) (hM3.up g6) (lvS_cons rfl rfl lvS_nil)
          · rw [if_neg c16] at H
            refine k_z rfl (by decide) (hM3 _ _) (q := false) (decide_eq_false c16) rfl ?_
            refine k_l rfl rfl rfl ?_
            obtain ⟨v17, m17, R17, H⟩ := H
            refine k_iv rfl rfl rfl rfl rfl (by decide) rfl (hM3.up g6) R17 (fun hM17 hv17 => ?_)
            refine k_k (x := 93) rfl rfl rfl rfl ?_
            by_cases c18 : v17 = 93
            · rw [if_pos c18] at H
              refine k_c rfl (by decide) hv17 (rgk rfl) (q := true) (decide_eq_true c18) rfl ?_
              refine k_p rfl rfl rfl ?_
              exact k_lab (K_Mo_part_111 (rgk rfl) H) hM17 (lvS_cons rfl rfl lvS_nil)
            · rw [if_neg c18] at H
              refine k_c rfl (by decide) hv17 (rgk rfl) (q := false) (decide_eq_false c18) rfl ?_
              exact k_lab (K_Mo_part_106  H) hM17 (lvS_cons rfl rfl lvS_nil)
      · rw [if_neg c7] at H
        refine k_c rfl (by decide) hv3 (rgk rfl) (q := false) (decide_eq_false c7) rfl ?_
        refine k_l rfl rfl rfl ?_
        refine k_p rfl rfl rfl ?_
        refine k_k (x := 7) rfl rfl rfl rfl ?_
        obtain ⟨m19, R19, H⟩ := H
        refine k_iw rfl rfl rfl rfl rfl (by decide) rfl (hM3.up g6) R19 (fun hM19 => ?_)
        obtain ⟨rfl, rfl⟩ := H
        exact k_r0 hM19 rfl rfl rfl
    · rw [if_neg c5] at H
      refine k_z rfl (by decide) q4 (q := false) (decide_eq_false c5) rfl ?_
      refine k_l rfl rfl rfl ?_
      refine k_p rfl rfl rfl ?_
      refine k_l rfl rfl rfl ?_
      refine k_p rfl rfl rfl ?_
      obtain ⟨v20, m20, R20, H⟩ := H
      refine k_iv rfl rfl rfl rfl rfl (by decide) rfl hM3 R20 (fun hM20 hv20 => ?_)
      obtain ⟨m21, R21, H⟩ := H
      refine k_iw rfl rfl rfl rfl rfl (by decide) rfl hM20 R21 (fun hM21 => ?_)
      refine k_l rfl rfl rfl ?_
      refine k_p rfl rfl rfl ?_
      refine k_gf rfl rfl rfl (by decide) rfl rfl ?_
      refine k_p rfl rfl rfl ?_
      refine k_sub rfl ?_
      obtain ⟨g22, H⟩ := H
      refine k_pf rfl rfl rfl (by decide) rfl rfl rfl rfl ?_
      obtain ⟨rfl, rfl⟩ := H
      exact k_r0 (hM21.up g22) rfl rfl rfl
  · rw [if_neg c2] at H
    refine k_z rfl (by decide) (hM _ _) (q := false) (decide_eq_false c2) rfl ?_
    refine k_l rfl rfl rfl ?_
    refine k_k (x := 41) rfl rfl rfl rfl ?_
    obtain ⟨m23, R23, H⟩ := H
    refine k_iw rfl rfl rfl rfl rfl (by decide) rfl hM R23 (fun hM23 => ?_)
    refine k_l rfl rfl rfl ?_
    refine k_p rfl rfl rfl ?_
    refine k_gf rfl rfl rfl (by decide) rfl rfl ?_
    refine k_p rfl rfl rfl ?_
    refine k_sub rfl ?_
    obtain ⟨g24, H⟩ := H
    refine k_pf rfl rfl rfl (by decide) rfl rfl rfl rfl ?_
    obtain ⟨rfl, rfl⟩ := H
    exact k_r0 (hM23.up g24) rfl rfl rfl
def B_Mo_pattern_72 (d : Nat) (σ : Mem) (o : Option Int) (s' : Mem) : Prop := ∃ (m1 : Mem), Rn (d + 3) yMo_endsDeep [.ref 58] σ none m1 ∧ (o = none ∧ s' = m1)
theorem K_Mo_pattern_72 {d : Nat} {σ s' : Mem} {o : Option Int}  (H : B_Mo_pattern_72 d  σ o s') : Lb (d + 3) yMo_pattern 72 [(0, .ref 58)] [] σ o s' := by
  intro hM
  unfold B_Mo_pattern_72 at H
  refine k_l rfl rfl rfl ?_
  obtain ⟨m1, R1, H⟩ := H
  refine k_iw rfl rfl rfl rfl rfl (by decide) rfl hM R1 (fun hM1 => ?_)
  obtain ⟨rfl, rfl⟩ := H
  exact k_r0 hM1 rfl rfl rfl
def B_Mo_pattern (d : Nat) (x1 : Int) (σ : Mem) (o : Option Int) (s' : Mem) : Prop := ((0 : Int) ≤ x1 ∧ x1 < (180 : Int)) ∧ (if σ 71 x1 ≠ 0 then (((0 : Int) ≤ x1 ∧ x1 < (180 : Int)) ∧ (if σ 71 x1 ≠ 1 then (B_Mo_pattern_72 d  σ o s') else (∃ (v5 : Int) (m5 : Mem), Rn (d + 3) yMo_eat [.ref 58, vi 44] σ (some v5) m5 ∧ (if v5 = 0 then (B_Mo_pattern_72 d  m5 o s') else (((0 : Int) ≤ x1 ∧ x1 < (180 : Int)) ∧ (∃ (m8 : Mem), Rn (d + 3) yMo_insertSign [.ref 58, vi (m5 72 x1)] m5 none m8 ∧ (∃ (m9 : Mem), Rn (d + 3) yMo_after [.ref 58, vi 2, vi 7] m8 none m9 ∧ (o = none ∧ s' = m9)))))))) else (∃ (m10 : Mem), Rn (d + 3) yMo_deeper [.ref 58] σ none m10 ∧ (((0 : Int) ≤ x1 ∧ x1 < (180 : Int)) ∧ (∃ (m12 : Mem), Rn (d + 3) yMo_after [.ref 58, vi 1, vi 8] (mup m10 72 x1 (m10 58 14)) none m12 ∧ (o = none ∧ s' = m12)))))
theorem M_Mo_pattern {d : Nat} {x1 : Int} {σ s' : Mem} {o : Option Int} (hx1 : rg x1) (H : B_Mo_pattern d x1 σ o s') : Rn (d + 4) yMo_pattern [.ref 58, vi x1] σ o s' := by
  refine k_m (Nat.le_of_ble_eq_true rfl) (fun hM => ?_)
  unfold B_Mo_pattern at H
  refine k_l rfl rfl rfl ?_
  refine k_gr (t := 71) rfl rfl rfl (by decide) rfl ?_
  refine k_l rfl rfl rfl ?_
  obtain ⟨g1, H⟩ := H
  refine k_al rfl rfl (fun _ => rfl) rfl rfl g1 (by decide) rfl ?_
  by_cases c2 : σ 71 x1 ≠ 0
  · rw [if_pos c2] at H
    refine k_z rfl (by decide) (hM _ _) (q := true) (decide_eq_true c2) rfl ?_
    refine k_l rfl rfl rfl ?_
    refine k_gr (t := 71) rfl rfl rfl (by decide) rfl ?_
    refine k_l rfl rfl rfl ?_
    obtain ⟨g3, H⟩ := H
    refine k_al rfl rfl (fun _ => rfl) rfl rfl g3 (by decide) rfl ?_
    refine k_p rfl rfl rfl ?_
    by_cases c4 : σ 71 x1 ≠ 1
    · rw [if_pos c4] at H
      refine k_c rfl (by decide) (hM _ _) (rgk rfl) (q := true) (decide_eq_true c4) rfl ?_
      exact k_lab (K_Mo_pattern_72  H) hM (lvS_cons rfl rfl lvS_nil)
    · rw [if_neg c4] at H
      refine k_c rfl (by decide) (hM _ _) (rgk rfl) (q := false) (decide_eq_false c4) rfl ?_
      refine k_l rfl rfl rfl ?_
      refine k_k (x := 44) rfl rfl rfl rfl ?_
      obtain ⟨v5, m5, R5, H⟩ := H
      refine k_iv rfl rfl rfl rfl rfl (by decide) rfl hM R5 (fun hM5 hv5 => ?_)
      by_cases c6 : v5 = 0
      · rw [if_pos c6] at H
        refine k_z rfl (by decide) hv5 (q := true) (decide_eq_true c6) rfl ?_
        exact k_lab (K_Mo_pattern_72  H) hM5 (lvS_cons rfl rfl lvS_nil)
      · rw [if_neg c6] at H
        refine k_z rfl (by decide) hv5 (q := false) (decide_eq_false c6) rfl ?_
        refine k_l rfl rfl rfl ?_
        refine k_l rfl rfl rfl ?_
        refine k_gr (t := 72) rfl rfl rfl (by decide) rfl ?_
        refine k_l rfl rfl rfl ?_
        obtain ⟨g7, H⟩ := H
        refine k_al rfl rfl (fun _ => rfl) rfl rfl g7 (by decide) rfl ?_
        obtain ⟨m8, R8, H⟩ := H
        refine k_iw rfl rfl rfl rfl rfl (by decide) rfl hM5 R8 (fun hM8 => ?_)
        refine k_l rfl rfl rfl ?_
        refine k_p rfl rfl rfl ?_
        refine k_k (x := 7) rfl rfl rfl rfl ?_
        obtain ⟨m9, R9, H⟩ := H
        refine k_iw rfl rfl rfl rfl rfl (by decide) rfl hM8 R9 (fun hM9 => ?_)
        refine k_b rfl rfl rfl rfl ?_
        obtain ⟨rfl, rfl⟩ := H
        exact k_r0 hM9 rfl rfl rfl
  · rw [if_neg c2] at H
    refine k_z rfl (by decide) (hM _ _) (q := false) (decide_eq_false c2) rfl ?_
    refine k_l rfl rfl rfl ?_
    obtain ⟨m10, R10, H⟩ := H
    refine k_iw rfl rfl rfl rfl rfl (by decide) rfl hM R10 (fun hM10 => ?_)
    refine k_l rfl rfl rfl ?_
    refine k_gr (t := 72) rfl rfl rfl (by decide) rfl ?_
    refine k_l rfl rfl rfl ?_
    refine k_l rfl rfl rfl ?_
    refine k_gf rfl rfl rfl (by decide) rfl rfl ?_
    obtain ⟨g11, H⟩ := H
    refine k_as (ok := isI) rfl rfl (fun _ => rfl) rfl rfl g11 (by decide) rfl ?_
    refine k_l rfl rfl rfl ?_
    refine k_p rfl rfl rfl ?_
    refine k_k (x := 8) rfl rfl rfl rfl ?_
    obtain ⟨m12, R12, H⟩ := H
    refine k_iw rfl rfl rfl rfl rfl (by decide) rfl (hM10.up (hM10 _ _)) R12 (fun hM12 => ?_)
    refine k_b rfl rfl rfl rfl ?_
    obtain ⟨rfl, rfl⟩ := H
    exact k_r0 hM12 rfl rfl rfl
def B_Mo_operands_180 (d : Nat) (t1 t2 : Int) (σ : Mem) (o : Option Int) (s' : Mem) : Prop := ∃ (m1 : Mem), Rn (d + 3) yMo_after [.ref 58, vi t1, vi t2] σ none m1 ∧ (o = none ∧ s' = m1)
theorem K_Mo_operands_180 {d : Nat} {t1 t2 : Int} {σ s' : Mem} {o : Option Int} (ht1 : rg t1) (ht2 : rg t2) (H : B_Mo_operands_180 d t1 t2 σ o s') : Lb (d + 3) yMo_operands 180 [] [vi t2, vi t1, .ref 58] σ o s' := by
  intro hM
  unfold B_Mo_operands_180 at H
  obtain ⟨m1, R1, H⟩ := H
  refine k_iw rfl rfl rfl rfl rfl (by decide) rfl hM R1 (fun hM1 => ?_)
  obtain ⟨rfl, rfl⟩ := H
  exact k_r0 hM1 rfl rfl rfl
def B_Mo_operands_142 (d : Nat) (x1 x2 x3 : Int) (σ : Mem) (o : Option Int) (s' : Mem) : Prop := ((0 : Int) ≤ x1 ∧ x1 < (180 : Int)) ∧ (if x3 ≠ 0 then (if x2 ≠ 1 then ((rg (x2 + 1)) ∧ (B_Mo_operands_180 d 2 (x2 + 1) (mup σ 72 x1 x3) o s')) else (B_Mo_operands_180 d 2 1 (mup σ 72 x1 x3) o s')) else ((rg ((σ 58 21) - 1)) ∧ (o = none ∧ s' = mup (mup σ 72 x1 x3) 58 21 ((σ 58 21) - 1))))
theorem K_Mo_operands_142 {d : Nat} {x1 x2 x3 : Int} {σ s' : Mem} {o : Option Int} (hx1 : rg x1) (hx2 : rg x2) (hx3 : rg x3) (H : B_Mo_operands_142 d x1 x2 x3 σ o s') : Lb (d + 3) yMo_operands 142 [(0, .ref 58), (1, vi x1), (2, vi x2), (3, vi x3)] [] σ o s' := by
  intro hM
  unfold B_Mo_operands_142 at H
  refine k_l rfl rfl rfl ?_
  refine k_gr (t := 72) rfl rfl rfl (by decide) rfl ?_
  refine k_l rfl rfl rfl ?_
  refine k_l rfl rfl rfl ?_
  obtain ⟨g1, H⟩ := H
  refine k_as (ok := isI) rfl rfl (fun _ => rfl) rfl rfl g1 (by decide) rfl ?_
  refine k_l rfl rfl rfl ?_
  by_cases c2 : x3 ≠ 0
  · rw [if_pos c2] at H
    refine k_z rfl (by decide) hx3 (q := true) (decide_eq_true c2) rfl ?_
    refine k_l rfl rfl rfl ?_
    refine k_p rfl rfl rfl ?_
    refine k_l rfl rfl rfl ?_
    refine k_p rfl rfl rfl ?_
    by_cases c3 : x2 ≠ 1
    · rw [if_pos c3] at H
      refine k_c rfl (by decide) hx2 (rgk rfl) (q := true) (decide_eq_true c3) rfl ?_
      refine k_l rfl rfl rfl ?_
      refine k_p rfl rfl rfl ?_
      refine k_add rfl ?_
      obtain ⟨g4, H⟩ := H
      exact k_lab (K_Mo_operands_180 (rgk rfl) g4 H) (hM.up hx3) lvS_nil
    · rw [if_neg c3] at H
      refine k_c rfl (by decide) hx2 (rgk rfl) (q := false) (decide_eq_false c3) rfl ?_
      refine k_p rfl rfl rfl ?_
      refine k_b rfl rfl rfl rfl ?_
      exact k_lab (K_Mo_operands_180 (rgk rfl) (rgk rfl) H) (hM.up hx3) lvS_nil
  · rw [if_neg c2] at H
    refine k_z rfl (by decide) hx3 (q := false) (decide_eq_false c2) rfl ?_
    refine k_l rfl rfl rfl ?_
    refine k_p rfl rfl rfl ?_
    refine k_gf rfl rfl rfl (by decide) rfl (mup_ne (by decide)) ?_
    refine k_p rfl rfl rfl ?_
    refine k_sub rfl ?_
    obtain ⟨g5, H⟩ := H
    refine k_pf rfl rfl rfl (by decide) rfl rfl rfl rfl ?_
    refine k_b rfl rfl rfl rfl ?_
    obtain ⟨rfl, rfl⟩ := H
    exact k_r0 ((hM.up hx3).up g5) rfl rfl rfl
def B_Mo_operands_130 (d : Nat) (x1 x2 t0 : Int) (σ : Mem) (o : Option Int) (s' : Mem) : Prop := B_Mo_operands_142 d x1 x2 t0 σ o s'
theorem K_Mo_operands_130 {d : Nat} {x1 x2 t0 : Int} {σ s' : Mem} {o : Option Int} (hx1 : rg x1) (hx2 : rg x2) (ht0 : rg t0) (H : B_Mo_operands_130 d x1 x2 t0 σ o s') : Lb (d + 3) yMo_operands 130 [(0, .ref 58), (1, vi x1), (2, vi x2)] [vi t0] σ o s' := by
  intro hM
  unfold B_Mo_operands_130 at H
  refine k_l rfl rfl rfl ?_
  refine k_b rfl rfl rfl rfl ?_
  exact k_lab (K_Mo_operands_142 hx1 hx2 ht0 H) hM (lvS_cons rfl rfl (lvS_cons rfl rfl (lvS_cons rfl rfl (lvS_cons rfl rfl lvS_nil))))
def B_Mo_operands_106 (d : Nat) (x1 x2 t0 : Int) (σ : Mem) (o : Option Int) (s' : Mem) : Prop := B_Mo_operands_142 d x1 x2 t0 σ o s'
theorem K_Mo_operands_106 {d : Nat} {x1 x2 t0 : Int} {σ s' : Mem} {o : Option Int} (hx1 : rg x1) (hx2 : rg x2) (ht0 : rg t0) (H : B_Mo_operands_106 d x1 x2 t0 σ o s') : Lb (d + 3) yMo_operands 106 [(0, .ref 58), (1, vi x1), (2, vi x2)] [vi t0] σ o s' := by
  intro hM
  unfold B_Mo_operands_106 at H
  refine k_l rfl rfl rfl ?_
  refine k_b rfl rfl rfl rfl ?_
  exact k_lab (K_Mo_operands_142 hx1 hx2 ht0 H) hM (lvS_cons rfl rfl (lvS_cons rfl rfl (lvS_cons rfl rfl (lvS_cons rfl rfl lvS_nil))))
def B_Mo_operands_84 (d : Nat) (x1 x2 : Int) (σ : Mem) (o : Option Int) (s' : Mem) : Prop := if x2 ≠ 1 then (if x2 ≠ 5 then (∃ (v3 : Int) (m3 : Mem), Rn (d + 3) yMo_operator [.ref 58, vi (x2 - 2)] σ (some v3) m3 ∧ (B_Mo_operands_142 d x1 x2 v3 m3 o s')) else (∃ (v4 : Int) (m4 : Mem), Rn (d + 3) yMo_peek [.ref 58] σ (some v4) m4 ∧ (∃ (v5 : Int) (m5 : Mem), Rn (d + 3) yMo_atomBegins [vi v4] m4 (some v5) m5 ∧ (if v5 = 0 then (B_Mo_operands_130 d x1 x2 0 m5 o s') else (B_Mo_operands_130 d x1 x2 1 m5 o s'))))) else (∃ (v7 : Int) (m7 : Mem), Rn (d + 3) yMo_eat [.ref 58, vi 44] σ (some v7) m7 ∧ (if v7 = 0 then (B_Mo_operands_106 d x1 x2 0 m7 o s') else (B_Mo_operands_106 d x1 x2 44 m7 o s')))
theorem K_Mo_operands_84 {d : Nat} {x1 x2 : Int} {σ s' : Mem} {o : Option Int} (hx1 : rg x1) (hx2 : rg x2) (H : B_Mo_operands_84 d x1 x2 σ o s') : Lb (d + 3) yMo_operands 84 [(0, .ref 58), (1, vi x1), (2, vi x2)] [] σ o s' := by
  intro hM
  unfold B_Mo_operands_84 at H
  refine k_p rfl rfl rfl ?_
  refine k_l rfl rfl rfl ?_
  refine k_l rfl rfl rfl ?_
  refine k_p rfl rfl rfl ?_
  by_cases c1 : x2 ≠ 1
  · rw [if_pos c1] at H
    refine k_c rfl (by decide) hx2 (rgk rfl) (q := true) (decide_eq_true c1) rfl ?_
    refine k_l rfl rfl rfl ?_
    refine k_p rfl rfl rfl ?_
    by_cases c2 : x2 ≠ 5
    · rw [if_pos c2] at H
      refine k_c rfl (by decide) hx2 (rgk rfl) (q := true) (decide_eq_true c2) rfl ?_
      refine k_l rfl rfl rfl ?_
      refine k_l rfl rfl rfl ?_
      refine k_p rfl rfl rfl ?_
      refine k_sub rfl ?_
      obtain ⟨v3, m3, R3, H⟩ := H
      refine k_iv rfl rfl rfl rfl rfl (by decide) rfl hM R3 (fun hM3 hv3 => ?_)
      refine k_l rfl rfl rfl ?_
      exact k_lab (K_Mo_operands_142 hx1 hx2 hv3 H) hM3 (lvS_cons rfl rfl (lvS_cons rfl rfl (lvS_cons rfl rfl (lvS_cons rfl rfl lvS_nil))))
    · rw [if_neg c2] at H
      refine k_c rfl (by decide) hx2 (rgk rfl) (q := false) (decide_eq_false c2) rfl ?_
      refine k_l rfl rfl rfl ?_
      obtain ⟨v4, m4, R4, H⟩ := H
      refine k_iv rfl rfl rfl rfl rfl (by decide) rfl hM R4 (fun hM4 hv4 => ?_)
      obtain ⟨v5, m5, R5, H⟩ := H
      refine k_is rfl (by decide) (Nat.le_of_ble_eq_true rfl) rfl rfl rfl hM4 R5 (fun hM5 hv5 => ?_)
      by_cases c6 : v5 = 0
      · rw [if_pos c6] at H
        refine k_z rfl (by decide) hv5 (q := true) (decide_eq_true c6) rfl ?_
        refine k_p rfl rfl rfl ?_
        exact k_lab (K_Mo_operands_130 hx1 hx2 (rgk rfl) H) hM5 (lvS_cons rfl rfl (lvS_cons rfl rfl (lvS_cons rfl rfl lvS_nil)))
      · rw [if_neg c6] at H
        refine k_z rfl (by decide) hv5 (q := false) (decide_eq_false c6) rfl ?_
        refine k_p rfl rfl rfl ?_
        refine k_b rfl rfl rfl rfl ?_
        exact k_lab (K_Mo_operands_130 hx1 hx2 (rgk rfl) H) hM5 (lvS_cons rfl rfl (lvS_cons rfl rfl (lvS_cons rfl rfl lvS_nil)))
  · rw [if_neg c1] at H
    refine k_c rfl (by decide) hx2 (rgk rfl) (q := false) (decide_eq_false c1) rfl ?_
    refine k_l rfl rfl rfl ?_
    refine k_k (x := 44) rfl rfl rfl rfl ?_
    obtain ⟨v7, m7, R7, H⟩ := H
    refine k_iv rfl rfl rfl rfl rfl (by decide) rfl hM R7 (fun hM7 hv7 => ?_)
    by_cases c8 : v7 = 0
    · rw [if_pos c8] at H
      refine k_z rfl (by decide) hv7 (q := true) (decide_eq_true c8) rfl ?_
      refine k_p rfl rfl rfl ?_
      exact k_lab (K_Mo_operands_106 hx1 hx2 (rgk rfl) H) hM7 (lvS_cons rfl rfl (lvS_cons rfl rfl (lvS_cons rfl rfl lvS_nil)))
    · rw [if_neg c8] at H
      refine k_z rfl (by decide) hv7 (q := false) (decide_eq_false c8) rfl ?_
      refine k_k (x := 44) rfl rfl rfl rfl ?_
      refine k_b rfl rfl rfl rfl ?_
      exact k_lab (K_Mo_operands_106 hx1 hx2 (rgk rfl) H) hM7 (lvS_cons rfl rfl (lvS_cons rfl rfl (lvS_cons rfl rfl lvS_nil)))
def B_Mo_operands_58 (d : Nat) (x1 x2 : Int) (σ : Mem) (o : Option Int) (s' : Mem) : Prop := ((0 : Int) ≤ x1 ∧ x1 < (180 : Int)) ∧ (if σ 71 x1 ≠ 2 then (B_Mo_operands_84 d x1 x2 σ o s') else (if x2 ≥ 3 then (B_Mo_operands_84 d x1 x2 σ o s') else ((rg ((σ 58 21) - 1)) ∧ (o = none ∧ s' = mup σ 58 21 ((σ 58 21) - 1)))))
theorem K_Mo_operands_58 {d : Nat} {x1 x2 : Int} {σ s' : Mem} {o : Option Int} (hx1 : rg x1) (hx2 : rg x2) (H : B_Mo_operands_58 d x1 x2 σ o s') : Lb (d + 3) yMo_operands 58 [(0, .ref 58), (1, vi x1), (2, vi x2)] [] σ o s' := by
  intro hM
  unfold B_Mo_operands_58 at H
  refine k_l rfl rfl rfl ?_
  refine k_gr (t := 71) rfl rfl rfl (by decide) rfl ?_
  refine k_l rfl rfl rfl ?_
  obtain ⟨g1, H⟩ := H
  refine k_al rfl rfl (fun _ => rfl) rfl rfl g1 (by decide) rfl ?_
  refine k_p rfl rfl rfl ?_
  by_cases c2 : σ 71 x1 ≠ 2
  · rw [if_pos c2] at H
    refine k_c rfl (by decide) (hM _ _) (rgk rfl) (q := true) (decide_eq_true c2) rfl ?_
    exact k_lab (K_Mo_operands_84 hx1 hx2 H) hM (lvS_cons rfl rfl (lvS_cons rfl rfl (lvS_cons rfl rfl lvS_nil)))
  · rw [if_neg c2] at H
    refine k_c rfl (by decide) (hM _ _) (rgk rfl) (q := false) (decide_eq_false c2) rfl ?_
    refine k_l rfl rfl rfl ?_
    refine k_p rfl rfl rfl ?_
    by_cases c3 : x2 ≥ 3
    · rw [if_pos c3] at H
      refine k_c rfl (by decide) hx2 (rgk rfl) (q := true) (decide_eq_true c3) rfl ?_
      exact k_lab (K_Mo_operands_84 hx1 hx2 H) hM (lvS_cons rfl rfl (lvS_cons rfl rfl (lvS_cons rfl rfl lvS_nil)))
    · rw [if_neg c3] at H
      refine k_c rfl (by decide) hx2 (rgk rfl) (q := false) (decide_eq_false c3) rfl ?_
      refine k_l rfl rfl rfl ?_
      refine k_p rfl rfl rfl ?_
      refine k_gf rfl rfl rfl (by decide) rfl rfl ?_
      refine k_p rfl rfl rfl ?_
      refine k_sub rfl ?_
      obtain ⟨g4, H⟩ := H
      refine k_pf rfl rfl rfl (by decide) rfl rfl rfl rfl ?_
      obtain ⟨rfl, rfl⟩ := H
      exact k_r0 (hM.up g4) rfl rfl rfl
def B_Mo_operands_48 (d : Nat) (x1 x2 t1 : Int) (σ : Mem) (o : Option Int) (s' : Mem) : Prop := ((0 : Int) ≤ x1 ∧ x1 < (180 : Int)) ∧ (∃ (m2 : Mem), Rn (d + 3) yMo_put [.ref 58, vi t1, vi (σ 72 x1), vi 0] σ none m2 ∧ (B_Mo_operands_58 d x1 x2 m2 o s'))
theorem K_Mo_operands_48 {d : Nat} {x1 x2 t1 : Int} {σ s' : Mem} {o : Option Int} (hx1 : rg x1) (hx2 : rg x2) (ht1 : rg t1) (H : B_Mo_operands_48 d x1 x2 t1 σ o s') : Lb (d + 3) yMo_operands 48 [(0, .ref 58), (1, vi x1), (2, vi x2)] [vi t1, .ref 58] σ o s' := by
  intro hM
  unfold B_Mo_operands_48 at H
  refine k_l rfl rfl rfl ?_
  refine k_gr (t := 72) rfl rfl rfl (by decide) rfl ?_
  refine k_l rfl rfl rfl ?_
  obtain ⟨g1, H⟩ := H
  refine k_al rfl rfl (fun _ => rfl) rfl rfl g1 (by decide) rfl ?_
  refine k_p rfl rfl rfl ?_
  obtain ⟨m2, R2, H⟩ := H
  refine k_iw rfl rfl rfl rfl rfl (by decide) rfl hM R2 (fun hM2 => ?_)
  exact k_lab (K_Mo_operands_58 hx1 hx2 H) hM2 (lvS_cons rfl rfl (lvS_cons rfl rfl (lvS_cons rfl rfl lvS_nil)))
def B_Mo_operands (d : Nat) (x1 : Int) (σ : Mem) (o : Option Int) (s' : Mem) : Prop := ((0 : Int) ≤ x1 ∧ x1 < (180 : Int)) ∧ (((0 : Int) ≤ x1 ∧ x1 < (180 : Int)) ∧ (if σ 71 x1 ≠ 0 then (((0 : Int) ≤ x1 ∧ x1 < (180 : Int)) ∧ (if σ 71 x1 ≠ 2 then (B_Mo_operands_58 d x1 (σ 70 x1) σ o s') else (if σ 70 x1 ≠ 5 then (B_Mo_operands_48 d x1 (σ 70 x1) 9 σ o s') else (B_Mo_operands_48 d x1 (σ 70 x1) 8 σ o s')))) else (∃ (m7 : Mem), Rn (d + 3) yMo_after [.ref 58, vi 1, vi ((σ 70 x1) + 1)] σ none m7 ∧ (o = none ∧ s' = m7))))
theorem M_Mo_operands {d : Nat} {x1 : Int} {σ s' : Mem} {o : Option Int} (hx1 : rg x1) (H : B_Mo_operands d x1 σ o s') : Rn (d + 4) yMo_operands [.ref 58, vi x1] σ o s' := by
  refine k_m (Nat.le_of_ble_eq_true rfl) (fun hM => ?_)
  unfold B_Mo_operands at H
  refine k_l rfl rfl rfl ?_
  refine k_gr (t := 70) rfl rfl rfl (by decide) rfl ?_
  refine k_l rfl rfl rfl ?_
  obtain ⟨g1, H⟩ := H
  refine k_al rfl rfl (fun _ => rfl) rfl rfl g1 (by decide) rfl ?_
  refine k_l rfl rfl rfl ?_
  refine k_l rfl rfl rfl ?_
  refine k_gr (t := 71) rfl rfl rfl (by decide) rfl ?_
  refine k_l rfl rfl rfl ?_
  obtain ⟨g2, H⟩ := H
  refine k_al rfl rfl (fun _ => rfl) rfl rfl g2 (by decide) rfl ?_
  by_cases c3 : σ 71 x1 ≠ 0
  · rw [if_pos c3] at H
    refine k_z rfl (by decide) (hM _ _) (q := true) (decide_eq_true c3) rfl ?_
    refine k_l rfl rfl rfl ?_
    refine k_gr (t := 71) rfl rfl rfl (by decide) rfl ?_
    refine k_l rfl rfl rfl ?_
    obtain ⟨g4, H⟩ := H
    refine k_al rfl rfl (fun _ => rfl) rfl rfl g4 (by decide) rfl ?_
    refine k_p rfl rfl rfl ?_
    by_cases c5 : σ 71 x1 ≠ 2
    · rw [if_pos c5] at H
      refine k_c rfl (by decide) (hM _ _) (rgk rfl) (q := true) (decide_eq_true c5) rfl ?_
      exact k_lab (K_Mo_operands_58 hx1 (hM _ _) H) hM (lvS_cons rfl rfl (lvS_cons rfl rfl (lvS_cons rfl rfl lvS_nil)))
    · rw [if_neg c5] at H
      refine k_c rfl (by decide) (hM _ _) (rgk rfl) (q := false) (decide_eq_false c5) rfl ?_
      refine k_l rfl rfl rfl ?_
      refine k_l rfl rfl rfl ?_
      refine k_p rfl rfl rfl ?_
      by_cases c6 : σ 70 x1 ≠ 5
      · rw [if_pos c6] at H
        refine k_c rfl (by decide) (hM _ _) (rgk rfl) (q := true) (decide_eq_true c6) rfl ?_
        refine k_k (x := 9) rfl rfl rfl rfl ?_
        exact k_lab (K_Mo_operands_48 hx1 (hM _ _) (rgk rfl) H) hM (lvS_cons rfl rfl (lvS_cons rfl rfl (lvS_cons rfl rfl lvS_nil)))
      · rw [if_neg c6] at H
        refine k_c rfl (by decide) (hM _ _) (rgk rfl) (q := false) (decide_eq_false c6) rfl ?_
        refine k_k (x := 8) rfl rfl rfl rfl ?_
        refine k_b rfl rfl rfl rfl ?_
        exact k_lab (K_Mo_operands_48 hx1 (hM _ _) (rgk rfl) H) hM (lvS_cons rfl rfl (lvS_cons rfl rfl (lvS_cons rfl rfl lvS_nil)))
  · rw [if_neg c3] at H
    refine k_z rfl (by decide) (hM _ _) (q := false) (decide_eq_false c3) rfl ?_
    refine k_l rfl rfl rfl ?_
    refine k_p rfl rfl rfl ?_
    refine k_l rfl rfl rfl ?_
    refine k_p rfl rfl rfl ?_
    refine k_add rfl ?_
    obtain ⟨m7, R7, H⟩ := H
    refine k_iw rfl rfl rfl rfl rfl (by decide) rfl hM R7 (fun hM7 => ?_)
    obtain ⟨rfl, rfl⟩ := H
    exact k_r0 hM7 rfl rfl rfl
def B_Mo_reads (d : Nat) (σ : Mem) (o : Option Int) (s' : Mem) : Prop := ∃ (m1 : Mem), Rn (d + 3) yMo_begin [.ref 58, vi 0] (mup (mup (mup (mup (mup (mup σ 58 3 0) 58 7 0) 58 14 0) 58 21 0) 58 22 0) 58 24 0) none m1 ∧ (Lb (d + 3) yMo_reads 35 [(0, .ref 58)] [] m1 o s')
theorem M_Mo_reads {d : Nat} {σ s' : Mem} {o : Option Int}  (H : B_Mo_reads d  σ o s') : Rn (d + 4) yMo_reads [.ref 58] σ o s' := by
  refine k_m (Nat.le_of_ble_eq_true rfl) (fun hM => ?_)
  unfold B_Mo_reads at H
  refine k_l rfl rfl rfl ?_
  refine k_p rfl rfl rfl ?_
  refine k_pf rfl rfl rfl (by decide) rfl rfl rfl rfl ?_
  refine k_l rfl rfl rfl ?_
  refine k_p rfl rfl rfl ?_
  refine k_pf rfl rfl rfl (by decide) rfl rfl rfl rfl ?_
  refine k_l rfl rfl rfl ?_
  refine k_p rfl rfl rfl ?_
  refine k_pf rfl rfl rfl (by decide) rfl rfl rfl rfl ?_
  refine k_l rfl rfl rfl ?_
  refine k_p rfl rfl rfl ?_
  refine k_pf rfl rfl rfl (by decide) rfl rfl rfl rfl ?_
  refine k_l rfl rfl rfl ?_
  refine k_p rfl rfl rfl ?_
  refine k_pf rfl rfl rfl (by decide) rfl rfl rfl rfl ?_
  refine k_l rfl rfl rfl ?_
  refine k_p rfl rfl rfl ?_
  refine k_pf rfl rfl rfl (by decide) rfl rfl rfl rfl ?_
  refine k_l rfl rfl rfl ?_
  refine k_p rfl rfl rfl ?_
  obtain ⟨m1, R1, H⟩ := H
  refine k_iw rfl rfl rfl rfl rfl (by decide) rfl ((((((hM.up (rgk rfl)).up (rgk rfl)).up (rgk rfl)).up (rgk rfl)).up (rgk rfl)).up (rgk rfl)) R1 (fun hM1 => ?_)
  exact k_lab H hM1 (lvS_cons rfl rfl lvS_nil)
def B_Mo_reads_146 (d : Nat) (σ : Mem) (o : Option Int) (s' : Mem) : Prop := if σ 58 24 ≠ 0 then (o = some 0 ∧ s' = σ) else (∃ (v2 : Int) (m2 : Mem), Rn (d + 3) yMo_peek [.ref 58] σ (some v2) m2 ∧ (if v2 ≠ 10 then (o = some 0 ∧ s' = m2) else (if m2 58 3 < m2 58 2 then (o = some 0 ∧ s' = m2) else (o = some 1 ∧ s' = m2))))
theorem K_Mo_reads_146 {d : Nat} {σ s' : Mem} {o : Option Int}  (H : B_Mo_reads_146 d  σ o s') : Lb (d + 3) yMo_reads 146 [(0, .ref 58)] [] σ o s' := by
  intro hM
  unfold B_Mo_reads_146 at H
  refine k_l rfl rfl rfl ?_
  refine k_gf rfl rfl rfl (by decide) rfl rfl ?_
  by_cases c1 : σ 58 24 ≠ 0
  · rw [if_pos c1] at H
    refine k_z rfl (by decide) (hM _ _) (q := true) (decide_eq_true c1) rfl ?_
    refine k_p rfl rfl rfl ?_
    obtain ⟨rfl, rfl⟩ := H
    exact k_r1 hM (rgk rfl) rfl rfl rfl
  · rw [if_neg c1] at H
    refine k_z rfl (by decide) (hM _ _) (q := false) (decide_eq_false c1) rfl ?_
    refine k_l rfl rfl rfl ?_
    obtain ⟨v2, m2, R2, H⟩ := H
    refine k_iv rfl rfl rfl rfl rfl (by decide) rfl hM R2 (fun hM2 hv2 => ?_)
    refine k_k (x := 10) rfl rfl rfl rfl ?_
    by_cases c3 : v2 ≠ 10
    · rw [if_pos c3] at H
      refine k_c rfl (by decide) hv2 (rgk rfl) (q := true) (decide_eq_true c3) rfl ?_
      refine k_p rfl rfl rfl ?_
      obtain ⟨rfl, rfl⟩ := H
      exact k_r1 hM2 (rgk rfl) rfl rfl rfl
    · rw [if_neg c3] at H
      refine k_c rfl (by decide) hv2 (rgk rfl) (q := false) (decide_eq_false c3) rfl ?_
      refine k_l rfl rfl rfl ?_
      refine k_gf rfl rfl rfl (by decide) rfl rfl ?_
      refine k_l rfl rfl rfl ?_
      refine k_gf rfl rfl rfl (by decide) rfl rfl ?_
      by_cases c4 : m2 58 3 < m2 58 2
      · rw [if_pos c4] at H
        refine k_c rfl (by decide) (hM2 _ _) (hM2 _ _) (q := true) (decide_eq_true c4) rfl ?_
        refine k_p rfl rfl rfl ?_
        obtain ⟨rfl, rfl⟩ := H
        exact k_r1 hM2 (rgk rfl) rfl rfl rfl
      · rw [if_neg c4] at H
        refine k_c rfl (by decide) (hM2 _ _) (hM2 _ _) (q := false) (decide_eq_false c4) rfl ?_
        refine k_p rfl rfl rfl ?_
        refine k_b rfl rfl rfl rfl ?_
        obtain ⟨rfl, rfl⟩ := H
        exact k_r1 hM2 (rgk rfl) rfl rfl rfl
def B_Mo_reads_143 (d : Nat) (σ : Mem) (o : Option Int) (s' : Mem) : Prop := Lb (d + 3) yMo_reads 35 [(0, .ref 58)] [] σ o s'
theorem K_Mo_reads_143 {d : Nat} {σ s' : Mem} {o : Option Int}  (H : B_Mo_reads_143 d  σ o s') : Lb (d + 3) yMo_reads 143 [(0, .ref 58)] [] σ o s' := by
  intro hM
  unfold B_Mo_reads_143 at H
  refine k_b rfl rfl rfl rfl ?_
  exact k_lab H hM (lvS_cons rfl rfl lvS_nil)
def B_Mo_reads_84 (d : Nat) (x1 x2 : Int) (σ : Mem) (o : Option Int) (s' : Mem) : Prop := if x2 ≠ 0 then (if x2 ≥ 6 then (if x2 ≠ 6 then (if x2 ≠ 7 then (∃ (m5 : Mem), Rn (d + 3) yMo_part [.ref 58, vi x1] σ none m5 ∧ (B_Mo_reads_143 d  m5 o s')) else (∃ (m6 : Mem), Rn (d + 3) yMo_pattern [.ref 58, vi x1] σ none m6 ∧ (B_Mo_reads_143 d  m6 o s'))) else (∃ (m7 : Mem), Rn (d + 3) yMo_atom [.ref 58, vi x1] σ none m7 ∧ (B_Mo_reads_143 d  m7 o s'))) else (∃ (m8 : Mem), Rn (d + 3) yMo_operands [.ref 58, vi x1] σ none m8 ∧ (B_Mo_reads_143 d  m8 o s'))) else (∃ (m9 : Mem), Rn (d + 3) yMo_exprGoesOn [.ref 58, vi x1] σ none m9 ∧ (B_Mo_reads_143 d  m9 o s'))
theorem K_Mo_reads_84 {d : Nat} {x1 x2 : Int} {σ s' : Mem} {o : Option Int} (hx1 : rg x1) (hx2 : rg x2) (H : B_Mo_reads_84 d x1 x2 σ o s') : Lb (d + 3) yMo_reads 84 [(0, .ref 58), (1, vi x1), (2, vi x2)] [] σ o s' := by
  intro hM
  unfold B_Mo_reads_84 at H
  refine k_l rfl rfl rfl ?_
  by_cases c1 : x2 ≠ 0
  · rw [if_pos c1] at H
    refine k_z rfl (by decide) hx2 (q := true) (decide_eq_true c1) rfl ?_
    refine k_l rfl rfl rfl ?_
    refine k_k (x := 6) rfl rfl rfl rfl ?_
    by_cases c2 : x2 ≥ 6
    · rw [if_pos c2] at H
      refine k_c rfl (by decide) hx2 (rgk rfl) (q := true) (decide_eq_true c2) rfl ?_
      refine k_l rfl rfl rfl ?_
      refine k_k (x := 6) rfl rfl rfl rfl ?_
      by_cases c3 : x2 ≠ 6
      · rw [if_pos c3] at H
        refine k_c rfl (by decide) hx2 (rgk rfl) (q := true) (decide_eq_true c3) rfl ?_
        refine k_l rfl rfl rfl ?_
        refine k_k (x := 7) rfl rfl rfl rfl ?_
        by_cases c4 : x2 ≠ 7
        · rw [if_pos c4] at H
          refine k_c rfl (by decide) hx2 (rgk rfl) (q := true) (decide_eq_true c4) rfl ?_
          refine k_l rfl rfl rfl ?_
          refine k_l rfl rfl rfl ?_
          obtain ⟨m5, R5, H⟩ := H
          refine k_iw rfl rfl rfl rfl rfl (by decide) rfl hM R5 (fun hM5 => ?_)
          exact k_lab (K_Mo_reads_143  H) hM5 (lvS_cons rfl rfl lvS_nil)
        · rw [if_neg c4] at H
          refine k_c rfl (by decide) hx2 (rgk rfl) (q := false) (decide_eq_false c4) rfl ?_
          refine k_l rfl rfl rfl ?_
          refine k_l rfl rfl rfl ?_
          obtain ⟨m6, R6, H⟩ := H
          refine k_iw rfl rfl rfl rfl rfl (by decide) rfl hM R6 (fun hM6 => ?_)
          refine k_b rfl rfl rfl rfl ?_
          exact k_lab (K_Mo_reads_143  H) hM6 (lvS_cons rfl rfl lvS_nil)
      · rw [if_neg c3] at H
        refine k_c rfl (by decide) hx2 (rgk rfl) (q := false) (decide_eq_false c3) rfl ?_
        refine k_l rfl rfl rfl ?_
        refine k_l rfl rfl rfl ?_
        obtain ⟨m7, R7, H⟩ := H
        refine k_iw rfl rfl rfl rfl rfl (by decide) rfl hM R7 (fun hM7 => ?_)
        refine k_b rfl rfl rfl rfl ?_
        exact k_lab (K_Mo_reads_143  H) hM7 (lvS_cons rfl rfl lvS_nil)
    · rw [if_neg c2] at H
      refine k_c rfl (by decide) hx2 (rgk rfl) (q := false) (decide_eq_false c2) rfl ?_
      refine k_l rfl rfl rfl ?_
      refine k_l rfl rfl rfl ?_
      obtain ⟨m8, R8, H⟩ := H
      refine k_iw rfl rfl rfl rfl rfl (by decide) rfl hM R8 (fun hM8 => ?_)
      refine k_b rfl rfl rfl rfl ?_
      exact k_lab (K_Mo_reads_143  H) hM8 (lvS_cons rfl rfl lvS_nil)
  · rw [if_neg c1] at H
    refine k_z rfl (by decide) hx2 (q := false) (decide_eq_false c1) rfl ?_
    refine k_l rfl rfl rfl ?_
    refine k_l rfl rfl rfl ?_
    obtain ⟨m9, R9, H⟩ := H
    refine k_iw rfl rfl rfl rfl rfl (by decide) rfl hM R9 (fun hM9 => ?_)
    refine k_b rfl rfl rfl rfl ?_
    exact k_lab (K_Mo_reads_143  H) hM9 (lvS_cons rfl rfl lvS_nil)
def B_Mo_reads_35 (d : Nat) (σ : Mem) (o : Option Int) (s' : Mem) : Prop := if σ 58 21 ≤ 0 then (B_Mo_reads_146 d  σ o s') else (if σ 58 24 ≠ 0 then (B_Mo_reads_146 d  σ o s') else (((0 : Int) ≤ (σ 58 21) - 1 ∧ (σ 58 21) - 1 < (180 : Int)) ∧ (if σ 70 ((σ 58 21) - 1) ≠ 0 then ((rg ((σ 58 21) - 1)) ∧ (B_Mo_reads_84 d ((σ 58 21) - 1) (σ 70 ((σ 58 21) - 1)) σ o s')) else (((0 : Int) ≤ (σ 58 21) - 1 ∧ (σ 58 21) - 1 < (180 : Int)) ∧ (if σ 71 ((σ 58 21) - 1) ≠ 0 then ((rg ((σ 58 21) - 1)) ∧ (B_Mo_reads_84 d ((σ 58 21) - 1) (σ 70 ((σ 58 21) - 1)) σ o s')) else (∃ (m9 : Mem), Rn (d + 3) yMo_exprBegins [.ref 58, vi ((σ 58 21) - 1)] σ none m9 ∧ (B_Mo_reads_143 d  m9 o s')))))))
theorem K_Mo_reads_35 {d : Nat} {σ s' : Mem} {o : Option Int}  (H : B_Mo_reads_35 d  σ o s') : Lb (d + 3) yMo_reads 35 [(0, .ref 58)] [] σ o s' := by
  intro hM
  unfold B_Mo_reads_35 at H
  refine k_l rfl rfl rfl ?_
  refine k_gf rfl rfl rfl (by decide) rfl rfl ?_
  by_cases c1 : σ 58 21 ≤ 0
  · rw [if_pos c1] at H
    refine k_z rfl (by decide) (hM _ _) (q := true) (decide_eq_true c1) rfl ?_
    exact k_lab (K_Mo_reads_146  H) hM (lvS_cons rfl rfl lvS_nil)
  · rw [if_neg c1] at H
    refine k_z rfl (by decide) (hM _ _) (q := false) (decide_eq_false c1) rfl ?_
    refine k_l rfl rfl rfl ?_
    refine k_gf rfl rfl rfl (by decide) rfl rfl ?_
    by_cases c2 : σ 58 24 ≠ 0
    · rw [if_pos c2] at H
      refine k_z rfl (by decide) (hM _ _) (q := true) (decide_eq_true c2) rfl ?_
      exact k_lab (K_Mo_reads_146  H) hM (lvS_cons rfl rfl lvS_nil)
    · rw [if_neg c2] at H
      refine k_z rfl (by decide) (hM _ _) (q := false) (decide_eq_false c2) rfl ?_
      refine k_l rfl rfl rfl ?_
      refine k_gf rfl rfl rfl (by decide) rfl rfl ?_
      refine k_p rfl rfl rfl ?_
      refine k_sub rfl ?_
      refine k_l rfl rfl rfl ?_
      refine k_l rfl rfl rfl ?_
      refine k_gr (t := 70) rfl rfl rfl (by decide) rfl ?_
      refine k_l rfl rfl rfl ?_
      obtain ⟨g3, H⟩ := H
      refine k_al rfl rfl (fun _ => rfl) rfl rfl g3 (by decide) rfl ?_
      refine k_l rfl rfl rfl ?_
      refine k_l rfl rfl rfl ?_
      by_cases c4 : σ 70 ((σ 58 21) - 1) ≠ 0
      · rw [if_pos c4] at H
        refine k_z rfl (by decide) (hM _ _) (q := true) (decide_eq_true c4) rfl ?_
        obtain ⟨g5, H⟩ := H
        exact k_lab (K_Mo_reads_84 g5 (hM _ _) H) hM (lvS_cons rfl rfl (lvS_cons rfl rfl (lvS_cons rfl rfl lvS_nil)))
      · rw [if_neg c4] at H
        refine k_z rfl (by decide) (hM _ _) (q := false) (decide_eq_false c4) rfl ?_
        refine k_l rfl rfl rfl ?_
        refine k_gr (t := 71) rfl rfl rfl (by decide) rfl ?_
        refine k_l rfl rfl rfl ?_
        obtain ⟨g6, H⟩ := H
        refine k_al rfl rfl (fun _ => rfl) rfl rfl g6 (by decide) rfl ?_
        by_cases c7 : σ 71 ((σ 58 21) - 1) ≠ 0
        · rw [if_pos c7] at H
          refine k_z rfl (by decide) (hM _ _) (q := true) (decide_eq_true c7) rfl ?_
          obtain ⟨g8, H⟩ := H
          exact k_lab (K_Mo_reads_84 g8 (hM _ _) H) hM (lvS_cons rfl rfl (lvS_cons rfl rfl (lvS_cons rfl rfl lvS_nil)))
        · rw [if_neg c7] at H
          refine k_z rfl (by decide) (hM _ _) (q := false) (decide_eq_false c7) rfl ?_
          refine k_l rfl rfl rfl ?_
          refine k_l rfl rfl rfl ?_
          obtain ⟨m9, R9, H⟩ := H
          refine k_iw rfl rfl rfl rfl rfl (by decide) rfl hM R9 (fun hM9 => ?_)
          refine k_b rfl rfl rfl rfl ?_
          exact k_lab (K_Mo_reads_143  H) hM9 (lvS_cons rfl rfl lvS_nil)
def B_Mo_bind (d : Nat) (x1 x2 : Int) (σ : Mem) (o : Option Int) (s' : Mem) : Prop := ((0 : Int) ≤ σ 58 30 ∧ σ 58 30 < (64 : Int)) ∧ (((0 : Int) ≤ σ 58 30 ∧ σ 58 30 < (64 : Int)) ∧ (((0 : Int) ≤ σ 58 30 ∧ σ 58 30 < (64 : Int)) ∧ ((rg ((σ 58 30) + 1)) ∧ (o = none ∧ s' = mup (mup (mup (mup σ 76 (σ 58 30) x1) 77 (σ 58 30) x2) 78 (σ 58 30) 0) 58 30 ((σ 58 30) + 1)))))
theorem M_Mo_bind {d : Nat} {x1 x2 : Int} {σ s' : Mem} {o : Option Int} (hx1 : rg x1) (hx2 : rg x2) (H : B_Mo_bind d x1 x2 σ o s') : Rn (d + 4) yMo_bind [.ref 58, vi x1, vi x2] σ o s' := by
  refine k_m (Nat.le_of_ble_eq_true rfl) (fun hM => ?_)
  unfold B_Mo_bind at H
  refine k_l rfl rfl rfl ?_
  refine k_gr (t := 76) rfl rfl rfl (by decide) rfl ?_
  refine k_l rfl rfl rfl ?_
  refine k_gf rfl rfl rfl (by decide) rfl rfl ?_
  refine k_l rfl rfl rfl ?_
  obtain ⟨g1, H⟩ := H
  refine k_as (ok := isI) rfl rfl (fun _ => rfl) rfl rfl g1 (by decide) rfl ?_
  refine k_l rfl rfl rfl ?_
  refine k_gr (t := 77) rfl rfl rfl (by decide) rfl ?_
  refine k_l rfl rfl rfl ?_
  refine k_gf rfl rfl rfl (by decide) rfl (mup_ne (by decide)) ?_
  refine k_l rfl rfl rfl ?_
  obtain ⟨g2, H⟩ := H
  refine k_as (ok := isI) rfl rfl (fun _ => rfl) rfl rfl g2 (by decide) rfl ?_
  refine k_l rfl rfl rfl ?_
  refine k_gr (t := 78) rfl rfl rfl (by decide) rfl ?_
  refine k_l rfl rfl rfl ?_
  refine k_gf rfl rfl rfl (by decide) rfl ((mup_ne (by decide)).trans (mup_ne (by decide))) ?_
  refine k_p rfl rfl rfl ?_
  obtain ⟨g3, H⟩ := H
  refine k_as (ok := (fun v => fits .boolean v)) rfl rfl (fun _ => rfl) rfl rfl g3 (by decide) rfl ?_
  refine k_l rfl rfl rfl ?_
  refine k_p rfl rfl rfl ?_
  refine k_gf rfl rfl rfl (by decide) rfl ((mup_ne (by decide)).trans ((mup_ne (by decide)).trans (mup_ne (by decide)))) ?_
  refine k_p rfl rfl rfl ?_
  refine k_add rfl ?_
  obtain ⟨g4, H⟩ := H
  refine k_pf rfl rfl rfl (by decide) rfl rfl rfl rfl ?_
  obtain ⟨rfl, rfl⟩ := H
  exact k_r0 ((((hM.up hx1).up hx2).up (rgk rfl)).up g4) rfl rfl rfl
def B_Mo_bindPattern (d : Nat) (x1 : Int) (σ : Mem) (o : Option Int) (s' : Mem) : Prop := ((0 : Int) ≤ x1 ∧ x1 < (124 : Int)) ∧ (Lb (d + 3) yMo_bindPattern 7 [(0, .ref 58), (1, vi x1), (2, vi (σ 61 x1))] [] σ o s')
theorem M_Mo_bindPattern {d : Nat} {x1 : Int} {σ s' : Mem} {o : Option Int} (hx1 : rg x1) (H : B_Mo_bindPattern d x1 σ o s') : Rn (d + 4) yMo_bindPattern [.ref 58, vi x1] σ o s' := by
  refine k_m (Nat.le_of_ble_eq_true rfl) (fun hM => ?_)
  unfold B_Mo_bindPattern at H
  refine k_l rfl rfl rfl ?_
  refine k_gr (t := 61) rfl rfl rfl (by decide) rfl ?_
  refine k_l rfl rfl rfl ?_
  obtain ⟨g1, H⟩ := H
  refine k_al rfl rfl (fun _ => rfl) rfl rfl g1 (by decide) rfl ?_
  refine k_l rfl rfl rfl ?_
  exact k_lab H hM (lvS_cons rfl rfl (lvS_cons rfl rfl (lvS_cons rfl rfl lvS_nil)))
def B_Mo_bindPattern_47 (d : Nat) (x1 x2 : Int) (σ : Mem) (o : Option Int) (s' : Mem) : Prop := (rg (x2 + 1)) ∧ (Lb (d + 3) yMo_bindPattern 7 [(0, .ref 58), (1, vi x1), (2, vi (x2 + 1))] [] σ o s')
theorem K_Mo_bindPattern_47 {d : Nat} {x1 x2 : Int} {σ s' : Mem} {o : Option Int} (hx1 : rg x1) (hx2 : rg x2) (H : B_Mo_bindPattern_47 d x1 x2 σ o s') : Lb (d + 3) yMo_bindPattern 47 [(0, .ref 58), (1, vi x1), (2, vi x2)] [] σ o s' := by
  intro hM
  unfold B_Mo_bindPattern_47 at H
  refine k_inc rfl rfl (by decide) ?_
  refine k_b rfl rfl rfl rfl ?_
  obtain ⟨g1, H⟩ := H
  exact k_lab H hM (lvS_cons rfl rfl (lvS_cons rfl rfl (lvS_cons rfl rfl lvS_nil)))
def B_Mo_bindPattern_7 (d : Nat) (x1 x2 : Int) (σ : Mem) (o : Option Int) (s' : Mem) : Prop := ((0 : Int) ≤ x1 ∧ x1 < (124 : Int)) ∧ (if x2 ≥ σ 62 x1 then (o = none ∧ s' = σ) else (((0 : Int) ≤ x2 ∧ x2 < (80 : Int)) ∧ (if σ 66 x2 ≠ 1 then (B_Mo_bindPattern_47 d x1 x2 σ o s') else (((0 : Int) ≤ x2 ∧ x2 < (80 : Int)) ∧ (if σ 67 x2 ≤ 0 then (B_Mo_bindPattern_47 d x1 x2 σ o s') else (((0 : Int) ≤ x2 ∧ x2 < (80 : Int)) ∧ (∃ (m8 : Mem), Rn (d + 3) yMo_bind [.ref 58, vi (σ 67 x2), vi 0] σ none m8 ∧ (B_Mo_bindPattern_47 d x1 x2 m8 o s'))))))))
theorem K_Mo_bindPattern_7 {d : Nat} {x1 x2 : Int} {σ s' : Mem} {o : Option Int} (hx1 : rg x1) (hx2 : rg x2) (H : B_Mo_bindPattern_7 d x1 x2 σ o s') : Lb (d + 3) yMo_bindPattern 7 [(0, .ref 58), (1, vi x1), (2, vi x2)] [] σ o s' := by
  intro hM
  unfold B_Mo_bindPattern_7 at H
  refine k_l rfl rfl rfl ?_
  refine k_l rfl rfl rfl ?_
  refine k_gr (t := 62) rfl rfl rfl (by decide) rfl ?_
  refine k_l rfl rfl rfl ?_
  obtain ⟨g1, H⟩ := H
  refine k_al rfl rfl (fun _ => rfl) rfl rfl g1 (by decide) rfl ?_
  by_cases c2 : x2 ≥ σ 62 x1
  · rw [if_pos c2] at H
    refine k_c rfl (by decide) hx2 (hM _ _) (q := true) (decide_eq_true c2) rfl ?_
    obtain ⟨rfl, rfl⟩ := H
    exact k_r0 hM rfl rfl rfl
  · rw [if_neg c2] at H
    refine k_c rfl (by decide) hx2 (hM _ _) (q := false) (decide_eq_false c2) rfl ?_
    refine k_l rfl rfl rfl ?_
    refine k_gr (t := 66) rfl rfl rfl (by decide) rfl ?_
    refine k_l rfl rfl rfl ?_
    obtain ⟨g3, H⟩ := H
    refine k_al rfl rfl (fun _ => rfl) rfl rfl g3 (by decide) rfl ?_
    refine k_p rfl rfl rfl ?_
    by_cases c4 : σ 66 x2 ≠ 1
    · rw [if_pos c4] at H
      refine k_c rfl (by decide) (hM _ _) (rgk rfl) (q := true) (decide_eq_true c4) rfl ?_
      exact k_lab (K_Mo_bindPattern_47 hx1 hx2 H) hM (lvS_cons rfl rfl (lvS_cons rfl rfl (lvS_cons rfl rfl lvS_nil)))
    · rw [if_neg c4] at H
      refine k_c rfl (by decide) (hM _ _) (rgk rfl) (q := false) (decide_eq_false c4) rfl ?_
      refine k_l rfl rfl rfl ?_
      refine k_gr (t := 67) rfl rfl rfl (by decide) rfl ?_
      refine k_l rfl rfl rfl ?_
      obtain ⟨g5, H⟩ := H
      refine k_al rfl rfl (fun _ => rfl) rfl rfl g5 (by decide) rfl ?_
      by_cases c6 : σ 67 x2 ≤ 0
      · rw [if_pos c6] at H
        refine k_z rfl (by decide) (hM _ _) (q := true) (decide_eq_true c6) rfl ?_
        exact k_lab (K_Mo_bindPattern_47 hx1 hx2 H) hM (lvS_cons rfl rfl (lvS_cons rfl rfl (lvS_cons rfl rfl lvS_nil)))
      · rw [if_neg c6] at H
        refine k_z rfl (by decide) (hM _ _) (q := false) (decide_eq_false c6) rfl ?_
        refine k_l rfl rfl rfl ?_
        refine k_l rfl rfl rfl ?_
        refine k_gr (t := 67) rfl rfl rfl (by decide) rfl ?_
        refine k_l rfl rfl rfl ?_
        obtain ⟨g7, H⟩ := H
        refine k_al rfl rfl (fun _ => rfl) rfl rfl g7 (by decide) rfl ?_
        refine k_p rfl rfl rfl ?_
        obtain ⟨m8, R8, H⟩ := H
        refine k_iw rfl rfl rfl rfl rfl (by decide) rfl hM R8 (fun hM8 => ?_)
        exact k_lab (K_Mo_bindPattern_47 hx1 hx2 H) hM8 (lvS_cons rfl rfl (lvS_cons rfl rfl (lvS_cons rfl rfl lvS_nil)))
def B_Mo_scope_78 (d : Nat) (t1 t2 : Int) (σ : Mem) (o : Option Int) (s' : Mem) : Prop := (rg (t1 - t2)) ∧ (o = none ∧ s' = mup σ 58 30 (t1 - t2))
theorem K_Mo_scope_78 {d : Nat} {t1 t2 : Int} {σ s' : Mem} {o : Option Int} (ht1 : rg t1) (ht2 : rg t2) (H : B_Mo_scope_78 d t1 t2 σ o s') : Lb (d + 3) yMo_scope 78 [] [vi t2, vi t1, .ref 58] σ o s' := by
  intro hM
  unfold B_Mo_scope_78 at H
  refine k_sub rfl ?_
  obtain ⟨g1, H⟩ := H
  refine k_pf rfl rfl rfl (by decide) rfl rfl rfl rfl ?_
  obtain ⟨rfl, rfl⟩ := H
  exact k_r0 (hM.up g1) rfl rfl rfl
def B_Mo_scope_47 (d : Nat) (x1 x2 : Int) (σ : Mem) (o : Option Int) (s' : Mem) : Prop := if x2 ≠ 7 then (if x2 ≠ 12 then (B_Mo_scope_78 d (σ 58 30) 0 σ o s') else (((0 : Int) ≤ x1 ∧ x1 < (124 : Int)) ∧ (B_Mo_scope_78 d (σ 58 30) (σ 61 x1) σ o s'))) else (B_Mo_scope_78 d (σ 58 30) 1 σ o s')
theorem K_Mo_scope_47 {d : Nat} {x1 x2 : Int} {σ s' : Mem} {o : Option Int} (hx1 : rg x1) (hx2 : rg x2) (H : B_Mo_scope_47 d x1 x2 σ o s') : Lb (d + 3) yMo_scope 47 [(0, .ref 58), (1, vi x1), (2, vi x2)] [] σ o s' := by
  intro hM
  unfold B_Mo_scope_47 at H
  refine k_l rfl rfl rfl ?_
  refine k_p rfl rfl rfl ?_
  refine k_gf rfl rfl rfl (by decide) rfl rfl ?_
  refine k_l rfl rfl rfl ?_
  refine k_k (x := 7) rfl rfl rfl rfl ?_
  by_cases c1 : x2 ≠ 7
  · rw [if_pos c1] at H
    refine k_c rfl (by decide) hx2 (rgk rfl) (q := true) (decide_eq_true c1) rfl ?_
    refine k_l rfl rfl rfl ?_
    refine k_k (x := 12) rfl rfl rfl rfl ?_
    by_cases c2 : x2 ≠ 12
    · rw [if_pos c2] at H
      refine k_c rfl (by decide) hx2 (rgk rfl) (q := true) (decide_eq_true c2) rfl ?_
      refine k_p rfl rfl rfl ?_
      exact k_lab (K_Mo_scope_78 (hM _ _) (rgk rfl) H) hM lvS_nil
    · rw [if_neg c2] at H
      refine k_c rfl (by decide) hx2 (rgk rfl) (q := false) (decide_eq_false c2) rfl ?_
      refine k_l rfl rfl rfl ?_
      refine k_gr (t := 61) rfl rfl rfl (by decide) rfl ?_
      refine k_l rfl rfl rfl ?_
      obtain ⟨g3, H⟩ := H
      refine k_al rfl rfl (fun _ => rfl) rfl rfl g3 (by decide) rfl ?_
      refine k_b rfl rfl rfl rfl ?_
      exact k_lab (K_Mo_scope_78 (hM _ _) (hM _ _) H) hM lvS_nil
  · rw [if_neg c1] at H
    refine k_c rfl (by decide) hx2 (rgk rfl) (q := false) (decide_eq_false c1) rfl ?_
    refine k_p rfl rfl rfl ?_
    refine k_b rfl rfl rfl rfl ?_
    exact k_lab (K_Mo_scope_78 (hM _ _) (rgk rfl) H) hM lvS_nil
def B_Mo_scope_36 (d : Nat) (x1 x2 : Int) (σ : Mem) (o : Option Int) (s' : Mem) : Prop := if x2 ≠ 16 then (B_Mo_scope_47 d x1 x2 σ o s') else (∃ (m2 : Mem), Rn (d + 3) yMo_bindPattern [.ref 58, vi x1] σ none m2 ∧ (B_Mo_scope_47 d x1 x2 m2 o s'))
theorem K_Mo_scope_36 {d : Nat} {x1 x2 : Int} {σ s' : Mem} {o : Option Int} (hx1 : rg x1) (hx2 : rg x2) (H : B_Mo_scope_36 d x1 x2 σ o s') : Lb (d + 3) yMo_scope 36 [(0, .ref 58), (1, vi x1), (2, vi x2)] [] σ o s' := by
  intro hM
  unfold B_Mo_scope_36 at H
  refine k_l rfl rfl rfl ?_
  refine k_k (x := 16) rfl rfl rfl rfl ?_
  by_cases c1 : x2 ≠ 16
  · rw [if_pos c1] at H
    refine k_c rfl (by decide) hx2 (rgk rfl) (q := true) (decide_eq_true c1) rfl ?_
    exact k_lab (K_Mo_scope_47 hx1 hx2 H) hM (lvS_cons rfl rfl (lvS_cons rfl rfl (lvS_cons rfl rfl lvS_nil)))
  · rw [if_neg c1] at H
    refine k_c rfl (by decide) hx2 (rgk rfl) (q := false) (decide_eq_false c1) rfl ?_
    refine k_l rfl rfl rfl ?_
    refine k_l rfl rfl rfl ?_
    obtain ⟨m2, R2, H⟩ := H
    refine k_iw rfl rfl rfl rfl rfl (by decide) rfl hM R2 (fun hM2 => ?_)
    exact k_lab (K_Mo_scope_47 hx1 hx2 H) hM2 (lvS_cons rfl rfl (lvS_cons rfl rfl (lvS_cons rfl rfl lvS_nil)))
def B_Mo_scope_25 (d : Nat) (x1 x2 : Int) (σ : Mem) (o : Option Int) (s' : Mem) : Prop := ((0 : Int) ≤ x1 ∧ x1 < (124 : Int)) ∧ (∃ (m2 : Mem), Rn (d + 3) yMo_bind [.ref 58, vi (σ 62 x1), vi 0] σ none m2 ∧ (B_Mo_scope_36 d x1 x2 m2 o s'))
theorem K_Mo_scope_25 {d : Nat} {x1 x2 : Int} {σ s' : Mem} {o : Option Int} (hx1 : rg x1) (hx2 : rg x2) (H : B_Mo_scope_25 d x1 x2 σ o s') : Lb (d + 3) yMo_scope 25 [(0, .ref 58), (1, vi x1), (2, vi x2)] [] σ o s' := by
  intro hM
  unfold B_Mo_scope_25 at H
  refine k_l rfl rfl rfl ?_
  refine k_l rfl rfl rfl ?_
  refine k_gr (t := 62) rfl rfl rfl (by decide) rfl ?_
  refine k_l rfl rfl rfl ?_
  obtain ⟨g1, H⟩ := H
  refine k_al rfl rfl (fun _ => rfl) rfl rfl g1 (by decide) rfl ?_
  refine k_p rfl rfl rfl ?_
  obtain ⟨m2, R2, H⟩ := H
  refine k_iw rfl rfl rfl rfl rfl (by decide) rfl hM R2 (fun hM2 => ?_)
  exact k_lab (K_Mo_scope_36 hx1 hx2 H) hM2 (lvS_cons rfl rfl (lvS_cons rfl rfl (lvS_cons rfl rfl lvS_nil)))
def B_Mo_scope (d : Nat) (x1 : Int) (σ : Mem) (o : Option Int) (s' : Mem) : Prop := ((0 : Int) ≤ x1 ∧ x1 < (124 : Int)) ∧ (if σ 60 x1 = 6 then (B_Mo_scope_25 d x1 (σ 60 x1) σ o s') else (if σ 60 x1 = 10 then (B_Mo_scope_25 d x1 (σ 60 x1) σ o s') else (if σ 60 x1 ≠ 19 then (B_Mo_scope_36 d x1 (σ 60 x1) σ o s') else (B_Mo_scope_25 d x1 (σ 60 x1) σ o s'))))
theorem M_Mo_scope {d : Nat} {x1 : Int} {σ s' : Mem} {o : Option Int} (hx1 : rg x1) (H : B_Mo_scope d x1 σ o s') : Rn (d + 4) yMo_scope [.ref 58, vi x1] σ o s' := by
  refine k_m (Nat.le_of_ble_eq_true rfl) (fun hM => ?_)
  unfold B_Mo_scope at H
  refine k_l rfl rfl rfl ?_
  refine k_gr (t := 60) rfl rfl rfl (by decide) rfl ?_
  refine k_l rfl rfl rfl ?_
  obtain ⟨g1, H⟩ := H
  refine k_al rfl rfl (fun _ => rfl) rfl rfl g1 (by decide) rfl ?_
  refine k_l rfl rfl rfl ?_
  refine k_l rfl rfl rfl ?_
  refine k_k (x := 6) rfl rfl rfl rfl ?_
  by_cases c2 : σ 60 x1 = 6
  · rw [if_pos c2] at H
    refine k_c rfl (by decide) (hM _ _) (rgk rfl) (q := true) (decide_eq_true c2) rfl ?_
    exact k_lab (K_Mo_scope_25 hx1 (hM _ _) H) hM (lvS_cons rfl rfl (lvS_cons rfl rfl (lvS_cons rfl rfl lvS_nil)))
  · rw [if_neg c2] at H
    refine k_c rfl (by decide) (hM _ _) (rgk rfl) (q := false) (decide_eq_false c2) rfl ?_
    refine k_l rfl rfl rfl ?_
    refine k_k (x := 10) rfl rfl rfl rfl ?_
    by_cases c3 : σ 60 x1 = 10
    · rw [if_pos c3] at H
      refine k_c rfl (by decide) (hM _ _) (rgk rfl) (q := true) (decide_eq_true c3) rfl ?_
      exact k_lab (K_Mo_scope_25 hx1 (hM _ _) H) hM (lvS_cons rfl rfl (lvS_cons rfl rfl (lvS_cons rfl rfl lvS_nil)))
    · rw [if_neg c3] at H
      refine k_c rfl (by decide) (hM _ _) (rgk rfl) (q := false) (decide_eq_false c3) rfl ?_
      refine k_l rfl rfl rfl ?_
      refine k_k (x := 19) rfl rfl rfl rfl ?_
      by_cases c4 : σ 60 x1 ≠ 19
      · rw [if_pos c4] at H
        refine k_c rfl (by decide) (hM _ _) (rgk rfl) (q := true) (decide_eq_true c4) rfl ?_
        exact k_lab (K_Mo_scope_36 hx1 (hM _ _) H) hM (lvS_cons rfl rfl (lvS_cons rfl rfl (lvS_cons rfl rfl lvS_nil)))
      · rw [if_neg c4] at H
        refine k_c rfl (by decide) (hM _ _) (rgk rfl) (q := false) (decide_eq_false c4) rfl ?_
        exact k_lab (K_Mo_scope_25 hx1 (hM _ _) H) hM (lvS_cons rfl rfl (lvS_cons rfl rfl (lvS_cons rfl rfl lvS_nil)))
def B_Mo_namesFound (d : Nat) (σ : Mem) (o : Option Int) (s' : Mem) : Prop := Lb (d + 3) yMo_namesFound 7 [(0, .ref 58), (1, vi 0)] [] (mup σ 58 30 0) o s'
theorem M_Mo_namesFound {d : Nat} {σ s' : Mem} {o : Option Int}  (H : B_Mo_namesFound d  σ o s') : Rn (d + 4) yMo_namesFound [.ref 58] σ o s' := by
  refine k_m (Nat.le_of_ble_eq_true rfl) (fun hM => ?_)
  unfold B_Mo_namesFound at H
  refine k_l rfl rfl rfl ?_
  refine k_p rfl rfl rfl ?_
  refine k_pf rfl rfl rfl (by decide) rfl rfl rfl rfl ?_
  refine k_p rfl rfl rfl ?_
  refine k_l rfl rfl rfl ?_
  exact k_lab H (hM.up (rgk rfl)) (lvS_cons rfl rfl (lvS_cons rfl rfl lvS_nil))
def B_Mo_namesFound_77 (d : Nat) (x1 : Int) (σ : Mem) (o : Option Int) (s' : Mem) : Prop := ∃ (m1 : Mem), Rn (d + 3) yMo_scope [.ref 58, vi x1] σ none m1 ∧ ((rg (x1 + 1)) ∧ (Lb (d + 3) yMo_namesFound 7 [(0, .ref 58), (1, vi (x1 + 1))] [] m1 o s'))
theorem K_Mo_namesFound_77 {d : Nat} {x1 : Int} {σ s' : Mem} {o : Option Int} (hx1 : rg x1) (H : B_Mo_namesFound_77 d x1 σ o s') : Lb (d + 3) yMo_namesFound 77 [(0, .ref 58), (1, vi x1)] [] σ o s' := by
  intro hM
  unfold B_Mo_namesFound_77 at H
  refine k_l rfl rfl rfl ?_
  refine k_l rfl rfl rfl ?_
  obtain ⟨m1, R1, H⟩ := H
  refine k_iw rfl rfl rfl rfl rfl (by decide) rfl hM R1 (fun hM1 => ?_)
  refine k_inc rfl rfl (by decide) ?_
  refine k_b rfl rfl rfl rfl ?_
  obtain ⟨g2, H⟩ := H
  exact k_lab H hM1 (lvS_cons rfl rfl (lvS_cons rfl rfl lvS_nil))
def B_Mo_namesFound_7 (d : Nat) (x1 : Int) (σ : Mem) (o : Option Int) (s' : Mem) : Prop := if x1 ≥ σ 58 7 then (o = some 1 ∧ s' = σ) else (((0 : Int) ≤ x1 ∧ x1 < (124 : Int)) ∧ (if σ 60 x1 ≠ 5 then (B_Mo_namesFound_77 d x1 σ o s') else ((rg ((σ 58 30) - 1)) ∧ (Lb (d + 3) yMo_namesFound 32 [(0, .ref 58), (1, vi x1), (2, vi ((σ 58 30) - 1))] [] σ o s'))))
theorem K_Mo_namesFound_7 {d : Nat} {x1 : Int} {σ s' : Mem} {o : Option Int} (hx1 : rg x1) (H : B_Mo_namesFound_7 d x1 σ o s') : Lb (d + 3) yMo_namesFound 7 [(0, .ref 58), (1, vi x1)] [] σ o s' := by
  intro hM
  unfold B_Mo_namesFound_7 at H
  refine k_l rfl rfl rfl ?_
  refine k_l rfl rfl rfl ?_
  refine k_gf rfl rfl rfl (by decide) rfl rfl ?_
  by_cases c1 : x1 ≥ σ 58 7
  · rw [if_pos c1] at H
    refine k_c rfl (by decide) hx1 (hM _ _) (q := true) (decide_eq_true c1) rfl ?_
    refine k_p rfl rfl rfl ?_
    obtain ⟨rfl, rfl⟩ := H
    exact k_r1 hM (rgk rfl) rfl rfl rfl
  · rw [if_neg c1] at H
    refine k_c rfl (by decide) hx1 (hM _ _) (q := false) (decide_eq_false c1) rfl ?_
    refine k_l rfl rfl rfl ?_
    refine k_gr (t := 60) rfl rfl rfl (by decide) rfl ?_
    refine k_l rfl rfl rfl ?_
    obtain ⟨g2, H⟩ := H
    refine k_al rfl rfl (fun _ => rfl) rfl rfl g2 (by decide) rfl ?_
    refine k_p rfl rfl rfl ?_
    by_cases c3 : σ 60 x1 ≠ 5
    · rw [if_pos c3] at H
      refine k_c rfl (by decide) (hM _ _) (rgk rfl) (q := true) (decide_eq_true c3) rfl ?_
      exact k_lab (K_Mo_namesFound_77 hx1 H) hM (lvS_cons rfl rfl (lvS_cons rfl rfl lvS_nil))
    · rw [if_neg c3] at H
      refine k_c rfl (by decide) (hM _ _) (rgk rfl) (q := false) (decide_eq_false c3) rfl ?_
      refine k_l rfl rfl rfl ?_
      refine k_gf rfl rfl rfl (by decide) rfl rfl ?_
      refine k_p rfl rfl rfl ?_
      refine k_sub rfl ?_
      refine k_l rfl rfl rfl ?_
      obtain ⟨g4, H⟩ := H
      exact k_lab H hM (lvS_cons rfl rfl (lvS_cons rfl rfl (lvS_cons rfl rfl lvS_nil)))
def B_Mo_namesFound_57 (d : Nat) (x1 x2 : Int) (σ : Mem) (o : Option Int) (s' : Mem) : Prop := if x2 ≥ 0 then (((0 : Int) ≤ x1 ∧ x1 < (124 : Int)) ∧ ((rg (((σ 58 30) - 1) - x2)) ∧ (B_Mo_namesFound_77 d x1 (mup σ 61 x1 (((σ 58 30) - 1) - x2)) o s'))) else (o = some 0 ∧ s' = σ)
theorem K_Mo_namesFound_57 {d : Nat} {x1 x2 : Int} {σ s' : Mem} {o : Option Int} (hx1 : rg x1) (hx2 : rg x2) (H : B_Mo_namesFound_57 d x1 x2 σ o s') : Lb (d + 3) yMo_namesFound 57 [(0, .ref 58), (1, vi x1), (2, vi x2)] [] σ o s' := by
  intro hM
  unfold B_Mo_namesFound_57 at H
  refine k_l rfl rfl rfl ?_
  by_cases c1 : x2 ≥ 0
  · rw [if_pos c1] at H
    refine k_z rfl (by decide) hx2 (q := true) (decide_eq_true c1) rfl ?_
    refine k_l rfl rfl rfl ?_
    refine k_gr (t := 61) rfl rfl rfl (by decide) rfl ?_
    refine k_l rfl rfl rfl ?_
    refine k_l rfl rfl rfl ?_
    refine k_gf rfl rfl rfl (by decide) rfl rfl ?_
    refine k_p rfl rfl rfl ?_
    refine k_sub rfl ?_
    refine k_l rfl rfl rfl ?_
    refine k_sub rfl ?_
    obtain ⟨g2, H⟩ := H
    obtain ⟨g3, H⟩ := H
    refine k_as (ok := isI) rfl rfl (fun _ => rfl) rfl rfl g2 (by decide) rfl ?_
    exact k_lab (K_Mo_namesFound_77 hx1 H) (hM.up g3) (lvS_cons rfl rfl (lvS_cons rfl rfl lvS_nil))
  · rw [if_neg c1] at H
    refine k_z rfl (by decide) hx2 (q := false) (decide_eq_false c1) rfl ?_
    refine k_p rfl rfl rfl ?_
    obtain ⟨rfl, rfl⟩ := H
    exact k_r1 hM (rgk rfl) rfl rfl rfl
def B_Mo_namesFound_32 (d : Nat) (x1 x2 : Int) (σ : Mem) (o : Option Int) (s' : Mem) : Prop := if x2 < 0 then (B_Mo_namesFound_57 d x1 x2 σ o s') else (((0 : Int) ≤ x2 ∧ x2 < (64 : Int)) ∧ (((0 : Int) ≤ x1 ∧ x1 < (124 : Int)) ∧ (if σ 76 x2 = σ 62 x1 then (B_Mo_namesFound_57 d x1 x2 σ o s') else ((rg (x2 + (-1))) ∧ (Lb (d + 3) yMo_namesFound 32 [(0, .ref 58), (1, vi x1), (2, vi (x2 + (-1)))] [] σ o s')))))
theorem K_Mo_namesFound_32 {d : Nat} {x1 x2 : Int} {σ s' : Mem} {o : Option Int} (hx1 : rg x1) (hx2 : rg x2) (H : B_Mo_namesFound_32 d x1 x2 σ o s') : Lb (d + 3) yMo_namesFound 32 [(0, .ref 58), (1, vi x1), (2, vi x2)] [] σ o s' := by
  intro hM
  unfold B_Mo_namesFound_32 at H
  refine k_l rfl rfl rfl ?_
  by_cases c1 : x2 < 0
  · rw [if_pos c1] at H
    refine k_z rfl (by decide) hx2 (q := true) (decide_eq_true c1) rfl ?_
    exact k_lab (K_Mo_namesFound_57 hx1 hx2 H) hM (lvS_cons rfl rfl (lvS_cons rfl rfl (lvS_cons rfl rfl lvS_nil)))
  · rw [if_neg c1] at H
    refine k_z rfl (by decide) hx2 (q := false) (decide_eq_false c1) rfl ?_
    refine k_l rfl rfl rfl ?_
    refine k_gr (t := 76) rfl rfl rfl (by decide) rfl ?_
    refine k_l rfl rfl rfl ?_
    obtain ⟨g2, H⟩ := H
    refine k_al rfl rfl (fun _ => rfl) rfl rfl g2 (by decide) rfl ?_
    refine k_l rfl rfl rfl ?_
    refine k_gr (t := 62) rfl rfl rfl (by decide) rfl ?_
    refine k_l rfl rfl rfl ?_
    obtain ⟨g3, H⟩ := H
    refine k_al rfl rfl (fun _ => rfl) rfl rfl g3 (by decide) rfl ?_
    by_cases c4 : σ 76 x2 = σ 62 x1
    · rw [if_pos c4] at H
      refine k_c rfl (by decide) (hM _ _) (hM _ _) (q := true) (decide_eq_true c4) rfl ?_
      exact k_lab (K_Mo_namesFound_57 hx1 hx2 H) hM (lvS_cons rfl rfl (lvS_cons rfl rfl (lvS_cons rfl rfl lvS_nil)))
    · rw [if_neg c4] at H
      refine k_c rfl (by decide) (hM _ _) (hM _ _) (q := false) (decide_eq_false c4) rfl ?_
      refine k_inc rfl rfl (by decide) ?_
      refine k_b rfl rfl rfl rfl ?_
      obtain ⟨g5, H⟩ := H
      exact k_lab H hM (lvS_cons rfl rfl (lvS_cons rfl rfl (lvS_cons rfl rfl lvS_nil)))
