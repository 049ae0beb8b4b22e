/-! Characters. -/
theorem char_at {d : Nat} {h : mHp} {m z : Int} (S : Sh h) (hl : hAt h 2 1 = vi m) (hm : 0 ≤ m ∧ m ≤ 60) (hz : 0 ≤ z ∧ z < 100000) {c : Int} (hx : z < m) (hv : hAt h 4 z.toNat = vi c) : Ru (d + 2) 61 [.ref 2, vi z] h (.inl (some (vi c)), h) := by
  refine ru_go (Nat.le_of_ble_eq_true rfl) ?_
  refine g_l rfl rfl rfl ?_
  refine g_l rfl rfl rfl ?_
  refine g_gf rfl (S.t 2 rfl) (by decide) hl ?_
  refine gi_c rfl (by decide) (by unfold rg; omega) (by unfold rg; omega) (q := false) (decide_eq_false (by omega)) rfl ?_
  refine g_l rfl rfl rfl ?_
  refine g_gf rfl (S.t 2 rfl) (by decide) (S.r 2 0 3 rfl) ?_
  refine g_l rfl rfl rfl ?_
  refine g_iv rfl rfl rfl (S.t 3 rfl) (by decide) rfl (row_get (r := 3) (n := 60) (S.t 3 rfl) (S.r 3 0 4 rfl) (S.t 4 rfl) (S.l 4 rfl) (by decide) (by unfold rg; omega) hz.1 (by omega) hv rfl) ?_
  refine g_b rfl rfl rfl rfl ?_
  exact g_r rfl rfl rfl
theorem char_no {d : Nat} {h : mHp} {m z : Int} (S : Sh h) (hl : hAt h 2 1 = vi m) (hm : 0 ≤ m ∧ m ≤ 60) (hz : 0 ≤ z ∧ z < 100000) (hx : m ≤ z) : Ru (d + 2) 61 [.ref 2, vi z] h (.inl (some (vi (-1))), h) := by
  refine ru_go (Nat.le_of_ble_eq_true rfl) ?_
  refine g_l rfl rfl rfl ?_
  refine g_l rfl rfl rfl ?_
  refine g_gf rfl (S.t 2 rfl) (by decide) hl ?_
  refine gi_c rfl (by decide) (by unfold rg; omega) (by unfold rg; omega) (q := true) (decide_eq_true (by omega)) rfl ?_
  refine g_p rfl rfl rfl ?_
  exact g_r rfl rfl rfl
theorem break_off {d : Nat} {h : mHp} (S : Sh h) : Ru (d + 1) 59 [.ref 35] h (.inl (some (vi (-1))), (hSet h 35 4 (vi 1))) := by
  refine ru_go (Nat.le_of_ble_eq_true rfl) ?_
  refine g_l rfl rfl rfl ?_
  refine g_p rfl rfl rfl ?_
  refine g_pf rfl (S.t 35 rfl) (by decide) rfl rfl rfl ?_
  refine g_p rfl rfl rfl ?_
  exact g_r rfl rfl rfl
