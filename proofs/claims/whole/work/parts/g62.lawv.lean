/-! The law's value, real, item, top. -/
section LAV
variable {d : Nat} {H H' : mHp} {v x : Int} {b : UInt64}
theorem la_v_ok (S : Sh H') (R : Ru d yF_value [.ref 1, vi x] H (.inl (some (vi v)), H')) (t : hTag H 1 = 0) : Ru (d + 1) yLa_value [.ref 1, vi x, .ref 98] H (.inl (some (vi 0)), hSet H' 98 0 (.long (Int32.ofInt v).toInt64)) := by
  refine ru_go (Nat.le_of_ble_eq_true rfl) ?_
  refine g_l rfl rfl rfl ?_
  refine gi_k (x := 0) rfl rfl rfl rfl ?_
  refine g_l rfl rfl rfl ?_
  refine g_l rfl rfl rfl ?_
  refine g_iv rfl rfl rfl t (by decide) rfl R ?_
  refine g_p rfl rfl rfl ?_
  refine gi_as (z := 0) (t := 103) (j := 98) (ok := isL) rfl rfl rfl rfl (S.t 98 rfl) (by decide) (by rw [S.l 98 rfl]; decide) (by rw [S.l 98 rfl]; decide) rfl ?_
  refine g_b rfl rfl rfl rfl ?_
  refine gi_k (x := 0) rfl rfl rfl rfl ?_
  exact g_r rfl rfl rfl
theorem la_r_ok (S : Sh H') (R : Ru d yF_real [.ref 1] H (.inl (some (.double b)), H')) (t : hTag H 1 = 0) : Ru (d + 1) yLa_real [.ref 1, .ref 99] H (.inl (some (vi 0)), hSet H' 99 0 (.double b)) := by
  refine ru_go (Nat.le_of_ble_eq_true rfl) ?_
  refine g_l rfl rfl rfl ?_
  refine gi_k (x := 0) rfl rfl rfl rfl ?_
  refine g_l rfl rfl rfl ?_
  refine g_iv rfl rfl rfl t (by decide) rfl R ?_
  refine gi_as (z := 0) (t := 104) (j := 99) (ok := isD) rfl rfl rfl rfl (S.t 99 rfl) (by decide) (by rw [S.l 99 rfl]; decide) (by rw [S.l 99 rfl]; decide) rfl ?_
  refine g_b rfl rfl rfl rfl ?_
  refine gi_k (x := 0) rfl rfl rfl rfl ?_
  exact g_r rfl rfl rfl
theorem la_i_ok (R : Ru d yF_item [.ref 1, vi x] H (.inl none, H')) (t : hTag H 1 = 0) : Ru (d + 1) yLa_item [.ref 1, vi x] H (.inl (some (vi 0)), H') := by
  refine ru_go (Nat.le_of_ble_eq_true rfl) ?_
  refine g_l rfl rfl rfl ?_
  refine g_l rfl rfl rfl ?_
  refine g_iv rfl rfl rfl t (by decide) rfl R ?_
  refine g_b rfl rfl rfl rfl ?_
  refine gi_k (x := 0) rfl rfl rfl rfl ?_
  exact g_r rfl rfl rfl
theorem la_t_ok (R : Ru d yF_top [.ref 1] H (.inl none, H')) (t : hTag H 1 = 0) : Ru (d + 1) yLa_top [.ref 1] H (.inl (some (vi 0)), H') := by
  refine ru_go (Nat.le_of_ble_eq_true rfl) ?_
  refine g_l rfl rfl rfl ?_
  refine g_iv rfl rfl rfl t (by decide) rfl R ?_
  refine g_b rfl rfl rfl rfl ?_
  refine gi_k (x := 0) rfl rfl rfl rfl ?_
  exact g_r rfl rfl rfl
theorem la_v_3 (R : Ru d yF_value [.ref 1, vi x] H (.inr 3, H')) (t : hTag H 1 = 0) : Ru (d + 1) yLa_value [.ref 1, vi x, .ref 98] H (.inl (some (vi 1)), H') := by
  refine ru_go (Nat.le_of_ble_eq_true rfl) ?_
  refine g_l rfl rfl rfl ?_
  refine gi_k (x := 0) rfl rfl rfl rfl ?_
  refine g_l rfl rfl rfl ?_
  refine g_l rfl rfl rfl ?_
  refine g_ivx rfl rfl rfl t (by decide) rfl R rfl ?_
  refine g_l rfl rfl rfl ?_
  refine gi_k (x := 1) rfl rfl rfl rfl ?_
  exact g_r rfl rfl rfl
theorem la_i_3 (R : Ru d yF_item [.ref 1, vi x] H (.inr 3, H')) (t : hTag H 1 = 0) : Ru (d + 1) yLa_item [.ref 1, vi x] H (.inl (some (vi 1)), H') := by
  refine ru_go (Nat.le_of_ble_eq_true rfl) ?_
  refine g_l rfl rfl rfl ?_
  refine g_l rfl rfl rfl ?_
  refine g_ivx rfl rfl rfl t (by decide) rfl R rfl ?_
  refine g_l rfl rfl rfl ?_
  refine gi_k (x := 1) rfl rfl rfl rfl ?_
  exact g_r rfl rfl rfl
theorem la_v_4 (R : Ru d yF_value [.ref 1, vi x] H (.inr 4, H')) (t : hTag H 1 = 0) : Ru (d + 1) yLa_value [.ref 1, vi x, .ref 98] H (.inl (some (vi 2)), H') := by
  refine ru_go (Nat.le_of_ble_eq_true rfl) ?_
  refine g_l rfl rfl rfl ?_
  refine gi_k (x := 0) rfl rfl rfl rfl ?_
  refine g_l rfl rfl rfl ?_
  refine g_l rfl rfl rfl ?_
  refine g_ivx rfl rfl rfl t (by decide) rfl R rfl ?_
  refine g_l rfl rfl rfl ?_
  refine gi_k (x := 2) rfl rfl rfl rfl ?_
  exact g_r rfl rfl rfl
theorem la_i_4 (R : Ru d yF_item [.ref 1, vi x] H (.inr 4, H')) (t : hTag H 1 = 0) : Ru (d + 1) yLa_item [.ref 1, vi x] H (.inl (some (vi 2)), H') := by
  refine ru_go (Nat.le_of_ble_eq_true rfl) ?_
  refine g_l rfl rfl rfl ?_
  refine g_l rfl rfl rfl ?_
  refine g_ivx rfl rfl rfl t (by decide) rfl R rfl ?_
  refine g_l rfl rfl rfl ?_
  refine gi_k (x := 2) rfl rfl rfl rfl ?_
  exact g_r rfl rfl rfl
theorem la_r_3 (R : Ru d yF_real [.ref 1] H (.inr 3, H')) (t : hTag H 1 = 0) : Ru (d + 1) yLa_real [.ref 1, .ref 99] H (.inl (some (vi 1)), H') := by
  refine ru_go (Nat.le_of_ble_eq_true rfl) ?_
  refine g_l rfl rfl rfl ?_
  refine gi_k (x := 0) rfl rfl rfl rfl ?_
  refine g_l rfl rfl rfl ?_
  refine g_ivx rfl rfl rfl t (by decide) rfl R rfl ?_
  refine g_l rfl rfl rfl ?_
  refine gi_k (x := 1) rfl rfl rfl rfl ?_
  exact g_r rfl rfl rfl
theorem la_t_3 (R : Ru d yF_top [.ref 1] H (.inr 3, H')) (t : hTag H 1 = 0) : Ru (d + 1) yLa_top [.ref 1] H (.inl (some (vi 1)), H') := by
  refine ru_go (Nat.le_of_ble_eq_true rfl) ?_
  refine g_l rfl rfl rfl ?_
  refine g_ivx rfl rfl rfl t (by decide) rfl R rfl ?_
  refine g_l rfl rfl rfl ?_
  refine gi_k (x := 1) rfl rfl rfl rfl ?_
  exact g_r rfl rfl rfl
end LAV
