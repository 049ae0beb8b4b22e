/-! The class's small methods: rows of numbers. -/
theorem row_get {d : Nat} {h : mHp} {r n : Nat} {z : Int} (t1 : hTag h r = 2) (c1 : hAt h r 0 = .ref (r + 1)) (t2 : hTag h (r + 1) = 100) (l2 : hLen h (r + 1) = n) (hn : n ≤ 100000) (hz : rg z) {v : Value} (h0 : 0 ≤ z) (h1 : z < n) (hv : hAt h (r + 1) z.toNat = v) (hi : isI v = true) : Ru (d + 1) 14 [.ref r, vi z] h (.inl (some v), h) := by
  obtain ⟨hz1, hz2⟩ := hz
  obtain ⟨x, rfl⟩ := isI_spec hi
  refine ru_go (Nat.le_of_ble_eq_true rfl) ?_
  refine g_l rfl rfl rfl ?_
  refine gi_z rfl (by decide) (by unfold rg; omega) (q := false) (decide_eq_false (by omega)) rfl ?_
  refine g_l rfl rfl rfl ?_
  refine g_l rfl rfl rfl ?_
  refine g_gf rfl t1 (by decide) c1 ?_
  refine gi_len rfl rfl (by rw [t2]; decide) (by rw [t2]; decide) ?_
  rw [show hLen _ ((r + 1)) = (n : Int) from (by rw [l2])]
  refine gi_c rfl (by decide) (by unfold rg; omega) (by unfold rg; omega) (q := false) (decide_eq_false (by omega)) rfl ?_
  refine g_l rfl rfl rfl ?_
  refine g_gf rfl t1 (by decide) c1 ?_
  refine g_l rfl rfl rfl ?_
  refine gi_al rfl rfl rfl rfl t2 (by omega) (by rw [l2]; omega) (by rw [l2]; exact hn) hv ?_
  refine g_b rfl rfl rfl rfl ?_
  exact g_r rfl rfl rfl
theorem row_none {d : Nat} {h : mHp} {r n : Nat} {z : Int} (t1 : hTag h r = 2) (c1 : hAt h r 0 = .ref (r + 1)) (t2 : hTag h (r + 1) = 100) (l2 : hLen h (r + 1) = n) (hn : n ≤ 100000) (hz : rg z) (h0 : z < 0 ∨ (n : Int) ≤ z) : Ru (d + 1) 14 [.ref r, vi z] h (.inl (some (vi (-1))), h) := by
  obtain ⟨hz1, hz2⟩ := hz
  refine ru_go (Nat.le_of_ble_eq_true rfl) ?_
  by_cases q : z < 0
  · refine g_l rfl rfl rfl ?_
    refine gi_z rfl (by decide) (by unfold rg; omega) (q := true) (decide_eq_true (by omega)) rfl ?_
    refine g_p rfl rfl rfl ?_
    exact g_r rfl rfl rfl
  · refine g_l rfl rfl rfl ?_
    refine gi_z rfl (by decide) (by unfold rg; omega) (q := false) (decide_eq_false (by omega)) rfl ?_
    refine g_l rfl rfl rfl ?_
    refine g_l rfl rfl rfl ?_
    refine g_gf rfl t1 (by decide) c1 ?_
    refine gi_len rfl rfl (by rw [t2]; decide) (by rw [t2]; decide) ?_
    rw [show hLen _ ((r + 1)) = (n : Int) from (by rw [l2])]
    refine gi_c rfl (by decide) (by unfold rg; omega) (by unfold rg; omega) (q := true) (decide_eq_true (by omega)) rfl ?_
    refine g_p rfl rfl rfl ?_
    exact g_r rfl rfl rfl
theorem row_set {d : Nat} {h : mHp} {r n : Nat} {z : Int} (t1 : hTag h r = 2) (c1 : hAt h r 0 = .ref (r + 1)) (t2 : hTag h (r + 1) = 100) (l2 : hLen h (r + 1) = n) (hn : n ≤ 100000) (hz : rg z) {v : Int32} (h0 : 0 ≤ z) (h1 : z < n) : Ru (d + 1) 10 [.ref r, vi z, .int v] h (.inl none, hSet h (r + 1) z.toNat (.int v)) := by
  obtain ⟨hz1, hz2⟩ := hz
  refine ru_go (Nat.le_of_ble_eq_true rfl) ?_
  refine g_l rfl rfl rfl ?_
  refine gi_z rfl (by decide) (by unfold rg; omega) (q := false) (decide_eq_false (by omega)) rfl ?_
  refine g_l rfl rfl rfl ?_
  refine g_l rfl rfl rfl ?_
  refine g_gf rfl t1 (by decide) c1 ?_
  refine gi_len rfl rfl (by rw [t2]; decide) (by rw [t2]; decide) ?_
  rw [show hLen _ ((r + 1)) = (n : Int) from (by rw [l2])]
  refine gi_c rfl (by decide) (by unfold rg; omega) (by unfold rg; omega) (q := false) (decide_eq_false (by omega)) rfl ?_
  refine g_l rfl rfl rfl ?_
  refine g_gf rfl t1 (by decide) c1 ?_
  refine g_l rfl rfl rfl ?_
  refine g_l rfl rfl rfl ?_
  refine gi_as rfl rfl rfl rfl t2 (by omega) (by rw [l2]; omega) (by rw [l2]; exact hn) rfl ?_
  exact g_r rfl rfl rfl
theorem row_out {d : Nat} {h : mHp} {r n : Nat} {z : Int} (t1 : hTag h r = 2) (c1 : hAt h r 0 = .ref (r + 1)) (t2 : hTag h (r + 1) = 100) (l2 : hLen h (r + 1) = n) (hn : n ≤ 100000) (hz : rg z) {v : Int32} (h0 : z < 0 ∨ (n : Int) ≤ z) : Ru (d + 1) 10 [.ref r, vi z, .int v] h (.inl none, h) := by
  obtain ⟨hz1, hz2⟩ := hz
  refine ru_go (Nat.le_of_ble_eq_true rfl) ?_
  by_cases q : z < 0
  · refine g_l rfl rfl rfl ?_
    refine gi_z rfl (by decide) (by unfold rg; omega) (q := true) (decide_eq_true (by omega)) rfl ?_
    exact g_r rfl rfl rfl
  · refine g_l rfl rfl rfl ?_
    refine gi_z rfl (by decide) (by unfold rg; omega) (q := false) (decide_eq_false (by omega)) rfl ?_
    refine g_l rfl rfl rfl ?_
    refine g_l rfl rfl rfl ?_
    refine g_gf rfl t1 (by decide) c1 ?_
    refine gi_len rfl rfl (by rw [t2]; decide) (by rw [t2]; decide) ?_
    rw [show hLen _ ((r + 1)) = (n : Int) from (by rw [l2])]
    refine gi_c rfl (by decide) (by unfold rg; omega) (by unfold rg; omega) (q := true) (decide_eq_true (by omega)) rfl ?_
    exact g_r rfl rfl rfl
