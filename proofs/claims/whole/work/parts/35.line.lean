/-! The line: what is typed. -/
theorem line_no {d : Nat} {h : mHp} {c m : Int} (S : Sh h) (hl : hAt h 2 1 = vi m) (h0 : 0 ≤ m) (h6 : m ≤ 60) (hc : 0 ≤ c ∧ c < 65536) (hx : c < 32 ∨ 126 < c ∨ m = 60) : Ru (d + 1) 9 [.ref 2, vi c] h (.inl (some (vi 0)), h) := by
  refine ru_go (Nat.le_of_ble_eq_true rfl) ?_
  by_cases q1 : c < 32
  · refine g_l rfl rfl rfl ?_
    refine gi_k (x := 32) rfl rfl rfl rfl ?_
    refine gi_c rfl (by decide) (by unfold rg; omega) (by unfold rg; omega) (q := true) (decide_eq_true (by omega)) rfl ?_
    refine g_p rfl rfl rfl ?_
    exact g_r rfl rfl rfl
  by_cases q2 : 126 < c
  · refine g_l rfl rfl rfl ?_
    refine gi_k (x := 32) rfl rfl rfl rfl ?_
    refine gi_c rfl (by decide) (by unfold rg; omega) (by unfold rg; omega) (q := false) (decide_eq_false (by omega)) rfl ?_
    refine g_l rfl rfl rfl ?_
    refine gi_k (x := 126) rfl rfl rfl rfl ?_
    refine gi_c rfl (by decide) (by unfold rg; omega) (by unfold rg; omega) (q := true) (decide_eq_true (by omega)) rfl ?_
    refine g_p rfl rfl rfl ?_
    exact g_r rfl rfl rfl
  · refine g_l rfl rfl rfl ?_
    refine gi_k (x := 32) rfl rfl rfl rfl ?_
    refine gi_c rfl (by decide) (by unfold rg; omega) (by unfold rg; omega) (q := false) (decide_eq_false (by omega)) rfl ?_
    refine g_l rfl rfl rfl ?_
    refine gi_k (x := 126) rfl rfl rfl rfl ?_
    refine gi_c rfl (by decide) (by unfold rg; omega) (by unfold rg; omega) (q := false) (decide_eq_false (by omega)) rfl ?_
    refine g_l rfl rfl rfl ?_
    refine g_gf rfl (S.t 2 rfl) (by decide) hl ?_
    refine gi_k (x := 60) rfl rfl rfl rfl ?_
    refine gi_c rfl (by decide) (by unfold rg; omega) (by unfold rg; omega) (q := false) (decide_eq_false (by omega)) rfl ?_
    refine g_p rfl rfl rfl ?_
    exact g_r rfl rfl rfl
theorem line_yes {d : Nat} {h : mHp} {c m : Int} (S : Sh h) (hl : hAt h 2 1 = vi m) (h0 : 0 ≤ m) (h6 : m ≤ 60) (hc : 0 ≤ c ∧ c < 65536) (hx : 32 ≤ c ∧ c ≤ 126 ∧ m < 60) : Ru (d + 2) 9 [.ref 2, vi c] h (.inl (some (vi 1)), hSet (hSet h 4 m.toNat (vi c)) 2 1 (vi (m + 1))) := by
  refine ru_go (Nat.le_of_ble_eq_true rfl) ?_
  refine g_l rfl rfl rfl ?_
  refine gi_k (x := 32) rfl rfl rfl rfl ?_
  refine gi_c rfl (by decide) (by unfold rg; omega) (by unfold rg; omega) (q := false) (decide_eq_false (by omega)) rfl ?_
  refine g_l rfl rfl rfl ?_
  refine gi_k (x := 126) rfl rfl rfl rfl ?_
  refine gi_c rfl (by decide) (by unfold rg; omega) (by unfold rg; omega) (q := false) (decide_eq_false (by omega)) rfl ?_
  refine g_l rfl rfl rfl ?_
  refine g_gf rfl (S.t 2 rfl) (by decide) hl ?_
  refine gi_k (x := 60) rfl rfl rfl rfl ?_
  refine gi_c rfl (by decide) (by unfold rg; omega) (by unfold rg; omega) (q := true) (decide_eq_true (by omega)) rfl ?_
  refine g_l rfl rfl rfl ?_
  refine g_gf rfl (S.t 2 rfl) (by decide) (S.r 2 0 3 rfl) ?_
  refine g_l rfl rfl rfl ?_
  refine g_gf rfl (S.t 2 rfl) (by decide) hl ?_
  refine g_l rfl rfl rfl ?_
  refine g_iv rfl rfl rfl (S.t 3 rfl) (by decide) rfl (row_set (r := 3) (n := 60) (S.t 3 rfl) (S.r 3 0 4 rfl) (S.t 4 rfl) (S.l 4 rfl) (by decide) (by unfold rg; omega) (v := Int32.ofInt c) h0 (by omega)) ?_
  refine g_l rfl rfl rfl ?_
  refine g_p rfl rfl rfl ?_
  refine g_gf rfl ((S.set rfl).t 2 rfl) (by decide) ((at_ne (by decide) _).trans hl) ?_
  refine g_p rfl rfl rfl ?_
  refine gi_add rfl ?_
  refine g_pf rfl ((S.set rfl).t 2 rfl) (by decide) rfl rfl rfl ?_
  refine g_p rfl rfl rfl ?_
  exact g_r rfl rfl rfl
theorem type_no {d : Nat} {h : mHp} {c m : Int} (S : Sh h) (hl : hAt h 2 1 = vi m) (h0 : 0 ≤ m) (h6 : m ≤ 60) (hc : 0 ≤ c ∧ c < 65536) (hx : c < 32 ∨ 126 < c ∨ m = 60) : Ru (d + 2) 8 [.ref 1, vi c] h (.inl (some (vi 0)), h) := by
  refine ru_go (Nat.le_of_ble_eq_true rfl) ?_
  refine g_l rfl rfl rfl ?_
  refine g_gf rfl (S.t 1 rfl) (by decide) (S.r 1 0 2 rfl) ?_
  refine g_l rfl rfl rfl ?_
  refine g_iv rfl rfl rfl (S.t 2 rfl) (by decide) rfl (line_no S hl h0 h6 hc hx) ?_
  exact g_r rfl rfl rfl
theorem type_yes {d : Nat} {h : mHp} {c m : Int} (S : Sh h) (hl : hAt h 2 1 = vi m) (h0 : 0 ≤ m) (h6 : m ≤ 60) (hc : 0 ≤ c ∧ c < 65536) (hx : 32 ≤ c ∧ c ≤ 126 ∧ m < 60) : Ru (d + 3) 8 [.ref 1, vi c] h (.inl (some (vi 1)), hSet (hSet h 4 m.toNat (vi c)) 2 1 (vi (m + 1))) := by
  refine ru_go (Nat.le_of_ble_eq_true rfl) ?_
  refine g_l rfl rfl rfl ?_
  refine g_gf rfl (S.t 1 rfl) (by decide) (S.r 1 0 2 rfl) ?_
  refine g_l rfl rfl rfl ?_
  refine g_iv rfl rfl rfl (S.t 2 rfl) (by decide) rfl (line_yes S hl h0 h6 hc hx) ?_
  exact g_r rfl rfl rfl
theorem wipe_c {d : Nat} {h : mHp} (S : Sh h) : Ru (d + 2) 11 [.ref 1] h (.inl none, hSet h 2 1 (vi 0)) := by
  have hw : Ru (d + 1) 12 [.ref 2] h (.inl none, hSet h 2 1 (vi 0)) := by
    refine ru_go (Nat.le_of_ble_eq_true rfl) ?_
    refine g_l rfl rfl rfl ?_
    refine g_p rfl rfl rfl ?_
    refine g_pf rfl (S.t 2 rfl) (by decide) rfl rfl rfl ?_
    exact g_r rfl rfl rfl
  refine ru_go (Nat.le_of_ble_eq_true rfl) ?_
  refine g_l rfl rfl rfl ?_
  refine g_gf rfl (S.t 1 rfl) (by decide) (S.r 1 0 2 rfl) ?_
  refine g_iv rfl rfl rfl (S.t 2 rfl) (by decide) rfl hw ?_
  exact g_r rfl rfl rfl
theorem typm_no {d : Nat} {h : mHp} {c m : Int} (S : Sh h) (hl : hAt h 58 2 = vi m) (h0 : 0 ≤ m) (h6 : m ≤ 60) (hc : 0 ≤ c ∧ c < 65536) (hx : c < 32 ∨ 126 < c ∨ m = 60) : Ru (d + 1) 144 [.ref 58, vi c] h (.inl (some (vi 0)), hSet h 58 0 (vi 0)) := by
  refine ru_go (Nat.le_of_ble_eq_true rfl) ?_
  by_cases q1 : c < 32
  · refine g_l rfl rfl rfl ?_
    refine g_p rfl rfl rfl ?_
    refine g_pf rfl (S.t 58 rfl) (by decide) rfl rfl rfl ?_
    refine g_l rfl rfl rfl ?_
    refine gi_k (x := 32) rfl rfl rfl rfl ?_
    refine gi_c rfl (by decide) (by unfold rg; omega) (by unfold rg; omega) (q := true) (decide_eq_true (by omega)) rfl ?_
    refine g_p rfl rfl rfl ?_
    exact g_r rfl rfl rfl
  by_cases q2 : 126 < c
  · refine g_l rfl rfl rfl ?_
    refine g_p rfl rfl rfl ?_
    refine g_pf rfl (S.t 58 rfl) (by decide) rfl rfl rfl ?_
    refine g_l rfl rfl rfl ?_
    refine gi_k (x := 32) rfl rfl rfl rfl ?_
    refine gi_c rfl (by decide) (by unfold rg; omega) (by unfold rg; omega) (q := false) (decide_eq_false (by omega)) rfl ?_
    refine g_l rfl rfl rfl ?_
    refine gi_k (x := 126) rfl rfl rfl rfl ?_
    refine gi_c rfl (by decide) (by unfold rg; omega) (by unfold rg; omega) (q := true) (decide_eq_true (by omega)) rfl ?_
    refine g_p rfl rfl rfl ?_
    exact g_r rfl rfl rfl
  · refine g_l rfl rfl rfl ?_
    refine g_p rfl rfl rfl ?_
    refine g_pf rfl (S.t 58 rfl) (by decide) rfl rfl rfl ?_
    refine g_l rfl rfl rfl ?_
    refine gi_k (x := 32) rfl rfl rfl rfl ?_
    refine gi_c rfl (by decide) (by unfold rg; omega) (by unfold rg; omega) (q := false) (decide_eq_false (by omega)) rfl ?_
    refine g_l rfl rfl rfl ?_
    refine gi_k (x := 126) rfl rfl rfl rfl ?_
    refine gi_c rfl (by decide) (by unfold rg; omega) (by unfold rg; omega) (q := false) (decide_eq_false (by omega)) rfl ?_
    refine g_l rfl rfl rfl ?_
    refine g_gf rfl ((S.set rfl).t 58 rfl) (by decide) ((at_nk (by decide)).trans hl) ?_
    refine gi_k (x := 60) rfl rfl rfl rfl ?_
    refine gi_c rfl (by decide) (by unfold rg; omega) (by unfold rg; omega) (q := false) (decide_eq_false (not_not_intro (by omega))) rfl ?_
    refine g_p rfl rfl rfl ?_
    exact g_r rfl rfl rfl
theorem vi_char {c : Int} (hc : 0 ≤ c ∧ c < 65536) : fits .char (vi c) = true := by
  have hr : rg c := ⟨by omega, by omega⟩
  have b0 : (0 : Int32).toInt = 0 := rfl
  have b3 : (65535 : Int32).toInt = 65535 := rfl
  simp only [fits, Bool.and_eq_true, decide_eq_true_eq, Int32.le_iff_toInt_le, hr.to]
  omega
theorem typm_yes {d : Nat} {h : mHp} {c m : Int} (S : Sh h) (hl : hAt h 58 2 = vi m) (h0 : 0 ≤ m) (h6 : m ≤ 60) (hc : 0 ≤ c ∧ c < 65536) (hx : 32 ≤ c ∧ c ≤ 126 ∧ m < 60) : Ru (d + 1) 144 [.ref 58, vi c] h (.inl (some (vi 1)), hSet (hSet (hSet h 58 0 (vi 0)) 59 m.toNat (vi c)) 58 2 (vi (m + 1))) := by
  refine ru_go (Nat.le_of_ble_eq_true rfl) ?_
  refine g_l rfl rfl rfl ?_
  refine g_p rfl rfl rfl ?_
  refine g_pf rfl (S.t 58 rfl) (by decide) rfl rfl rfl ?_
  refine g_l rfl rfl rfl ?_
  refine gi_k (x := 32) rfl rfl rfl rfl ?_
  refine gi_c rfl (by decide) (by unfold rg; omega) (by unfold rg; omega) (q := false) (decide_eq_false (by omega)) rfl ?_
  refine g_l rfl rfl rfl ?_
  refine gi_k (x := 126) rfl rfl rfl rfl ?_
  refine gi_c rfl (by decide) (by unfold rg; omega) (by unfold rg; omega) (q := false) (decide_eq_false (by omega)) rfl ?_
  refine g_l rfl rfl rfl ?_
  refine g_gf rfl ((S.set rfl).t 58 rfl) (by decide) ((at_nk (by decide)).trans hl) ?_
  refine gi_k (x := 60) rfl rfl rfl rfl ?_
  refine gi_c rfl (by decide) (by unfold rg; omega) (by unfold rg; omega) (q := true) (decide_eq_true (by omega)) rfl ?_
  refine g_l rfl rfl rfl ?_
  refine g_gf rfl ((S.set rfl).t 58 rfl) (by decide) ((S.set rfl).r 58 1 59 rfl) ?_
  refine g_l rfl rfl rfl ?_
  refine g_gf rfl ((S.set rfl).t 58 rfl) (by decide) ((at_nk (by decide)).trans hl) ?_
  refine g_l rfl rfl rfl ?_
  refine gi_as (t := 101) (ok := fun v => fits .char v) rfl rfl rfl rfl ((S.set rfl).t 59 rfl) (by omega) (by rw [(S.set rfl).l 59 rfl]; show m < 60; omega) (by rw [(S.set rfl).l 59 rfl]; decide) (vi_char hc) ?_
  refine g_l rfl rfl rfl ?_
  refine g_p rfl rfl rfl ?_
  refine g_gf rfl (((S.set rfl).set rfl).t 58 rfl) (by decide) ((at_ne (by decide) _).trans ((at_nk (by decide)).trans hl)) ?_
  refine g_p rfl rfl rfl ?_
  refine gi_add rfl ?_
  refine g_pf rfl (((S.set rfl).set rfl).t 58 rfl) (by decide) rfl rfl rfl ?_
  refine g_p rfl rfl rfl ?_
  exact g_r rfl rfl rfl
theorem wipe_m {d : Nat} {h : mHp} (S : Sh h) : Ru (d + 1) 145 [.ref 58] h (.inl none, hSet (hSet h 58 0 (vi 0)) 58 2 (vi 0)) := by
  refine ru_go (Nat.le_of_ble_eq_true rfl) ?_
  refine g_l rfl rfl rfl ?_
  refine g_p rfl rfl rfl ?_
  refine g_pf rfl (S.t 58 rfl) (by decide) rfl rfl rfl ?_
  refine g_l rfl rfl rfl ?_
  refine g_p rfl rfl rfl ?_
  refine g_pf rfl ((S.set rfl).t 58 rfl) (by decide) rfl rfl rfl ?_
  exact g_r rfl rfl rfl
