/-! The draft is written. -/
theorem add_full {d : Nat} {h : mHp} {m k u a b c : Int} (S : Sh h) (hm : hAt h 5 7 = vi m) (h0 : 0 ≤ m) (h1 : 128 ≤ m) (h2 : m < 1000) : Ru (d + 2) 67 [.ref 5, vi k, vi u, vi a, vi b, vi c] h (.inl (some (vi (-1))), h) := by
  refine ru_go (Nat.le_of_ble_eq_true rfl) ?_
  refine g_l rfl rfl rfl ?_
  refine g_gf rfl (S.t 5 rfl) (by decide) hm ?_
  refine gi_k (x := 128) rfl rfl rfl rfl ?_
  refine gi_c rfl (by decide) (by unfold rg; omega) (by unfold rg; omega) (q := false) (decide_eq_false (by omega)) rfl ?_
  refine g_p rfl rfl rfl ?_
  exact g_r rfl rfl rfl
def addH (h : mHp) (m k u a b c : Int) : mHp := (rset 128 17 (rset 128 17 (rset 128 17 (rset 128 19 (rset 128 17 (rset 128 15 (rset 128 13 (rset 128 11 (rset 128 9 (rset 128 7 (hSet h 5 7 (vi (m + 1))) m (vi k)) m (vi u)) m (vi a)) m (vi b)) m (vi c)) m (vi ((-1)))) m (vi ((-1)))) a (vi m)) b (vi m)) c (vi m))
theorem add_ok {d : Nat} {h : mHp} {m k u a b c : Int} (S : Sh h) (hm : hAt h 5 7 = vi m) (h0 : 0 ≤ m) (h1 : m < 128) (ra : rg a) (rb : rg b) (rc : rg c) : Ru (d + 2) 67 [.ref 5, vi k, vi u, vi a, vi b, vi c] h (.inl (some (vi m)), addH h m k u a b c) := by
  have rm : rg m := ⟨by omega, by omega⟩
  refine ru_go (Nat.le_of_ble_eq_true rfl) ?_
  refine g_l rfl rfl rfl ?_
  refine g_gf rfl (S.t 5 rfl) (by decide) hm ?_
  refine gi_k (x := 128) rfl rfl rfl rfl ?_
  refine gi_c rfl (by decide) (by unfold rg; omega) (by unfold rg; omega) (q := true) (decide_eq_true (by omega)) rfl ?_
  refine g_l rfl rfl rfl ?_
  refine g_gf rfl (S.t 5 rfl) (by decide) hm ?_
  refine g_l rfl rfl rfl ?_
  refine g_l rfl rfl rfl ?_
  refine g_p rfl rfl rfl ?_
  refine g_gf rfl (S.t 5 rfl) (by decide) hm ?_
  refine g_p rfl rfl rfl ?_
  refine gi_add rfl ?_
  refine g_pf rfl (S.t 5 rfl) (by decide) rfl rfl rfl ?_
  refine g_l rfl rfl rfl ?_
  refine g_gf rfl ((S.set rfl).t 5 rfl) (by decide) ((S.set rfl).r 5 0 6 rfl) ?_
  refine g_l rfl rfl rfl ?_
  refine g_l rfl rfl rfl ?_
  refine g_iv rfl rfl rfl ((S.set rfl).t 6 rfl) (by decide) rfl (row_setv (r := 6) (n := 128) ((S.set rfl).t 6 rfl) ((S.set rfl).r 6 0 7 rfl) ((S.set rfl).t 7 rfl) ((S.set rfl).l 7 rfl) (by decide) rm) ?_
  refine g_l rfl rfl rfl ?_
  refine g_gf rfl ((rset_sh (S.set rfl) (fun k => rfl)).t 5 rfl) (by decide) ((rset_sh (S.set rfl) (fun k => rfl)).r 5 1 8 rfl) ?_
  refine g_l rfl rfl rfl ?_
  refine g_l rfl rfl rfl ?_
  refine g_iv rfl rfl rfl ((rset_sh (S.set rfl) (fun k => rfl)).t 8 rfl) (by decide) rfl (row_setv (r := 8) (n := 128) ((rset_sh (S.set rfl) (fun k => rfl)).t 8 rfl) ((rset_sh (S.set rfl) (fun k => rfl)).r 8 0 9 rfl) ((rset_sh (S.set rfl) (fun k => rfl)).t 9 rfl) ((rset_sh (S.set rfl) (fun k => rfl)).l 9 rfl) (by decide) rm) ?_
  refine g_l rfl rfl rfl ?_
  refine g_gf rfl ((rset_sh (rset_sh (S.set rfl) (fun k => rfl)) (fun k => rfl)).t 5 rfl) (by decide) ((rset_sh (rset_sh (S.set rfl) (fun k => rfl)) (fun k => rfl)).r 5 2 10 rfl) ?_
  refine g_l rfl rfl rfl ?_
  refine g_l rfl rfl rfl ?_
  refine g_iv rfl rfl rfl ((rset_sh (rset_sh (S.set rfl) (fun k => rfl)) (fun k => rfl)).t 10 rfl) (by decide) rfl (row_setv (r := 10) (n := 128) ((rset_sh (rset_sh (S.set rfl) (fun k => rfl)) (fun k => rfl)).t 10 rfl) ((rset_sh (rset_sh (S.set rfl) (fun k => rfl)) (fun k => rfl)).r 10 0 11 rfl) ((rset_sh (rset_sh (S.set rfl) (fun k => rfl)) (fun k => rfl)).t 11 rfl) ((rset_sh (rset_sh (S.set rfl) (fun k => rfl)) (fun k => rfl)).l 11 rfl) (by decide) rm) ?_
  refine g_l rfl rfl rfl ?_
  refine g_gf rfl ((rset_sh (rset_sh (rset_sh (S.set rfl) (fun k => rfl)) (fun k => rfl)) (fun k => rfl)).t 5 rfl) (by decide) ((rset_sh (rset_sh (rset_sh (S.set rfl) (fun k => rfl)) (fun k => rfl)) (fun k => rfl)).r 5 3 12 rfl) ?_
  refine g_l rfl rfl rfl ?_
  refine g_l rfl rfl rfl ?_
  refine g_iv rfl rfl rfl ((rset_sh (rset_sh (rset_sh (S.set rfl) (fun k => rfl)) (fun k => rfl)) (fun k => rfl)).t 12 rfl) (by decide) rfl (row_setv (r := 12) (n := 128) ((rset_sh (rset_sh (rset_sh (S.set rfl) (fun k => rfl)) (fun k => rfl)) (fun k => rfl)).t 12 rfl) ((rset_sh (rset_sh (rset_sh (S.set rfl) (fun k => rfl)) (fun k => rfl)) (fun k => rfl)).r 12 0 13 rfl) ((rset_sh (rset_sh (rset_sh (S.set rfl) (fun k => rfl)) (fun k => rfl)) (fun k => rfl)).t 13 rfl) ((rset_sh (rset_sh (rset_sh (S.set rfl) (fun k => rfl)) (fun k => rfl)) (fun k => rfl)).l 13 rfl) (by decide) rm) ?_
  refine g_l rfl rfl rfl ?_
  refine g_gf rfl ((rset_sh (rset_sh (rset_sh (rset_sh (S.set rfl) (fun k => rfl)) (fun k => rfl)) (fun k => rfl)) (fun k => rfl)).t 5 rfl) (by decide) ((rset_sh (rset_sh (rset_sh (rset_sh (S.set rfl) (fun k => rfl)) (fun k => rfl)) (fun k => rfl)) (fun k => rfl)).r 5 4 14 rfl) ?_
  refine g_l rfl rfl rfl ?_
  refine g_l rfl rfl rfl ?_
  refine g_iv rfl rfl rfl ((rset_sh (rset_sh (rset_sh (rset_sh (S.set rfl) (fun k => rfl)) (fun k => rfl)) (fun k => rfl)) (fun k => rfl)).t 14 rfl) (by decide) rfl (row_setv (r := 14) (n := 128) ((rset_sh (rset_sh (rset_sh (rset_sh (S.set rfl) (fun k => rfl)) (fun k => rfl)) (fun k => rfl)) (fun k => rfl)).t 14 rfl) ((rset_sh (rset_sh (rset_sh (rset_sh (S.set rfl) (fun k => rfl)) (fun k => rfl)) (fun k => rfl)) (fun k => rfl)).r 14 0 15 rfl) ((rset_sh (rset_sh (rset_sh (rset_sh (S.set rfl) (fun k => rfl)) (fun k => rfl)) (fun k => rfl)) (fun k => rfl)).t 15 rfl) ((rset_sh (rset_sh (rset_sh (rset_sh (S.set rfl) (fun k => rfl)) (fun k => rfl)) (fun k => rfl)) (fun k => rfl)).l 15 rfl) (by decide) rm) ?_
  refine g_l rfl rfl rfl ?_
  refine g_gf rfl ((rset_sh (rset_sh (rset_sh (rset_sh (rset_sh (S.set rfl) (fun k => rfl)) (fun k => rfl)) (fun k => rfl)) (fun k => rfl)) (fun k => rfl)).t 5 rfl) (by decide) ((rset_sh (rset_sh (rset_sh (rset_sh (rset_sh (S.set rfl) (fun k => rfl)) (fun k => rfl)) (fun k => rfl)) (fun k => rfl)) (fun k => rfl)).r 5 5 16 rfl) ?_
  refine g_l rfl rfl rfl ?_
  refine g_p rfl rfl rfl ?_
  refine g_iv rfl rfl rfl ((rset_sh (rset_sh (rset_sh (rset_sh (rset_sh (S.set rfl) (fun k => rfl)) (fun k => rfl)) (fun k => rfl)) (fun k => rfl)) (fun k => rfl)).t 16 rfl) (by decide) rfl (row_setv (r := 16) (n := 128) ((rset_sh (rset_sh (rset_sh (rset_sh (rset_sh (S.set rfl) (fun k => rfl)) (fun k => rfl)) (fun k => rfl)) (fun k => rfl)) (fun k => rfl)).t 16 rfl) ((rset_sh (rset_sh (rset_sh (rset_sh (rset_sh (S.set rfl) (fun k => rfl)) (fun k => rfl)) (fun k => rfl)) (fun k => rfl)) (fun k => rfl)).r 16 0 17 rfl) ((rset_sh (rset_sh (rset_sh (rset_sh (rset_sh (S.set rfl) (fun k => rfl)) (fun k => rfl)) (fun k => rfl)) (fun k => rfl)) (fun k => rfl)).t 17 rfl) ((rset_sh (rset_sh (rset_sh (rset_sh (rset_sh (S.set rfl) (fun k => rfl)) (fun k => rfl)) (fun k => rfl)) (fun k => rfl)) (fun k => rfl)).l 17 rfl) (by decide) rm) ?_
  refine g_l rfl rfl rfl ?_
  refine g_gf rfl ((rset_sh (rset_sh (rset_sh (rset_sh (rset_sh (rset_sh (S.set rfl) (fun k => rfl)) (fun k => rfl)) (fun k => rfl)) (fun k => rfl)) (fun k => rfl)) (fun k => rfl)).t 5 rfl) (by decide) ((rset_sh (rset_sh (rset_sh (rset_sh (rset_sh (rset_sh (S.set rfl) (fun k => rfl)) (fun k => rfl)) (fun k => rfl)) (fun k => rfl)) (fun k => rfl)) (fun k => rfl)).r 5 6 18 rfl) ?_
  refine g_l rfl rfl rfl ?_
  refine g_p rfl rfl rfl ?_
  refine g_iv rfl rfl rfl ((rset_sh (rset_sh (rset_sh (rset_sh (rset_sh (rset_sh (S.set rfl) (fun k => rfl)) (fun k => rfl)) (fun k => rfl)) (fun k => rfl)) (fun k => rfl)) (fun k => rfl)).t 18 rfl) (by decide) rfl (row_setv (r := 18) (n := 128) ((rset_sh (rset_sh (rset_sh (rset_sh (rset_sh (rset_sh (S.set rfl) (fun k => rfl)) (fun k => rfl)) (fun k => rfl)) (fun k => rfl)) (fun k => rfl)) (fun k => rfl)).t 18 rfl) ((rset_sh (rset_sh (rset_sh (rset_sh (rset_sh (rset_sh (S.set rfl) (fun k => rfl)) (fun k => rfl)) (fun k => rfl)) (fun k => rfl)) (fun k => rfl)) (fun k => rfl)).r 18 0 19 rfl) ((rset_sh (rset_sh (rset_sh (rset_sh (rset_sh (rset_sh (S.set rfl) (fun k => rfl)) (fun k => rfl)) (fun k => rfl)) (fun k => rfl)) (fun k => rfl)) (fun k => rfl)).t 19 rfl) ((rset_sh (rset_sh (rset_sh (rset_sh (rset_sh (rset_sh (S.set rfl) (fun k => rfl)) (fun k => rfl)) (fun k => rfl)) (fun k => rfl)) (fun k => rfl)) (fun k => rfl)).l 19 rfl) (by decide) rm) ?_
  refine g_l rfl rfl rfl ?_
  refine g_gf rfl ((rset_sh (rset_sh (rset_sh (rset_sh (rset_sh (rset_sh (rset_sh (S.set rfl) (fun k => rfl)) (fun k => rfl)) (fun k => rfl)) (fun k => rfl)) (fun k => rfl)) (fun k => rfl)) (fun k => rfl)).t 5 rfl) (by decide) ((rset_sh (rset_sh (rset_sh (rset_sh (rset_sh (rset_sh (rset_sh (S.set rfl) (fun k => rfl)) (fun k => rfl)) (fun k => rfl)) (fun k => rfl)) (fun k => rfl)) (fun k => rfl)) (fun k => rfl)).r 5 5 16 rfl) ?_
  refine g_l rfl rfl rfl ?_
  refine g_l rfl rfl rfl ?_
  refine g_iv rfl rfl rfl ((rset_sh (rset_sh (rset_sh (rset_sh (rset_sh (rset_sh (rset_sh (S.set rfl) (fun k => rfl)) (fun k => rfl)) (fun k => rfl)) (fun k => rfl)) (fun k => rfl)) (fun k => rfl)) (fun k => rfl)).t 16 rfl) (by decide) rfl (row_setv (r := 16) (n := 128) ((rset_sh (rset_sh (rset_sh (rset_sh (rset_sh (rset_sh (rset_sh (S.set rfl) (fun k => rfl)) (fun k => rfl)) (fun k => rfl)) (fun k => rfl)) (fun k => rfl)) (fun k => rfl)) (fun k => rfl)).t 16 rfl) ((rset_sh (rset_sh (rset_sh (rset_sh (rset_sh (rset_sh (rset_sh (S.set rfl) (fun k => rfl)) (fun k => rfl)) (fun k => rfl)) (fun k => rfl)) (fun k => rfl)) (fun k => rfl)) (fun k => rfl)).r 16 0 17 rfl) ((rset_sh (rset_sh (rset_sh (rset_sh (rset_sh (rset_sh (rset_sh (S.set rfl) (fun k => rfl)) (fun k => rfl)) (fun k => rfl)) (fun k => rfl)) (fun k => rfl)) (fun k => rfl)) (fun k => rfl)).t 17 rfl) ((rset_sh (rset_sh (rset_sh (rset_sh (rset_sh (rset_sh (rset_sh (S.set rfl) (fun k => rfl)) (fun k => rfl)) (fun k => rfl)) (fun k => rfl)) (fun k => rfl)) (fun k => rfl)) (fun k => rfl)).l 17 rfl) (by decide) ra) ?_
  refine g_l rfl rfl rfl ?_
  refine g_gf rfl ((rset_sh (rset_sh (rset_sh (rset_sh (rset_sh (rset_sh (rset_sh (rset_sh (S.set rfl) (fun k => rfl)) (fun k => rfl)) (fun k => rfl)) (fun k => rfl)) (fun k => rfl)) (fun k => rfl)) (fun k => rfl)) (fun k => rfl)).t 5 rfl) (by decide) ((rset_sh (rset_sh (rset_sh (rset_sh (rset_sh (rset_sh (rset_sh (rset_sh (S.set rfl) (fun k => rfl)) (fun k => rfl)) (fun k => rfl)) (fun k => rfl)) (fun k => rfl)) (fun k => rfl)) (fun k => rfl)) (fun k => rfl)).r 5 5 16 rfl) ?_
  refine g_l rfl rfl rfl ?_
  refine g_l rfl rfl rfl ?_
  refine g_iv rfl rfl rfl ((rset_sh (rset_sh (rset_sh (rset_sh (rset_sh (rset_sh (rset_sh (rset_sh (S.set rfl) (fun k => rfl)) (fun k => rfl)) (fun k => rfl)) (fun k => rfl)) (fun k => rfl)) (fun k => rfl)) (fun k => rfl)) (fun k => rfl)).t 16 rfl) (by decide) rfl (row_setv (r := 16) (n := 128) ((rset_sh (rset_sh (rset_sh (rset_sh (rset_sh (rset_sh (rset_sh (rset_sh (S.set rfl) (fun k => rfl)) (fun k => rfl)) (fun k => rfl)) (fun k => rfl)) (fun k => rfl)) (fun k => rfl)) (fun k => rfl)) (fun k => rfl)).t 16 rfl) ((rset_sh (rset_sh (rset_sh (rset_sh (rset_sh (rset_sh (rset_sh (rset_sh (S.set rfl) (fun k => rfl)) (fun k => rfl)) (fun k => rfl)) (fun k => rfl)) (fun k => rfl)) (fun k => rfl)) (fun k => rfl)) (fun k => rfl)).r 16 0 17 rfl) ((rset_sh (rset_sh (rset_sh (rset_sh (rset_sh (rset_sh (rset_sh (rset_sh (S.set rfl) (fun k => rfl)) (fun k => rfl)) (fun k => rfl)) (fun k => rfl)) (fun k => rfl)) (fun k => rfl)) (fun k => rfl)) (fun k => rfl)).t 17 rfl) ((rset_sh (rset_sh (rset_sh (rset_sh (rset_sh (rset_sh (rset_sh (rset_sh (S.set rfl) (fun k => rfl)) (fun k => rfl)) (fun k => rfl)) (fun k => rfl)) (fun k => rfl)) (fun k => rfl)) (fun k => rfl)) (fun k => rfl)).l 17 rfl) (by decide) rb) ?_
  refine g_l rfl rfl rfl ?_
  refine g_gf rfl ((rset_sh (rset_sh (rset_sh (rset_sh (rset_sh (rset_sh (rset_sh (rset_sh (rset_sh (S.set rfl) (fun k => rfl)) (fun k => rfl)) (fun k => rfl)) (fun k => rfl)) (fun k => rfl)) (fun k => rfl)) (fun k => rfl)) (fun k => rfl)) (fun k => rfl)).t 5 rfl) (by decide) ((rset_sh (rset_sh (rset_sh (rset_sh (rset_sh (rset_sh (rset_sh (rset_sh (rset_sh (S.set rfl) (fun k => rfl)) (fun k => rfl)) (fun k => rfl)) (fun k => rfl)) (fun k => rfl)) (fun k => rfl)) (fun k => rfl)) (fun k => rfl)) (fun k => rfl)).r 5 5 16 rfl) ?_
  refine g_l rfl rfl rfl ?_
  refine g_l rfl rfl rfl ?_
  refine g_iv rfl rfl rfl ((rset_sh (rset_sh (rset_sh (rset_sh (rset_sh (rset_sh (rset_sh (rset_sh (rset_sh (S.set rfl) (fun k => rfl)) (fun k => rfl)) (fun k => rfl)) (fun k => rfl)) (fun k => rfl)) (fun k => rfl)) (fun k => rfl)) (fun k => rfl)) (fun k => rfl)).t 16 rfl) (by decide) rfl (row_setv (r := 16) (n := 128) ((rset_sh (rset_sh (rset_sh (rset_sh (rset_sh (rset_sh (rset_sh (rset_sh (rset_sh (S.set rfl) (fun k => rfl)) (fun k => rfl)) (fun k => rfl)) (fun k => rfl)) (fun k => rfl)) (fun k => rfl)) (fun k => rfl)) (fun k => rfl)) (fun k => rfl)).t 16 rfl) ((rset_sh (rset_sh (rset_sh (rset_sh (rset_sh (rset_sh (rset_sh (rset_sh (rset_sh (S.set rfl) (fun k => rfl)) (fun k => rfl)) (fun k => rfl)) (fun k => rfl)) (fun k => rfl)) (fun k => rfl)) (fun k => rfl)) (fun k => rfl)) (fun k => rfl)).r 16 0 17 rfl) ((rset_sh (rset_sh (rset_sh (rset_sh (rset_sh (rset_sh (rset_sh (rset_sh (rset_sh (S.set rfl) (fun k => rfl)) (fun k => rfl)) (fun k => rfl)) (fun k => rfl)) (fun k => rfl)) (fun k => rfl)) (fun k => rfl)) (fun k => rfl)) (fun k => rfl)).t 17 rfl) ((rset_sh (rset_sh (rset_sh (rset_sh (rset_sh (rset_sh (rset_sh (rset_sh (rset_sh (S.set rfl) (fun k => rfl)) (fun k => rfl)) (fun k => rfl)) (fun k => rfl)) (fun k => rfl)) (fun k => rfl)) (fun k => rfl)) (fun k => rfl)) (fun k => rfl)).l 17 rfl) (by decide) rc) ?_
  refine g_l rfl rfl rfl ?_
  exact g_r rfl rfl rfl
theorem tclear {d : Nat} {h : mHp} (S : Sh h) : Ru (d + 1) 57 [.ref 5] h (.inl none, (hSet (hSet h 5 7 (vi 0)) 5 8 (vi ((-1))))) := by
  refine ru_go (Nat.le_of_ble_eq_true rfl) ?_
  refine g_l rfl rfl rfl ?_
  refine g_p rfl rfl rfl ?_
  refine g_pf rfl (S.t 5 rfl) (by decide) rfl rfl rfl ?_
  refine g_l rfl rfl rfl ?_
  refine g_p rfl rfl rfl ?_
  refine g_pf rfl ((S.set rfl).t 5 rfl) (by decide) rfl rfl rfl ?_
  exact g_r rfl rfl rfl
theorem tsetRoot {d : Nat} {h : mHp} {a : Int} (S : Sh h) : Ru (d + 1) 95 [.ref 5, vi a] h (.inl none, (hSet h 5 8 (vi a))) := by
  refine ru_go (Nat.le_of_ble_eq_true rfl) ?_
  refine g_l rfl rfl rfl ?_
  refine g_l rfl rfl rfl ?_
  refine g_pf rfl (S.t 5 rfl) (by decide) rfl rfl rfl ?_
  exact g_r rfl rfl rfl
theorem tsetSecond {d : Nat} {h : mHp} {a b : Int} (S : Sh h) (ra : rg a) (rb : rg b) : Ru (d + 2) 94 [.ref 5, vi a, vi b] h (.inl none, (rset 128 17 (rset 128 13 h a (vi b)) b (vi a))) := by
  refine ru_go (Nat.le_of_ble_eq_true rfl) ?_
  refine g_l rfl rfl rfl ?_
  refine g_gf rfl (S.t 5 rfl) (by decide) (S.r 5 3 12 rfl) ?_
  refine g_l rfl rfl rfl ?_
  refine g_l rfl rfl rfl ?_
  refine g_iv rfl rfl rfl (S.t 12 rfl) (by decide) rfl (row_setv (r := 12) (n := 128) (S.t 12 rfl) (S.r 12 0 13 rfl) (S.t 13 rfl) (S.l 13 rfl) (by decide) ra) ?_
  refine g_l rfl rfl rfl ?_
  refine g_gf rfl ((rset_sh S (fun k => rfl)).t 5 rfl) (by decide) ((rset_sh S (fun k => rfl)).r 5 5 16 rfl) ?_
  refine g_l rfl rfl rfl ?_
  refine g_l rfl rfl rfl ?_
  refine g_iv rfl rfl rfl ((rset_sh S (fun k => rfl)).t 16 rfl) (by decide) rfl (row_setv (r := 16) (n := 128) ((rset_sh S (fun k => rfl)).t 16 rfl) ((rset_sh S (fun k => rfl)).r 16 0 17 rfl) ((rset_sh S (fun k => rfl)).t 17 rfl) ((rset_sh S (fun k => rfl)).l 17 rfl) (by decide) rb) ?_
  exact g_r rfl rfl rfl
theorem tsetType {d : Nat} {h : mHp} {a b : Int} (S : Sh h) (ra : rg a) : Ru (d + 2) 128 [.ref 5, vi a, vi b] h (.inl none, (rset 128 19 h a (vi b))) := by
  refine ru_go (Nat.le_of_ble_eq_true rfl) ?_
  refine g_l rfl rfl rfl ?_
  refine g_gf rfl (S.t 5 rfl) (by decide) (S.r 5 6 18 rfl) ?_
  refine g_l rfl rfl rfl ?_
  refine g_l rfl rfl rfl ?_
  refine g_iv rfl rfl rfl (S.t 18 rfl) (by decide) rfl (row_setv (r := 18) (n := 128) (S.t 18 rfl) (S.r 18 0 19 rfl) (S.t 19 rfl) (S.l 19 rfl) (by decide) ra) ?_
  exact g_r rfl rfl rfl
theorem tbranch0 {d : Nat} {h : mHp} {a b c : Int} (S : Sh h) (ra : rg a) (rb : rg b) (rc : rg c) (hb : b = -1) : Ru (d + 2) 82 [.ref 5, vi a, vi b, vi c] h (.inl none, (rset 128 17 (rset 128 13 h a (vi c)) c (vi a))) := by
  obtain ⟨rb1, rb2⟩ := id rb
  refine ru_go (Nat.le_of_ble_eq_true rfl) ?_
  refine g_l rfl rfl rfl ?_
  refine g_p rfl rfl rfl ?_
  refine gi_c rfl (by decide) (by unfold rg; omega) (by unfold rg; omega) (q := false) (decide_eq_false (by omega)) rfl ?_
  refine g_l rfl rfl rfl ?_
  refine g_gf rfl (S.t 5 rfl) (by decide) (S.r 5 3 12 rfl) ?_
  refine g_l rfl rfl rfl ?_
  refine g_l rfl rfl rfl ?_
  refine g_iv rfl rfl rfl (S.t 12 rfl) (by decide) rfl (row_setv (r := 12) (n := 128) (S.t 12 rfl) (S.r 12 0 13 rfl) (S.t 13 rfl) (S.l 13 rfl) (by decide) ra) ?_
  refine g_b rfl rfl rfl rfl ?_
  refine g_l rfl rfl rfl ?_
  refine g_gf rfl ((rset_sh S (fun k => rfl)).t 5 rfl) (by decide) ((rset_sh S (fun k => rfl)).r 5 5 16 rfl) ?_
  refine g_l rfl rfl rfl ?_
  refine g_l rfl rfl rfl ?_
  refine g_iv rfl rfl rfl ((rset_sh S (fun k => rfl)).t 16 rfl) (by decide) rfl (row_setv (r := 16) (n := 128) ((rset_sh S (fun k => rfl)).t 16 rfl) ((rset_sh S (fun k => rfl)).r 16 0 17 rfl) ((rset_sh S (fun k => rfl)).t 17 rfl) ((rset_sh S (fun k => rfl)).l 17 rfl) (by decide) rc) ?_
  exact g_r rfl rfl rfl
theorem tbranch1 {d : Nat} {h : mHp} {a b c : Int} (S : Sh h) (ra : rg a) (rb : rg b) (rc : rg c) (hb : b ≠ -1) : Ru (d + 2) 82 [.ref 5, vi a, vi b, vi c] h (.inl none, (rset 128 17 (rset 128 15 h b (vi c)) c (vi a))) := by
  obtain ⟨rb1, rb2⟩ := id rb
  refine ru_go (Nat.le_of_ble_eq_true rfl) ?_
  refine g_l rfl rfl rfl ?_
  refine g_p rfl rfl rfl ?_
  refine gi_c rfl (by decide) (by unfold rg; omega) (by unfold rg; omega) (q := true) (decide_eq_true (by omega)) rfl ?_
  refine g_l rfl rfl rfl ?_
  refine g_gf rfl (S.t 5 rfl) (by decide) (S.r 5 4 14 rfl) ?_
  refine g_l rfl rfl rfl ?_
  refine g_l rfl rfl rfl ?_
  refine g_iv rfl rfl rfl (S.t 14 rfl) (by decide) rfl (row_setv (r := 14) (n := 128) (S.t 14 rfl) (S.r 14 0 15 rfl) (S.t 15 rfl) (S.l 15 rfl) (by decide) rb) ?_
  refine g_l rfl rfl rfl ?_
  refine g_gf rfl ((rset_sh S (fun k => rfl)).t 5 rfl) (by decide) ((rset_sh S (fun k => rfl)).r 5 5 16 rfl) ?_
  refine g_l rfl rfl rfl ?_
  refine g_l rfl rfl rfl ?_
  refine g_iv rfl rfl rfl ((rset_sh S (fun k => rfl)).t 16 rfl) (by decide) rfl (row_setv (r := 16) (n := 128) ((rset_sh S (fun k => rfl)).t 16 rfl) ((rset_sh S (fun k => rfl)).r 16 0 17 rfl) ((rset_sh S (fun k => rfl)).t 17 rfl) ((rset_sh S (fun k => rfl)).l 17 rfl) (by decide) rc) ?_
  exact g_r rfl rfl rfl
