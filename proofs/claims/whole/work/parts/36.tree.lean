/-! The trees: their parts are read. -/
def trS (h : mHp) (t : Nat) : Prop := hTag h t = 3 ∧ ∀ j, j < 7 → hAt h t j = .ref (t + (2 * j + 1)) ∧ hTag h (t + (2 * j + 1)) = 2 ∧ hAt h (t + (2 * j + 1)) 0 = .ref (t + (2 * j + 2)) ∧ hTag h (t + (2 * j + 2)) = 100 ∧ hLen h (t + (2 * j + 2)) = 128
theorem tr_5 {h : mHp} (S : Sh h) : trS h 5 := ⟨S.t 5 rfl, fun j hj => match j, hj with
  | 0, _ => ⟨S.r 5 0 6 rfl, S.t 6 rfl, S.r 6 0 7 rfl, S.t 7 rfl, S.l 7 rfl⟩
  | 1, _ => ⟨S.r 5 1 8 rfl, S.t 8 rfl, S.r 8 0 9 rfl, S.t 9 rfl, S.l 9 rfl⟩
  | 2, _ => ⟨S.r 5 2 10 rfl, S.t 10 rfl, S.r 10 0 11 rfl, S.t 11 rfl, S.l 11 rfl⟩
  | 3, _ => ⟨S.r 5 3 12 rfl, S.t 12 rfl, S.r 12 0 13 rfl, S.t 13 rfl, S.l 13 rfl⟩
  | 4, _ => ⟨S.r 5 4 14 rfl, S.t 14 rfl, S.r 14 0 15 rfl, S.t 15 rfl, S.l 15 rfl⟩
  | 5, _ => ⟨S.r 5 5 16 rfl, S.t 16 rfl, S.r 16 0 17 rfl, S.t 17 rfl, S.l 17 rfl⟩
  | 6, _ => ⟨S.r 5 6 18 rfl, S.t 18 rfl, S.r 18 0 19 rfl, S.t 19 rfl, S.l 19 rfl⟩
  | j + 7, h => absurd h (by omega)⟩
theorem tr_20 {h : mHp} (S : Sh h) : trS h 20 := ⟨S.t 20 rfl, fun j hj => match j, hj with
  | 0, _ => ⟨S.r 20 0 21 rfl, S.t 21 rfl, S.r 21 0 22 rfl, S.t 22 rfl, S.l 22 rfl⟩
  | 1, _ => ⟨S.r 20 1 23 rfl, S.t 23 rfl, S.r 23 0 24 rfl, S.t 24 rfl, S.l 24 rfl⟩
  | 2, _ => ⟨S.r 20 2 25 rfl, S.t 25 rfl, S.r 25 0 26 rfl, S.t 26 rfl, S.l 26 rfl⟩
  | 3, _ => ⟨S.r 20 3 27 rfl, S.t 27 rfl, S.r 27 0 28 rfl, S.t 28 rfl, S.l 28 rfl⟩
  | 4, _ => ⟨S.r 20 4 29 rfl, S.t 29 rfl, S.r 29 0 30 rfl, S.t 30 rfl, S.l 30 rfl⟩
  | 5, _ => ⟨S.r 20 5 31 rfl, S.t 31 rfl, S.r 31 0 32 rfl, S.t 32 rfl, S.l 32 rfl⟩
  | 6, _ => ⟨S.r 20 6 33 rfl, S.t 33 rfl, S.r 33 0 34 rfl, S.t 34 rfl, S.l 34 rfl⟩
  | j + 7, h => absurd h (by omega)⟩
theorem tkind_at {d t : Nat} {h : mHp} {z : Int} (T : trS h t) (hz : rg z) {v : Value} (h0 : 0 ≤ z) (h1 : z < 128) (hv : hAt h (t + 2) z.toNat = v) (hi : isI v = true) : Ru (d + 2) 19 [.ref t, vi z] h (.inl (some v), h) := by
  obtain ⟨g1, g2, g3, g4, g5⟩ := T.2 0 (by decide)
  obtain ⟨x, rfl⟩ := isI_spec hi
  refine ru_go (Nat.le_of_ble_eq_true rfl) ?_
  refine g_l rfl rfl rfl ?_
  refine g_gf rfl T.1 (by decide) g1 ?_
  refine g_l rfl rfl rfl ?_
  refine g_iv rfl rfl rfl g2 (by decide) rfl (row_get (r := t + 1) (n := 128) g2 g3 g4 g5 (by decide) hz h0 h1 hv hi) ?_
  exact g_r rfl rfl rfl
theorem tkind_no {d t : Nat} {h : mHp} {z : Int} (T : trS h t) (hz : rg z) (h0 : z < 0 ∨ 128 ≤ z) : Ru (d + 2) 19 [.ref t, vi z] h (.inl (some (vi (-1))), h) := by
  obtain ⟨g1, g2, g3, g4, g5⟩ := T.2 0 (by decide)
  refine ru_go (Nat.le_of_ble_eq_true rfl) ?_
  refine g_l rfl rfl rfl ?_
  refine g_gf rfl T.1 (by decide) g1 ?_
  refine g_l rfl rfl rfl ?_
  refine g_iv rfl rfl rfl g2 (by decide) rfl (row_none (r := t + 1) (n := 128) g2 g3 g4 g5 (by decide) hz h0) ?_
  exact g_r rfl rfl rfl
theorem tnumber_at {d t : Nat} {h : mHp} {z : Int} (T : trS h t) (hz : rg z) {v : Value} (h0 : 0 ≤ z) (h1 : z < 128) (hv : hAt h (t + 4) z.toNat = v) (hi : isI v = true) : Ru (d + 2) 20 [.ref t, vi z] h (.inl (some v), h) := by
  obtain ⟨g1, g2, g3, g4, g5⟩ := T.2 1 (by decide)
  obtain ⟨x, rfl⟩ := isI_spec hi
  refine ru_go (Nat.le_of_ble_eq_true rfl) ?_
  refine g_l rfl rfl rfl ?_
  refine g_gf rfl T.1 (by decide) g1 ?_
  refine g_l rfl rfl rfl ?_
  refine g_iv rfl rfl rfl g2 (by decide) rfl (row_get (r := t + 3) (n := 128) g2 g3 g4 g5 (by decide) hz h0 h1 hv hi) ?_
  exact g_r rfl rfl rfl
theorem tnumber_no {d t : Nat} {h : mHp} {z : Int} (T : trS h t) (hz : rg z) (h0 : z < 0 ∨ 128 ≤ z) : Ru (d + 2) 20 [.ref t, vi z] h (.inl (some (vi (-1))), h) := by
  obtain ⟨g1, g2, g3, g4, g5⟩ := T.2 1 (by decide)
  refine ru_go (Nat.le_of_ble_eq_true rfl) ?_
  refine g_l rfl rfl rfl ?_
  refine g_gf rfl T.1 (by decide) g1 ?_
  refine g_l rfl rfl rfl ?_
  refine g_iv rfl rfl rfl g2 (by decide) rfl (row_none (r := t + 3) (n := 128) g2 g3 g4 g5 (by decide) hz h0) ?_
  exact g_r rfl rfl rfl
theorem tfirst_at {d t : Nat} {h : mHp} {z : Int} (T : trS h t) (hz : rg z) {v : Value} (h0 : 0 ≤ z) (h1 : z < 128) (hv : hAt h (t + 6) z.toNat = v) (hi : isI v = true) : Ru (d + 2) 27 [.ref t, vi z] h (.inl (some v), h) := by
  obtain ⟨g1, g2, g3, g4, g5⟩ := T.2 2 (by decide)
  obtain ⟨x, rfl⟩ := isI_spec hi
  refine ru_go (Nat.le_of_ble_eq_true rfl) ?_
  refine g_l rfl rfl rfl ?_
  refine g_gf rfl T.1 (by decide) g1 ?_
  refine g_l rfl rfl rfl ?_
  refine g_iv rfl rfl rfl g2 (by decide) rfl (row_get (r := t + 5) (n := 128) g2 g3 g4 g5 (by decide) hz h0 h1 hv hi) ?_
  exact g_r rfl rfl rfl
theorem tfirst_no {d t : Nat} {h : mHp} {z : Int} (T : trS h t) (hz : rg z) (h0 : z < 0 ∨ 128 ≤ z) : Ru (d + 2) 27 [.ref t, vi z] h (.inl (some (vi (-1))), h) := by
  obtain ⟨g1, g2, g3, g4, g5⟩ := T.2 2 (by decide)
  refine ru_go (Nat.le_of_ble_eq_true rfl) ?_
  refine g_l rfl rfl rfl ?_
  refine g_gf rfl T.1 (by decide) g1 ?_
  refine g_l rfl rfl rfl ?_
  refine g_iv rfl rfl rfl g2 (by decide) rfl (row_none (r := t + 5) (n := 128) g2 g3 g4 g5 (by decide) hz h0) ?_
  exact g_r rfl rfl rfl
theorem tsecond_at {d t : Nat} {h : mHp} {z : Int} (T : trS h t) (hz : rg z) {v : Value} (h0 : 0 ≤ z) (h1 : z < 128) (hv : hAt h (t + 8) z.toNat = v) (hi : isI v = true) : Ru (d + 2) 31 [.ref t, vi z] h (.inl (some v), h) := by
  obtain ⟨g1, g2, g3, g4, g5⟩ := T.2 3 (by decide)
  obtain ⟨x, rfl⟩ := isI_spec hi
  refine ru_go (Nat.le_of_ble_eq_true rfl) ?_
  refine g_l rfl rfl rfl ?_
  refine g_gf rfl T.1 (by decide) g1 ?_
  refine g_l rfl rfl rfl ?_
  refine g_iv rfl rfl rfl g2 (by decide) rfl (row_get (r := t + 7) (n := 128) g2 g3 g4 g5 (by decide) hz h0 h1 hv hi) ?_
  exact g_r rfl rfl rfl
theorem tsecond_no {d t : Nat} {h : mHp} {z : Int} (T : trS h t) (hz : rg z) (h0 : z < 0 ∨ 128 ≤ z) : Ru (d + 2) 31 [.ref t, vi z] h (.inl (some (vi (-1))), h) := by
  obtain ⟨g1, g2, g3, g4, g5⟩ := T.2 3 (by decide)
  refine ru_go (Nat.le_of_ble_eq_true rfl) ?_
  refine g_l rfl rfl rfl ?_
  refine g_gf rfl T.1 (by decide) g1 ?_
  refine g_l rfl rfl rfl ?_
  refine g_iv rfl rfl rfl g2 (by decide) rfl (row_none (r := t + 7) (n := 128) g2 g3 g4 g5 (by decide) hz h0) ?_
  exact g_r rfl rfl rfl
theorem tthird_at {d t : Nat} {h : mHp} {z : Int} (T : trS h t) (hz : rg z) {v : Value} (h0 : 0 ≤ z) (h1 : z < 128) (hv : hAt h (t + 10) z.toNat = v) (hi : isI v = true) : Ru (d + 2) 45 [.ref t, vi z] h (.inl (some v), h) := by
  obtain ⟨g1, g2, g3, g4, g5⟩ := T.2 4 (by decide)
  obtain ⟨x, rfl⟩ := isI_spec hi
  refine ru_go (Nat.le_of_ble_eq_true rfl) ?_
  refine g_l rfl rfl rfl ?_
  refine g_gf rfl T.1 (by decide) g1 ?_
  refine g_l rfl rfl rfl ?_
  refine g_iv rfl rfl rfl g2 (by decide) rfl (row_get (r := t + 9) (n := 128) g2 g3 g4 g5 (by decide) hz h0 h1 hv hi) ?_
  exact g_r rfl rfl rfl
theorem tthird_no {d t : Nat} {h : mHp} {z : Int} (T : trS h t) (hz : rg z) (h0 : z < 0 ∨ 128 ≤ z) : Ru (d + 2) 45 [.ref t, vi z] h (.inl (some (vi (-1))), h) := by
  obtain ⟨g1, g2, g3, g4, g5⟩ := T.2 4 (by decide)
  refine ru_go (Nat.le_of_ble_eq_true rfl) ?_
  refine g_l rfl rfl rfl ?_
  refine g_gf rfl T.1 (by decide) g1 ?_
  refine g_l rfl rfl rfl ?_
  refine g_iv rfl rfl rfl g2 (by decide) rfl (row_none (r := t + 9) (n := 128) g2 g3 g4 g5 (by decide) hz h0) ?_
  exact g_r rfl rfl rfl
theorem tparent_at {d t : Nat} {h : mHp} {z : Int} (T : trS h t) (hz : rg z) {v : Value} (h0 : 0 ≤ z) (h1 : z < 128) (hv : hAt h (t + 12) z.toNat = v) (hi : isI v = true) : Ru (d + 2) 30 [.ref t, vi z] h (.inl (some v), h) := by
  obtain ⟨g1, g2, g3, g4, g5⟩ := T.2 5 (by decide)
  obtain ⟨x, rfl⟩ := isI_spec hi
  refine ru_go (Nat.le_of_ble_eq_true rfl) ?_
  refine g_l rfl rfl rfl ?_
  refine g_gf rfl T.1 (by decide) g1 ?_
  refine g_l rfl rfl rfl ?_
  refine g_iv rfl rfl rfl g2 (by decide) rfl (row_get (r := t + 11) (n := 128) g2 g3 g4 g5 (by decide) hz h0 h1 hv hi) ?_
  exact g_r rfl rfl rfl
theorem tparent_no {d t : Nat} {h : mHp} {z : Int} (T : trS h t) (hz : rg z) (h0 : z < 0 ∨ 128 ≤ z) : Ru (d + 2) 30 [.ref t, vi z] h (.inl (some (vi (-1))), h) := by
  obtain ⟨g1, g2, g3, g4, g5⟩ := T.2 5 (by decide)
  refine ru_go (Nat.le_of_ble_eq_true rfl) ?_
  refine g_l rfl rfl rfl ?_
  refine g_gf rfl T.1 (by decide) g1 ?_
  refine g_l rfl rfl rfl ?_
  refine g_iv rfl rfl rfl g2 (by decide) rfl (row_none (r := t + 11) (n := 128) g2 g3 g4 g5 (by decide) hz h0) ?_
  exact g_r rfl rfl rfl
theorem ttypeOf_at {d t : Nat} {h : mHp} {z : Int} (T : trS h t) (hz : rg z) {v : Value} (h0 : 0 ≤ z) (h1 : z < 128) (hv : hAt h (t + 14) z.toNat = v) (hi : isI v = true) : Ru (d + 2) 130 [.ref t, vi z] h (.inl (some v), h) := by
  obtain ⟨g1, g2, g3, g4, g5⟩ := T.2 6 (by decide)
  obtain ⟨x, rfl⟩ := isI_spec hi
  refine ru_go (Nat.le_of_ble_eq_true rfl) ?_
  refine g_l rfl rfl rfl ?_
  refine g_gf rfl T.1 (by decide) g1 ?_
  refine g_l rfl rfl rfl ?_
  refine g_iv rfl rfl rfl g2 (by decide) rfl (row_get (r := t + 13) (n := 128) g2 g3 g4 g5 (by decide) hz h0 h1 hv hi) ?_
  exact g_r rfl rfl rfl
theorem ttypeOf_no {d t : Nat} {h : mHp} {z : Int} (T : trS h t) (hz : rg z) (h0 : z < 0 ∨ 128 ≤ z) : Ru (d + 2) 130 [.ref t, vi z] h (.inl (some (vi (-1))), h) := by
  obtain ⟨g1, g2, g3, g4, g5⟩ := T.2 6 (by decide)
  refine ru_go (Nat.le_of_ble_eq_true rfl) ?_
  refine g_l rfl rfl rfl ?_
  refine g_gf rfl T.1 (by decide) g1 ?_
  refine g_l rfl rfl rfl ?_
  refine g_iv rfl rfl rfl g2 (by decide) rfl (row_none (r := t + 13) (n := 128) g2 g3 g4 g5 (by decide) hz h0) ?_
  exact g_r rfl rfl rfl
theorem troot {d t : Nat} {h : mHp} {v : Int} (T : trS h t) (hv : hAt h t 8 = vi v) : Ru (d + 1) 100 [.ref t] h (.inl (some (vi v)), h) := by
  refine ru_go (Nat.le_of_ble_eq_true rfl) ?_
  refine g_l rfl rfl rfl ?_
  refine g_gf rfl T.1 (by decide) hv ?_
  exact g_r rfl rfl rfl
theorem tsize {d t : Nat} {h : mHp} {v : Int} (T : trS h t) (hv : hAt h t 7 = vi v) : Ru (d + 1) 129 [.ref t] h (.inl (some (vi v)), h) := by
  refine ru_go (Nat.le_of_ble_eq_true rfl) ?_
  refine g_l rfl rfl rfl ?_
  refine g_gf rfl T.1 (by decide) hv ?_
  exact g_r rfl rfl rfl
