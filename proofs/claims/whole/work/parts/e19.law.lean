/-! The law's loop, and its calls that leave the work alone. -/
/-- the script stands in cell 0 -/
def scL (L : Nat) (xs : Nat → Int32) (h : mHp) : Prop := (hTag h 0 = 106 ∧ hLen h 0 = L ∧ L ≤ 1024) ∧ ∀ j, hAt h 0 j = .int (xs j)
/-- the law's locals at the head of its loop -/
def lwB (i : Int) : List (Nat × Value) := [(5, vi i), (4, .ref 99), (3, .ref 98), (2, .ref 58), (1, .ref 1), (0, .ref 0)]
theorem shJ_0 {k : Nat} : shJ 0 k = false := by
  have b : ∀ q ∈ shJl, 0 < q.1 := by
    have : (shJl.all (fun q => decide (0 < q.1))) = true := by decide +kernel
    exact fun q hq => of_decide_eq_true (List.all_eq_true.mp this q hq)
  unfold shJ
  rw [show shA 0 = false from rfl, Bool.false_or]
  cases q : shJl.contains (0, k)
  · rfl
  · exact absurd (b _ (List.contains_iff_mem.mp q)) (Nat.lt_irrefl 0)
theorem go_lv {d : Nat} {sc : Bool} {y pc : Nat} {lv lv' : List (Nat × Value)} {st : List Value} {h : mHp} {r : mRes × mHp} (H : lvS lv lv') (K : Go d sc y (pc, lv, st, h) r) : Go d sc y (pc, lv', st, h) r := by
  obtain ⟨F, k, hk⟩ := K
  exact ⟨F, k, lvS_go k (S := (pc, lv, st, h)) (S' := (pc, lv', st, h)) ⟨rfl, H, rfl⟩ hk⟩
theorem lwB_nd (i : Int) : ((lwB i).map Prod.fst).Nodup := (show ([5, 4, 3, 2, 1, 0] : List Nat).Nodup by decide)
/-- what work leaves behind stays -/
def kpW (σ σ' : Mem) : Prop := (∀ i, (20 ≤ i ∧ i ≤ 34) ∨ i = 54 ∨ i = 63 ∨ i = 64 ∨ i = 65 ∨ i = 68 ∨ i = 69 ∨ i = 75 ∨ 88 ≤ i → σ' i = σ i) ∧ ∀ k, ¬ mlK k → k ≠ 2 → k ≠ 49 → σ' 58 k = σ 58 k
theorem kpW.tr {σ σ1 σ2 : Mem} (a : kpW σ σ1) (b : kpW σ1 σ2) : kpW σ σ2 := ⟨fun i hi => (b.1 i hi).trans (a.1 i hi), fun k h1 h2 h3 => (b.2 k h1 h2 h3).trans (a.2 k h1 h2 h3)⟩
theorem kpW.rf {σ : Mem} : kpW σ σ := ⟨fun _ _ => rfl, fun _ _ _ _ => rfl⟩
theorem kpW.mu {σ : Mem} {i : Nat} {k z : Int} (h : ¬ ((20 ≤ i ∧ i ≤ 34) ∨ i = 54 ∨ i = 63 ∨ i = 64 ∨ i = 65 ∨ i = 68 ∨ i = 69 ∨ i = 75 ∨ 88 ≤ i)) (h58 : i ≠ 58) : kpW σ (mup σ i k z) := ⟨fun j hj => mup_obj (fun e => h (e ▸ hj)), fun j _ _ _ => mup_ne (fun e => h58 e.symm)⟩
theorem kpW.m8 {σ : Mem} {k z : Int} (h : mlK k ∨ k = 2 ∨ k = 49) : kpW σ (mup σ 58 k z) := ⟨fun j hj => mup_obj (by omega), fun j h1 h2 h3 => mup_nk (by
  rintro rfl
  rcases h with h | h | h
  · exact h1 h
  · exact h2 h
  · exact h3 h)⟩
theorem mlK_0 : mlK 0 := Or.inr (Or.inr rfl)
section LW
variable {L : Nat} {xs : Nat → Int32} {d : Nat} {h : mHp} {σ : Mem} {i : Int} {r : mRes × mHp}
theorem l_el {pc n a b w : Nat} {lv : List (Nat × Value)} {st : List Value} {z : Int} (s : scL L xs h) (hc : mcd 229 pc = some (.iaload, n, a, b, w)) (h0 : 0 ≤ z ∧ z < L) (K : Go d true 229 (pc + n, lv, vi (xs z.toNat).toInt :: st, put h σ) r) : Go d true 229 (pc, lv, vi z :: .ref 0 :: st, put h σ) r := by
  refine g_sc hc rfl ?_ K
  obtain ⟨e1, e2⟩ := vp_in_ok (n := L) h0.1 h0.2 (by have := s.1.2.2; omega)
  have e1 : ¬ (Int32.ofInt z < 0 ∨ L ≤ (Int32.ofInt z).toNatClampNeg) := e1
  simp only [mScr, vi]
  rw [if_pos (show hTag (put h σ) 0 = 106 ∧ ¬ (Int32.ofInt z < 0 ∨ hLen (put h σ) 0 ≤ (Int32.ofInt z).toNatClampNeg) from ⟨s.1.1, by rw [show hLen (put h σ) 0 = L from s.1.2.1]; exact e1⟩), put_no shJ_0, e2, s.2]
  rw [Int32.ofInt_toInt]
/-- the second int of a call is read -/
theorem l_arg {pc : Nat} {lv : List (Nat × Value)} {st : List Value} (s : scL L xs h) (h0 : 0 ≤ i ∧ i + 2 ≤ L) (l0 : lv.lookup 0 = some (.ref 0)) (l5 : lv.lookup 5 = some (vi i)) (c0 : mcd 229 pc = some (.aload_n 0, 1, 0, 0, 0)) (c1 : mcd 229 (pc + 1) = some (.iload 5, 2, 0, 0, 0)) (c2 : mcd 229 (pc + 1 + 2) = some (.iconst 1, 1, 0, 0, 0)) (c3 : mcd 229 (pc + 1 + 2 + 1) = some (.iadd, 1, 0, 0, 0)) (c4 : mcd 229 (pc + 1 + 2 + 1 + 1) = some (.iaload, 1, 0, 0, 0)) (K : Go d true 229 (pc + 1 + 2 + 1 + 1 + 1, lv, vi (xs (i + 1).toNat).toInt :: st, put h σ) r) : Go d true 229 (pc, lv, st, put h σ) r := by
  refine g_l (lv' := lv) (st' := .ref 0 :: st) c0 rfl (by show mLd lv st 0 isA = some (lv, .ref 0 :: st); unfold mLd; rw [l0]; rfl) ?_
  refine g_l (lv' := lv) (st' := vi i :: .ref 0 :: st) c1 rfl (by show mLd lv (.ref 0 :: st) 5 isI = some (lv, vi i :: .ref 0 :: st); unfold mLd; rw [l5]; rfl) ?_
  refine gi_k (x := 1) c2 rfl rfl rfl ?_
  refine gi_add c3 ?_
  exact l_el s c4 ⟨by omega, by omega⟩ K
/-- nothing more to read -/
theorem l_stop (s : scL L xs h) (h0 : 0 ≤ i ∧ i ≤ 1100) (hi : L < i + 2) : Go d true 229 (28, lwB i, [], put h σ) (.inl (some (vi 1)), put h σ) := by
  have l3 := s.1.2.2
  refine g_l rfl rfl rfl ?_
  refine g_l rfl rfl rfl ?_
  refine g_sc (st' := [vi (L : Int), vi i]) rfl rfl ?_ ?_
  · simp only [mScr]
    rw [if_pos (show hTag (put h σ) 0 = 106 from s.1.1), show hLen (put h σ) 0 = L from s.1.2.1, vi_nat]
  refine gi_k (x := 2) rfl rfl rfl rfl ?_
  refine gi_sub rfl ?_
  refine gi_c rfl (by decide) (by unfold rg; omega) (by unfold rg; omega) (q := true) (decide_eq_true (by omega)) rfl ?_
  refine gi_k (x := 1) rfl rfl rfl rfl ?_
  exact g_r rfl rfl rfl
/-- the loop's head with a call to make -/
theorem l_head {j : Nat} (s : scL L xs h) (h0 : 0 ≤ i ∧ i + 2 ≤ L) (hj : xs i.toNat &&& (Int8.ofInt 15).toInt32 = Int32.ofNat j) (K : Go d true 229 (44, lwB i, [.int (Int32.ofNat j)], put h σ) r) : Go d true 229 (28, lwB i, [], put h σ) r := by
  have l3 := s.1.2.2
  refine g_l rfl rfl rfl ?_
  refine g_l rfl rfl rfl ?_
  refine g_sc (st' := [vi (L : Int), vi i]) rfl rfl ?_ ?_
  · simp only [mScr]
    rw [if_pos (show hTag (put h σ) 0 = 106 from s.1.1), show hLen (put h σ) 0 = L from s.1.2.1, vi_nat]
  refine gi_k (x := 2) rfl rfl rfl rfl ?_
  refine gi_sub rfl ?_
  refine gi_c rfl (by decide) (by unfold rg; omega) (by unfold rg; omega) (q := false) (decide_eq_false (by omega)) rfl ?_
  refine g_l rfl rfl rfl ?_
  refine g_l rfl rfl rfl ?_
  refine l_el s rfl ⟨by omega, by omega⟩ ?_
  rw [vi_toInt]
  refine g_p rfl rfl rfl ?_
  refine g_p rfl rfl rfl ?_
  rw [hj]
  exact K
/-- the next call -/
theorem l_next {lv : List (Nat × Value)} (hl : lvS (lwB i) lv) (K : Go d true 229 (28, lwB (i + 2), [], put h σ) r) : Go d true 229 (438, lv, [], put h σ) r := by
  refine go_lv hl ?_
  refine gi_inc (z := i) rfl rfl rfl (by decide) ?_
  exact g_b rfl rfl rfl rfl K
theorem lvS.rf : lvS (lwB i) (lwB i) := ⟨lwB_nd i, fun _ _ h => h⟩
theorem call_m {y : Nat} {as : List Value} {σ' : Mem} {v : Int} (M : RM σ) (R : Rn (d + 4) y as σ (some v) σ') : rg v ∧ RM σ' := ⟨(R M).2.1 v rfl, (R M).1⟩
/-- a call of both that answers the same -/
theorem eq_go {pc n a b w : Nat} {z v : Int} {lv : List (Nat × Value)} {st : List Value} {t : Nat} (hc : mcd 229 pc = some (.if_icmp .eq z, n, a, b, w)) (hd : 0 ≤ (pc : Int) + z) (gv : rg v) (ht : mOff pc n (some z) = some t) (K : Go d true 229 (t, lv, st, put h σ) r) : Go d true 229 (pc, lv, vi v :: vi v :: st, put h σ) r :=
  gi_c hc hd gv gv (q := true) (decide_eq_true rfl) ht K
/-- 1: wipe -/
theorem op_1 (I : LnE σ) (X : TxE σ) (M : RM σ) (S : Sh h) (Q : mHp → Prop) (K : ∀ σ', LnE σ' → TxE σ' → RM σ' → kpW σ σ' → ∃ h2, Q h2 ∧ Go (d + 9) true 229 (438, lwB i, [], put h σ') (.inl (some (vi 1)), h2)) : ∃ h2, Q h2 ∧ Go (d + 9) true 229 (127, lwB i, [], put h σ) (.inl (some (vi 1)), h2) := by
  have R1 : Rn (d + 9) yF_wipe [.ref 1] σ none (mup σ 2 1 0) := M_F_wipe (d := d + 5) ⟨_, (M_Ln_clear (d := d + 4) ⟨rfl, rfl⟩ : Rn (d + 8) yLn_clear [.ref 2] σ none (mup σ 2 1 0)), rfl, rfl⟩
  have M1 := (R1 M).1
  have R2 : Rn (d + 9) yMo_wipe [.ref 58] (mup σ 2 1 0) none (mup (mup (mup σ 2 1 0) 58 0 0) 58 2 0) := M_Mo_wipe (d := d + 5) ⟨rfl, rfl⟩
  have M2 := (R2 M1).1
  obtain ⟨h2, hQ, G⟩ : ∃ h2, Q h2 ∧ Go (d + 9) true 229 (438, lwB i, [], put h (mup (mup (mup σ 2 1 0) 58 0 0) 58 2 0)) (.inl (some (vi 1)), h2) := by
    refine K _ (LnE.emp ?_ mup_eq (fun k => ?_)) (X.cg ?_ ?_ ?_ ?_) M2 ?_
    · rw [mup_obj (by decide), mup_obj (by decide), mup_eq]
    · rw [mup_obj (by decide), mup_obj (by decide), mup_obj (by decide)]; exact I.2.2.2.2 k
    · rw [mup_obj (by decide), mup_obj (by decide), mup_obj (by decide)]
    · rw [mup_nk (by decide), mup_nk (by decide), mup_ne (by decide)]
    · rw [mup_obj (by decide), mup_obj (by decide), mup_obj (by decide)]
    · rw [mup_obj (by decide), mup_obj (by decide), mup_obj (by decide)]
    · exact ((kpW.mu (by decide) (by decide)).tr (kpW.m8 (Or.inl mlK_0))).tr (kpW.m8 (Or.inr (Or.inl rfl)))
  refine ⟨h2, hQ, ?_⟩
  refine g_l rfl rfl rfl ?_
  refine g_iv rfl rfl rfl (S.t 1 rfl) (by decide) rfl (R1.at M S) ?_
  refine g_l rfl rfl rfl ?_
  refine g_iv rfl rfl rfl (S.t 58 rfl) (by decide) rfl (R2.at M1 S) ?_
  exact g_b rfl rfl rfl rfl G
end LW
