/-! The class's load, over a heap whose ints are a memory: three refusals, and what it does when it accepts. -/
theorem Rn.at {d y : Nat} {as : List Value} {σ σ' : Mem} {o : Option Int} (R : Rn d y as σ o σ') (M : RM σ) {h : mHp} (S : Sh h) : Ru d y as (put h σ) (.inl (o.map vi), put h σ') := (R M).2.2 h S
theorem put_sn {h : mHp} {σ : Mem} {i k : Nat} {v : Value} (hj : shJ i k = false) : hSet (put h σ) i k v = put (hSet h i k v) σ := by
  unfold hSet put
  refine congrArg (fun f => (h.1, h.2.1, f)) (funext fun j => ?_)
  dsimp only
  by_cases e : j = i
  · subst e
    rw [if_pos rfl, if_pos rfl]
    refine congrArg (fun f => ((h.2.2 j).1, (h.2.2 j).2.1, f)) (funext fun x => ?_)
    dsimp only
    by_cases q : x = k
    · subst q; rw [if_pos rfl, hj, if_pos rfl]; rfl
    · rw [if_neg q, if_neg q]
  · rw [if_neg e, if_neg e]
theorem shJ_hi {i k : Nat} (hi : 100 ≤ i) : shJ i k = false := by
  have a : shA i = false := by
    unfold shA shI
    rw [show Nat.blt i 100 = false from by
      cases q : Nat.blt i 100
      · rfl
      · have := Nat.blt_eq.mp q; omega]
    simp
  have b : ∀ q ∈ shJl, q.1 < 100 := by
    have : (shJl.all (fun q => decide (q.1 < 100))) = true := by decide +kernel
    exact fun q hq => of_decide_eq_true (List.all_eq_true.mp this q hq)
  unfold shJ
  rw [a, Bool.false_or]
  cases q : shJl.contains (i, k)
  · rfl
  · have := b _ (List.contains_iff_mem.mp q)
    dsimp only at this
    omega
theorem put_new {h : mHp} {σ : Mem} {t n : Nat} {f : Nat → Value} (H : 100 ≤ h.1) : hNew (put h σ) t n f = put (hNew h t n f) σ := by
  unfold hNew put
  refine congrArg (fun f => (h.1 + 1, h.2.1 + n, f)) (funext fun j => ?_)
  dsimp only
  by_cases e : j = h.1
  · subst e
    rw [if_pos rfl, if_pos rfl]
    refine congrArg (fun f => (t, n, f)) (funext fun x => ?_)
    dsimp only
    rw [shJ_hi H]; rfl
  · rw [if_neg e, if_neg e]
theorem s_lclear {d : Nat} {σ : Mem} : Rn (d + 1) yLn_clear [.ref 2] σ none (mup σ 2 1 0) := by
  refine k_m (Nat.le_of_ble_eq_true rfl) (fun hM => ?_)
  refine k_l rfl rfl rfl ?_
  refine k_k (x := 0) rfl rfl rfl rfl ?_
  refine k_pf rfl rfl rfl (by decide) rfl rfl rfl rfl ?_
  exact k_r0 (hM.up (rgk rfl)) rfl rfl rfl
section FL
variable {d : Nat} {h : mHp} {σ σ1 σ2 σ3 σ4 : Mem} {v z n : Int}
theorem fl_reads (M : RM σ) (S : Sh h) {r : mRes × mHp} (R1 : Rn (d + 350) yRd_reads [.ref 35] σ (some v) σ1) (K : Go (d + 350) false yF_load (7, [(0, .ref 1)], [vi v], put h σ1) r) : Ru (d + 351) yF_load [.ref 1] (put h σ) r := by
  refine ru_go (Nat.le_of_ble_eq_true rfl) ?_
  refine g_l rfl rfl rfl ?_
  refine g_gf rfl (S.t 1 rfl) (by decide) ((put_sh S).r 1 3 35 rfl) ?_
  exact g_iv rfl rfl rfl (S.t 35 rfl) (by decide) rfl (R1.at M S) K
theorem fl_0 (M : RM σ) (S : Sh h) (R1 : Rn (d + 350) yRd_reads [.ref 35] σ (some 0) σ1) : Ru (d + 351) yF_load [.ref 1] (put h σ) (.inr 0, put (hNew h 200 6 (fun _ => .null)) σ1) := by
  refine fl_reads M S R1 ?_
  refine gi_z rfl (by decide) (rgk rfl) (q := false) rfl rfl ?_
  rw [← put_new S.1]
  exact g_t (a := 100) rfl rfl (of_decide_eq_true rfl) rfl
theorem fl_bound (M1 : RM σ1) (S : Sh h) {r : mRes × mHp} (K : Go (d + 350) false yF_load (27, [(0, .ref 1)], [vi (if σ1 35 5 ≠ 0 then 0 else 1)], put h σ1) r) : Go (d + 350) false yF_load (7, [(0, .ref 1)], [vi 1], put h σ1) r := by
  have R : Rn (d + 350) yRd_allBound [.ref 35] σ1 (some (if σ1 35 5 ≠ 0 then 0 else 1)) σ1 := M_Rd_allBound (d := d + 346) (by
    unfold B_Rd_allBound
    split
    · exact ⟨rfl, rfl⟩
    · exact ⟨rfl, rfl⟩)
  refine gi_z rfl (by decide) (rgk rfl) (q := true) rfl rfl ?_
  refine g_l rfl rfl rfl ?_
  refine g_gf rfl (S.t 1 rfl) (by decide) ((put_sh S).r 1 3 35 rfl) ?_
  exact g_iv rfl rfl rfl (S.t 35 rfl) (by decide) rfl (R.at M1 S) K
theorem fl_1 (M : RM σ) (S : Sh h) (R1 : Rn (d + 350) yRd_reads [.ref 35] σ (some 1) σ1) (h5 : σ1 35 5 ≠ 0) : Ru (d + 351) yF_load [.ref 1] (put h σ) (.inr 1, put (hNew h 200 6 (fun _ => .null)) σ1) := by
  refine fl_reads M S R1 (fl_bound (R1 M).1 S ?_)
  rw [if_pos h5]
  refine gi_z rfl (by decide) (rgk rfl) (q := false) rfl rfl ?_
  rw [← put_new S.1]
  exact g_t (a := 101) rfl rfl (of_decide_eq_true rfl) rfl
theorem fl_acc (M1 : RM σ1) (S : Sh h) (h5 : σ1 35 5 = 0) {r : mRes × mHp} (R2 : Rn (d + 350) yCk_accepts [.ref 49] σ1 (some v) σ2) (K : Go (d + 350) false yF_load (47, [(0, .ref 1)], [vi v], put h σ2) r) : Go (d + 350) false yF_load (7, [(0, .ref 1)], [vi 1], put h σ1) r := by
  refine fl_bound M1 S ?_
  rw [if_neg (by rw [h5]; decide)]
  refine gi_z rfl (by decide) (rgk rfl) (q := true) rfl rfl ?_
  refine g_l rfl rfl rfl ?_
  refine g_gf rfl (S.t 1 rfl) (by decide) ((put_sh S).r 1 5 49 rfl) ?_
  exact g_iv rfl rfl rfl (S.t 49 rfl) (by decide) rfl (R2.at M1 S) K
theorem fl_2 (M : RM σ) (S : Sh h) (R1 : Rn (d + 350) yRd_reads [.ref 35] σ (some 1) σ1) (h5 : σ1 35 5 = 0) (R2 : Rn (d + 350) yCk_accepts [.ref 49] σ1 (some 0) σ2) : Ru (d + 351) yF_load [.ref 1] (put h σ) (.inr 2, put (hNew h 200 6 (fun _ => .null)) σ2) := by
  refine fl_reads M S R1 (fl_acc (R1 M).1 S h5 R2 ?_)
  refine gi_z rfl (by decide) (rgk rfl) (q := false) rfl rfl ?_
  rw [← put_new S.1]
  exact g_t (a := 102) rfl rfl (of_decide_eq_true rfl) rfl
/-- the machine begins: what it refers to, its ints -/
def bgH (h : mHp) : mHp := hSet (hSet (hSet h 54 5 .null) 54 6 .null) 54 11 .null
def bgM (σ : Mem) : Mem := mup (mup (mup (mup (mup (mup σ 54 2 0) 54 3 (σ 20 8)) 54 4 0) 54 7 1) 54 8 0) 54 9 0
theorem Sh.bg (S : Sh h) : Sh (bgH h) := ((S.set rfl).set rfl).set rfl
theorem f_begin (M : RM σ) (S : Sh h) : Ru (d + 3) yMc_begin [.ref 54] (put h σ) (.inl none, put (bgH h) (bgM σ)) := by
  have R : Rn (d + 2) yTr_root [.ref 20] (mup σ 54 2 0) (some (σ 20 8)) (mup σ 54 2 0) := M_Tr_root20 (d := d) ⟨by rw [mup_ne (by decide)], rfl⟩
  have M2 : RM (mup σ 54 2 0) := M.up (rgk rfl)
  refine ru_go (Nat.le_of_ble_eq_true rfl) ?_
  refine g_l rfl rfl rfl ?_
  refine gi_k (x := 0) rfl rfl rfl rfl ?_
  refine g_pf rfl (S.t 54 rfl) (by decide) rfl rfl rfl ?_
  rw [put_set rfl]
  refine g_l rfl rfl rfl ?_
  refine g_l rfl rfl rfl ?_
  refine g_gf rfl (S.t 54 rfl) (by decide) ((put_sh S).r 54 0 20 rfl) ?_
  refine g_iv rfl rfl rfl (S.t 20 rfl) (by decide) rfl (R.at M2 S) ?_
  refine g_pf rfl (S.t 54 rfl) (by decide) rfl rfl rfl ?_
  rw [put_set rfl]
  refine g_l rfl rfl rfl ?_
  refine gi_k (x := 0) rfl rfl rfl rfl ?_
  refine g_pf rfl (S.t 54 rfl) (by decide) rfl rfl rfl ?_
  rw [put_set rfl]
  refine g_l rfl rfl rfl ?_
  refine g_p rfl rfl rfl ?_
  refine g_pf rfl (S.t 54 rfl) (by decide) rfl rfl rfl ?_
  rw [put_sn rfl]
  have S := S.set (i := 54) (k := 5) (v := .null) rfl
  refine g_l rfl rfl rfl ?_
  refine g_p rfl rfl rfl ?_
  refine g_pf rfl (S.t 54 rfl) (by decide) rfl rfl rfl ?_
  rw [put_sn rfl]
  have S := S.set (i := 54) (k := 6) (v := .null) rfl
  refine g_l rfl rfl rfl ?_
  refine gi_k (x := 1) rfl rfl rfl rfl ?_
  refine g_pf rfl (S.t 54 rfl) (by decide) rfl rfl rfl ?_
  rw [put_set rfl]
  refine g_l rfl rfl rfl ?_
  refine gi_k (x := 0) rfl rfl rfl rfl ?_
  refine g_pf rfl (S.t 54 rfl) (by decide) rfl rfl rfl ?_
  rw [put_set rfl]
  refine g_l rfl rfl rfl ?_
  refine gi_k (x := 0) rfl rfl rfl rfl ?_
  refine g_pf rfl (S.t 54 rfl) (by decide) rfl rfl rfl ?_
  rw [put_set rfl]
  refine g_l rfl rfl rfl ?_
  refine g_p rfl rfl rfl ?_
  refine g_pf rfl (S.t 54 rfl) (by decide) rfl rfl rfl ?_
  rw [put_sn rfl]
  exact g_r rfl rfl rfl
theorem bg_M (M : RM σ) : RM (bgM σ) := (((((M.up (rgk rfl)).up (M 20 8)).up (rgk rfl)).up (rgk rfl)).up (rgk rfl)).up (rgk rfl)
/-- it is accepted -/
theorem fl_3 (M : RM σ) (S : Sh h) (R1 : Rn (d + 350) yRd_reads [.ref 35] σ (some 1) σ1) (h5 : σ1 35 5 = 0) (R2 : Rn (d + 350) yCk_accepts [.ref 49] σ1 (some 1) σ2) (gx : rg (σ2 5 8)) (R3 : Rn (d + 350) yTy_write [.ref 38, vi (rowv 128 σ2 19 (σ2 5 8)), .ref 56] σ2 (some n) σ3) (R4 : Rn (d + 350) yTr_copy [.ref 20, .ref 5] (mup σ3 1 8 n) none σ4) : Ru (d + 351) yF_load [.ref 1] (put h σ) (.inl (some (vi ((mup (bgM σ4) 2 1 0) 1 8))), put (hSet (bgH h) 1 9 .null) (mup (bgM σ4) 2 1 0)) := by
  have M1 := (R1 M).1
  have M2 := (R2 M1).1
  have M3 := (R3 M2).1
  have gn : rg n := (R3 M2).2.1 n rfl
  have M3' : RM (mup σ3 1 8 n) := M3.up gn
  have M4 := (R4 M3').1
  refine fl_reads M S R1 (fl_acc M1 S h5 R2 ?_)
  refine gi_z rfl (by decide) (rgk rfl) (q := true) rfl rfl ?_
  have Ra : Rn (d + 350) yTr_root [.ref 5] σ2 (some (σ2 5 8)) σ2 := M_Tr_root5 (d := d + 348) ⟨rfl, rfl⟩
  have Rb : Rn (d + 350) yTr_typeOf [.ref 5, vi (σ2 5 8)] σ2 (some (rowv 128 σ2 19 (σ2 5 8))) σ2 := M_Tr_typeOf5 (d := d + 348) gx ⟨rfl, rfl⟩
  refine g_l rfl rfl rfl ?_
  refine g_l rfl rfl rfl ?_
  refine g_gf rfl (S.t 1 rfl) (by decide) ((put_sh S).r 1 4 38 rfl) ?_
  refine g_l rfl rfl rfl ?_
  refine g_gf rfl (S.t 1 rfl) (by decide) ((put_sh S).r 1 1 5 rfl) ?_
  refine g_l rfl rfl rfl ?_
  refine g_gf rfl (S.t 1 rfl) (by decide) ((put_sh S).r 1 1 5 rfl) ?_
  refine g_iv rfl rfl rfl (S.t 5 rfl) (by decide) rfl (Ra.at M2 S) ?_
  refine g_iv rfl rfl rfl (S.t 5 rfl) (by decide) rfl (Rb.at M2 S) ?_
  refine g_l rfl rfl rfl ?_
  refine g_gf rfl (S.t 1 rfl) (by decide) ((put_sh S).r 1 7 56 rfl) ?_
  refine g_iv rfl rfl rfl (S.t 38 rfl) (by decide) rfl (R3.at M2 S) ?_
  refine g_pf rfl (S.t 1 rfl) (by decide) rfl rfl rfl ?_
  rw [put_set rfl]
  refine g_l rfl rfl rfl ?_
  refine g_gf rfl (S.t 1 rfl) (by decide) ((put_sh S).r 1 2 20 rfl) ?_
  refine g_l rfl rfl rfl ?_
  refine g_gf rfl (S.t 1 rfl) (by decide) ((put_sh S).r 1 1 5 rfl) ?_
  refine g_iv rfl rfl rfl (S.t 20 rfl) (by decide) rfl (R4.at M3' S) ?_
  refine g_l rfl rfl rfl ?_
  refine g_gf rfl (S.t 1 rfl) (by decide) ((put_sh S).r 1 6 54 rfl) ?_
  refine g_iv rfl rfl rfl (S.t 54 rfl) (by decide) rfl ((f_begin (d := d + 347) M4 S)) ?_
  have S5 := S.bg
  refine g_l rfl rfl rfl ?_
  refine g_p rfl rfl rfl ?_
  refine g_pf rfl (S5.t 1 rfl) (by decide) rfl rfl rfl ?_
  rw [put_sn rfl]
  have S6 : Sh (hSet (bgH h) 1 9 .null) := S5.set rfl
  refine g_l rfl rfl rfl ?_
  refine g_gf rfl (S6.t 1 rfl) (by decide) ((put_sh S6).r 1 0 2 rfl) ?_
  have Rc : Rn (d + 350) yLn_clear [.ref 2] (bgM σ4) none (mup (bgM σ4) 2 1 0) := s_lclear (d := d + 349)
  refine g_iv rfl rfl rfl (S6.t 2 rfl) (by decide) rfl (Rc.at (bg_M M4) S6) ?_
  refine g_l rfl rfl rfl ?_
  refine g_gf rfl (S6.t 1 rfl) (by decide) (put_at rfl) ?_
  exact g_r rfl rfl rfl
end FL
