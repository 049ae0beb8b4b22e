/-! The class's machine: operators. -/
/-- what comes after an operator -/
def opO (cx : Cx) (ρ : En) (vs : List Va) (fs : List (Cx × En)) : Va ⊕ Int → WkS ⊕ Int
  | .inl v => .inl (1, nl, cx, ρ, v :: vs, fs)
  | .inr e => .inr e
def opC (σ0 : Mem) (n : Nat) (h : mHp) (σ σ1 : Mem) (cx : Cx) (ρ : En) (vs : List Va) (fs : List (Cx × En)) (a : Int) : Prop := cB σ0 n h σ1 vs.length cx ρ vs fs a ∧ frWk 0 h h σ σ1 ∧ σ1 54 7 = σ 54 7 ∧ σ1 54 8 = σ 54 8 ∧ vs.length ≤ 200 ∧ ¬ pndS 1 nl cx
section COPE
variable {h h' h1 : mHp} {σ0 σ σ' σ1 : Mem} {d n k : Nat} {c a : Int} {cx : Cx} {ρ : En} {vs : List Va} {v : Va} {fs : List (Cx × En)}
theorem vi_32 {z : Int} : vi (i32 z) = vi z := vi_toInt
theorem rg_32 {z : Int} : rg (i32 z) := rg_toInt
theorem zDiv_32 {u v : Int} (hu : rg u) (hv : rg v) : zDiv u v = i32 (Int.tdiv u v) := by
  unfold zDiv i32
  unfold rg at hu hv
  rw [Int32.toInt_div, Int32.toInt_ofInt_of_le (by omega) (by omega), Int32.toInt_ofInt_of_le (by omega) (by omega), Int32.toInt_ofInt]
theorem cv_gt {a b : UInt64} : (Op.cmpValue (FP.dcmp a b) .l).toInt > 0 ↔ dLt b a = true := by
  have s : FP.dcmp a b = (FP.dcmp b a).map Ordering.swap := FP.Core.dcmp_swap b a
  unfold dLt
  rw [s]
  cases FP.dcmp b a with
  | none => decide
  | some o => cases o <;> decide
theorem cv_ge {a b : UInt64} : (Op.cmpValue (FP.dcmp a b) .g).toInt ≥ 0 ↔ dLt a b = false := by
  unfold dLt
  cases FP.dcmp a b with
  | none => decide
  | some o => cases o <;> decide
theorem cv_ne {a b : UInt64} : (Op.cmpValue (FP.dcmp a b) .l).toInt ≠ 0 ↔ FP.dcmp a b ≠ some .eq := by
  cases FP.dcmp a b with
  | none => decide
  | some o => cases o <;> decide
theorem k_big : (UInt64.ofNat 4741671816366391296) = big9 := by decide +kernel
theorem k_nbig : (UInt64.ofNat 13965043853221167104) = FP.dneg big9 := by decide +kernel
theorem k_zero : FP.dconst0 = 0 := by decide +kernel
theorem nn_of {b : UInt64} (h : FP.Core.dIsNaN b = false) : nn b = true := by
  have h : ¬ 9218868437227405312 < b.toNat % 2 ^ 63 := fun w => by
    have := (FP.Core.isNaN_bits b).mpr w
    rw [h] at this
    cases this
  unfold nn
  refine decide_eq_true ?_
  rw [UInt64.le_iff_toNat_le, UInt64.toNat_and, show (0x7fffffffffffffff : UInt64).toNat = 2 ^ 63 - 1 from rfl, Nat.and_two_pow_sub_one_eq_mod, show (0x7ff0000000000000 : UInt64).toNat = 9218868437227405312 from rfl]
  omega
theorem toR_vR {x : UInt64} : toR (vR x) = x := vR_at
theorem wk_op {z : Int} {A B C : Tr} {x y : Va} : wkS (2, nd 9 z A B C, cx, ρ, y :: x :: vs, fs) = some (opO cx ρ vs fs (opV z x y)) := by
  unfold wkS
  simp only [nd]
  cases opV z x y <;> rfl
theorem opC.ge (w : opC σ0 n h σ σ1 cx ρ vs fs a) : 100 ≤ h.1 := by
  obtain ⟨⟨⟨n0, n1⟩, -⟩, -⟩ := w
  exact Nat.le_trans n0 n1
theorem c_oI (w : opC σ0 n h σ σ1 cx ρ vs fs a) {k : Nat} {z : Int} (hk : k = 0 ∨ k = 1) (gz : rg z) : ∃ h' σ', Rh (d + 3) yMc_settle [.ref 54, .ref h.1] (hvI h k z) σ1 (.inl none) h' σ' ∧ cOutS σ0 130 h σ h' σ' (.inl (1, nl, cx, ρ, .tag k (.nest z .nil) :: vs, fs)) := by
  have H := w.ge
  obtain ⟨b, f, e7, e8, hl, np⟩ := w
  obtain ⟨x0, x1, x2⟩ := hvI_at (h := h) (k := (k : Int)) (z := z)
  have r : RPv (hvI h k z) (nT σ0) (hvI h k z).1 (.tag k (.nest z .nil)) false (.ref h.1) := by
    rcases hk with rfl | rfl
    · exact ⟨h.1, rfl, ⟨⟨H, Nat.lt_succ_self _⟩, x0⟩, x1, x2, gz⟩
    · exact ⟨h.1, rfl, ⟨⟨H, Nat.lt_succ_self _⟩, x0⟩, x1, x2, gz⟩
  obtain ⟨h', σ', Rs, o⟩ := c_val2 (d := d) exB.I b f e7 e8 hl r np
  exact ⟨h', σ', Rs, o.1.le (by decide), o.2⟩
theorem c_oR (w : opC σ0 n h σ σ1 cx ρ vs fs a) {q : UInt64} : ∃ h' σ', Rh (d + 3) yMc_settle [.ref 54, .ref h.1] (hvR h q) σ1 (.inl none) h' σ' ∧ cOutS σ0 130 h σ h' σ' (.inl (1, nl, cx, ρ, vR q :: vs, fs)) := by
  have H := w.ge
  obtain ⟨b, f, e7, e8, hl, np⟩ := w
  obtain ⟨x0, x1, x2, x3⟩ := hvR_at (h := h) (b := q)
  obtain ⟨h', σ', Rs, o⟩ := c_val2 (d := d) (v := vR q) exB.R b f e7 e8 hl ⟨h.1, rfl, ⟨⟨H, Nat.lt_succ_self _⟩, x0⟩, x1, x2, x3.trans (congrArg Value.double vR_at.symm)⟩ np
  exact ⟨h', σ', Rs, o.1.le (by decide), o.2⟩
theorem c_oF (w : opC σ0 n h σ σ1 cx ρ vs fs a) {c : Int} : cOutS σ0 130 h σ h (mup (mup σ1 54 7 3) 54 8 c) (.inr c) := ⟨((w.2.1.tr (frWk.m4 (j := 7) (z := 3) (by decide) (by decide))).tr (frWk.m4 (j := 8) (z := c) (by decide) (by decide))).le (by decide), rfl, (mup_nk (by decide)).trans mup_eq, mup_eq⟩
theorem r_v32 {z : Int} (H : 100 ≤ h.1) : Rh (d + 3) yVa_init [.ref h.1, vi 0, vi z] (nwO h 8) σ (.inl none) (hvI h 0 (i32 z)) σ := by
  have := r_vnew (d := d + 1) (σ := σ) (k := 0) H (rgk rfl) (rg_32 (z := z))
  rw [vi_32 (z := z)] at this
  exact this
theorem c_opN (w : opC σ0 n h σ σ1 cx ρ vs fs a) {z x y : Int} (hz : opZ z) (h1 : z < 128) (gx : rg x) (gy : rg y) : ∃ h' σ', Rh (d + 4) yMc_operateOnNumbers [.ref 54, vi z, vi x, vi y] h σ1 (.inl none) h' σ' ∧ cOutS σ0 130 h σ h' σ' (opO cx ρ vs fs (opV z (vN x) (vN y))) := by
  have H := w.ge
  have hz : z = 42 ∨ z = 43 ∨ z = 45 ∨ z = 47 ∨ z = 60 ∨ z = 61 := by unfold opZ at hz; omega
  have tt : ∀ t : Int, rg t → t = 0 ∨ t = 1 → Rh (d + 3) yVa_init [.ref h.1, vi 1, vi t] (nwO h 8) σ1 (.inl none) (hvI h 1 t) σ1 := fun t g _ => r_vnew (d := d + 1) H (rgk rfl) g
  rcases hz with rfl | rfl | rfl | rfl | rfl | rfl
  · have e : opV 42 (vN x) (vN y) = .inl (vN (i32 (x * y))) := by
      unfold opV
      rw [if_neg (by decide), if_neg (by decide), if_neg (by decide), if_neg (by decide), if_neg (by decide), if_neg (by decide), if_pos rfl]
      rfl
    obtain ⟨h', σ', S, o⟩ := c_oI (d := d) w (Or.inl rfl) (rg_32 (z := x * y))
    refine ⟨h', σ', M_Mc_operateOnNumbers (rgk rfl) gx gy ?_, by rw [e]; exact o⟩
    unfold B_Mc_operateOnNumbers
    rw [if_pos rfl]
    exact ⟨H, nw_tag, _, _, r_v32 H, _, _, S, rfl, rfl, rfl⟩
  · have e : opV 43 (vN x) (vN y) = .inl (vN (i32 (x + y))) := by
      unfold opV
      rw [if_neg (by decide), if_neg (by decide), if_neg (by decide), if_neg (by decide), if_pos rfl]
      rfl
    obtain ⟨h', σ', S, o⟩ := c_oI (d := d) w (Or.inl rfl) (rg_32 (z := x + y))
    refine ⟨h', σ', M_Mc_operateOnNumbers (rgk rfl) gx gy ?_, by rw [e]; exact o⟩
    unfold B_Mc_operateOnNumbers
    rw [if_neg (by decide), if_pos rfl]
    exact ⟨H, nw_tag, _, _, r_v32 H, _, _, S, rfl, rfl, rfl⟩
  · have e : opV 45 (vN x) (vN y) = .inl (vN (i32 (x - y))) := by
      unfold opV
      rw [if_neg (by decide), if_neg (by decide), if_neg (by decide), if_neg (by decide), if_neg (by decide), if_pos rfl]
      rfl
    obtain ⟨h', σ', S, o⟩ := c_oI (d := d) w (Or.inl rfl) (rg_32 (z := x - y))
    refine ⟨h', σ', M_Mc_operateOnNumbers (rgk rfl) gx gy ?_, by rw [e]; exact o⟩
    unfold B_Mc_operateOnNumbers
    rw [if_neg (by decide), if_neg (by decide), if_pos rfl]
    exact ⟨H, nw_tag, _, _, r_v32 H, _, _, S, rfl, rfl, rfl⟩
  · have e : opV 47 (vN x) (vN y) = if y = 0 then .inr 1 else .inl (vN (i32 (Int.tdiv x y))) := by
      unfold opV
      rw [if_neg (by decide), if_neg (by decide), if_neg (by decide), if_neg (by decide), if_neg (by decide), if_neg (by decide), if_neg (by decide)]
      rfl
    by_cases q : y = 0
    · refine ⟨_, _, M_Mc_operateOnNumbers (rgk rfl) gx gy ?_, by rw [e, if_pos q]; exact c_oF w⟩
      unfold B_Mc_operateOnNumbers
      rw [if_neg (by decide), if_neg (by decide), if_neg (by decide), if_neg (by decide), if_neg (by decide), if_neg (by omega)]
      exact ⟨_, _, r_fail (d := d + 1) (rgk rfl), rfl, rfl, rfl⟩
    · obtain ⟨h', σ', S, o⟩ := c_oI (d := d) w (Or.inl rfl) (rg_32 (z := Int.tdiv x y))
      refine ⟨h', σ', M_Mc_operateOnNumbers (rgk rfl) gx gy ?_, by rw [e, if_neg q]; exact o⟩
      unfold B_Mc_operateOnNumbers
      rw [if_neg (by decide), if_neg (by decide), if_neg (by decide), if_neg (by decide), if_neg (by decide), if_pos q, zDiv_32 gx gy]
      exact ⟨q, H, nw_tag, _, _, r_vnew (d := d + 1) H (rgk rfl) rg_32, _, _, S, rfl, rfl, rfl⟩
  · have e : opV 60 (vN x) (vN y) = .inl (vB (if x < y then 1 else 0)) := by
      unfold opV
      rw [if_neg (by decide), if_neg (by decide), if_pos rfl]
      rfl
    by_cases q : x < y
    · obtain ⟨h', σ', S, o⟩ := c_oI (d := d) w (k := 1) (z := 1) (Or.inr rfl) (rgk rfl)
      refine ⟨h', σ', M_Mc_operateOnNumbers (rgk rfl) gx gy ?_, by rw [e, if_pos q]; exact o⟩
      unfold B_Mc_operateOnNumbers
      rw [if_neg (by decide), if_neg (by decide), if_neg (by decide), if_pos rfl, if_neg (by omega)]
      exact ⟨_, rfl, H, nw_tag, _, _, tt 1 (rgk rfl) (Or.inr rfl), _, _, S, rfl, rfl, rfl⟩
    · obtain ⟨h', σ', S, o⟩ := c_oI (d := d) w (k := 1) (z := 0) (Or.inr rfl) (rgk rfl)
      refine ⟨h', σ', M_Mc_operateOnNumbers (rgk rfl) gx gy ?_, by rw [e, if_neg q]; exact o⟩
      unfold B_Mc_operateOnNumbers
      rw [if_neg (by decide), if_neg (by decide), if_neg (by decide), if_pos rfl, if_pos (by omega)]
      exact ⟨_, rfl, H, nw_tag, _, _, tt 0 (rgk rfl) (Or.inl rfl), _, _, S, rfl, rfl, rfl⟩
  · have e : opV 61 (vN x) (vN y) = .inl (vB (if x = y then 1 else 0)) := by
      unfold opV
      rw [if_neg (by decide), if_neg (by decide), if_neg (by decide), if_pos rfl]
      rfl
    by_cases q : x = y
    · obtain ⟨h', σ', S, o⟩ := c_oI (d := d) w (k := 1) (z := 1) (Or.inr rfl) (rgk rfl)
      refine ⟨h', σ', M_Mc_operateOnNumbers (rgk rfl) gx gy ?_, by rw [e, if_pos q]; exact o⟩
      unfold B_Mc_operateOnNumbers
      rw [if_neg (by decide), if_neg (by decide), if_neg (by decide), if_neg (by decide), if_pos rfl, if_neg (by omega)]
      exact ⟨_, rfl, H, nw_tag, _, _, tt 1 (rgk rfl) (Or.inr rfl), _, _, S, rfl, rfl, rfl⟩
    · obtain ⟨h', σ', S, o⟩ := c_oI (d := d) w (k := 1) (z := 0) (Or.inr rfl) (rgk rfl)
      refine ⟨h', σ', M_Mc_operateOnNumbers (rgk rfl) gx gy ?_, by rw [e, if_neg q]; exact o⟩
      unfold B_Mc_operateOnNumbers
      rw [if_neg (by decide), if_neg (by decide), if_neg (by decide), if_neg (by decide), if_pos rfl, if_pos (by omega)]
      exact ⟨_, rfl, H, nw_tag, _, _, tt 0 (rgk rfl) (Or.inl rfl), _, _, S, rfl, rfl, rfl⟩
theorem c_82 (w : opC σ0 n h σ σ1 cx ρ vs fs a) : ∃ h' σ', B_Mc_operateOnReals_82 d h σ1 (.inl none) h' σ' ∧ cOutS σ0 130 h σ h' σ' (.inr 3) := ⟨_, _, ⟨_, _, r_fail (d := d + 1) (rgk rfl), rfl, rfl, rfl⟩, c_oF w⟩
theorem c_64 (w : opC σ0 n h σ σ1 cx ρ vs fs a) {q : UInt64} : ∃ h' σ', B_Mc_operateOnReals_64 d q h σ1 (.inl none) h' σ' ∧ cOutS σ0 130 h σ h' σ' (opO cx ρ vs fs (if dLt big9 q = true ∨ dLt q (FP.dneg big9) = true then .inr 3 else .inl (vR q))) := by
  by_cases q1 : dLt big9 q = true
  · obtain ⟨h', σ', S, o⟩ := c_82 (d := d) w
    refine ⟨h', σ', ?_, by rw [if_pos (Or.inl q1)]; exact o⟩
    unfold B_Mc_operateOnReals_64
    rw [k_big, if_pos (cv_gt.mpr q1)]
    exact S
  by_cases q2 : dLt q (FP.dneg big9) = true
  · obtain ⟨h', σ', S, o⟩ := c_82 (d := d) w
    refine ⟨h', σ', ?_, by rw [if_pos (Or.inr q2)]; exact o⟩
    unfold B_Mc_operateOnReals_64
    rw [k_big, k_nbig, if_neg (fun e => q1 (cv_gt.mp e)), if_neg (fun e => by rw [cv_ge.mp e] at q2; cases q2)]
    exact S
  obtain ⟨h', σ', S, o⟩ := c_oR (d := d) w (q := q)
  refine ⟨h', σ', ?_, by rw [if_neg (fun e => e.elim q1 q2)]; exact o⟩
  unfold B_Mc_operateOnReals_64
  rw [k_big, k_nbig, if_neg (fun e => q1 (cv_gt.mp e)), if_pos (cv_ge.mpr (by simpa using q2))]
  exact ⟨_, _, _, r_real (d := d), isQ.j, _, _, S, rfl, rfl, rfl⟩
theorem opV_R {z : Int} {x y : UInt64} (h1 : 128 ≤ z) (h2 : z ≠ 188) : opV z (vR x) (vR y) = if z = 175 ∧ FP.dcmp y 0 = some .eq then .inr 1 else if dLt big9 (opD z x y) = true ∨ dLt (opD z x y) (FP.dneg big9) = true then .inr 3 else .inl (vR (opD z x y)) := by
  unfold opV
  rw [if_neg h2, if_pos h1, toR_vR, toR_vR]
theorem c_opR (w : opC σ0 n h σ σ1 cx ρ vs fs a) {z : Int} {x y : UInt64} (hz : opZ z) (h1 : 128 ≤ z) (h2 : z ≠ 188) (hx : FP.Core.DFin x) (hy : FP.Core.DFin y) : ∃ h' σ', Rh (d + 4) yMc_operateOnReals [.ref 54, vi (z - 128), .double x, .double y] h σ1 (.inl none) h' σ' ∧ cOutS σ0 130 h σ h' σ' (opO cx ρ vs fs (opV z (vR x) (vR y))) := by
  rw [opV_R h1 h2]
  have hz : z = 170 ∨ z = 171 ∨ z = 173 ∨ z = 175 := by unfold opZ at hz; omega
  rcases hz with rfl | rfl | rfl | rfl
  · obtain ⟨h', σ', S, o⟩ := c_64 (d := d) w (q := FP.dmul x y)
    refine ⟨h', σ', M_Mc_operateOnReals (rgk rfl) ?_, by rw [if_neg (fun e => absurd e.1 (by decide))]; exact o⟩
    unfold B_Mc_operateOnReals
    rw [if_pos (by decide), if_pos (by decide), if_neg (by decide)]
    exact ⟨nn_of (FP.Core.dmul_out hx hy), S⟩
  · obtain ⟨h', σ', S, o⟩ := c_64 (d := d) w (q := FP.dadd x y)
    refine ⟨h', σ', M_Mc_operateOnReals (rgk rfl) ?_, by rw [if_neg (fun e => absurd e.1 (by decide))]; exact o⟩
    unfold B_Mc_operateOnReals
    rw [if_neg (by decide)]
    exact ⟨nn_of (FP.Core.dadd_out hx.notNaN hy), S⟩
  · obtain ⟨h', σ', S, o⟩ := c_64 (d := d) w (q := FP.dsub x y)
    refine ⟨h', σ', M_Mc_operateOnReals (rgk rfl) ?_, by rw [if_neg (fun e => absurd e.1 (by decide))]; exact o⟩
    unfold B_Mc_operateOnReals
    rw [if_pos (by decide), if_neg (by decide)]
    exact ⟨nn_of (FP.Core.dsub_out hx.notNaN hy), S⟩
  · by_cases q : FP.dcmp y 0 = some .eq
    · refine ⟨_, _, M_Mc_operateOnReals (rgk rfl) ?_, by rw [if_pos ⟨rfl, q⟩]; exact c_oF w⟩
      unfold B_Mc_operateOnReals
      rw [if_pos (by decide), if_pos (by decide), if_pos (by decide), if_neg (fun e => cv_ne.mp e (by rw [k_zero]; exact q))]
      exact ⟨_, _, r_fail (d := d + 1) (rgk rfl), rfl, rfl, rfl⟩
    · obtain ⟨h', σ', S, o⟩ := c_64 (d := d) w (q := FP.ddiv x y)
      refine ⟨h', σ', M_Mc_operateOnReals (rgk rfl) ?_, by rw [if_neg (fun e => q e.2)]; exact o⟩
      unfold B_Mc_operateOnReals
      rw [if_pos (by decide), if_pos (by decide), if_pos (by decide), if_pos (cv_ne.mpr (by rw [k_zero]; exact q))]
      exact ⟨nn_of (FP.Core.ddiv_out hx.notNaN hy (fun e => q (zero_eq e))), S⟩
theorem cs_op (g : pg8 σ0) {z : Int} {A B C : Tr} (R : cRel σ0 n h σ (2, nd 9 z A B C, cx, ρ, vs, fs)) (W : wkV (2, nd 9 z A B C, cx, ρ, vs, fs)) (ok : stOK FP.Core.DFin 9 z B vs) {o : WkS ⊕ Int} (hm : wkS (2, nd 9 z A B C, cx, ρ, vs, fs) = some o) : ∃ h' σ', Rh (d + 22) yMc_step [.ref 54] h σ (.inl none) h' σ' ∧ cOutS σ0 130 h σ h' σ' o := by
  obtain ⟨x, y, vs, rfl, kr, kn⟩ := ok
  rw [wk_op] at hm
  cases hm
  have ww : wf (nd 9 z A B C) := by
    rcases W.1.1 with e | e | e
    · cases e.1
    · cases e
    · exact e.2.2.1
  have hz : opZ z := ww.1
  obtain ⟨hl, a, b, r, t, -⟩ := R.s
  have hl : vs.length + 1 + 1 ≤ 200 := hl
  have b2 := b
  obtain ⟨⟨n0, n1⟩, sp, en, cv, cc, cf, at', ra, cp⟩ := b2
  have H : 100 ≤ h.1 := Nat.le_trans n0 n1
  have g' : pg8 σ := sp.g8 g
  have e20 : σ 20 7 = σ0 20 7 := congrFun (sp 20 (by decide) (by decide)) 7
  have ra' : 0 ≤ a ∧ a < σ 20 7 := by rw [e20]; exact ra
  have tt := sp.nT t
  have rga : rg (σ 54 3) := by rw [at']; exact rg8 g' ra'
  have ek : rowv 128 σ 22 (σ 54 3) = 9 := by rw [at', rw8 g' ra', (nT_nd.mp tt).2.1]; rfl
  have ez : rowv 128 σ 24 (σ 54 3) = z := by rw [at', rw8 g' ra', (nT_nd.mp tt).2.2.1]
  obtain ⟨j, σ1, Rt, ej, f1, b1, k1⟩ := c_take (d := d + 17) b (by show vs.length + 1 < 200; omega) r
  obtain ⟨b1, rx⟩ := b1.tl
  obtain ⟨j2, σ2, Rt2, ej2, f2, b3, k2⟩ := c_take (d := d + 17) b1 (by omega) rx
  rw [ej] at r
  rw [ej2] at rx
  have w : opC σ0 n h σ σ2 cx ρ vs fs a := ⟨b3, f1.tr f2, (k2 7 (by decide)).trans (k1 7 (by decide)), (k2 8 (by decide)).trans (k1 8 (by decide)), by omega, np_s cp W.1.2.1.2 t (by decide)⟩
  have stp : ∀ {h' σ'}, Rh (d + 21) yMc_operate [.ref 54] h σ (.inl none) h' σ' → Rh (d + 22) yMc_step [.ref 54] h σ (.inl none) h' σ' := fun O => M_Mc_step ⟨rga, by
    rw [ek, if_neg (by decide), if_pos rfl]
    exact ⟨_, _, O, rfl, rfl, rfl⟩⟩
  by_cases q : z = 188
  · subst q
    obtain ⟨⟨p, rfl, -⟩, p2, rfl, -⟩ := kr (by decide)
    obtain ⟨i, e, ci, -, -, dx⟩ := rx
    cases e
    obtain ⟨i2, e, ci2, -, -, dy⟩ := r
    cases e
    have N1 := (neC.nw (a := 8) (h := h)).2.1 j2 (by have := ci.1.2; omega)
    have N2 := (neC.nw (a := 8) (h := h)).2.1 j (by have := ci2.1.2; omega)
    have e : opV 188 (vR p) (vR p2) = .inl (vB (if dLt p p2 = true then 1 else 0)) := by
      unfold opV
      rw [if_pos rfl, toR_vR, toR_vR]
    rw [e]
    have cx0 : UInt64.ofNat ((p.toNat : Int)).toNat = p := vR_at
    have cy0 : UInt64.ofNat ((p2.toNat : Int)).toNat = p2 := vR_at
    rw [cx0] at dx
    rw [cy0] at dy
    by_cases q1 : dLt p p2 = true
    · rw [if_pos q1]
      obtain ⟨h', σ', S, o⟩ := c_oI (d := d + 17) w (k := 1) (z := 1) (Or.inr rfl) (rgk rfl)
      refine ⟨h', σ', stp (M_Mc_operate ⟨rga, _, _, _, Rt, isQ.j, _, _, _, Rt2, isQ.j, ?_⟩), o⟩
      rw [ez, if_neg (by decide)]
      refine ⟨j2, rfl, ci.1.1, N1.1.trans ci.2, _, (N1.2 2).trans dx, j, rfl, ci2.1.1, N2.1.trans ci2.2, _, (N2.2 2).trans dy, ?_⟩
      rw [if_neg (fun e => by rw [cv_ge.mp e] at q1; cases q1)]
      exact ⟨_, rfl, H, nw_tag, _, _, r_vnew (d := d + 18) H (rgk rfl) (rgk rfl), _, _, S, rfl, rfl, rfl⟩
    · rw [if_neg q1]
      obtain ⟨h', σ', S, o⟩ := c_oI (d := d + 17) w (k := 1) (z := 0) (Or.inr rfl) (rgk rfl)
      refine ⟨h', σ', stp (M_Mc_operate ⟨rga, _, _, _, Rt, isQ.j, _, _, _, Rt2, isQ.j, ?_⟩), o⟩
      rw [ez, if_neg (by decide)]
      refine ⟨j2, rfl, ci.1.1, N1.1.trans ci.2, _, (N1.2 2).trans dx, j, rfl, ci2.1.1, N2.1.trans ci2.2, _, (N2.2 2).trans dy, ?_⟩
      rw [if_pos (cv_ge.mpr (by simpa using q1))]
      exact ⟨_, rfl, H, nw_tag, _, _, r_vnew (d := d + 18) H (rgk rfl) (rgk rfl), _, _, S, rfl, rfl, rfl⟩
  by_cases q1 : z < 128
  · obtain ⟨⟨p, rfl, gp⟩, p2, rfl, gp2⟩ := kn q1
    obtain ⟨i, e, ci, -, dx, -⟩ := rx
    cases e
    obtain ⟨i2, e, ci2, -, dy, -⟩ := r
    cases e
    obtain ⟨h', σ', S, o⟩ := c_opN (d := d + 16) w hz q1 gp gp2
    refine ⟨h', σ', stp (M_Mc_operate ⟨rga, _, _, _, Rt, isQ.j, _, _, _, Rt2, isQ.j, ?_⟩), o⟩
    rw [ez, if_pos q, if_pos q1]
    exact ⟨j2, rfl, ci.1.1, ci.2, _, dx, gp, j, rfl, ci2.1.1, ci2.2, _, dy, gp2, _, _, S, rfl, rfl, rfl⟩
  · obtain ⟨⟨p, rfl, gp⟩, p2, rfl, gp2⟩ := kr (by omega)
    obtain ⟨i, e, ci, -, -, dx⟩ := rx
    cases e
    obtain ⟨i2, e, ci2, -, -, dy⟩ := r
    cases e
    have cx0 : UInt64.ofNat ((p.toNat : Int)).toNat = p := vR_at
    have cy0 : UInt64.ofNat ((p2.toNat : Int)).toNat = p2 := vR_at
    rw [cx0] at dx
    rw [cy0] at dy
    obtain ⟨h', σ', S, o⟩ := c_opR (d := d + 16) w hz (by omega) q gp gp2
    refine ⟨h', σ', stp (M_Mc_operate ⟨rga, _, _, _, Rt, isQ.j, _, _, _, Rt2, isQ.j, ?_⟩), o⟩
    rw [ez, if_pos q, if_neg q1]
    exact ⟨j2, rfl, ci.1.1, ci.2, _, dx, j, rfl, ci2.1.1, ci2.2, _, dy, _, _, S, rfl, rfl, rfl⟩
end COPE
