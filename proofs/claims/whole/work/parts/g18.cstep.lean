/-! The class's machine: the end; steps that give a value. -/
/-- what a step comes to -/
def cOutS (σ0 : Mem) (k : Nat) (h : mHp) (σ : Mem) (h' : mHp) (σ' : Mem) : WkS ⊕ Int → Prop
  | .inl S' => cOut σ0 k h σ h' σ' S'
  | .inr c => frWk k h h' σ σ' ∧ hAt h' 54 11 = hAt h 54 11 ∧ σ' 54 7 = 3 ∧ σ' 54 8 = c
section CSTP
variable {h h' h1 : mHp} {σ0 σ σ' : Mem} {d n k : Nat} {P : Tr → Int → Prop} {c a : Int} {cx : Cx} {ρ ρ' : En} {vs : List Va} {v w : Va} {fs : List (Cx × En)}
theorem cB.tl (b : cB σ0 n h σ c cx ρ (v :: vs) fs a) : cB σ0 n h σ c cx ρ vs fs a ∧ RPv h (nT σ0) n v false (hAt h 55 vs.length) := by
  obtain ⟨b0, sp, e, cv, rest⟩ := b
  exact ⟨⟨b0, sp, e, cv.2, rest⟩, cv.1⟩
theorem cm_finish {T : Tr} (g : pg8 σ0) (R : cRel σ0 n h σ (1, T, [], ρ, v :: vs, [])) : ∃ u σ', Rh (d + 6) yMc_leave [.ref 54] h σ (.inl none) (hSet h 54 11 u) σ' ∧ frWk 0 h (hSet h 54 11 u) σ σ' ∧ RPv h (nT σ0) h.1 v false u ∧ σ' 54 7 = 2 ∧ σ' 54 8 = σ 54 8 ∧ spg σ0 σ' := by
  obtain ⟨hl, a, b, r, e4, -⟩ := R.l
  have b2 := b
  obtain ⟨⟨n0, n1⟩, sp, en, cv, cc, cf, at', ra, cp⟩ := b2
  have cp : σ0 32 a = -1 := cp
  have g' : pg8 σ := sp.g8 g
  have e20 : σ 20 7 = σ0 20 7 := congrFun (sp 20 (by decide) (by decide)) 7
  have ra' : 0 ≤ a ∧ a < σ 20 7 := by rw [e20]; exact ra
  have e32 : σ 32 a = σ0 32 a := congrFun (sp 32 (by decide) (by decide)) a
  have rga : rg (σ 54 3) := by rw [at']; exact rg8 g' ra'
  have par : rowv 128 σ 32 (σ 54 3) = -1 := by rw [at', rw8 g' ra', e32]; exact cp
  obtain ⟨j, eu, -⟩ := r.v
  have tk := r_take (d := d + 1) (h := h) (σ := mup σ 54 3 (-1)) (n := vs.length) (j := j) ((mup_nk (by decide)).trans cc) (by omega) (by rw [Int.toNat_natCast]; exact eu)
  have fin : Rh (d + 5) yMc_finish [.ref 54] h (mup σ 54 3 (-1)) (.inl none) (hSet h 54 11 (.ref j)) (mup (mup (mup σ 54 3 (-1)) 54 2 vs.length) 54 7 2) := M_Mc_finish ⟨_, _, _, tk, isQ.j, rfl, rfl, rfl⟩
  refine ⟨.ref j, mup (mup (mup σ 54 3 (-1)) 54 2 vs.length) 54 7 2, M_Mc_leave ⟨rga, ?_⟩, ?_, by rw [← eu]; exact r, mup_eq, ?_, ((sp.up).up).up⟩
  · rw [par, mup_eq]
    refine ⟨rgk rfl, ?_⟩
    have k1 : rowv 128 (mup σ 54 3 (-1)) 22 (-1) = -1 := by unfold rowv; rw [if_neg (by decide)]
    rw [k1, if_neg (by decide), if_neg (by decide), if_neg (by decide), if_neg (by decide), if_neg (by decide), if_neg (by decide), if_neg (by decide), if_neg (by decide), if_neg (by decide), if_neg (by decide)]
    exact ⟨_, _, fin, rfl, rfl, rfl⟩
  · exact ((frWk.s4.tr (frWk.m4 (by decide) (by decide))).tr (frWk.m4 (by decide) (by decide))).tr (frWk.m4 (by decide) (by decide))
  · rw [mup_nk (by decide), mup_nk (by decide), mup_nk (by decide)]
/-- the relation, a step due: its parts -/
theorem cRel.s {T : Tr} (R : cRel σ0 n h σ (2, T, cx, ρ, v :: vs, fs)) : vs.length + 1 ≤ 200 ∧ ∃ a, cB σ0 n h σ (vs.length + 1) cx ρ vs fs a ∧ RPv h (nT σ0) h.1 v false (hAt h 55 vs.length) ∧ nT σ0 T a ∧ (pndS 2 T cx → ∃ i lam, hAt h 55 vs.length = .ref i ∧ n ≤ i ∧ v = vF lam ρ) := by
  obtain ⟨hl, a, R⟩ := R
  rw [if_neg (by decide)] at R
  obtain ⟨v', vs', e, b, r, e4, p⟩ := R
  cases e
  rw [if_neg (by decide)] at e4
  exact ⟨hl, a, b, r, e4.2, p⟩
/-- where a step is due nothing is REC's first part -/
theorem np_s {E : Bool} {k : Nat} {z : Int} {A B C : Tr} (cp : cPs σ0 E cx a) (w : cxW cx) (t : nT σ0 (nd k z A B C) a) (hk : k ≠ 12) : ¬ pndS 1 nl cx := fun q => by
  have := pnd_12 cp w q
  have := (nT_nd.mp t).2.1
  omega
/-- a value comes after values were taken -/
theorem c_val2 {σ1 : Mem} {j : Nat} (x : exB k h h1) (b : cB σ0 n h σ1 vs.length cx ρ vs fs a) (f : frWk 0 h h σ σ1) (e7 : σ1 54 7 = σ 54 7) (e8 : σ1 54 8 = σ 54 8) (hl : vs.length ≤ 200) (r : RPv h1 (nT σ0) h1.1 v false (.ref j)) (np : ¬ pndS 1 nl cx) : ∃ h' σ', Rh (d + 3) yMc_settle [.ref 54, .ref j] h1 σ1 (.inl none) h' σ' ∧ cOut σ0 k h σ h' σ' (1, nl, cx, ρ, v :: vs, fs) := by
  obtain ⟨h', σ', R, o1, o2, o3⟩ := c_val (d := d) x b hl r (fun p => absurd p np)
  refine ⟨h', σ', R, (f.tr o1).le (by omega), o2, ?_⟩
  rcases o3 with q | ⟨q1, q2, q3, q4⟩
  · exact Or.inl q
  · exact Or.inr ⟨q1, q2, q3.trans e7, q4.trans e8⟩
theorem cs_neg (g : pg8 σ0) {z : Int} {A B C : Tr} (R : cRel σ0 n h σ (2, nd 8 z A B C, cx, ρ, vs, fs)) (W : wkV (2, nd 8 z A B C, cx, ρ, vs, fs)) (ok : stOK FP.Core.DFin 8 z B vs) {o : WkS ⊕ Int} (hm : wkS (2, nd 8 z A B C, cx, ρ, vs, fs) = some o) : ∃ h' σ', Rh (d + 22) yMc_step [.ref 54] h σ (.inl none) h' σ' ∧ cOutS σ0 130 h σ h' σ' o := by
  obtain ⟨v, vs, rfl, b0, rfl, fb⟩ := ok
  cases hm
  obtain ⟨hl, a, b, r, t, -⟩ := R.s
  have b2 := b
  obtain ⟨⟨n0, n1⟩, sp, en, cv, cc, cf, at', ra, cp⟩ := b2
  have H : 100 ≤ h.1 := Nat.le_trans n0 n1
  have g' : pg8 σ := sp.g8 g
  have e20 : σ 20 7 = σ0 20 7 := congrFun (sp 20 (by decide) (by decide)) 7
  have ra' : 0 ≤ a ∧ a < σ 20 7 := by rw [e20]; exact ra
  have tt := sp.nT t
  have rga : rg (σ 54 3) := by rw [at']; exact rg8 g' ra'
  have ek : rowv 128 σ 22 (σ 54 3) = 8 := by rw [at', rw8 g' ra', (nT_nd.mp tt).2.1]; rfl
  obtain ⟨j, σ1, Rt, ej, f1, b1, k1⟩ := c_take (d := d + 18) b (by omega) r
  rw [ej] at r
  obtain ⟨i, e, ci, -, -, dv⟩ := r
  cases e
  obtain ⟨x0, x1, x2, x3⟩ := hvR_at (h := h) (b := FP.dneg (UInt64.ofNat ((b0.toNat : Int)).toNat))
  obtain ⟨h', σ', Rs, o⟩ := c_val2 (d := d + 18) (v := vR (FP.dneg (UInt64.ofNat ((b0.toNat : Int)).toNat))) exB.R b1 f1 (k1 7 (by decide)) (k1 8 (by decide)) (by omega) ⟨h.1, rfl, ⟨⟨H, Nat.lt_succ_self _⟩, x0⟩, x1, x2, x3.trans (congrArg Value.double vR_at.symm)⟩ (np_s cp W.1.2.1.2 t (by decide))
  refine ⟨h', σ', M_Mc_step ⟨rga, ?_⟩, o.1.le (by decide), o.2⟩
  rw [ek, if_pos rfl]
  exact ⟨_, _, _, Rt, isQ.j, j, rfl, ci.1.1, ci.2, _, dv, _, _, _, r_real (d := d + 18), isQ.j, _, _, Rs, rfl, rfl, rfl⟩
theorem cs_cons (g : pg8 σ0) (hh : h.1 ≤ 2000000) {z : Int} {A B C : Tr} (R : cRel σ0 n h σ (2, nd 10 z A B C, cx, ρ, vs, fs)) (W : wkV (2, nd 10 z A B C, cx, ρ, vs, fs)) (ok : stOK FP.Core.DFin 10 z B vs) {o : WkS ⊕ Int} (hm : wkS (2, nd 10 z A B C, cx, ρ, vs, fs) = some o) : ∃ h' σ', Rh (d + 22) yMc_step [.ref 54] h σ (.inl none) h' σ' ∧ cOutS σ0 130 h σ h' σ' o := by
  obtain ⟨x, y, vs, rfl, ly⟩ := ok
  cases hm
  obtain ⟨hl, a, b, r, t, -⟩ := R.s
  have hl : vs.length + 1 + 1 ≤ 200 := hl
  have b2 := b
  obtain ⟨⟨n0, n1⟩, sp, en, cv, cc, cf, at', ra, cp⟩ := b2
  have H : 100 ≤ h.1 := Nat.le_trans n0 n1
  have g' : pg8 σ := sp.g8 g
  have e20 : σ 20 7 = σ0 20 7 := congrFun (sp 20 (by decide) (by decide)) 7
  have ra' : 0 ≤ a ∧ a < σ 20 7 := by rw [e20]; exact ra
  have tt := sp.nT t
  have rga : rg (σ 54 3) := by rw [at']; exact rg8 g' ra'
  have ek : rowv 128 σ 22 (σ 54 3) = 10 := by rw [at', rw8 g' ra', (nT_nd.mp tt).2.1]; rfl
  obtain ⟨j, σ1, Rt, ej, f1, b1, k1⟩ := c_take (d := d + 18) b (by show vs.length + 1 < 200; omega) r
  obtain ⟨b1, rx⟩ := b1.tl
  obtain ⟨j2, σ2, Rt2, ej2, f2, b3, k2⟩ := c_take (d := d + 18) b1 (by omega) rx
  rw [ej] at r
  rw [ej2] at rx
  have cj : ceL h h.1 8 j := by obtain ⟨j', e, c⟩ := r.v; cases e; exact c
  obtain ⟨m, em, gm, lm⟩ : ∃ m : Nat, hAt h j 1 = vi m ∧ m = llen y ∧ m + 99 ≤ j := by
    rcases lsv ly with rfl | ⟨p, q, rfl, -⟩
    · obtain ⟨i, e, c, a0, a1⟩ := r
      cases e
      exact ⟨0, a1, rfl, by have := c.1.1; omega⟩
    · obtain ⟨i, e, c, a0, a1, ll, -⟩ := r
      cases e
      exact ⟨llen q + 1, a1, rfl, by omega⟩
  have rgm : ∀ q : Int, q ≤ 2000000 → 0 ≤ q → rg q := fun q _ _ => by unfold rg; omega
  have jh := cj.1.2
  have RL := r_list (d := d + 18) (h := h) (σ := σ2) (x := .ref j2) isQ.j cj.1 cj.2 em (rgm _ (by omega) (by omega)) (rgm _ (by omega) (by omega))
  obtain ⟨x0, x1, x2, x3, x4⟩ := hvL_at (h := h) (n := (m : Int) + 1) (x := .ref j2) (w := .ref j)
  obtain ⟨h', σ', Rs, o⟩ := c_val2 (d := d + 18) (v := vC x y) exB.L b3 (f1.tr f2) ((k2 7 (by decide)).trans (k1 7 (by decide))) ((k2 8 (by decide)).trans (k1 8 (by decide))) (by omega) ⟨h.1, rfl, ⟨⟨H, Nat.lt_succ_self _⟩, x0⟩, x1, by rw [x2, gm]; rfl, by omega, by rw [x3]; exact rx.mv (neC.L.sm.le n1) (by show n ≤ h.1 + 1; omega), by rw [x4]; exact r.mv neC.L.sm (Nat.le_succ _)⟩ (np_s cp W.1.2.1.2 t (by decide))
  refine ⟨h', σ', M_Mc_step ⟨rga, ?_⟩, o.1.le (by decide), o.2⟩
  rw [ek, if_neg (by decide), if_neg (by decide), if_pos rfl]
  exact ⟨_, _, _, Rt, isQ.j, _, _, _, Rt2, isQ.j, _, _, _, RL, isQ.j, _, _, Rs, rfl, rfl, rfl⟩
end CSTP
