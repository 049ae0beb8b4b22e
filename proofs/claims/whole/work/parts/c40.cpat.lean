/-! The class's checker: patterns. -/
def CkJ (σ : Mem) (E : List (Int × Int)) (h : Int) : Prop := TI σ ∧ envC σ E ∧ σ 49 4 = E.length ∧ σ 49 5 = h ∧ σ 49 6 = 0
def PtX (σ σ' : Mem) : Prop := frCk σ σ' ∧ σ' 49 6 ≠ 0 ∧ σ' 49 5 = σ 49 5 ∧ 0 ≤ σ' 38 5 ∧ σ' 38 5 ≤ 3000
def PtG (σ σ' : Mem) (E : List (Int × Int)) (h : Int) (A : Tr) (n r : Int) (nu : Int → Int) (P : Int → Prop) : Prop := frCk σ σ' ∧ CkJ σ' (pnE A nu E) h ∧ (∀ x, ¬ iT σ A n x → σ' 19 x = σ 19 x) ∧ σ' 38 5 ≤ σ 38 5 + 44 * rpl A - 4 ∧ ∀ M : Int → Prop, inC (tS σ) M → PRes (tS σ) (tS σ') M h A P nu r
def PtO (σ σ' : Mem) (E : List (Int × Int)) (h : Int) (A : Tr) (n r : Int) (nu : Int → Int) : Prop := (PtX σ σ' ∧ ∀ α s, ¬ tpP true α A s) ∨ PtG σ σ' E h A n r nu (tyN σ σ' A n)
def PPt (A : Tr) : Prop := ∀ (k d : Nat) (n x h : Int) (σ : Mem) (E : List (Int × Int)), rpl A ≤ k → isT σ 5 0 (σ 5 7) A n → σ 5 7 ≤ 128 → PP σ → CkJ σ E h → (bnd A).Nodup → CkB σ E h x (rpl A) → ∃ r σ' nu, Rn (4 * k + d + 100) yCk_infer [.ref 49, vi n, vi x] σ (some r) σ' ∧ rg r ∧ PtO σ σ' E h A n r nu
section CPT
variable {σ σ' σ1 σ2 σ3 : Mem} {d : Nat} {h n x r t : Int} {E : List (Int × Int)} {M : Int → Prop} {A B C : Tr} {k : Nat} {z : Int}
theorem rpl_0 : ∀ {A : Tr}, 0 ≤ rpl A := by
  intro A
  fun_induction rpl A with
  | case1 z A B C i1 i2 => split <;> omega
  | case2 => decide
  | case3 => decide
  | case4 => decide
theorem PRes.P {S S' : TS} {P P' : Int → Prop} {nu : Int → Int} (R : PRes S S' M h A P nu t) (e : ∀ p, P p ↔ P' p) : PRes S S' M h A P' nu t := by
  rw [show P' = P from funext (fun p => propext (e p).symm)]; exact R
/-- the node's own type is set -/
theorem PtG.end {nu : Int → Int} (tt : isT σ 5 0 (σ 5 7) (nd k z A B C) n) (hk : k ≠ 17) (hc : σ 5 7 ≤ 128) (H : PtG σ σ1 E h (nd k z A B C) n r nu (fun p => ptN σ σ1 A B C n p ∨ p = r)) : PtO σ (endI σ1 n r) E h (nd k z A B C) n r nu := by
  have n0 := tt.1
  obtain ⟨f, ⟨T1, ec, a4, a5, a6⟩, o, c, R⟩ := H
  have r0 := (R (fun _ => False) (fun _ q => q.elim)).2.1.1
  unfold endI
  rw [if_pos (by omega), rows_in n0.1 (by omega)]
  have oo : ∀ {i : Nat}, i ≠ 19 → (mup σ1 19 n r) i = σ1 i := fun hi => mup_obj hi
  obtain ⟨T2, e2⟩ := T1.cg (σ' := mup σ1 19 n r) (oo (by decide)) (oo (by decide)) (oo (by decide)) (by rw [oo (by decide)])
  have kn : σ1 7 n ≠ 17 := by rw [f.1 7 rfl, show σ 7 n = k from tt.2.1]; omega
  have f19 : frCk σ1 (mup σ1 19 n r) := by rw [← rows_in (n := 128) n0.1 (by omega)]; exact frCk.ro kn
  refine Or.inr ⟨f.tr f19, ⟨T2, ec.mv (fun i => ⟨by rw [oo (by decide)], by rw [oo (by decide)]⟩), by rw [oo (by decide)]; exact a4, by rw [oo (by decide)]; exact a5, by rw [oo (by decide)]; exact a6⟩, fun x hx => ?_, by rw [oo (by decide)]; exact c, fun M hM => ?_⟩
  · have : x ≠ n := fun w => hx (Or.inl w)
    rw [mup_nk this]; exact o x hx
  · rw [e2]
    exact PRes.P (R M hM) (fun p => tyN_nd tt hk mup_eq (fun x hx => mup_nk hx) p)
theorem CkJ.ft (J : CkJ σ E h) (F : FT σ σ') (T : TI σ') : CkJ σ' E h := by
  obtain ⟨o1, o2, o3, o4⟩ := F.oo
  obtain ⟨-, ec, a4, a5, a6⟩ := J
  exact ⟨T, ec.mv (fun i => ⟨by rw [o2], by rw [o3]⟩), by rw [o1]; exact a4, by rw [o1]; exact a5, by rw [o1]; exact a6⟩
theorem ptN_nl {m p : Int} : ¬ ptN σ σ' nl nl nl m p := fun q => by rcases q with q | q | q <;> exact tyN_nl q
theorem or_nl {P : Int → Prop} {p : Int} : P p ↔ (ptN σ σ' nl nl nl n p ∨ P p) := ⟨Or.inr, fun q => q.elim (fun w => (ptN_nl w).elim) id⟩
/-- a leaf of a pattern -/
theorem PPt.leaf (hk : k = 0 ∨ k = 2 ∨ k = 3 ∨ k = 6 ∨ k = 7) (H : ∀ (d : Nat) (n h : Int) (σ : Mem) (E : List (Int × Int)), isT σ 5 0 (σ 5 7) (nd k z nl nl nl) n → σ 5 7 ≤ 128 → CkJ σ E h → σ 38 5 + 44 ≤ 3000 → E.length < 64 → (0 ≤ h ∧ h ≤ 64) → ∃ r σ1 nu, Rn (d + 99) yCk_leaf [.ref 49, vi n] σ (some r) σ1 ∧ rg r ∧ PtG σ σ1 E h (nd k z nl nl nl) n r nu (fun p => p = r)) : PPt (nd k z nl nl nl) := by
  intro kk d n x h σ E hkk tt hc G J hnd ⟨b1, b2, b3, b4⟩
  have w1 : 1 ≤ rpl (nd k z nl nl nl) := by
    rcases hk with rfl | rfl | rfl | rfl | rfl
    · show (1 : Int) ≤ 1; decide
    · show (1 : Int) ≤ 1; decide
    · show (1 : Int) ≤ 2; decide
    · show (1 : Int) ≤ 1; decide
    · show (1 : Int) ≤ 1; decide
  obtain ⟨r, σ1, nu, R, gr, f, J1, o, c, Q⟩ := H (4 * kk + d) n h σ E tt hc J (by omega) (by omega) (by omega)
  have n0 := tt.1
  have n11 : σ 11 n = -1 := tt.2.2.2.1
  refine ⟨r, endI σ1 n r, nu, infer_run (d := 4 * kk + d + 96) ⟨by omega, by omega⟩ ⟨b4.1, by omega⟩ J.2.2.2.2 gr (Or.inr ⟨?_, R⟩), gr, PtG.end tt (by omega) hc ⟨f, J1, o, c, fun M hM => PRes.P (Q M hM) (fun p => or_nl (P := fun p => p = r))⟩⟩
  rw [row_at n0 hc]; exact n11
theorem PPt_base {v j : Int} (hv : (k = 0 ∧ v = 0 ∧ j = 1) ∨ (k = 2 ∧ v = 1 ∧ j = 2)) : PPt (nd k z nl nl nl) := by
  refine PPt.leaf (by omega) (fun d n h σ E tt hc J b1 b2 b3 => ⟨v, σ, fun _ => 0, ?_, ?_, frCk.rf, ?_, fun _ _ => rfl, ?_, fun M hM => ?_⟩)
  · refine M_Ck_leaf (d := d + 95) ⟨by have := tt.1; omega, by have := tt.1; omega⟩ ?_
    unfold B_Ck_leaf
    have e7 : rowv 128 σ 7 n = k := (row_at tt.1 hc).trans tt.2.1
    rw [e7]
    rcases hv with ⟨rfl, rfl, -⟩ | ⟨rfl, rfl, -⟩
    · rw [if_pos (by decide)]; exact ⟨rfl, rfl⟩
    · rw [if_neg (by decide), if_neg (by decide), if_pos (by decide)]; exact ⟨rfl, rfl⟩
  · rcases hv with ⟨-, rfl, -⟩ | ⟨-, rfl, -⟩ <;> exact rgk rfl
  · rcases hv with ⟨rfl, -, -⟩ | ⟨rfl, -, -⟩ <;> exact J
  · rcases hv with ⟨rfl, -⟩ | ⟨rfl, -⟩
    · show σ 38 5 ≤ σ 38 5 + 44 * 1 - 4; omega
    · show σ 38 5 ≤ σ 38 5 + 44 * 1 - 4; omega
  · obtain ⟨p0, p1, p2⟩ := J.1.bs
    rcases hv with ⟨rfl, rfl, rfl⟩ | ⟨rfl, rfl, rfl⟩
    · exact PR_base J.1.so p0 rfl (fun w α s => Iff.rfl)
    · exact PR_base J.1.so p1 rfl (fun w α s => Iff.rfl)
theorem PPt_emp : PPt (nd 3 0 nl nl nl) := by
  refine PPt.leaf (by decide) (fun d n h σ E tt hc J b1 b2 b3 => ?_)
  have e7 : rowv 128 σ 7 n = 3 := (row_at tt.1 hc).trans tt.2.1
  have so := J.1.so
  have c0 := J.1.1.2.1
  obtain ⟨σ1, R1, F1, T1, e1, n1⟩ := c_fresh (d := d + 90) J.1 (by omega) (h := h) ⟨b3.1, by omega⟩
  obtain ⟨σ2, R2, F2, T2, e2, n2⟩ := c_list (d := d + 90) T1 (by omega) (a := σ 38 5) ⟨by omega, by omega⟩
  refine ⟨σ1 38 5, σ2, fun _ => 0, ?_, ⟨by omega, by omega⟩, F1.fk.tr F2.fk, (J.ft F1 T1).ft F2 T2, fun x _ => by rw [F2.oo.2.2.2, F1.oo.2.2.2], by show σ2 38 5 ≤ σ 38 5 + 44 * 2 - 4; omega, fun M hM => PR_emp so (by show 0 ≤ σ 38 5; omega) (by omega) hM e1 e2⟩
  refine M_Ck_leaf (d := d + 95) ⟨by have := tt.1; omega, by have := tt.1; omega⟩ ?_
  unfold B_Ck_leaf
  rw [e7, if_neg (by decide), if_neg (by decide), if_neg (by decide), if_pos rfl, J.2.2.2.1]
  exact ⟨_, σ1, R1.deep (by omega), _, σ2, R2.deep (by omega), rfl, rfl⟩
theorem PPt_any : PPt (nd 7 0 nl nl nl) := by
  refine PPt.leaf (by decide) (fun d n h σ E tt hc J b1 b2 b3 => ?_)
  have e7 : rowv 128 σ 7 n = 7 := (row_at tt.1 hc).trans tt.2.1
  have so := J.1.so
  have c0 := J.1.1.2.1
  obtain ⟨σ1, R1, F1, T1, e1, n1⟩ := c_fresh (d := d + 90) J.1 (by omega) (h := h) ⟨b3.1, by omega⟩
  refine ⟨σ 38 5, σ1, fun _ => 0, ?_, ⟨by omega, by omega⟩, F1.fk, J.ft F1 T1, fun x _ => by rw [F1.oo.2.2.2], by show σ1 38 5 ≤ σ 38 5 + 44 * 1 - 4; omega, fun M hM => PR_any so (by show 0 ≤ σ 38 5; omega) (by omega) e1⟩
  refine M_Ck_leaf (d := d + 95) ⟨by have := tt.1; omega, by have := tt.1; omega⟩ ?_
  unfold B_Ck_leaf
  rw [e7, if_neg (by decide), if_neg (by decide), if_neg (by decide), if_neg (by decide), if_neg (by decide), if_neg (by decide), if_neg (by decide), J.2.2.2.1]
  exact ⟨_, σ1, R1.deep (by omega), rfl, rfl⟩
theorem PPt_nm (hz : ltZ z) : PPt (nd 6 z nl nl nl) := by
  refine PPt.leaf (by decide) (fun d n h σ E tt hc J b1 b2 b3 => ?_)
  have e7 : rowv 128 σ 7 n = 6 := (row_at tt.1 hc).trans tt.2.1
  have e9 : rowv 128 σ 9 n = z := (row_at tt.1 hc).trans tt.2.2.1
  have so := J.1.so
  have c0 := J.1.1.2.1
  have rz : rg z := by unfold ltZ at hz; exact ⟨by omega, by omega⟩
  obtain ⟨σ1, R1, F1, T1, e1, n1⟩ := c_fresh (d := d + 90) J.1 (by omega) (h := h) ⟨b3.1, by omega⟩
  have gp : rg (σ 38 5) := ⟨by omega, by omega⟩
  obtain ⟨-, ec, a4, a5, a6⟩ := J.ft F1 T1
  obtain ⟨σ2, R2, ec2, c4, k4, oo, -⟩ := s_enter (d := d + 94) rz gp ec a4 b2
  obtain ⟨T2, e2⟩ := T1.cg (σ' := σ2) (oo 40 (by decide) (by decide) (by decide)) (oo 42 (by decide) (by decide) (by decide)) (oo 44 (by decide) (by decide) (by decide)) (by rw [oo 38 (by decide) (by decide) (by decide)])
  refine ⟨σ 38 5, σ2, fun _ => σ 38 5, ?_, gp, F1.fk.tr ⟨fun i hi => ?_, fun x _ => by rw [oo 19 (by decide) (by decide) (by decide)]⟩, ⟨T2, ec2, ?_, by rw [k4 5 (by decide)]; exact a5, by rw [k4 6 (by decide)]; exact a6⟩, fun x _ => by rw [oo 19 (by decide) (by decide) (by decide), F1.oo.2.2.2], ?_, fun M hM => ?_⟩
  · refine M_Ck_leaf (d := d + 95) ⟨by have := tt.1; omega, by have := tt.1; omega⟩ ?_
    unfold B_Ck_leaf
    rw [e7, if_neg (by decide), if_neg (by decide), if_neg (by decide), if_neg (by decide), if_neg (by decide), if_neg (by decide), if_pos rfl, J.2.2.2.1]
    exact ⟨_, σ1, R1.deep (by omega), σ2, by rw [F1.fk.row (i := 9) rfl, e9]; exact R2.deep (by omega), rfl, rfl⟩
  · obtain ⟨-, -, -, -, -, -, -, a, b, c⟩ := ckP_no hi
    exact oo i a b c
  · rw [c4]
    show (E.length : Int) + 1 = (((z, σ 38 5) :: E).length : Int)
    rw [List.length_cons]; omega
  · rw [oo 38 (by decide) (by decide) (by decide)]
    show σ1 38 5 ≤ σ 38 5 + 44 * 1 - 4; omega
  · rw [e2]
    exact PR_nm so (by show 0 ≤ σ 38 5; omega) (by omega) e1 rfl
end CPT
