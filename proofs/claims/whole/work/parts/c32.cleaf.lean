/-! The class's checker: leaves. -/
section CLF
variable {σ σ' σ1 σ2 : Mem} {d : Nat} {h n x r : Int} {E : List (Int × Int)} {M : Int → Prop}
theorem TI.bs (T : TI σ) : bsN (tS σ) 0 1 ∧ bsN (tS σ) 1 2 ∧ bsN (tS σ) 2 3 := by
  obtain ⟨k0, k1, k2⟩ := T.1.2.2.2.1
  have c := T.1.2.1.1
  refine ⟨⟨⟨Int.le_refl _, by show 0 < σ 38 5; omega⟩, ?_, by decide, by decide⟩, ⟨⟨by decide, by show 1 < σ 38 5; omega⟩, ?_, by decide, by decide⟩, ⟨⟨by decide, by show 2 < σ 38 5; omega⟩, ?_, by decide, by decide⟩⟩
  · show kC (σ 40 0) = 1; rw [k0]; rfl
  · show kC (σ 40 1) = 2; rw [k1]; rfl
  · show kC (σ 40 2) = 3; rw [k2]; rfl
theorem row_at {i : Nat} (n0 : 0 ≤ n ∧ n < σ 5 7) (hc : σ 5 7 ≤ 128) : rowv 128 σ i n = σ i n := by
  unfold rowv; rw [if_pos ⟨n0.1, by omega⟩]
/-- nothing has changed but the store of types -/
theorem CkG.ft (I : CkI σ E M h) (F : frCk σ σ') (T : TI σ') (h49 : σ' 49 = σ 49) (h51 : σ' 51 = σ 51) (h53 : σ' 53 = σ 53) (h19 : σ' 19 = σ 19) {X : Int → Prop} : CkG σ σ' E X := by
  refine ⟨F, T, I.2.2.1.mv (fun i => ⟨by rw [h51], by rw [h53]⟩), by rw [h49], by rw [h49], by rw [h49]; exact I.2.2.2.2.2, fun x _ => by rw [h19]⟩
theorem FT.oo (F : FT σ σ') : σ' 49 = σ 49 ∧ σ' 51 = σ 51 ∧ σ' 53 = σ 53 ∧ σ' 19 = σ 19 := ⟨F.1 49 (by decide) (by decide) (by decide) (by decide), F.1 51 (by decide) (by decide) (by decide) (by decide), F.1 53 (by decide) (by decide) (by decide) (by decide), F.1 19 (by decide) (by decide) (by decide) (by decide)⟩
theorem FT2.oo (F : FT2 σ σ') : σ' 49 = σ 49 ∧ σ' 51 = σ 51 ∧ σ' 53 = σ 53 ∧ σ' 19 = σ 19 := ⟨F.1 49 (by decide) (by decide) (by decide) (by decide) (by decide) (by decide), F.1 51 (by decide) (by decide) (by decide) (by decide) (by decide) (by decide), F.1 53 (by decide) (by decide) (by decide) (by decide) (by decide) (by decide), F.1 19 (by decide) (by decide) (by decide) (by decide) (by decide) (by decide)⟩
theorem CkC.same {T : Tr} {PS : Int → Prop} (I : CkI σ E M h) (hw : 1 ≤ rwl T) (R : TRes (tS σ) (tS σ) E M h T (fun p => PS p ∨ p = r) r) : CkC σ σ E M h T n r PS := Or.inr ⟨CkG.ft I frCk.rf I.1 rfl rfl rfl rfl, by omega, R⟩
theorem PE_base {k : Nat} {z v : Int} {j : Int} (hk : k ≤ 2) (hv : (k = 0 ∧ v = 0 ∧ j = 1) ∨ (k = 1 ∧ v = 2 ∧ j = 3) ∨ (k = 2 ∧ v = 1 ∧ j = 2)) : PE (nd k z nl nl nl) := by
  refine PE.leaf (by omega) (fun d n h σ E M t hc I hcl b1 b2 b3 => ⟨v, σ, ?_, ?_, CkC.same I ?_ ?_⟩)
  · refine M_Ck_leaf (d := d + 95) ⟨by have := t.1; omega, by have := t.1; omega⟩ ?_
    unfold B_Ck_leaf
    have e7 : rowv 128 σ 7 n = k := (row_at t.1 hc).trans t.2.1
    rw [e7]
    rcases hv with ⟨rfl, rfl, -⟩ | ⟨rfl, rfl, -⟩ | ⟨rfl, rfl, -⟩
    · rw [if_pos (by decide)]; exact ⟨rfl, rfl⟩
    · rw [if_neg (by decide), if_pos (by decide)]; exact ⟨rfl, rfl⟩
    · rw [if_neg (by decide), if_neg (by decide), if_pos (by decide)]; exact ⟨rfl, rfl⟩
  · rcases hv with ⟨-, rfl, -⟩ | ⟨-, rfl, -⟩ | ⟨-, rfl, -⟩ <;> exact rgk rfl
  · rcases hv with ⟨rfl, -⟩ | ⟨rfl, -⟩ | ⟨rfl, -⟩
    · show (1 : Int) ≤ 1; decide
    · show (1 : Int) ≤ 3; decide
    · show (1 : Int) ≤ 1; decide
  · obtain ⟨p0, p1, p2⟩ := I.1.bs
    have b : bsN (tS σ) v j := by
      rcases hv with ⟨-, rfl, rfl⟩ | ⟨-, rfl, rfl⟩ | ⟨-, rfl, rfl⟩
      · exact p0
      · exact p2
      · exact p1
    refine TRP.P (TR_base I.1.so b.1.1 b.1.2 b.2.1 b.2.2 (fun w G s => ?_)) (fun p => ⟨fun q => Or.inr q, fun q => q.elim False.elim id⟩)
    rcases hv with ⟨rfl, -, rfl⟩ | ⟨rfl, -, rfl⟩ | ⟨rfl, -, rfl⟩
    · exact ⟨fun ⟨a, b⟩ => ⟨a (by decide), b⟩, fun ⟨a, b⟩ => ⟨fun _ => a, b⟩⟩
    · exact ⟨fun ⟨a, b⟩ => ⟨a (by decide), b⟩, fun ⟨a, b⟩ => ⟨fun _ => a, b⟩⟩
    · exact ⟨fun ⟨a, b⟩ => ⟨a (by decide), b⟩, fun ⟨a, b⟩ => ⟨fun _ => a, b⟩⟩
theorem PE_emp : PE (nd 3 0 nl nl nl) := by
  refine PE.leaf (by decide) (fun d n h σ E M t hc I hcl b1 b2 b3 => ?_)
  have e7 : rowv 128 σ 7 n = 3 := (row_at t.1 hc).trans t.2.1
  have so := I.1.so
  have c0 := I.1.1.2.1
  obtain ⟨σ1, R1, F1, T1, e1, n1⟩ := c_fresh (d := d + 90) I.1 (by omega) (h := h) ⟨b3.1, by omega⟩
  obtain ⟨σ2, R2, F2, T2, e2, n2⟩ := c_list (d := d + 90) T1 (by omega) (a := σ 38 5) ⟨by omega, by omega⟩
  obtain ⟨o1, o2, o3, o4⟩ := F1.oo
  obtain ⟨q1, q2, q3, q4⟩ := F2.oo
  refine ⟨σ1 38 5, σ2, ?_, ⟨by omega, by omega⟩, Or.inr ⟨CkG.ft I (F1.fk.tr F2.fk) T2 (q1.trans o1) (q2.trans o2) (q3.trans o3) (q4.trans o4), by show σ2 38 5 ≤ σ 38 5 + 44 * 2 - 4; omega, ?_⟩⟩
  · refine M_Ck_leaf (d := d + 95) ⟨by have := t.1; omega, by have := t.1; omega⟩ ?_
    unfold B_Ck_leaf
    rw [e7, if_neg (by decide), if_neg (by decide), if_neg (by decide), if_pos rfl, I.2.2.2.2.1]
    exact ⟨_, σ1, R1.deep (by omega), _, σ2, R2.deep (by omega), rfl, rfl⟩
  · exact TRP.P (TR_emp I.2.1 (by omega) so (by show 0 ≤ σ 38 5; omega) e1 e2) (fun p => ⟨fun q => Or.inr q, fun q => q.elim False.elim id⟩)
theorem PE_bi {z : Int} (hz : z = 82 ∨ z = 73) : PE (nd 4 z nl nl nl) := by
  refine PE.leaf (by decide) (fun d n h σ E M t hc I hcl b1 b2 b3 => ?_)
  have e7 : rowv 128 σ 7 n = 4 := (row_at t.1 hc).trans t.2.1
  have e9 : rowv 128 σ 9 n = z := (row_at t.1 hc).trans t.2.2.1
  have so := I.1.so
  have c0 := I.1.1.2.1
  obtain ⟨p0, p1, p2⟩ := I.1.bs
  rcases hz with rfl | rfl
  · obtain ⟨σ1, R1, F1, T1, e1, n1⟩ := c_arrow (d := d + 90) I.1 (by omega) (a := 0) (b := 2) ⟨by decide, by omega⟩ ⟨by decide, by omega⟩
    obtain ⟨o1, o2, o3, o4⟩ := F1.oo
    refine ⟨σ 38 5, σ1, ?_, ⟨by omega, by omega⟩, Or.inr ⟨CkG.ft I F1.fk T1 o1 o2 o3 o4, by show σ1 38 5 ≤ σ 38 5 + 44 * 1 - 4; omega, ?_⟩⟩
    · refine M_Ck_leaf (d := d + 95) ⟨by have := t.1; omega, by have := t.1; omega⟩ ?_
      unfold B_Ck_leaf
      rw [e7, e9, if_neg (by decide), if_neg (by decide), if_neg (by decide), if_neg (by decide), if_pos rfl, if_neg (by decide)]
      exact ⟨_, σ1, R1.deep (by omega), rfl, rfl⟩
    · exact TRP.P (TR_bi I.2.1 so (by show 0 ≤ σ 38 5; omega) p0 p2 e1 rfl) (fun p => ⟨fun q => Or.inr q, fun q => q.elim False.elim id⟩)
  · obtain ⟨σ1, R1, F1, T1, e1, n1⟩ := c_arrow (d := d + 90) I.1 (by omega) (a := 2) (b := 0) ⟨by decide, by omega⟩ ⟨by decide, by omega⟩
    obtain ⟨o1, o2, o3, o4⟩ := F1.oo
    refine ⟨σ 38 5, σ1, ?_, ⟨by omega, by omega⟩, Or.inr ⟨CkG.ft I F1.fk T1 o1 o2 o3 o4, by show σ1 38 5 ≤ σ 38 5 + 44 * 1 - 4; omega, ?_⟩⟩
    · refine M_Ck_leaf (d := d + 95) ⟨by have := t.1; omega, by have := t.1; omega⟩ ?_
      unfold B_Ck_leaf
      rw [e7, e9, if_neg (by decide), if_neg (by decide), if_neg (by decide), if_neg (by decide), if_pos rfl, if_pos (by decide)]
      exact ⟨_, σ1, R1.deep (by omega), rfl, rfl⟩
    · exact TRP.P (TR_bi I.2.1 so (by show 0 ≤ σ 38 5; omega) p2 p0 e1 rfl) (fun p => ⟨fun q => Or.inr q, fun q => q.elim False.elim id⟩)
theorem inE_m {z : Int} (hz : inE E z = true) : ∃ e ∈ E, e.1 = z := by
  unfold inE at hz
  rw [List.any_eq_true] at hz
  obtain ⟨e, a, b⟩ := hz
  exact ⟨e, a, of_decide_eq_true b⟩
theorem PE_name {z : Int} (hz0 : ltZ z) : PE (nd 5 z nl nl nl) := by
  refine PE.leaf (by decide) (fun d n h σ E M t hc I hcl b1 b2 b3 => ?_)
  have e7 : rowv 128 σ 7 n = 5 := (row_at t.1 hc).trans t.2.1
  have e9 : rowv 128 σ 9 n = z := (row_at t.1 hc).trans t.2.2.1
  have so := I.1.so
  have c0 := I.1.1.2.1
  have hz : ∃ e ∈ E, e.1 = z := by
    rw [clo_nd, if_pos rfl] at hcl
    exact inE_m hcl
  have rz : rg z := ⟨by have := hz0.1; omega, by have := hz0.2; omega⟩
  have N := s_typeOfName (d := d + 90) rz I.2.2.1 I.2.2.2.1 b2
  have lr := (I.2.1.2.2 _ (lkE_m hz)).1
  obtain ⟨r, σ1, R, F, O⟩ := c_instance (d := d + 40) (h := h) I.1 ⟨b3.1, by omega⟩ lr.1 lr.2 (by omega)
  obtain ⟨o1, o2, o3, o4⟩ := F.oo
  have run : Rn (d + 99) yCk_leaf [.ref 49, vi n] σ (some r) σ1 := by
    refine M_Ck_leaf (d := d + 95) ⟨by have := t.1; omega, by have := t.1; omega⟩ ?_
    unfold B_Ck_leaf
    rw [e7, e9, if_neg (by decide), if_neg (by decide), if_neg (by decide), if_neg (by decide), if_neg (by decide), if_pos rfl]
    exact ⟨_, σ, N.deep (by omega), r, σ1, by rw [I.2.2.2.2.1]; exact R.deep (by omega), rfl, rfl⟩
  rcases O with ⟨rfl, c5, no⟩ | ⟨T1, x, rr, c5, so1, co1, re⟩
  · refine ⟨-1, σ1, run, rgk rfl, Or.inl ⟨⟨F.fk, Or.inr rfl, by rw [o1], by rw [o1], by omega, by omega⟩, fun ρ s V y => ?_⟩⟩
    obtain ⟨y1, y2⟩ := y
    rw [lkG_E hz] at y2
    obtain ⟨ρ', V', -, e⟩ := y2
    have := no ρ' V'
    rw [e] at this
    have := y1 (by decide) rfl
    omega
  · refine ⟨r, σ1, run, ⟨by omega, by have := T1.1.2.1; omega⟩, Or.inr ⟨CkG.ft I F.fk T1 o1 o2 o3 o4, by show σ1 38 5 ≤ σ 38 5 + 44 * 1 - 4; omega, ?_⟩⟩
    exact TRP.P (TR_name hz I.2.1 x so1 co1 (fun M g => re M g)) (fun p => ⟨fun q => Or.inr q, fun q => q.elim False.elim id⟩)
end CLF
