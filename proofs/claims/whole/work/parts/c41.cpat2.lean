/-! The class's checker: patterns that are lists; any pattern. -/
section CP2
variable {σ σ' σ1 σ2 σ3 : Mem} {d : Nat} {h n x r t : Int} {E : List (Int × Int)} {M : Int → Prop} {A B C : Tr} {k : Nat} {z : Int}
theorem wfP_n {m : Int} (hA : wfP A) (t : isT σ 5 0 (σ 5 7) A m) : 0 ≤ m ∧ m < σ 5 7 := by
  unfold isT at t
  split at t
  · exact t.1
  · exact hA.elim
  · exact t.elim
theorem bnd_10 : bnd (nd 10 0 A B nl) = bnd A ++ bnd B := rfl
theorem bnd_len : ∀ {A : Tr}, wfP A → ((bnd A).length : Int) ≤ rpl A ∧ 1 ≤ rpl A := by
  intro A
  induction A using wfP.induct with
  | case1 z A B C | case2 z A B C | case5 z A B C => intro ⟨_, h1, h2, h3⟩; subst h1 h2 h3; exact ⟨(by show (0 : Int) ≤ 1; decide), (by show (1 : Int) ≤ 1; decide)⟩
  | case3 z A B C => intro ⟨_, h1, h2, h3⟩; subst h1 h2 h3; exact ⟨(by show (0 : Int) ≤ 2; decide), (by show (1 : Int) ≤ 2; decide)⟩
  | case4 z A B C => intro ⟨_, h1, h2, h3⟩; subst h1 h2 h3; exact ⟨(by show (1 : Int) ≤ 1; decide), (by show (1 : Int) ≤ 1; decide)⟩
  | case6 z A B C iA iB =>
    intro ⟨e, wA, wB, h3⟩; subst h3
    have a := iA wA
    have b := iB wB
    have e1 : rpl (nd 10 z A B nl) = (if isCo A then rpl A + 2 else rpl A) + 1 + rpl B := rfl
    have e2 : bnd (nd 10 z A B nl) = bnd A ++ bnd B := rfl
    show ((bnd (nd 10 z A B nl)).length : Int) ≤ rpl (nd 10 z A B nl) ∧ 1 ≤ rpl (nd 10 z A B nl)
    rw [e1, e2, List.length_append]
    split <;> omega
  | case7 k z a b c h1 h2 h3 h4 h5 h6 => intro hw; revert hw; unfold wfP; split <;> simp_all
  | case8 t hx =>
    intro hw; exfalso; revert hw; unfold wfP; split
    · exact (hx _ _ _ _ _ rfl).elim
    · exact id
theorem pnE_len {nu : Int → Int} : ((pnE A nu E).length : Int) = (bnd A).length + E.length := by
  unfold pnE
  rw [List.length_append, List.length_map, List.length_reverse]; push_cast; rfl
theorem pnE_2 {na nb nu : Int → Int} (hA : ∀ z ∈ bnd A, nu z = na z) (hB : ∀ z ∈ bnd B, nu z = nb z) : pnE (nd 10 0 A B nl) nu E = pnE B nb (pnE A na E) := by
  unfold pnE
  rw [bnd_10, List.reverse_append, List.map_append, List.append_assoc]
  congr 1
  · exact List.map_congr_left (fun z m => by rw [hB z (List.mem_reverse.mp m)])
  · congr 1
    exact List.map_congr_left (fun z m => by rw [hA z (List.mem_reverse.mp m)])
theorem PtX.end (hk : σ 7 n ≠ 17) (X : PtX σ σ1) : PtX σ (endI σ1 n r) := by
  obtain ⟨f, a6, a5, c⟩ := X
  unfold endI
  have ff : frCk σ (if r ≠ -1 then σ1 else mup σ1 49 6 1) := f.tr (by split; exact frCk.rf; exact frCk.mu rfl)
  refine ⟨ff.tr (frCk.ro (by rw [ff.1 7 rfl]; exact hk)), ?_, ?_, ?_⟩
  · rw [rows_ne (by decide)]; split
    · exact a6
    · rw [mup_eq]; decide
  · rw [rows_ne (by decide)]; split
    · exact a5
    · rw [mup_nk (by decide)]; exact a5
  · rw [rows_ne (by decide)]; split
    · exact c
    · rw [mup_ne (by decide)]; exact c
theorem PtX.ft (a : PtX σ σ1) (F : FT σ1 σ2) (c : 0 ≤ σ2 38 5 ∧ σ2 38 5 ≤ 3000) : PtX σ σ2 := by
  obtain ⟨g, b6, b5, -⟩ := a
  have e := F.oo.1
  exact ⟨g.tr F.fk, by rw [e]; exact b6, by rw [e]; exact b5, c⟩
theorem CkX.pt (f : frCk σ σ1) (h5 : σ1 49 5 = σ 49 5) (X : CkX σ1 σ2) : PtX σ σ2 := by
  obtain ⟨g, a6, a4, a5, c⟩ := X
  exact ⟨f.tr g, a6, a5.trans h5, c⟩
theorem PPt_cons (wA : wfP A) (wB : wfP B) (pA : PPt A) (pB : PPt B) : PPt (nd 10 0 A B nl) := by
  intro kk d n x h σ E hkk t hc G J hnd ⟨b1, b2, b3, b4⟩
  have w0 : rpl A + rpl B + 1 ≤ rpl (nd 10 0 A B nl) := by
    have e1 : rpl (nd 10 0 A B nl) = (if isCo A then rpl A + 2 else rpl A) + 1 + rpl B := rfl
    rw [e1]; split <;> omega
  obtain ⟨lA, uA⟩ := bnd_len wA
  obtain ⟨lB, uB⟩ := bnd_len wB
  have n0 := t.1
  have tA : isT σ 5 0 (σ 5 7) A (σ 11 n) := t.2.2.2.1
  have tB : isT σ 5 0 (σ 5 7) B (σ 13 n) := t.2.2.2.2.1
  have e7 : rowv 128 σ 7 n = 10 := (row_at n0 hc).trans t.2.1
  have e11 : rowv 128 σ 11 n = σ 11 n := row_at n0 hc
  have e13 : rowv 128 σ 13 n = σ 13 n := row_at n0 hc
  have rn : rg n := ⟨by omega, by omega⟩
  have rx : rg x := ⟨by omega, by omega⟩
  have nA := wfP_n wA tA
  have nB := wfP_n wB tB
  have r13 : rg (σ 13 n) := ⟨by omega, by omega⟩
  have hnd' : (bnd A ++ bnd B).Nodup := hnd
  obtain ⟨ndA, ndB, dj⟩ := List.nodup_append.mp hnd'
  have wrap : ∀ {r : Int} {σ1 : Mem} {nu : Int → Int}, rg r → Rn (4 * kk + d + 99) yCk_inferWhole [.ref 49, vi n, vi x] σ (some r) σ1 → ((PtX σ σ1 ∧ ∀ α s, ¬ tpP true α (nd 10 0 A B nl) s) ∨ PtG σ σ1 E h (nd 10 0 A B nl) n r nu (fun p => ptN σ σ1 A B nl n p ∨ p = r)) → ∃ r σ' nu, Rn (4 * kk + d + 100) yCk_infer [.ref 49, vi n, vi x] σ (some r) σ' ∧ rg r ∧ PtO σ σ' E h (nd 10 0 A B nl) n r nu := fun {r σ1 nu} gr R O => by
    refine ⟨r, endI σ1 n r, nu, infer_run (d := 4 * kk + d + 96) rn ⟨b4.1, by omega⟩ J.2.2.2.2 gr (Or.inl ⟨by rw [e11]; omega, R⟩), gr, ?_⟩
    rcases O with ⟨X, no⟩ | Gd
    · exact Or.inl ⟨X.end (by rw [show σ 7 n = 10 from t.2.1]; decide), no⟩
    · exact PtG.end t (by decide) hc Gd
  have mk : ∀ {a l b : Int} {σ1 σ2 σ3 σ4 : Mem}, Rn (4 * kk + d + 98) yCk_infer [.ref 49, vi (σ 11 n), vi (x + 1)] σ (some a) σ1 → Rn (4 * kk + d + 98) yTy_list [.ref 38, vi a] σ1 (some l) σ2 → frCk σ σ2 → Rn (4 * kk + d + 98) yCk_infer [.ref 49, vi (σ 13 n), vi (x + 1)] σ2 (some b) σ3 → Rn (4 * kk + d + 98) yCk_demand [.ref 49, vi b, vi l] σ3 none σ4 → Rn (4 * kk + d + 99) yCk_inferWhole [.ref 49, vi n, vi x] σ (some l) σ4 := fun {a l b σ1 σ2 σ3 σ4} R1 R2 f2 R3 R4 => by
    refine M_Ck_inferWhole (d := 4 * kk + d + 95) rn rx ?_
    unfold B_Ck_inferWhole
    rw [e7, if_neg (by decide), if_neg (by decide), if_pos rfl, e11]
    exact ⟨a, σ1, R1, l, σ2, R2, b, σ3, by rw [f2.row (i := 13) rfl, e13]; exact R3, σ4, R4, rfl, rfl⟩
  have dm : ∀ {σ : Mem} {a l : Int}, σ 49 6 ≠ 0 → rg a → rg l → Rn (4 * kk + d + 98) yCk_demand [.ref 49, vi a, vi l] σ none σ := fun q g g' => s_demand_ill (d := 4 * kk + d + 94) q g g'
  have ni : ∀ {σ1 : Mem}, σ1 49 6 ≠ 0 → Rn (4 * kk + d + 98) yCk_infer [.ref 49, vi (σ 13 n), vi (x + 1)] σ1 (some (-1)) σ1 := fun q => infer_ill (d := 4 * kk + d + 94) r13 ⟨by omega, by omega⟩ q
  obtain ⟨ρ0, V0⟩ : ∃ ρ, VS (tS σ).1 (tS σ).2.1 ρ := J.1.1.2.2.2.2.2
  obtain ⟨a, σ1, na, R1, ga, O⟩ := pA (kk - 1) d (σ 11 n) (x + 1) h σ E (by omega) tA hc G J ndA ⟨by omega, by omega, by omega, by omega, by omega⟩
  have R1 : Rn (4 * kk + d + 98) yCk_infer [.ref 49, vi (σ 11 n), vi (x + 1)] σ (some a) σ1 := R1.deep (by omega)
  have so := J.1.so
  have jc := J.1.1.2.1
  rcases O with ⟨X, no⟩ | ⟨f1, J1, o1, cb, QA⟩
  · obtain ⟨l, σ2, R2, gl, F, c⟩ := list_any (d := 4 * kk + d + 93) (σ := σ1) ga X.2.2.2
    have X2 := X.ft F c
    exact wrap (nu := na) gl (mk R1 R2 X2.1 (ni X2.2.1) (dm X2.2.1 (rgk rfl) gl)) (Or.inl ⟨X2, fun α s y => by obtain ⟨-, a', y2, -⟩ := y; exact no α _ y2⟩)
  have QA0 := QA (fun _ => False) (fun _ q => q.elim)
  have ra : 0 ≤ a ∧ a < σ1 38 5 := QA0.2.1.1
  have c01 := J1.1.1.2.1
  obtain ⟨σ2, R2, F, T2, e2, c5⟩ := c_list (d := 4 * kk + d + 93) J1.1 (by omega) ra
  have J2 := J1.ft F T2
  have f2 := f1.tr F.fk
  obtain ⟨b, σ3, nb, R3, gb, O⟩ := pB (kk - 1) d (σ 13 n) (x + 1) h σ2 (pnE A na E) (by omega) (f2.is tB) (by rw [f2.tre.1]; exact hc) (f2.pp G) J2 ndB ⟨by omega, by rw [pnE_len]; omega, by omega, by omega, by omega⟩
  have R3 : Rn (4 * kk + d + 98) yCk_infer [.ref 49, vi (σ 13 n), vi (x + 1)] σ2 (some b) σ3 := R3.deep (by omega)
  have gl : rg (σ1 38 5) := ⟨by omega, by omega⟩
  have h25 : σ2 49 5 = σ 49 5 := J2.2.2.2.1.trans J.2.2.2.1.symm
  rcases O with ⟨X, no⟩ | ⟨f3, J3, o3, cb3, QB⟩
  · have X' : PtX σ σ3 := ⟨f2.tr X.1, X.2.1, X.2.2.1.trans h25, X.2.2.2⟩
    exact wrap (nu := na) gl (mk R1 R2 f2 R3 (dm X.2.1 gb gl)) (Or.inl ⟨X', fun α s y => by obtain ⟨-, a', -, -, y4⟩ := y; exact no α _ y4⟩)
  have QB0 := QB (fun _ => False) (fun _ q => q.elim)
  have l3 : σ2 38 5 ≤ σ3 38 5 := QB0.1.2.1.1
  obtain ⟨σ4, R4, D⟩ := s_dem (d := 4 * kk + d + 5) J3.1 J3.2.2.2.2 (a := b) (b := σ1 38 5) QB0.2.1.1 ⟨by omega, by omega⟩
  have R4 : Rn (4 * kk + d + 98) yCk_demand [.ref 49, vi b, vi (σ1 38 5)] σ3 none σ4 := R4
  have c0 : 0 ≤ (tS σ).2.1 := by show 0 ≤ σ 38 5; omega
  rcases D with ⟨F4, T4, u4, c54, uV4⟩ | ⟨X, no⟩
  rotate_left
  · have X' : PtX σ σ4 := CkX.pt (f2.tr f3) (J3.2.2.2.1.trans J.2.2.2.1.symm) X
    exact wrap (nu := na) gl (mk R1 R2 f2 R3 R4) (Or.inl ⟨X', fun α s => PR_cons_no so QA0 c0 e2 QB0 no s V0⟩)
  obtain ⟨nu, hA, hB⟩ : ∃ nu : Int → Int, (∀ z ∈ bnd A, nu z = na z) ∧ ∀ z ∈ bnd B, nu z = nb z := ⟨fun z => if z ∈ bnd A then na z else nb z, fun z m => if_pos m, fun z m => if_neg (fun w => dj z w z m rfl)⟩
  have e4 := F4.oo.2.2.2
  have o3' := o3
  rw [f2.it] at o3'
  refine wrap (nu := nu) gl (mk R1 R2 f2 R3 R4) (Or.inr ⟨(f2.tr f3).tr F4.fk, ?_, fun x q => ?_, by omega, fun M hM => ?_⟩)
  · rw [pnE_2 hA hB]; exact J3.ft F4 T4
  · rw [e4, o3' x (fun w => q (Or.inr (Or.inr (Or.inl w)))), F.oo.2.2.2, o1 x (fun w => q (Or.inr (Or.inl w)))]
  · have QA' := QA M hM
    have l1 := QA'.1.2.1.1
    have hM2 : inC (tS σ2) M := fun m q => by
      have := hM m q
      have l1 : σ 38 5 ≤ σ1 38 5 := l1
      have this : 0 ≤ m ∧ m < σ 38 5 := this
      exact ⟨this.1, by show m < σ2 38 5; omega⟩
    refine PRes.P (PR_cons so hM QA' c0 e2 (QB M hM2) (u4 h) uV4 hA hB) (fun p => ?_)
    refine ptN_2 (σ1 := σ1) (σ2 := σ2) (σ3 := σ3) (σ' := σ4) (P := fun p => p = σ1 38 5) t G f2 (fun x q => ?_) (fun x _ => by rw [e4]) (fun x _ => by rw [e4]) p
    rw [o3' x q, F.oo.2.2.2]
theorem ppt_all : ∀ A : Tr, wfP A → PPt A := by
  intro A
  induction A using wfP.induct with
  | case1 z A B C => intro ⟨_, h1, h2, h3⟩; subst h1 h2 h3; exact PPt_base (Or.inl ⟨rfl, rfl, rfl⟩)
  | case2 z A B C => intro ⟨_, h1, h2, h3⟩; subst h1 h2 h3; exact PPt_base (Or.inr ⟨rfl, rfl, rfl⟩)
  | case3 z A B C => intro ⟨h0, h1, h2, h3⟩; subst h0 h1 h2 h3; exact PPt_emp
  | case4 z A B C => intro ⟨h0, h1, h2, h3⟩; subst h1 h2 h3; exact PPt_nm h0
  | case5 z A B C => intro ⟨h0, h1, h2, h3⟩; subst h0 h1 h2 h3; exact PPt_any
  | case6 z A B C iA iB => intro ⟨h0, wA, wB, h3⟩; subst h0 h3; exact PPt_cons wA wB (iA wA) (iB wB)
  | case7 k z a b c h1 h2 h3 h4 h5 h6 => intro hw; revert hw; unfold wfP; split <;> simp_all
  | case8 t hx =>
    intro hw; exfalso; revert hw; unfold wfP; split
    · exact (hx _ _ _ _ _ rfl).elim
    · exact id
end CP2
