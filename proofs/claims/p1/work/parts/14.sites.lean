/-! The methods that throw: where, and their contracts there. -/
def thrSites : List (Nat × Nat × Nat) := [(54, 10, 100), (54, 30, 101), (54, 50, 102), (137, 9, 103), (137, 94, 104), (138, 9, 103), (139, 9, 103), (139, 29, 104), (141, 7, 103)]
def thrChk (y : Nat) (pc : Nat) (o : Option mEnt) : Bool := match o with
  | none => true
  | some (i, _, a, _, _) => !(mGrp a i == 6) || decide ((y, pc, a) ∈ thrSites)
set_option maxRecDepth 100000 in
theorem thr_chk : ((cdT.take mNC).zipIdx.all fun q => q.1.zipIdx.all fun o => thrChk q.2 o.2 o.1) = true := by decide +kernel
theorem thr_in {y pc : Nat} {i : Instr} {n a b w : Nat} (h : mcd y pc = some (i, n, a, b, w)) (hy : y < mNC) (hg : mGrp a i = 6) : (y, pc, a) ∈ thrSites := by
  obtain ⟨L, q', hL, -, hx, -⟩ := mcd_row h
  have h1 := List.all_eq_true.mp thr_chk (L, y) (List.mem_of_getElem? (i := y) (by rw [List.getElem?_zipIdx, List.getElem?_take_of_lt hy, hL]; simp))
  have h2 := List.all_eq_true.mp h1 (some (i, n, a, b, w), pc) (List.mem_of_getElem? (i := pc) (by rw [List.getElem?_zipIdx, hx]; simp))
  simp only [thrChk, hg, Bool.or_eq_true, Bool.not_eq_true', decide_eq_true_eq] at h2
  rcases h2 with h2 | h2
  · simp at h2
  · exact h2
/-- what a place of a throw needs of the tables: k its kind, ix, si, ic the entries of new, ldc, invokespecial -/
def thrOK (q : mMI) (pc k ix si ic : Nat) (tx : String) : Prop := q.1.cls = "FunDesk" ∧ (decode q.2.1 pc = .ok (.new ix, 3) ∧ decode q.2.1 (pc + 3) = .ok (.dup, 1) ∧ decode q.2.1 (pc + 4) = .ok (.ldc si, 2) ∧ decode q.2.1 (pc + 6) = .ok (.invokespecial ic, 3) ∧ decode q.2.1 (pc + 9) = .ok (.athrow, 1)) ∧ Cond.classLink "FunDesk" ix (excN k) ∈ gtbl ∧ Cond.initialized (excN k) ∈ gtbl ∧ Cond.instantiable (excN k) 6 ∈ gtbl ∧ (si, tx) ∈ strTab ∧ Bundle.fit (excN k) = true ∧ (excN k = nseN → ic = 94)
def thrWs (ic k : Nat) : Prop := ∀ a ∈ thrAtoms ic (excN k), (a.onTables = true ∧ (a ∈ gtbl ∨ a ∈ excWs)) ∨ a = .laysStatic Bundle.tN "UNASSIGNED_STACK" Bundle.steD ∨ a = .isRef (.static Bundle.tN "UNASSIGNED_STACK" Bundle.steD) ∨ a = .laysStatic Bundle.tN "SUPPRESSED_SENTINEL" Bundle.listD ∨ a = .isRef (.static Bundle.tN "SUPPRESSED_SENTINEL" Bundle.listD)
def thrWc (a : Cond) : Bool := (a.onTables && ((goodWord a && decide (a ∈ lw_tbl)) || decide (a ∈ excWs))) || decide (a = .laysStatic Bundle.tN "UNASSIGNED_STACK" Bundle.steD) || decide (a = .isRef (.static Bundle.tN "UNASSIGNED_STACK" Bundle.steD)) || decide (a = .laysStatic Bundle.tN "SUPPRESSED_SENTINEL" Bundle.listD) || decide (a = .isRef (.static Bundle.tN "SUPPRESSED_SENTINEL" Bundle.listD))
theorem thrWs_of {ic k : Nat} (h : (thrAtoms ic (excN k)).all thrWc = true) : thrWs ic k := by
  intro a ha
  have h1 := List.all_eq_true.mp h a ha
  simp only [thrWc, Bool.or_eq_true, Bool.and_eq_true, decide_eq_true_eq] at h1
  rcases h1 with (((⟨h1, h2⟩ | h1) | h1) | h1) | h1
  · exact Or.inl ⟨h1, h2.imp (fun z => in_gtbl z.2 z.1) id⟩
  · exact Or.inr (Or.inl h1)
  · exact Or.inr (Or.inr (Or.inl h1))
  · exact Or.inr (Or.inr (Or.inr (Or.inl h1)))
  · exact Or.inr (Or.inr (Or.inr (Or.inr h1)))
set_option maxRecDepth 100000 in
theorem thrW0 : thrWs 84 0 := thrWs_of (by decide +kernel)
set_option maxRecDepth 100000 in
theorem thrW1 : thrWs 94 1 := thrWs_of (by decide +kernel)
set_option maxRecDepth 100000 in
theorem thrW2 : thrWs 102 2 := thrWs_of (by decide +kernel)
set_option maxRecDepth 100000 in
theorem thrW3 : thrWs 155 3 := thrWs_of (by decide +kernel)
set_option maxRecDepth 100000 in
theorem thrW4 : thrWs 168 4 := thrWs_of (by decide +kernel)
theorem thr54_10 : thrOK mI54 10 0 80 82 84 "the line is no expression" := ⟨rfl, ⟨by decide +kernel, by decide +kernel, by decide +kernel, by decide +kernel, by decide +kernel⟩, in_gtbl (List.mem_of_getElem? (i := 821) (by decide +kernel)) rfl, in_gtbl (List.mem_of_getElem? (i := 148) (by decide +kernel)) rfl, in_gtbl (List.mem_of_getElem? (i := 822) (by decide +kernel)) rfl, by decide +kernel, by decide +kernel, by decide +kernel⟩
theorem thr54_30 : thrOK mI54 30 1 90 92 94 "a name is not bound" := ⟨rfl, ⟨by decide +kernel, by decide +kernel, by decide +kernel, by decide +kernel, by decide +kernel⟩, in_gtbl (List.mem_of_getElem? (i := 895) (by decide +kernel)) rfl, in_gtbl (List.mem_of_getElem? (i := 149) (by decide +kernel)) rfl, in_gtbl (List.mem_of_getElem? (i := 896) (by decide +kernel)) rfl, by decide +kernel, by decide +kernel, by decide +kernel⟩
theorem thr54_50 : thrOK mI54 50 2 98 100 102 "the expression is ill typed" := ⟨rfl, ⟨by decide +kernel, by decide +kernel, by decide +kernel, by decide +kernel, by decide +kernel⟩, in_gtbl (List.mem_of_getElem? (i := 1062) (by decide +kernel)) rfl, in_gtbl (List.mem_of_getElem? (i := 151) (by decide +kernel)) rfl, in_gtbl (List.mem_of_getElem? (i := 1063) (by decide +kernel)) rfl, by decide +kernel, by decide +kernel, by decide +kernel⟩
theorem thr137_9 : thrOK mI137 9 3 151 153 155 "nothing is worked out" := ⟨rfl, ⟨by decide +kernel, by decide +kernel, by decide +kernel, by decide +kernel, by decide +kernel⟩, in_gtbl (List.mem_of_getElem? (i := 1115) (by decide +kernel)) rfl, in_gtbl (List.mem_of_getElem? (i := 155) (by decide +kernel)) rfl, in_gtbl (List.mem_of_getElem? (i := 1116) (by decide +kernel)) rfl, by decide +kernel, by decide +kernel, by decide +kernel⟩
theorem thr137_94 : thrOK mI137 94 4 164 166 168 "there is nothing else to ask of a value" := ⟨rfl, ⟨by decide +kernel, by decide +kernel, by decide +kernel, by decide +kernel, by decide +kernel⟩, in_gtbl (List.mem_of_getElem? (i := 1131) (by decide +kernel)) rfl, in_gtbl (List.mem_of_getElem? (i := 156) (by decide +kernel)) rfl, in_gtbl (List.mem_of_getElem? (i := 1132) (by decide +kernel)) rfl, by decide +kernel, by decide +kernel, by decide +kernel⟩
theorem thr138_9 : thrOK mI138 9 3 151 153 155 "nothing is worked out" := ⟨rfl, ⟨by decide +kernel, by decide +kernel, by decide +kernel, by decide +kernel, by decide +kernel⟩, in_gtbl (List.mem_of_getElem? (i := 1115) (by decide +kernel)) rfl, in_gtbl (List.mem_of_getElem? (i := 155) (by decide +kernel)) rfl, in_gtbl (List.mem_of_getElem? (i := 1116) (by decide +kernel)) rfl, by decide +kernel, by decide +kernel, by decide +kernel⟩
theorem thr139_9 : thrOK mI139 9 3 151 153 155 "nothing is worked out" := ⟨rfl, ⟨by decide +kernel, by decide +kernel, by decide +kernel, by decide +kernel, by decide +kernel⟩, in_gtbl (List.mem_of_getElem? (i := 1115) (by decide +kernel)) rfl, in_gtbl (List.mem_of_getElem? (i := 155) (by decide +kernel)) rfl, in_gtbl (List.mem_of_getElem? (i := 1116) (by decide +kernel)) rfl, by decide +kernel, by decide +kernel, by decide +kernel⟩
theorem thr139_29 : thrOK mI139 29 4 164 177 168 "there is no such item" := ⟨rfl, ⟨by decide +kernel, by decide +kernel, by decide +kernel, by decide +kernel, by decide +kernel⟩, in_gtbl (List.mem_of_getElem? (i := 1131) (by decide +kernel)) rfl, in_gtbl (List.mem_of_getElem? (i := 156) (by decide +kernel)) rfl, in_gtbl (List.mem_of_getElem? (i := 1132) (by decide +kernel)) rfl, by decide +kernel, by decide +kernel, by decide +kernel⟩
theorem thr141_7 : thrOK mI141 7 3 151 153 155 "nothing is worked out" := ⟨rfl, ⟨by decide +kernel, by decide +kernel, by decide +kernel, by decide +kernel, by decide +kernel⟩, in_gtbl (List.mem_of_getElem? (i := 1115) (by decide +kernel)) rfl, in_gtbl (List.mem_of_getElem? (i := 155) (by decide +kernel)) rfl, in_gtbl (List.mem_of_getElem? (i := 1116) (by decide +kernel)) rfl, by decide +kernel, by decide +kernel, by decide +kernel⟩
theorem thr_at {y pc a : Nat} {q : mMI} (hq : mTab[y]? = some q) (h : (y, pc, a) ∈ thrSites) : ∃ ix si ic tx, thrOK q pc (a - 100) ix si ic tx ∧ thrWs ic (a - 100) := by
  simp only [thrSites, List.mem_cons, List.not_mem_nil, or_false, Prod.mk.injEq] at h
  rcases h with ⟨rfl, rfl, rfl⟩ | ⟨rfl, rfl, rfl⟩ | ⟨rfl, rfl, rfl⟩ | ⟨rfl, rfl, rfl⟩ | ⟨rfl, rfl, rfl⟩ | ⟨rfl, rfl, rfl⟩ | ⟨rfl, rfl, rfl⟩ | ⟨rfl, rfl, rfl⟩ | ⟨rfl, rfl, rfl⟩
  · cases (show mI54 = q from Option.some.inj hq); exact ⟨_, _, _, _, thr54_10, thrW0⟩
  · cases (show mI54 = q from Option.some.inj hq); exact ⟨_, _, _, _, thr54_30, thrW1⟩
  · cases (show mI54 = q from Option.some.inj hq); exact ⟨_, _, _, _, thr54_50, thrW2⟩
  · cases (show mI137 = q from Option.some.inj hq); exact ⟨_, _, _, _, thr137_9, thrW3⟩
  · cases (show mI137 = q from Option.some.inj hq); exact ⟨_, _, _, _, thr137_94, thrW4⟩
  · cases (show mI138 = q from Option.some.inj hq); exact ⟨_, _, _, _, thr138_9, thrW3⟩
  · cases (show mI139 = q from Option.some.inj hq); exact ⟨_, _, _, _, thr139_9, thrW3⟩
  · cases (show mI139 = q from Option.some.inj hq); exact ⟨_, _, _, _, thr139_29, thrW4⟩
  · cases (show mI141 = q from Option.some.inj hq); exact ⟨_, _, _, _, thr141_7, thrW3⟩
