/-! THE CLAIM OUT OF ONE WALK OF THE LAW'S BODY. Your part is whole_start (and what it stands on); all else here is the same for every law, but numbers. -/
def R_law : String := "FunDeskLaw"
def lw_P (b : Addr) (xs : List Int32) (args : Array Value) (s : State) : Prop := args = #[.ref b] ∧ s.IntsAt b xs ∧ xs.length ≤ 2 ∧ (Jvm.Cond.and given_1 narrow_1).before args s = true
def lw_Q (_ : Array Value) (s : State) (o : Outcome) (t : State) : Prop := o = .returned (some (.int 1)) ∧ Framed s o t [] 600002 7302232
def lw_Z (below : List Frame) (a : Array Value) (s : State) : State → Prop := fun t => ∃ o, t.status = .running ∧ Ended t below o ∧ lw_Q a s o t
/-- the law's own end, with 1 on the stack, nothing written that was there before, its room as the claim has it -/
theorem lw_ret {p : Program} {l : Launch} {e : Env} {s : State} {m : MethodId} {below : List Frame} {meth : Method} {c : Code} {b : Nat} (hx : p.tables.exec = Jvm.exec) (hb : c.code = code) (hr : meth.sig.returnType = ret) (hlocks : meth.locks = false) {pc : Nat} {H : Heap} {ls : Array Slot} (hdg : decode code pc = .ok (.ireturn, 1)) : W p l e room_1 s m #[Value.ref b] below meth c H [] 600002 7302232 (lw_Z below #[Value.ref b] s) (F0 m pc ls [.int 1]) := by
  intro T hT X
  obtain ⟨fs, hret, hrun, hended, hW, hframe⟩ := X.leave (v := some (.int 1)) (hlocks := hlocks) (fun h => by rw [hr] at h; cases h)
  have hmeth' : T.vm.method? m = some meth := X.method'
  refine ⟨T.setFrames fs, ?_, .returned (some (.int 1)), hrun, hended, rfl, ⟨_, rfl⟩, hW, hframe⟩
  jvm_step X.here [X.here.top, hx, hb, hdg, hmeth', hr, ret, narrow_b1]
  (try refine ⟨rfl, ?_⟩); (try refine ⟨rfl, ?_⟩)
  first | (intro acts; rw [hret _ acts rfl rfl rfl]) | rw [hret _ _ rfl rfl rfl]
  exact Steps.refl _
/-- what holds at the law's entry: the machine, the code, the tables' words (any of lw_tbl by 'hts w (by decide +kernel)'), the script of L ints xs at the cell b, what the Statement gives of the start (any of its parts by flat_of_before) -/
def lw_At (p : Program) (s : State) (m : MethodId) (meth : Method) (c : Code) (b L : Nat) (xs : Nat → Int32) : Prop :=
  p.tables.exec = Jvm.exec ∧ c.code = code ∧ meth.sig.returnType = ret ∧ c.maxLocals = 9 ∧ s.vm.findClass R_law = some m.cls ∧ (∀ w ∈ lw_tbl, w.before #[Value.ref b] s = true) ∧ va_X b L xs s s.heap ∧ b < s.heap.size ∧ meth.locks = false ∧ (Jvm.Cond.and given_1 narrow_1).before #[Value.ref b] s = true
theorem start_D {s : State} {aa : Array Value} (hts : ∀ w ∈ lw_tbl, w.before aa s = true) : ∃ D : va_G, ∀ (k : Nat) (q : vw_C), cls[k]? = some q → u_Kn s q.1 q.2.1 q.2.2 (D.1 k) (D.2 k) := by
  have one : ∀ (k : Nat) (q : vw_C), cls[k]? = some q → ∃ (cC : ClassId) (iS : Nat → Nat), u_Kn s q.1 q.2.1 q.2.2 cC iS := fun k q hq => by
    have ok := cls_ok k q hq
    exact u_known (n := q.2.2) hts ok.2.2.1 (hts _ ok.2.2.2.1)
  obtain ⟨c0, i0, -⟩ := one 0 _ rfl
  have any : ∀ k : Nat, ∃ x : ClassId × (Nat → Nat), ∀ q : vw_C, cls[k]? = some q → u_Kn s q.1 q.2.1 q.2.2 x.1 x.2 := fun k => by
    cases hk : cls[k]? with
    | none => exact ⟨(c0, i0), fun q hq => by cases hq⟩
    | some q0 =>
      obtain ⟨cC, iS, h⟩ := one k q0 hk
      exact ⟨(cC, iS), fun q hq => by cases hq; exact h⟩
  exact ⟨(fun k => (Classical.choose (any k)).1, fun k => (Classical.choose (any k)).2), fun k q hq => Classical.choose_spec (any k) q hq⟩
theorem start_nw {s : State} {aa : Array Value} (hts : ∀ w ∈ lw_tbl, w.before aa s = true) : nwOK s :=
  ⟨va_AO.of (A := aa) (hts _ (List.mem_of_getElem? (i := 325) (by decide +kernel))), va_Nw.of (A := aa) rfl (hts _ (List.mem_of_getElem? (i := 167) (by decide +kernel))), va_Nw.of (A := aa) rfl (hts _ (List.mem_of_getElem? (i := 191) (by decide +kernel))), va_Nw.of (A := aa) rfl (hts _ (List.mem_of_getElem? (i := 257) (by decide +kernel)))⟩
theorem start_exw : ∀ w ∈ excWs, w.onTables = true ∧ w ∈ lw_tbl := by
  intro w hw
  simp only [excWs, List.mem_cons, List.not_mem_nil, or_false] at hw
  rcases hw with rfl | rfl | rfl | rfl | rfl | rfl | rfl | rfl
  · exact ⟨rfl, List.mem_of_getElem? (i := 823) (by decide +kernel)⟩
  · exact ⟨rfl, List.mem_of_getElem? (i := 897) (by decide +kernel)⟩
  · exact ⟨rfl, List.mem_of_getElem? (i := 1064) (by decide +kernel)⟩
  · exact ⟨rfl, List.mem_of_getElem? (i := 1117) (by decide +kernel)⟩
  · exact ⟨rfl, List.mem_of_getElem? (i := 1133) (by decide +kernel)⟩
  · exact ⟨rfl, List.mem_of_getElem? (i := 825) (by decide +kernel)⟩
  · exact ⟨rfl, List.mem_of_getElem? (i := 827) (by decide +kernel)⟩
  · exact ⟨rfl, List.mem_of_getElem? (i := 829) (by decide +kernel)⟩
theorem start_s0 {s : State} {aa : Array Value} (hts : ∀ w ∈ lw_tbl, w.before aa s = true) (hs : ∀ w ∈ flatC (Jvm.Cond.and given_1 narrow_1), w.before aa s = true) : ∃ q, vk_R "FunDesk" 82 "the line is no expression" q s := by
  obtain ⟨a, -, -, -, h, -⟩ := Cond.exactly_spec (show (Cond.exactly (.string "FunDesk" 82) "java/lang/String").holds aa s none s [] = true from hs _ (by decide +kernel))
  exact ⟨a, vk_R.of (A := aa) (hts _ (List.mem_of_getElem? (i := 864) (by decide +kernel))) h⟩
theorem start_s1 {s : State} {aa : Array Value} (hts : ∀ w ∈ lw_tbl, w.before aa s = true) (hs : ∀ w ∈ flatC (Jvm.Cond.and given_1 narrow_1), w.before aa s = true) : ∃ q, vk_R "FunDesk" 92 "a name is not bound" q s := by
  obtain ⟨a, -, -, -, h, -⟩ := Cond.exactly_spec (show (Cond.exactly (.string "FunDesk" 92) "java/lang/String").holds aa s none s [] = true from hs _ (by decide +kernel))
  exact ⟨a, vk_R.of (A := aa) (hts _ (List.mem_of_getElem? (i := 904) (by decide +kernel))) h⟩
theorem start_s2 {s : State} {aa : Array Value} (hts : ∀ w ∈ lw_tbl, w.before aa s = true) (hs : ∀ w ∈ flatC (Jvm.Cond.and given_1 narrow_1), w.before aa s = true) : ∃ q, vk_R "FunDesk" 100 "the expression is ill typed" q s := by
  obtain ⟨a, -, -, -, h, -⟩ := Cond.exactly_spec (show (Cond.exactly (.string "FunDesk" 100) "java/lang/String").holds aa s none s [] = true from hs _ (by decide +kernel))
  exact ⟨a, vk_R.of (A := aa) (hts _ (List.mem_of_getElem? (i := 1071) (by decide +kernel))) h⟩
theorem start_s3 {s : State} {aa : Array Value} (hts : ∀ w ∈ lw_tbl, w.before aa s = true) (hs : ∀ w ∈ flatC (Jvm.Cond.and given_1 narrow_1), w.before aa s = true) : ∃ q, vk_R "FunDesk" 153 "nothing is worked out" q s := by
  obtain ⟨a, -, -, -, h, -⟩ := Cond.exactly_spec (show (Cond.exactly (.string "FunDesk" 153) "java/lang/String").holds aa s none s [] = true from hs _ (by decide +kernel))
  exact ⟨a, vk_R.of (A := aa) (hts _ (List.mem_of_getElem? (i := 1124) (by decide +kernel))) h⟩
theorem start_s4 {s : State} {aa : Array Value} (hts : ∀ w ∈ lw_tbl, w.before aa s = true) (hs : ∀ w ∈ flatC (Jvm.Cond.and given_1 narrow_1), w.before aa s = true) : ∃ q, vk_R "FunDesk" 166 "there is nothing else to ask of a value" q s := by
  obtain ⟨a, -, -, -, h, -⟩ := Cond.exactly_spec (show (Cond.exactly (.string "FunDesk" 166) "java/lang/String").holds aa s none s [] = true from hs _ (by decide +kernel))
  exact ⟨a, vk_R.of (A := aa) (hts _ (List.mem_of_getElem? (i := 1140) (by decide +kernel))) h⟩
theorem start_s5 {s : State} {aa : Array Value} (hts : ∀ w ∈ lw_tbl, w.before aa s = true) (hs : ∀ w ∈ flatC (Jvm.Cond.and given_1 narrow_1), w.before aa s = true) : ∃ q, vk_R "FunDesk" 177 "there is no such item" q s := by
  obtain ⟨a, -, -, -, h, -⟩ := Cond.exactly_spec (show (Cond.exactly (.string "FunDesk" 177) "java/lang/String").holds aa s none s [] = true from hs _ (by decide +kernel))
  exact ⟨a, vk_R.of (A := aa) (hts _ (List.mem_of_getElem? (i := 1165) (by decide +kernel))) h⟩
def excNoW : List Cond := [.not (.castable (excN 0) (excN 1)), .not (.castable (excN 0) (excN 2)), .not (.castable (excN 0) (excN 3)), .not (.castable (excN 0) (excN 4)), .not (.castable (excN 1) (excN 0)), .not (.castable (excN 1) (excN 2)), .not (.castable (excN 1) (excN 3)), .not (.castable (excN 1) (excN 4)), .not (.castable (excN 2) (excN 0)), .not (.castable (excN 2) (excN 1)), .not (.castable (excN 2) (excN 3)), .not (.castable (excN 2) (excN 4)), .not (.castable (excN 3) (excN 0)), .not (.castable (excN 3) (excN 1)), .not (.castable (excN 3) (excN 2)), .not (.castable (excN 3) (excN 4)), .not (.castable (excN 4) (excN 0)), .not (.castable (excN 4) (excN 1)), .not (.castable (excN 4) (excN 2)), .not (.castable (excN 4) (excN 3))]
set_option maxRecDepth 100000 in
theorem start_no0 : excNoW.all (fun w => decide (w ∈ flatC (Jvm.Cond.and given_1 narrow_1))) = true := by decide +kernel
theorem start_no {s : State} {aa : Array Value} (hs : ∀ w ∈ flatC (Jvm.Cond.and given_1 narrow_1), w.before aa s = true) : ∀ t ∈ excNo, va_Nc (excN t.1) (excN t.2) s := by
  intro t ht
  have hm : Cond.not (.castable (excN t.1) (excN t.2)) ∈ excNoW := by
    revert t
    decide +kernel
  exact va_Nc.of (hs _ (of_decide_eq_true (List.all_eq_true.mp start_no0 _ hm)))
theorem start_ex {s : State} {aa : Array Value} (hts : ∀ w ∈ lw_tbl, w.before aa s = true) (hs : ∀ w ∈ flatC (Jvm.Cond.and given_1 narrow_1), w.before aa s = true) : exOK s := by
  have self : ∀ (a : Nat) (cell : Cell), s.heap[a]? = some cell → cell.vm.isStatics = true → s.heap[a]? = some cell := fun _ _ h _ => h
  have l1 : (Cond.laysStatic Bundle.tN "UNASSIGNED_STACK" Bundle.steD).before #[] s = true := hts (Cond.laysStatic Bundle.tN "UNASSIGNED_STACK" Bundle.steD) (List.mem_of_getElem? (i := 848) (by decide +kernel))
  have l2 : (Cond.laysStatic Bundle.tN "SUPPRESSED_SENTINEL" Bundle.listD).before #[] s = true := hts (Cond.laysStatic Bundle.tN "SUPPRESSED_SENTINEL" Bundle.listD) (List.mem_of_getElem? (i := 850) (by decide +kernel))
  have i1 : (Cond.isRef (.static Bundle.tN "UNASSIGNED_STACK" Bundle.steD)).before aa s = true := hs _ (by decide +kernel)
  have i2 : (Cond.isRef (.static Bundle.tN "SUPPRESSED_SENTINEL" Bundle.listD)).before aa s = true := hs _ (by decide +kernel)
  refine ⟨fun w hw => va_Nw.of (A := aa) (start_exw w hw).1 (hts w (start_exw w hw).2), ⟨l1, i1⟩, ⟨l2, i2⟩, ?_, start_no hs⟩
  intro t ht
  simp only [strTab, List.mem_cons, List.not_mem_nil, or_false] at ht
  rcases ht with rfl | rfl | rfl | rfl | rfl | rfl
  · exact start_s0 hts hs
  · exact start_s1 hts hs
  · exact start_s2 hts hs
  · exact start_s3 hts hs
  · exact start_s4 hts hs
  · exact start_s5 hts hs
/-- the abstract heap at the law's entry: the script alone -/
def lawH (L : Nat) (xs : Nat → Int32) : mHp := (1, 0, fun i => if i = 0 then (106, L, fun j => .int (xs j)) else (200, 0, fun _ => .null))
theorem lawH_tag {L : Nat} {xs : Nat → Int32} {b i a : Nat} (h : ([b] : List Nat)[i]? = some a) : hTag (lawH L xs) i = 106 := by
  cases i with
  | zero => rfl
  | succ n => simp at h
set_option maxRecDepth 100000 in
theorem mTab_229 : mTab[229]? = some mI229 := rfl
set_option maxHeartbeats 4000000 in
theorem start_of {p : Program} {e : Env} {s : State} {m : MethodId} {below : List Frame} {meth : Method} {c : Code} (l : Launch) (hnt : l.stackTraces = false) {b L : Nat} {xs : Nat → Int32} (C0 : lw_At p s m meth c b L xs) {F : Nat} {h' : mHp}
    (hgo : mGo (mEx F 400) true 229 F (0, [(0, .ref 0)], [], lawH L xs) = some (.inl (some (.int 1)), h')) (hc : h'.1 ≤ 1 + 600002) (hs : h'.2.1 ≤ 7302232) : W p l e room_1 s m #[Value.ref b] below meth c s.heap [] 0 0 (lw_Z below #[Value.ref b] s) (entryFrame m ([Value.ref b] : List Value).toArray 9) := by
  obtain ⟨hx, hb, hr, hml, hown, hts, hX, hbl, hlocks, hgv⟩ := id C0
  obtain ⟨D, hD0⟩ := start_D hts
  have hgt : ∀ w ∈ gtbl, w.before #[Value.ref b] s = true := fun w hw => hts w (List.mem_filter.mp hw).1
  have hnw := start_nw hts
  have hex := start_ex hts (flat_of_before _ hgv)
  have hq := mTab_229
  have hSF : stF (fun q : Nat => s.heap.size ≤ q) s.heap s := fun a cell h1 _ => ⟨h1, Nat.not_le.mpr (Array.getElem?_eq_some_iff.mp h1).1⟩
  have hl := lv_entry ([.ref b]) (n := 9) (Nat.le_of_ble_eq_true rfl)
  rw [lg_entry_eq]
  generalize (lg_sl ([.ref b]) ++ List.replicate (9 - (lg_sl ([.ref b])).length) Slot.unset).toArray = ls at hl ⊢
  have hK : va_K D cls [] s := ⟨hD0, fun k q h => by simp at h⟩
  refine s_go (R := room_1) (A := fun q : Nat => s.heap.size ≤ q) (H0 := s.heap) (h0 := (1, 0)) (ad0 := [b]) (D := D) (sc := true) (q := mI229) hq hx hb hown (by decide +kernel) hgt hnw (fun _ h => h) (fun hh => absurd hh (by decide +kernel)) hc (by show h'.2.1 ≤ 0 + 7302232; omega) ?_ ?_ F _ s.heap [] 0 0 ls [] [b] hgo
    ⟨⟨[], (List.append_nil _).symm⟩, ⟨_, hl, _, [], rfl, ⟨b, rfl, rfl⟩, rfl⟩, rfl, ⟨[], [], hK, (fun k q h => by simp at h), ⟨fun i j p q h => by simp at h, fun k q h => by simp at h⟩, va_S.rf, rfl, (fun i a h1 h2 => absurd h2 (by rw [lawH_tag h1]; omega)), (fun i j a h1 h2 h3 => absurd h3 (by rw [lawH_tag h1]; omega))⟩, (fun _ => ⟨b, L, xs, hX, hbl, Nat.not_le.mpr hbl, rfl, rfl⟩), rfl, rfl⟩
  · intro S S' H locs cells slots ls cst ad' i n a b' w g1 g2 g3 g4 g5 hAt g6
    obtain ⟨a1, a2, a3, a4, a5, a6, a7⟩ := hAt
    obtain ⟨hd, hn, hlk⟩ := mcd_ok g1 hq
    have hle := le3.inv (le3.ex 400) g3
    have l1 := hle.1
    have l2 := hle.2.1
    dsimp only at a6 a7 g4 g5
    have hRf : 400 + 11 ≤ room_1.frames := by decide
    have hRl : 60 * (400 + 5) ≤ room_1.locals := by decide
    rcases law_in g1 g2 with hbn | ⟨⟨ix, rfl⟩, rfl, hb1, hb2⟩
    · exact s_inv (mCt_all l F 400) hbn (Or.inl law_hand) hx hb hml hown hgt hnw (fun _ h => h) hex hSF hRf hRl hd hn hlk g3 a3 a2 a4 (by omega) (by omega) (fun _ _ _ _ _ _ _ _ _ _ _ _ _ _ _ _ hm => (mBack_no law_hand hm).elim) g6
    · have hn3 : n = 3 := hn
      subst hn3
      simp only [mInv] at g3
      rw [if_neg (by decide)] at g3
      simp only [mLinkOk] at hlk
      rw [if_neg (by decide)] at hlk
      split at hlk
      · next qb hqb =>
        simp only [Bool.and_eq_true, decide_eq_true_eq] at hlk
        split at g3
        · next hc =>
          cases hcall : mEx F 400 b' (S.2.2.1.take (mArgN b')).reverse S.2.2.2 with
          | none => rw [hcall] at g3; cases g3
          | some o =>
            rw [hcall, Option.bind_some] at g3
            obtain ⟨r, hh⟩ := o
            cases r with
            | inr kx => exact (mBack_no law_hand g3).elim
            | inl r =>
              have hS := mBack_ret g3
              subst hS
              dsimp only at g4 g5 l1 l2
              exact s_invW (mCtW_all l hnt F 400) hb1 hb2 hx hb hml hown hgt hnw (fun _ h => h) hex hSF hRf hRl hd hqb hlk.1.2 hc.1 hc.2 hcall a3 a2 a4 (by omega) (by omega) g6
        · cases g3
      · cases hlk
  · intro S H locs cells slots ls cst ad' hst hAt
    obtain ⟨a1, a2, a3, a4, a5, a6, a7⟩ := hAt
    obtain ⟨i, n, a, b', w, hcd, hm, rfl⟩ := step_ret hst
    obtain ⟨hd, hn, -⟩ := mcd_ok hcd hq
    obtain ⟨ws', tys', hK', hP', hD', hS', hH'⟩ := a4
    dsimp only at a6 a7
    have hret : i = .ireturn ∧ S.2.2.1 = [.int 1] := by
      have hrt : mRetT 229 = some .boolean := by decide +kernel
      cases i with
      | return_ => simp only [mRet, hrt] at hm; split at hm <;> cases hm
      | ireturn =>
        simp only [mRet, hrt] at hm
        split at hm
        · next x t h1 h2 =>
          split at hm
          · cases hm; exact ⟨rfl, h1⟩
          · cases hm
        · cases hm
      | dreturn => simp only [mRet, hrt] at hm; split at hm <;> cases hm
      | areturn => simp only [mRet, hrt] at hm; split at hm <;> cases hm
      | _ => simp only [mRet] at hm; cases hm
    obtain ⟨rfl, hst1⟩ := hret
    have hn1 : n = 1 := hn
    subst hn1
    rw [hst1] at a3
    obtain ⟨_, cr, rfl, rfl, hcr⟩ := a3
    rw [show cr = [] from hcr]
    refine va_forget hS'.2.2 ?_
    refine W.widen (k := 600002) (n := 7302232) (by omega) (by omega) ?_
    exact lw_ret hx hb hr hlocks hd
/-- THE PURE SIDE: on every script of at most 2 ints the abstract machine's run of the law answers 1, in the claim's room -/
def lawPure : Prop := ∀ (L : Nat) (xs : Nat → Int32), L ≤ 2 → ∃ (F : Nat) (h' : mHp), mGo (mEx F 400) true 229 F (0, [(0, .ref 0)], [], lawH L xs) = some (.inl (some (.int 1)), h') ∧ h'.1 ≤ 1 + 600002 ∧ h'.2.1 ≤ 7302232
