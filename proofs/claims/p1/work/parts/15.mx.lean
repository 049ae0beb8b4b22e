/-! The contracts of methods that throw. -/
theorem step_thr {call : Nat → List Value → mHp → Option (mRes × mHp)} {sc : Bool} {y : Nat} {S : mSt} {k : Nat} {h' : mHp} (h : mStep call sc y S = some (.inr (.inr k, h'))) : ∃ i n a b w, mcd y S.1 = some (i, n, a, b, w) ∧ mGrp a i = 6 ∧ (a < 105 ∧ mRoom8 S.2.2.1 = true) ∧ k = a - 100 ∧ h' = hNew S.2.2.2 200 6 (fun _ => .null) := by
  unfold mStep at h
  split at h
  · cases h
  · next i n a b w hcd =>
    refine ⟨i, n, a, b, w, hcd, ?_⟩
    unfold mIns at h
    split at h
    · obtain ⟨q, -, h2⟩ := Option.map_eq_some_iff.mp h; cases h2
    · obtain ⟨q, -, h2⟩ := Option.map_eq_some_iff.mp h; cases h2
    · obtain ⟨q, -, h2⟩ := Option.bind_eq_some_iff.mp h
      obtain ⟨t, -, h3⟩ := Option.map_eq_some_iff.mp h2
      cases h3
    · split at h
      · cases h
      · obtain ⟨q, -, h2⟩ := Option.map_eq_some_iff.mp h; cases h2
    · obtain ⟨q, -, h2⟩ := Option.map_eq_some_iff.mp h; cases h2
    · obtain ⟨q, h1, h2⟩ := Option.map_eq_some_iff.mp h; cases h2
    · next hg1 hg2 hg3 hg4 hg5 hg6 =>
      split at h
      · next ha =>
        cases h
        refine ⟨?_, ha, rfl, rfl⟩
        have h6 : mGrp a i ≤ 6 := by unfold mGrp; split <;> (try split) <;> omega
        have n0 := hg1
        have n1 := hg2
        have n2 := hg3
        have n3 := hg4
        have n4 := hg5
        have n5 := hg6
        generalize mGrp a i = g at *
        match g, h6 with
        | 0, _ => exact absurd rfl n0
        | 1, _ => exact absurd rfl n1
        | 2, _ => exact absurd rfl n2
        | 3, _ => exact absurd rfl n3
        | 4, _ => exact absurd rfl n4
        | 5, _ => exact absurd rfl n5
        | 6, _ => rfl
      · cases h
def mQx (D : va_G) (ad : List Nat) (ws : va_W) (sz k : Nat) (h' : mHp) : Array Value → State → Outcome → State → Prop := fun _ st oc t =>
  (∃ (x : Nat) (ce : Cell), oc = .threw x ∧ t.heap[x]? = some ce ∧ st.vm.findClass (excN k) = some ce.cls ∧ ce.vm = .none ∧ ∃ (y : List Nat) (ws' : va_W) (tys' : List (ClassId × FieldType)), hR (ad ++ y) ws' tys' h' ∧ va_P D cls ws' t.heap ∧ va_K D cls tys' t ∧ va_D (va_A ws sz) ws') ∧ va_F (va_A ws sz) st t
/-- the contract of a method that ends with a throw -/
def MetX (l : Launch) (y : MethodName) (ws : List Cond) (rm : Room) (Pc : Array Value → State → Prop) (Qc : Array Value → State → Outcome → State → Prop) (mc ms : Nat) (free : Addr → Prop) : Prop :=
  MetFree l y (headSpec ws rm) Pc (fun _ _ _ _ _ => True) (fun a st o t => (∃ x, o = .threw x) ∧ Qc a st o t ∧ ∃ L, st.WarmedH t.vm ∧ st.sameButNew ({ t with vm := st.vm } : State) L mc ms ∧ ∀ q ∈ L, free q.base)
theorem MetX.ofW {l : Launch} {y : MethodName} {ws ws' : List Cond} {rm : Room} {Pc : Array Value → State → Prop} {Qc : Array Value → State → Outcome → State → Prop} {mc ms : Nat} {free : Addr → Prop} {cc : ByteArray} {maxL : Nat} {ret : Option FieldType}
    (hy : plainName y.cls = true) (hw : ws = Cond.code y cc maxL ret :: ws')
    (body : ∀ p e s m args below meth c s₁, BodyLoose p l y (headSpec ws rm) cc maxL ret e s m args below meth c s₁ → c.maxLocals = maxL → Pc args s →
      W p l e (headSpec ws rm).room s m args below meth c s.heap [] 0 0 (MX below Qc args s mc ms free) (entryFrame m args maxL)) : MetX l y ws rm Pc Qc mc ms free := by
  refine MetFree.of_bodyS (code := cc) (maxLocals := maxL) (ret := ret) hy ?_ ?_
  · intro args s m h hn
    obtain ⟨meth, c, h1, h2, h3, h4, h5, h6, -, -⟩ := Cond.code_spec hn (atoms_spec (ws := ws) h _ (by rw [hw]; exact List.mem_cons_self))
    exact ⟨meth, c, h1, h2, h3, h4, h5, h6⟩
  · intro p e s m args below meth c s₁ B hml hP _
    have hh0 : s₁.heap = s.heap := by rw [B.state]; rfl
    obtain ⟨t, a1, x, b1, b2, b3, b4⟩ := body p e s m args below meth c s₁ B hml hP s₁ hh0 (Stand.of_body B)
    exact ⟨t, .threw x, a1, b1, b2, ⟨x, rfl⟩, b3, b4⟩
def mCtX (l : Launch) (F d : Nat) : Prop := ∀ (y : Nat) (q : mMI), mTab[y]? = some q → y < mNC → ∀ (args : List Value) (h : mHp) (k : Nat) (h' : mHp), mEx F d y args h = some (.inr k, h') →
  ∀ (D : va_G) (ad : List Nat) (ws : va_W) (tys : List (ClassId × FieldType)) (cargs : List Value) (sz : Nat), rl ad args cargs → hR ad ws tys h →
    MetX l q.1 (Cond.code q.1 q.2.1 q.2.2.1 q.2.2.2.1 :: gtbl) (mRm d h h') (va_Pc cargs (mPc D ws tys sz)) (mQx D ad ws sz k h') (h'.1 - h.1) (h'.2.1 - h.2.1) (va_A ws sz)
theorem lg_len {ad : List Nat} : ∀ {vs cs : List Value}, rl ad vs cs → (lg_sl cs).length = (lg_sl vs).length
  | [], _, h => by rw [show _ = [] from h]
  | v :: t, _, ⟨c, cs', h1, h2, h3⟩ => by
    subst h1
    have := lg_len h3
    unfold lg_sl at this ⊢
    simp only [List.flatMap_cons, List.length_append, h2.cat]
    rw [this]
    split <;> rfl
set_option maxHeartbeats 4000000 in
theorem mCtX_all (l : Launch) (hnt : l.stackTraces = false) (F : Nat) : ∀ d, mCtX l F d
  | 0 => fun y q _ _ args h r h' hex => by cases hex
  | d + 1 => fun y q hq hy args h k h' hex D ad ws tys cargs sz hargs hH => by
    obtain ⟨io, ic⟩ := mIO_at hq hy
    have hnL : mMaxL y = q.2.2.1 := by unfold mMaxL; rw [mInf_at hq]
    have hoy : ownN[mOwn y]? = some q.1.cls := by unfold mOwn; rw [mInf_at hq]; exact io.1
    simp only [mEx] at hex
    split at hex
    · next hlen =>
      refine MetX.ofW (cc := q.2.1) (maxL := q.2.2.1) (ret := q.2.2.2.1) io.2.2.1 rfl ?_
      intro p e s m args' below meth c s₁ B hml hv
      obtain ⟨rfl, hsz, hP, hK, hN, hE, hD0⟩ := hv
      have hts := atoms_spec (ws := Cond.code q.1 q.2.1 q.2.2.1 q.2.2.2.1 :: gtbl) B.pre
      have hown : s.vm.findClass q.1.cls = some m.cls := findClass_of_methodNamed B.named
      have hin : meth.name = q.1.name := (name_of_methodNamed B.named B.method).1
      have hnoh := B.noHandlers (hts _ List.mem_cons_self)
      subst hsz
      have hD := hD0.self (sz := s.heap.size)
      have hl := lv_entry cargs (n := q.2.2.1) (by rw [lg_len hargs, ← hnL]; exact hlen)
      rw [lg_entry_eq]
      generalize ((lg_sl cargs) ++ List.replicate (q.2.2.1 - (lg_sl cargs).length) Slot.unset).toArray = ls at hl ⊢
      have hge := le3.go (le3.ex d) F hex
      refine s_go (R := (headSpec (Cond.code q.1 q.2.1 q.2.2.1 q.2.2.2.1 :: gtbl) (mRm (d + 1) h h')).room) (A := va_A ws s.heap.size) (H0 := s.heap) (h0 := (h.1, h.2.1)) (ad0 := ad) (D := D) (sc := false) hq B.exec B.bytes hown hoy (fun w hw => hts w (List.mem_cons_of_mem _ hw)) hN (fun q hq => Or.inr hq) (fun hh => by rw [hin, ← mInf_at hq]; exact hh)
        (by have := hge.1; show h'.1 ≤ h.1 + (h'.1 - h.1); omega) (by have := hge.2.1; show h'.2.1 ≤ h.2.1 + (h'.2.1 - h.2.1); omega) ?_ ?_ F _ s.heap [] 0 0 ls [] ad hex ⟨⟨[], (List.append_nil _).symm⟩, ⟨_, hl, rll.args 0 hargs⟩, rfl, ⟨ws, tys, hK, hP, hD, va_S.rf, hH⟩, (fun hh => absurd hh (by decide)), rfl, rfl⟩
      · intro S S' H locs cells slots ls cst ad' i n a b w g1 g2 g3 g4 g5 hAt g6
        obtain ⟨a1, a2, a3, a4, a5, a6, a7⟩ := hAt
        obtain ⟨hd, hn, hlk⟩ := mcd_ok g1 hq
        have hle := le3.inv (le3.ex d) g3
        have l1 := hle.1
        have l2 := hle.2.1
        dsimp only at a6 a7 g4 g5
        exact s_inv (mCt_all l F d) (call_in g1 hy g2) (Or.inl (hand_none hy)) B.exec B.bytes hml hown (fun w hw => hts w (List.mem_cons_of_mem _ hw)) hN (fun q hq => Or.inr hq) hE (stF.entry hP) (by show d + 11 ≤ d + 1 + 10; omega) (by show 60 * (d + 5) ≤ 60 * (d + 1 + 4); omega) hd hn hlk g3 a3 a2 a4 (by omega) (by omega) (fun _ _ _ _ _ _ _ _ _ _ _ _ _ _ _ _ hm => (mBack_no (hand_none hy) hm).elim) g6
      · intro S H locs cells slots ls cst ad' hst hAt
        obtain ⟨⟨x, rfl⟩, ⟨clv, b1, b2⟩, a3, a4, a5, a6, a7⟩ := hAt
        obtain ⟨i, n, a, b, w, hcd, hg, ha, rfl, rfl⟩ := step_thr hst
        obtain ⟨ws', tys', hK', hP', hD', hS', hH'⟩ := a4
        obtain ⟨ix, si, icx, tx, hok, hws⟩ := thr_at hq (thr_in hcd hy hg)
        obtain ⟨ok1, ⟨d0, d3, d4, d6, d9⟩, ok3, ok4, ok5, ok6, ok7, ok8⟩ := hok
        have hts' : ∀ w ∈ gtbl, w.before cargs.toArray s = true := fun w hw => hts w (List.mem_cons_of_mem _ hw)
        dsimp only at a6 a7
        have h8 : (cst.map fun v => v.category).sum ≤ 8 := by rw [a3.cats]; exact of_decide_eq_true ha.2
        have c1 : (hNew S.2.2.2 200 6 (fun _ => Value.null)).1 - h.1 = cells + 1 := by unfold hNew; dsimp only; omega
        have c2 : (hNew S.2.2.2 200 6 (fun _ => Value.null)).2.1 - h.2.1 = slots + 6 := by unfold hNew; dsimp only; omega
        have hR1 : (headSpec (Cond.code q.1 q.2.1 q.2.2.1 q.2.2.2.1 :: gtbl) (mRm (d + 1) h (hNew S.2.2.2 200 6 (fun _ => Value.null)))).room.cells = cells + 1 := c1
        have hR2 : (headSpec (Cond.code q.1 q.2.1 q.2.2.1 q.2.2.2.1 :: gtbl) (mRm (d + 1) h (hNew S.2.2.2 200 6 (fun _ => Value.null)))).room.slots = slots + 6 := c2
        have hR3 : (headSpec (Cond.code q.1 q.2.1 q.2.2.1 q.2.2.2.1 :: gtbl) (mRm (d + 1) h (hNew S.2.2.2 200 6 (fun _ => Value.null)))).room.frames = d + 1 + 10 := rfl
        have hR4 : (headSpec (Cond.code q.1 q.2.1 q.2.2.1 q.2.2.2.1 :: gtbl) (mRm (d + 1) h (hNew S.2.2.2 200 6 (fun _ => Value.null)))).room.locals = 60 * (d + 1 + 4) := rfl
        rw [c1, c2]
        have hno : ∀ z ∈ c.exceptionTable.toList, covers z (S.1 + 9) = false := by
          intro z hz
          rw [Array.isEmpty_iff] at hnoh
          rw [hnoh] at hz
          simp at hz
        have hat : ∀ a' ∈ thrAtoms icx (excN (a - 100)), (a'.onTables = true ∧ a'.before cargs.toArray s = true) ∨ a' = .laysStatic Bundle.tN "UNASSIGNED_STACK" Bundle.steD ∨ a' = .isRef (.static Bundle.tN "UNASSIGNED_STACK" Bundle.steD) ∨ a' = .laysStatic Bundle.tN "SUPPRESSED_SENTINEL" Bundle.listD ∨ a' = .isRef (.static Bundle.tN "SUPPRESSED_SENTINEL" Bundle.listD) := by
          intro a' ha'
          rcases hws a' ha' with ⟨z1, z2 | z2⟩ | z
          · exact Or.inl ⟨z1, hts' a' z2⟩
          · exact Or.inl ⟨z1, va_Nw.use z1 (hE.1 a' z2)⟩
          · exact Or.inr z
        refine s_thr (tx := tx) hnt B.exec B.bytes (by rw [← ok1]; exact hown) B.notSynchronized (by rw [b1.1, hml]) ok7 ok8 hat (hts' _ ok3) (hts' _ ok4) (hts' _ ok5) hE (hE.2.2.2.1 (si, tx) ok6) (fun a cell g1 g2 => (stF.entry hP).now hS' g1 g2) d0 d3 d4 d6 d9 hno (by rw [hR3]; omega) (by rw [hR4]; omega) (by rw [hR1]; exact Nat.le_refl _) (by rw [hR2]; exact Nat.le_refl _) hS'.2.2 (fun t ce g1 g2 g3 g4 g5 g6 => ?_)
        refine ⟨⟨H.size, ce, rfl, g2, g3, g4, x ++ [H.size], ws', tys', by rw [← List.append_assoc]; exact hH'.dead (by decide), fun k z hk => (hP' k z hk).kept (g5 z.1 (hP' k z hk).lt), va_K.moved g6.alike hK', hD'⟩, ?_, fun z z1 z2 => ?_⟩
        · have := hS'.1
          omega
        · rw [g5 z (Nat.lt_of_lt_of_le z1 hS'.1)]
          exact hS'.2.1 z z1 z2
    · cases hex
