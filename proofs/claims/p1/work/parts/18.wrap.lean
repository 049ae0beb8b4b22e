section SVK
variable {p : Program} {l : Launch} {e : Env} {R : Room} {s : State} {m : MethodId} {args : Array Value} {below : List Frame} {meth : Method} {c : Code} {H : Heap} {locs : List Loc} {cells slots : Nat} {Q : State → Prop}
variable {pc : Nat} {ls : Array Slot} {cc : ByteArray} {D : va_G} {A : Nat → Prop} {H0 : Heap}
set_option maxHeartbeats 4000000 in
/-- a virtual call of the law's small methods that throws, and is caught there -/
theorem s_invT {F d : Nat} {y b w nL ix j kx : Nat} {st cst rest : List Value} {h hh : mHp} {lv : List (Nat × Value)} {S' : mSt} {ad : List Nat} {qb : mMI} (IX : mCtX l F d) (hbn : b < mNC) (hk5 : kx < 5) (hy1 : 224 ≤ y) (hy2 : y < 229) (hEx : c.exceptionTable.toList.map tup = hhT y)
    (hx : p.tables.exec = Jvm.exec) (hb : c.code = cc) (hml : c.maxLocals = nL) (hown : s.vm.findClass "FunDeskLaw" = some m.cls) (hts : ∀ w ∈ gtbl, w.before args s = true) (hnw : nwOK s)
    (hA : ∀ q, H0.size ≤ q → A q) (hex : exOK s) (hSF : stF A H0 s) (hRf : d + 11 ≤ R.frames) (hRl : 60 * (d + 5) ≤ R.locals)
    (hd : decode cc pc = .ok (.invokevirtual ix, 3)) (hqb : mTab[b]? = some qb) (hlk : lw_tbl[w]? = some (.methodLink "FunDeskLaw" ix qb.1)) (hst : qb.2.2.2.2.2.2 = 0) (hnm : qb.1.name ≠ "<init>") (hdr : st.drop (mArgN b) = .ref j :: rest) (hc1 : hTag h j = mOwn b) (hc2 : mOwn b < 12) (hc3 : mRoom8 rest = true)
    (hcall : mEx F d b (.ref j :: (st.take (mArgN b)).reverse) h = some (.inr kx, hh)) (hm : mBack y pc lv rest (.inr kx, hh) = some S') (hr : rl ad st cst) (hL : lvR ad nL ls lv) (hW : mW D A H0 s ad h H locs)
    (hcells : cells + (S'.2.2.2.1 - h.1) ≤ R.cells) (hslots : slots + (S'.2.2.2.2.1 - h.2.1) ≤ R.slots)
    (k : ∀ ad' cst' H' locs', (∃ x, ad' = ad ++ x) → rl ad' S'.2.2.1 cst' → mW D A H0 s ad' S'.2.2.2 H' locs' → lvR ad' nL ls S'.2.1 → W p l e R s m args below meth c H' locs' (cells + (S'.2.2.2.1 - h.1)) (slots + (S'.2.2.2.2.1 - h.2.1)) Q (F0 m S'.1 ls cst')) : W p l e R s m args below meth c H locs cells slots Q (F0 m pc ls cst) := by
  have hsz : ls.size = nL := by obtain ⟨clv, h1, -⟩ := hL; exact h1.1
  obtain ⟨io, ic⟩ := mIO_at hqb hbn
  have hbi : mOwn b = qb.2.2.2.2.1 ∧ mArgN b = qb.2.2.2.2.2.1 := by unfold mOwn mArgN; rw [mInf_at hqb]; exact ⟨rfl, rfl⟩
  have hmx : qb.2.2.1 ≤ 30 := by
    have := List.all_eq_true.mp (show (mTab.all (fun q => decide (q.2.2.1 ≤ 30))) = true by decide +kernel) qb (List.mem_of_getElem? hqb)
    exact of_decide_eq_true this
  have hdc := hr.drop (mArgN b)
  rw [hdr] at hdc
  obtain ⟨_, crest, hcd, ⟨a', hja, rfl⟩, hrest⟩ := hdc
  have hlen : mArgN b ≤ cst.length := by
    have : (cst.drop (mArgN b)).length = cst.length - mArgN b := List.length_drop
    rw [hcd] at this
    simp only [List.length_cons] at this
    omega
  have htk := (hr.take (mArgN b)).rev
  obtain ⟨qc, hqc⟩ : ∃ qc, cls[mOwn b]? = some qc := ⟨_, List.getElem?_eq_getElem (by exact hc2)⟩
  have hcn : qc.1 = qb.1.cls := cls_own hqc (by rw [hbi.1]; exact io.1)
  obtain ⟨t0, ht0, hS'⟩ := Option.map_eq_some_iff.mp (show (mCatch y pc kx).map (fun t => ((t, lv, [.retAddr 0], hh) : mSt)) = some S' from hm)
  subst hS'
  obtain ⟨ws, tys, hK, hP, hD, hS, hH⟩ := hW
  have hM := IX b qb hqb hbn _ h kx hh hcall D ad ws tys (.ref a' :: (cst.take (mArgN b)).reverse) H.size ⟨_, _, rfl, ⟨a', hja, rfl⟩, htk⟩ hH
  obtain ⟨kw, E, hk, hE⟩ := hH.2.1 j a' hja (by omega)
  have e1 : (h.2.2 j).1 = mOwn b := hc1
  obtain ⟨fs, qc', rfl, hq', -, -, -⟩ := hE.obj (by omega)
  rw [e1] at hq' hk
  rw [hqc] at hq'
  cases hq'
  have hrv := va_recv hK hP hqc hk
  rw [hcn] at hrv
  obtain ⟨cellB, hcB, hoB, hclB⟩ := hrv
  have hf : ∀ q, va_A ws H.size q → A q := by
    intro q hq
    rcases hq with ⟨k', e', h'⟩ | h'
    · exact hD.2 k' (q, e') h'
    · exact hA q (Nat.le_trans hS.1 h')
  have hRR : (mRm d h hh).frames + 1 ≤ R.frames ∧ 8 + (qb.2.2.1 + 11) + (mRm d h hh).locals ≤ R.locals := by
    have e1 : (mRm d h hh).frames = d + 10 := rfl
    have e2 : (mRm d h hh).locals = 60 * (d + 4) := rfl
    rw [e1, e2]
    omega
  have hcb : CallB R s args "FunDeskLaw" ix qb.1 qb.2.1 qb.2.2.1 qb.2.2.2.1 (Cond.code qb.1 qb.2.1 qb.2.2.1 qb.2.2.2.1 :: gtbl) (mRm d h hh) (hh.1 - h.1) (hh.2.1 - h.2.1) (mArgN b) := callB_of (Ts := gtbl) (mArgN b) hts (good_code ic) rfl rfl rfl (hts _ (in_gtbl io.2.2.2.1 rfl)) (hts _ (in_gtbl_at hlk rfl)) ⟨io.2.1.1, io.2.1.2.1, by rw [hbi.2]; exact io.2.1.2.2⟩ hRR
  obtain ⟨-, -, hfr, hlo, hws, hcw, hcode, hini, hyy, hlenP, hlink⟩ := hcb
  have hinst := hts _ (in_gtbl (io.2.2.2.2.2 hst).1 rfl)
  have hsel := hts _ (in_gtbl ((io.2.2.2.2.2 hst).2 hnm) rfl)
  intro T hT X
  obtain ⟨mk, methM, hnamed, hmethM, hstM, habM⟩ := Cond.instanceMethod_spec hinst
  obtain ⟨methM', cM, hmethM', -, -, -, -, -, -, hsigM⟩ := Cond.code_spec hnamed hcode
  cases hmethM.symm.trans hmethM'
  obtain ⟨c2, r2, m2, q1, q2, q3, q4, kP, hkP, hkPi⟩ := Cond.selects_spec hsel
  cases hclB.symm.trans q1
  cases (State.methodFound?_of_named hnamed hyy).symm.trans q2
  cases hnamed.symm.trans q3
  have hselP : selectMethod e.platform s.vm cellB.cls mk = .method mk := by rw [Launch.admits_selectMethod X.admits]; exact q4
  have hAl : (cst.take (mArgN b)).reverse.length = mArgN b := by rw [List.length_reverse, List.length_take]; omega
  obtain ⟨vm₁, X₁, hstep₁⟩ := X.invokevirtual hx hown hlink hnamed hmethM hstM hkP hkPi hyy (a := a') (cell := cellB) (by rw [hT]; exact hcB)
    (fun z hz => by rw [hz] at hoB; cases hoB) hselP hmethM habM hkP hkPi (g := F0 m pc ls cst) rfl (argsL := (cst.take (mArgN b)).reverse) (rest := crest) (hAl.trans (hlenP _ hsigM)) (by show cst = _; rw [List.reverse_reverse, ← hcd, List.take_append_drop]) (by rw [hb]; exact hd)
  have h8 : (crest.map fun v => v.category).sum ≤ 8 := by rw [hrest.cats]; exact of_decide_eq_true hc3
  obtain ⟨x, t, T', L, hqx, X', hLf, e2, e3, hsteps⟩ := backT (Wd := 8) (len := 3) hM mPc_blind rfl rfl hfr hlo hws hcw (fun a' U hW => word_at hW (Or.inl (by first | rfl | simp [Cond.onTables, Cond.keeps, Cond.steady])) hini) X₁ (g := F0 m pc ls crest) rfl (hsz.trans hml.symm) (by rw [hb]; exact hd) (lv_room h8) (X₁.named hnamed) hcells hslots (a := (Value.ref a' :: (cst.take (mArgN b)).reverse).toArray)
    ⟨rfl, by show T.heap.size = _; rw [hT], by show va_P D cls ws T.heap; rw [hT]; exact hP, va_K.moved X₁.warmed.alike hK, hnw.warm X₁.warmed, hex.move X₁.warmed (fun a cell g1 g2 => by show T.heap[a]? = _; rw [hT]; exact hSF.now hS g1 g2), hD.weaken (fun _ _ _ _ => trivial)⟩
  obtain ⟨⟨x', ce, hxx, hce, hcX, hcv, y', ws', tys', g1, g2, g3, g4⟩, hz, hkp⟩ := hqx
  cases hxx
  have hh0 : ((T.setVm vm₁).calling (F0 m pc ls crest) mk (Value.ref a' :: (cst.take (mArgN b)).reverse).toArray).heap = H := hT
  rw [hh0] at hz hkp
  have hcX' : s.vm.findClass (excN kx) = some ce.cls := by rw [← X₁.warmed.alike.findClass]; exact hcX
  have hpl : e.platform.magicAccessors = ({} : Platform).magicAccessors := by rw [X.admits.platform]
  have hhand := hand_hh y hy2 hy1
  have hL9 : ∀ z ∈ c.exceptionTable.toList, z.catchType ∈ [13, 15, 17, 23, 25] := by
    intro z hz9
    have : tup z ∈ hhT y := by rw [← hEx]; exact List.mem_map.mpr ⟨z, hz9, rfl⟩
    exact hhand.2 _ this
  obtain ⟨vm2, hw2, hiff⟩ := go_list (f := F0 m pc ls crest) (a := x) (k := kx) (e := e) hk5 hpl hown hts hex hcv hcX' c.exceptionTable.toList (((T'.setTop (F0 m pc ls crest)).pushFrame (.throwing x))) t0 (by rw [Stand.throwing_vm]; exact X'.warmed) (by rw [Stand.throwing_heap, e2]; exact hce) hL9 (by
    rw [hEx, ← hhand.1]
    exact ht0)
  have hfind : FindsW e ((T'.setTop (F0 m pc ls crest)).pushFrame (.throwing x)) (F0 m pc ls crest) x (.found t0) vm2 := by
    intro Q E d acts
    rw [W.findHandler_eq (s := (T'.setTop (F0 m pc ls crest)).pushFrame (.throwing x)) (f := F0 m pc ls crest) (meth := meth) (code := c) (by rw [Stand.throwing_vm]; exact X'.method') X'.code]
    exact hiff Q E d acts
  have X2 := X'.noted hw2
  have hK' : va_K D cls tys' s := va_K.moved (show t.vm.Alike s.vm by rw [← e3]; exact X'.warmed.alike.symm) g3
  have kk := k (ad ++ y') [.ref x] T'.heap (locs ++ L) ⟨y', rfl⟩ ⟨_, _, rfl, ⟨x, rfl⟩, rfl⟩ ⟨ws', tys', hK', by rw [e2]; exact g2, g4.weaken (fun _ q _ hq => hf q.1 hq), ⟨Nat.le_trans hS.1 (by rw [e2]; exact hz), fun q h1 h2 => by rw [e2, hkp q (Nat.lt_of_lt_of_le h1 hS.1) (fun z => h2 (hf q z))]; exact hS.2.1 q h1 h2, fun q hq => by
      rcases List.mem_append.mp hq with hq | hq
      · exact hS.2.2 q hq
      · exact hf _ (hLf q hq)⟩, g1⟩ hL.app
  obtain ⟨tt, a1, b1⟩ := kk (T'.setVm vm2) rfl X2
  exact ⟨tt, hstep₁ _ (fun acts => by rw [doInvoke_state]; exact hsteps.trans (catchAtW X' x rfl hfind a1)), b1⟩
end SVK
