/-! The law: its calls, its run. -/
section SVL
variable {p : Program} {l : Launch} {e : Env} {R : Room} {s : State} {m : MethodId} {args : Array Value} {below : List Frame} {meth : Method} {c : Code} {H : Heap} {locs : List Loc} {cells slots : Nat} {Q : State → Prop}
variable {pc : Nat} {ls : Array Slot} {cc : ByteArray} {D : va_G} {A : Nat → Prop} {H0 : Heap}
/-- a call of a static method that has an exception table -/
theorem va_runSW {y : MethodName} {bytes : ByteArray} {maxL nL mc ms n index : Nat} {ret : Option FieldType} {hh : List (Nat × Nat × Nat × Nat)} {ws : List Cond} {rm : Room} {Pc : Array Value → State → Prop} {Qc : Array Value → State → Outcome → State → Prop} {free : Addr → Prop} {own : String} {As rest : List Value} {g : JFrame}
    (hx : p.tables.exec = Jvm.exec) (hb : c.code = cc) (hml : c.maxLocals = nL) (hown : s.vm.findClass own = some m.cls) (hM : Met l y ws rm Pc Qc mc ms free) (hrc : rm.cells = mc) (hrs : rm.slots = ms) (hfr : rm.frames + 1 ≤ R.frames) (hlo : 8 + (maxL + 11) + rm.locals ≤ R.locals)
    (hws : ∀ w ∈ ws, ∀ (a' : Array Value) (U : State), s.WarmedH U.vm → w.before a' U = true) (hcw : Cond.codeWith y bytes maxL ret hh ∈ ws) (hcode : (Cond.codeWith y bytes maxL ret hh).before args s = true) (hini : (Cond.initialized y.cls).before args s = true) (hyy : y.cls ≠ "java/lang/invoke/MethodHandle" ∧ y.cls ≠ "java/lang/invoke/VarHandle") (hlenP : ∀ sig, parseMethodDescriptor y.desc = some sig → n = sig.parameters.length) (hlink : (Cond.methodLink own index y).before args s = true) (hstt : (Cond.static y).before args s = true)
    (hp : PreS s H Pc As) (hg : g.method = m) (hn : As.length = n) (hsize : g.locals.size = nL) (hstack : g.stack = As.reverse ++ rest) (hW : 2 * g.monitorRoom + (rest.map fun v => v.category).sum ≤ 8) (hdg : decode cc g.pc = .ok (.invokestatic index, 3)) (hf : cells + mc ≤ R.cells ∧ slots + ms ≤ R.slots) :
    va_Run p l e R s m args below meth c H locs cells slots mc ms g rest (Qc As.toArray) (free) := by
  have hK : Back l R p e below s args y 3 8 (PreOf R mc ms Pc) (PostOf Qc mc ms free) := va_backW (hh := hh) hM hp.1 hrc hrs hfr hlo hws hcw (fun a' U hW => word_at hW (Or.inl (by first | rfl | simp [Cond.onTables, Cond.keeps, Cond.steady])) hini)
  intro T hT X
  obtain ⟨mk, methM, cM, hnamed, hmethM, -, -, -, -, -, -, hsigM⟩ := Cond.codeWith_spec hcode
  have hstatic : methM.isStatic = true := Cond.static_spec hnamed hmethM hstt
  obtain ⟨kP, hkP, -⟩ := className_of_methodNamed hnamed
  have hinitP : kP.init = .initialized := Cond.initialized_spec (findClass_of_methodNamed hnamed) hkP hini
  obtain ⟨vm₁, X₁, hstep₁⟩ := X.invokestatic hx hown hlink hnamed hmethM hstatic hkP hinitP hyy (g := g) hg (argsL := As) (rest := rest) (hn.trans (hlenP _ hsigM)) hstack (by rw [hb]; exact hdg)
  obtain ⟨v, B, X', hpost, hsteps⟩ := hK m meth c ⟨T.setVm vm₁, locs, cells, slots⟩ { g with stack := rest } (.invokestatic index) mk As.toArray X₁ hg (hsize.trans hml.symm) (by rw [hb]; exact hdg) hW (X₁.named hnamed) ⟨hf.1, hf.2, hp.2 (T.setVm vm₁) hT X₁.warmed⟩
  obtain ⟨g', mk', t, L, e1, e2, hq, h1, hL, h2, h3⟩ := hpost
  obtain ⟨U', l2, c2, s2⟩ := B
  dsimp only [Pt.U, Pt.locs, Pt.cells, Pt.slots] at X' e1 e2 h1 h2 h3 hsteps
  subst h1; subst h2; subst h3
  exact ⟨v, (T.setVm vm₁).calling g' mk' As.toArray, t, U', L, hT, X', hL, e1, e2, hq, fun target h => hstep₁ _ fun acts => by rw [doInvoke_state]; exact hsteps.trans h⟩
set_option maxHeartbeats 4000000 in
theorem s_invW {F d : Nat} {b w nL ix : Nat} {st cst : List Value} {h hh : mHp} {lv : List (Nat × Value)} {r : Option Value} {ad : List Nat} {qb : mMI} (IW : mCtW l F d) (hb1 : 224 ≤ b) (hb2 : b < 229)
    (hx : p.tables.exec = Jvm.exec) (hb : c.code = cc) (hml : c.maxLocals = nL) (hown : s.vm.findClass "FunDeskLaw" = some m.cls) (hts : ∀ w ∈ gtbl, w.before args s = true) (hnw : nwOK s)
    (hA : ∀ q, H0.size ≤ q → A q) (hex : exOK s) (hSF : stF A H0 s) (hRf : d + 11 ≤ R.frames) (hRl : 60 * (d + 5) ≤ R.locals)
    (hd : decode cc pc = .ok (.invokestatic ix, 3)) (hqb : mTab[b]? = some qb) (hlk : lw_tbl[w]? = some (.methodLink "FunDeskLaw" ix qb.1)) (hc1 : mArgN b ≤ st.length) (hc3 : mRoom8 (st.drop (mArgN b)) = true)
    (hcall : mEx F d b (st.take (mArgN b)).reverse h = some (.inl r, hh)) (hr : rl ad st cst) (hL : lvR ad nL ls lv) (hW : mW D A H0 s ad h H locs)
    (hcells : cells + (hh.1 - h.1) ≤ R.cells) (hslots : slots + (hh.2.1 - h.2.1) ≤ R.slots)
    (k : ∀ ad' cst' H' locs', (∃ x, ad' = ad ++ x) → rl ad' (r.toList ++ st.drop (mArgN b)) cst' → mW D A H0 s ad' hh H' locs' → lvR ad' nL ls lv → W p l e R s m args below meth c H' locs' (cells + (hh.1 - h.1)) (slots + (hh.2.1 - h.2.1)) Q (F0 m (pc + 3) ls cst')) : W p l e R s m args below meth c H locs cells slots Q (F0 m pc ls cst) := by
  have hsz : ls.size = nL := by obtain ⟨clv, h1, -⟩ := hL; exact h1.1
  have io := mTab_ok qb (List.mem_of_getElem? (i := b) (by rw [List.getElem?_take_of_lt (by omega)]; exact hqb))
  obtain ⟨wc, wo, wst⟩ := wrap_code b qb hqb hb1 hb2
  have hbi : mArgN b = qb.2.2.2.2.2.1 := by unfold mArgN; rw [mInf_at hqb]
  have hmx : qb.2.2.1 ≤ 30 := by
    have := List.all_eq_true.mp (show (mTab.all (fun q => decide (q.2.2.1 ≤ 30))) = true by decide +kernel) qb (List.mem_of_getElem? hqb)
    exact of_decide_eq_true this
  have hrest := hr.drop (mArgN b)
  have htk := (hr.take (mArgN b)).rev
  have hlen : mArgN b ≤ cst.length := by rw [hr.len]; exact hc1
  have h8 : ((cst.drop (mArgN b)).map fun v => v.category).sum ≤ 8 := by rw [hrest.cats]; exact of_decide_eq_true hc3
  obtain ⟨ws, tys, hK, hP, hD, hS, hH⟩ := hW
  have hM := IW b qb hqb hb1 hb2 _ h r hh hcall D ad ws tys (cst.take (mArgN b)).reverse H.size htk hH
  have hf : ∀ q, va_A ws H.size q → A q := by
    intro q hq
    rcases hq with ⟨k', e', h'⟩ | h'
    · exact hD.2 k' (q, e') h'
    · exact hA q (Nat.le_trans hS.1 h')
  have hgood : GoodIn gtbl (Cond.codeWith qb.1 qb.2.1 qb.2.2.1 qb.2.2.2.1 (hhT b) :: gtbl) := by
    intro w hw
    rcases List.mem_cons.mp hw with rfl | hw
    · exact ⟨wc, good_of_word rfl⟩
    · exact ⟨hw, good_of_word (List.mem_filter.mp hw).2⟩
  have hfr : (mRm d h hh).frames + 1 ≤ R.frames ∧ 8 + (qb.2.2.1 + 11) + (mRm d h hh).locals ≤ R.locals := by
    have e1 : (mRm d h hh).frames = d + 10 := rfl
    have e2 : (mRm d h hh).locals = 60 * (d + 4) := rfl
    rw [e1, e2]
    omega
  have hrun := va_runSW (cells := cells) (slots := slots) (locs := locs) (e := e) (below := below) (meth := meth) (As := (cst.take (mArgN b)).reverse) (rest := cst.drop (mArgN b)) (g := F0 m pc ls cst) (n := mArgN b) (H := H) (hh := hhT b) hx hb hml hown hM rfl rfl hfr.1 hfr.2 (pay_in hts hgood) List.mem_cons_self (hts _ wc) (hts _ (in_gtbl io.2.2.2.1 rfl)) ⟨io.2.1.1, io.2.1.2.1⟩ (fun sig hsig => by have h2 := io.2.1.2.2; rw [hsig] at h2; rw [hbi]; exact (Option.some.inj h2).symm) (hts _ (in_gtbl_at hlk rfl)) (hts _ (in_gtbl (io.2.2.2.2.1 wst) rfl))
    ⟨mPc_blind, fun U hU hW => ⟨rfl, by rw [hU], by rw [hU]; exact hP, va_K.moved hW.alike hK, hnw.warm hW, hex.move hW (fun a cell g1 g2 => by rw [hU]; exact hSF.now hS g1 g2), hD.weaken (fun _ _ _ _ => trivial)⟩⟩ rfl (by rw [List.length_reverse, List.length_take]; omega) hsz (by show cst = _; rw [List.reverse_reverse, List.take_append_drop]) (lv_room h8) hd ⟨hcells, hslots⟩
  refine s_back hrun hS hf (fun v x ws' tys' H1 locs1 g1 g2 g3 g4 g5 g6 => ?_)
  exact k (ad ++ x) _ H1 locs1 ⟨x, rfl⟩ (rl_ro g1 hrest) ⟨ws', tys', g4, g3, g5.weaken (fun _ q _ h => hf q.1 h), g6, g2⟩ hL.app
end SVL
def lawChk (o : Option mEnt) : Bool := match o with
  | none => true
  | some (i, _, a, b, _) => !(mGrp a i == 4) || a == 4 || a == 5 || decide (b < mNC) || (match i with | .invokestatic _ => a == 1 && decide (224 ≤ b) && decide (b < 229) | _ => false)
theorem law_chk : ((cdT.drop 229).all (fun L => L.all lawChk)) = true := by decide +kernel
theorem law_in {pc : Nat} {i : Instr} {n a b w : Nat} (h : mcd 229 pc = some (i, n, a, b, w)) (hg : mGrp a i = 4) : (a = 4 ∨ a = 5 ∨ b < mNC) ∨ ((∃ ix, i = .invokestatic ix) ∧ a = 1 ∧ 224 ≤ b ∧ b < 229) := by
  obtain ⟨L, q', hL, -, hx, -⟩ := mcd_row h
  have h1 := List.all_eq_true.mp law_chk L (List.mem_of_getElem? (i := 0) (by rw [List.getElem?_drop]; exact hL))
  have h2 := List.all_eq_true.mp h1 _ (List.mem_of_getElem? hx)
  simp only [lawChk, hg, Bool.or_eq_true, Bool.not_eq_true', beq_iff_eq, decide_eq_true_eq] at h2
  rcases h2 with (((h2 | h2) | h2) | h2) | h2
  · simp at h2
  · exact Or.inl (Or.inl h2)
  · exact Or.inl (Or.inr (Or.inl h2))
  · exact Or.inl (Or.inr (Or.inr h2))
  · split at h2
    · next ix => simp only [Bool.and_eq_true, beq_iff_eq, decide_eq_true_eq] at h2; exact Or.inr ⟨⟨_, rfl⟩, h2.1.1, h2.1.2, h2.2⟩
    · cases h2
theorem law_hand : mHand 229 = [] := by decide +kernel
