/-! A method's end at 'throw new E("..")'. -/
/-- what a thrown end is: as MQ, for a throw -/
def MX (below : List Frame) (Qc : Array Value → State → Outcome → State → Prop) (a : Array Value) (s : State) (mc ms : Nat) (free : Addr → Prop) : State → Prop := fun t =>
  ∃ x, t.status = .running ∧ Ended t below (.threw x) ∧ Qc a s (.threw x) t ∧ ∃ L, s.WarmedH t.vm ∧ s.sameButNew ({ t with vm := s.vm } : State) L mc ms ∧ ∀ q ∈ L, free q.base
/-- the words that a throw of the class asks: its constructors, its fields, the statics -/
def thrAtoms (ic : Nat) (cls : String) : List Cond := if cls = nseN then nseWs else Bundle.ownAtoms "FunDesk" ic cls excR
section SVH
variable {p : Program} {l : Launch} {e : Env} {R : Room} {s : State} {m : MethodId} {args : Array Value} {below : List Frame} {meth : Method} {c : Code} {H : Heap} {locs : List Loc} {cells slots : Nat}
variable {pc : Nat} {ls : Array Slot} {cc : ByteArray}
/-- what stands behind the throw, seen from where it began -/
def thrEnd (below : List Frame) (cls : String) (s : State) : State → Prop := fun t => t.status = .running ∧ Ended t below (.threw s.heap.size) ∧ s.WarmedH t.vm ∧ s.sameButNew ({ t with vm := s.vm } : State) [] 1 6 ∧ ∃ ce, t.heap[s.heap.size]? = some ce ∧ s.vm.findClass cls = some ce.cls ∧ ce.vm = .none
theorem s_thr0 {cls tx : String} {ix si ic qs : Nat} {cst : List Value} (htr : e.platform.stackTraces = false) (hx : p.tables.exec = Jvm.exec) (hb : c.code = cc) (hown : s.vm.findClass "FunDesk" = some m.cls) (hlocks : meth.locks = false) (hml : ls.size = c.maxLocals)
    (hfit : Bundle.fit cls = true) (hic : cls = nseN → ic = 94) (hatoms : ∀ a ∈ thrAtoms ic cls, a.before args s = true)
    (hcl : (Cond.classLink "FunDesk" ix cls).before args s = true) (hini : (Cond.initialized cls).before args s = true) (hins : (Cond.instantiable cls 6).before args s = true) (hqs : vk_R "FunDesk" si tx qs s)
    (d0 : decode cc pc = .ok (.new ix, 3)) (d3 : decode cc (pc + 3) = .ok (.dup, 1)) (d4 : decode cc (pc + 4) = .ok (.ldc si, 2)) (d6 : decode cc (pc + 6) = .ok (.invokespecial ic, 3)) (d9 : decode cc (pc + 9) = .ok (.athrow, 1)) (hout : ∀ x ∈ c.exceptionTable.toList, covers x (pc + 9) = false)
    (hRf : 6 ≤ R.frames) (hRl : (cst.map fun v => v.category).sum + 100 ≤ R.locals) (hc1 : 1 ≤ R.cells) (hc2 : 6 ≤ R.slots) :
    W p l e R s m args below meth c s.heap [] 0 0 (thrEnd below cls s) (F0 m pc ls cst) := by
  refine W.newc (n := 6) hx hb hown hcl hins hini rfl d0 (by omega) (by omega) (fun cC kC f1 f2 f3 f4 => ?_)
  refine lv_dup hx hb d3 rfl ?_
  refine va_ldcS hx hb hown hqs d4 ?_
  intro T3 hT3 X3
  have hroom : 2 * (F0 m (pc + 6) ls (.ref qs :: .ref s.heap.size :: .ref s.heap.size :: cst)).monitorRoom + ((Value.ref s.heap.size :: cst).map fun v => v.category).sum + (13 * (excR.length + 1) + 42) ≤ R.locals := by
    have h0 := lv_room (m := m) (pc := pc + 6) (ls := ls) (rest := .ref qs :: .ref s.heap.size :: .ref s.heap.size :: cst) (st := []) (Nat.zero_le _)
    have e1 : (F0 m (pc + 6) ls (.ref qs :: .ref s.heap.size :: .ref s.heap.size :: cst)).monitorRoom = 0 := rfl
    have e2 : ((Value.ref s.heap.size :: cst).map fun v => v.category).sum = 1 + (cst.map fun v => v.category).sum := by rw [List.map_cons, List.sum_cons]; rfl
    have e3 : excR.length = 2 := rfl
    rw [e1, e2, e3]
    omega
  by_cases hn : cls = nseN
  · have hic := hic hn
    subst hic
    rw [hn] at f1
    have hat : ∀ a ∈ nseWs, a.before args s = true := fun a ha => hatoms a (by unfold thrAtoms; rw [if_pos hn]; exact ha)
    obtain ⟨U, st, hrun, hend, hWU, hsame, ce, hce, hoc1, hoc2⟩ := nse_thrown X3 hx htr hown hat rfl (a := s.heap.size) f1 f2 (by rw [hT3, Array.getElem?_push_size]) (Nat.le_refl _) (msg := .ref qs) rfl (g := F0 m (pc + 6) ls (.ref qs :: .ref s.heap.size :: .ref s.heap.size :: cst)) rfl hml rfl rfl (rest := cst) rfl (by rw [hb]; exact d6) (by rw [hb]; exact d9) hout (by omega) hroom hlocks
    exact ⟨U, st, hrun, hend, hWU, hsame, ce, hce, by rw [hn]; exact hoc1, hoc2⟩
  · have hat : ∀ a ∈ Bundle.ownAtoms "FunDesk" ic cls excR, a.before args s = true := fun a ha => hatoms a (by unfold thrAtoms; rw [if_neg hn]; exact ha)
    obtain ⟨U, st, hrun, hend, hWU, hsame, ce, hce, hoc⟩ := X3.ctorThrowS hx htr (own := "FunDesk") (cls := cls) (names := excR) (ic := ic) hown hfit (by decide +kernel) hat (fun x hx => by cases hx) (a := s.heap.size) f1 f2 (by rw [hT3, Array.getElem?_push_size]) (Nat.le_refl _) (msg := .ref qs) rfl (g := F0 m (pc + 6) ls (.ref qs :: .ref s.heap.size :: .ref s.heap.size :: cst)) rfl hml rfl rfl (rest := cst) rfl (by rw [hb]; exact d6) (by rw [hb]; exact d9) hout (by show 2 + 3 < R.frames; omega) hroom hlocks
    exact ⟨U, st, hrun, hend, hWU, hsame, ce, hce, hoc.cls, hoc.vm⟩
theorem same_rebase {T t : State} (e0 : s.sameButNew (T.setVm s.vm) locs cells slots) (h : ({ s with heap := T.heap, slotsUsed := T.slotsUsed } : State).sameButNew ({ t with vm := s.vm } : State) [] 1 6) : s.sameButNew ({ t with vm := s.vm } : State) locs (cells + 1) (slots + 6) := by
  have h1 : (T.setVm s.vm).sameButNew ({ t with vm := s.vm } : State) [] 1 6 := by
    obtain ⟨a1, a2, a3, a4, a5, a6⟩ := h
    refine ⟨?_, a2, a3, a4, a5, a6⟩
    have e1 : T.setVm s.vm = { s.setFrames (T.setVm s.vm).frames with heap := T.heap, slotsUsed := T.slotsUsed } := e0.1
    have e2 : (T.setVm s.vm).setFrames ({ t with vm := s.vm } : State).frames = ({ s with heap := T.heap, slotsUsed := T.slotsUsed } : State).setFrames ({ t with vm := s.vm } : State).frames := by
      rw [e1]
      exact congrArg (fun z : State => ({ z with heap := T.heap, slotsUsed := T.slotsUsed } : State)) (State.setFrames_setFrames s _ _)
    rw [e2]
    exact a1
  have := e0.trans h1
  rw [List.append_nil] at this
  exact this
theorem s_thr {cls tx : String} {ix si ic : Nat} {cst : List Value} {Qc : Array Value → State → Outcome → State → Prop} {free : Addr → Prop} (hnt : l.stackTraces = false) (hx : p.tables.exec = Jvm.exec) (hb : c.code = cc) (hown : s.vm.findClass "FunDesk" = some m.cls) (hlocks : meth.locks = false) (hml : ls.size = c.maxLocals)
    (hfit : Bundle.fit cls = true) (hic : cls = nseN → ic = 94) (hat : ∀ a ∈ thrAtoms ic cls, (a.onTables = true ∧ a.before args s = true) ∨ a = .laysStatic Bundle.tN "UNASSIGNED_STACK" Bundle.steD ∨ a = .isRef (.static Bundle.tN "UNASSIGNED_STACK" Bundle.steD) ∨ a = .laysStatic Bundle.tN "SUPPRESSED_SENTINEL" Bundle.listD ∨ a = .isRef (.static Bundle.tN "SUPPRESSED_SENTINEL" Bundle.listD))
    (hcl : (Cond.classLink "FunDesk" ix cls).before args s = true) (hini : (Cond.initialized cls).before args s = true) (hins : (Cond.instantiable cls 6).before args s = true)
    (hex : exOK s) (hst : ∃ q, vk_R "FunDesk" si tx q s) (hkeep : ∀ (a : Nat) (cell : Cell), s.heap[a]? = some cell → cell.vm.isStatics = true → H[a]? = some cell)
    (d0 : decode cc pc = .ok (.new ix, 3)) (d3 : decode cc (pc + 3) = .ok (.dup, 1)) (d4 : decode cc (pc + 4) = .ok (.ldc si, 2)) (d6 : decode cc (pc + 6) = .ok (.invokespecial ic, 3)) (d9 : decode cc (pc + 9) = .ok (.athrow, 1)) (hout : ∀ x ∈ c.exceptionTable.toList, covers x (pc + 9) = false)
    (hRf : 6 ≤ R.frames) (hRl : (cst.map fun v => v.category).sum + 100 ≤ R.locals) (hc1 : cells + 1 ≤ R.cells) (hc2 : slots + 6 ≤ R.slots) (hf : ∀ q ∈ locs, free q.base)
    (hQ : ∀ (t : State) (ce : Cell), t.heap.size = H.size + 1 → t.heap[H.size]? = some ce → s.vm.findClass cls = some ce.cls → ce.vm = .none → (∀ q, q < H.size → t.heap[q]? = H[q]?) → s.WarmedH t.vm → Qc args s (.threw H.size) t) :
    W p l e R s m args below meth c H locs cells slots (MX below Qc args s (cells + 1) (slots + 6) free) (F0 m pc ls cst) := by
  intro T hT X
  have X2 := stand_rebase X (by omega) (by omega)
  have htr : e.platform.stackTraces = false := by rw [X.admits.platform]; exact hnt
  have hsb := X.same
  obtain ⟨s2, hs2⟩ : ∃ s2 : State, s2 = { s with heap := T.heap, slotsUsed := T.slotsUsed } := ⟨_, rfl⟩
  have hv : s2.vm = s.vm := by rw [hs2]
  have hh : s2.heap = H := by rw [hs2]; exact hT
  rw [← hs2] at X2
  have tab : ∀ {w : Cond}, w.onTables = true → w.before args s = true → w.before args s2 = true := fun hw hb => va_tabs hw hv.symm hb
  have hk2 : ∀ (a : Nat) (cell : Cell), s.heap[a]? = some cell → cell.vm.isStatics = true → s2.heap[a]? = some cell := fun a cell h1 h2 => by rw [hh]; exact hkeep a cell h1 h2
  have hatoms : ∀ a ∈ thrAtoms ic cls, a.before args s2 = true := by
    intro a ha
    rcases hat a ha with ⟨h1, h2⟩ | rfl | rfl | rfl | rfl
    · exact tab h1 h2
    · exact lS_move hv hk2 hex.2.1.1
    · exact iR_move hv hk2 hex.2.1.1 hex.2.1.2
    · exact lS_move hv hk2 hex.2.2.1.1
    · exact iR_move hv hk2 hex.2.2.1.1 hex.2.2.1.2
  obtain ⟨qs, hqs⟩ := hst
  have K := s_thr0 (l := l) (R := { R with cells := R.cells - cells, slots := R.slots - slots }) (s := s2) (below := below) (ls := ls) (cst := cst) htr hx hb (by rw [hv]; exact hown) hlocks hml hfit hic hatoms (tab rfl hcl) (tab rfl hini) (tab rfl hins) (hqs.same hv) d0 d3 d4 d6 d9 hout hRf hRl (by show 1 ≤ R.cells - cells; omega) (by show 6 ≤ R.slots - slots; omega)
  obtain ⟨t, st, q1, q2, q3, q4, ce, q5, q6, q7⟩ := K T (by rw [hh, hT]) X2
  rw [hh] at q2 q5
  rw [hv] at q4 q6
  have hW : s.WarmedH t.vm := by rw [hs2] at q3; exact q3
  have hlt : H.size < t.heap.size := (Array.getElem?_eq_some_iff.mp q5).1
  have hle : t.heap.size ≤ s2.heap.size + 1 := q4.2.2.1
  rw [hh] at hle
  refine ⟨t, st, H.size, q1, q2, hQ t ce (by omega) q5 q6 q7 (fun q hq => ?_) hW, locs, hW, ?_, hf⟩
  · have := same_old q4 (q := q) (by rw [hh]; exact hq)
    rw [hh] at this
    exact this
  · rw [hs2] at q4
    exact same_rebase hsb q4
end SVH
