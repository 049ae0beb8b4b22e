/-! The law's own small methods, with their handlers. -/
def tup (h : ExceptionTableEntry) : Nat × Nat × Nat × Nat := (h.startPc, h.endPc, h.handlerPc, h.catchType)
def kindOf (cp : Nat) : Nat := ([(13, 0), (15, 1), (17, 2), (23, 3), (25, 4)].lookup cp).getD 9
def hhT (y : Nat) : List (Nat × Nat × Nat × Nat) := ([(224, [(0, 8, 11, 13), (0, 8, 14, 15), (0, 8, 17, 17)]), (225, [(0, 9, 12, 23), (0, 9, 15, 25)]), (226, [(0, 7, 10, 23)]), (227, [(0, 5, 8, 23), (0, 5, 11, 25)]), (228, [(0, 4, 7, 23)])].lookup y).getD []
theorem cw224 : Cond.codeWith mI224.1 mI224.2.1 mI224.2.2.1 mI224.2.2.2.1 (hhT 224) ∈ gtbl := in_gtbl (List.mem_of_getElem? (i := 644) (by decide +kernel)) rfl
theorem cw225 : Cond.codeWith mI225.1 mI225.2.1 mI225.2.2.1 mI225.2.2.2.1 (hhT 225) ∈ gtbl := in_gtbl (List.mem_of_getElem? (i := 1108) (by decide +kernel)) rfl
theorem cw226 : Cond.codeWith mI226.1 mI226.2.1 mI226.2.2.1 mI226.2.2.2.1 (hhT 226) ∈ gtbl := in_gtbl (List.mem_of_getElem? (i := 1149) (by decide +kernel)) rfl
theorem cw227 : Cond.codeWith mI227.1 mI227.2.1 mI227.2.2.1 mI227.2.2.2.1 (hhT 227) ∈ gtbl := in_gtbl (List.mem_of_getElem? (i := 1156) (by decide +kernel)) rfl
theorem cw228 : Cond.codeWith mI228.1 mI228.2.1 mI228.2.2.1 mI228.2.2.2.1 (hhT 228) ∈ gtbl := in_gtbl (List.mem_of_getElem? (i := 1168) (by decide +kernel)) rfl
theorem hand_hh0 : ((List.range 5).all fun j => decide (mHand (224 + j) = (hhT (224 + j)).map (fun q => (q.1, q.2.1, q.2.2.1, kindOf q.2.2.2))) && (hhT (224 + j)).all (fun q => decide (q.2.2.2 ∈ [13, 15, 17, 23, 25]))) = true := by decide +kernel
theorem hand_hh (y : Nat) (h1 : y < 229) (h2 : 224 ≤ y) : mHand y = (hhT y).map (fun q => (q.1, q.2.1, q.2.2.1, kindOf q.2.2.2)) ∧ ∀ q ∈ hhT y, q.2.2.2 ∈ [13, 15, 17, 23, 25] := by
  have h := List.all_eq_true.mp hand_hh0 (y - 224) (List.mem_range.mpr (by omega))
  rw [show 224 + (y - 224) = y by omega, Bool.and_eq_true, decide_eq_true_eq] at h
  exact ⟨h.1, fun q hq => of_decide_eq_true (List.all_eq_true.mp h.2 q hq)⟩
theorem hl13 : Cond.classLink "FunDeskLaw" 13 (excN (kindOf 13)) ∈ gtbl := in_gtbl (List.mem_of_getElem? (i := 645) (by decide +kernel)) rfl
theorem hl15 : Cond.classLink "FunDeskLaw" 15 (excN (kindOf 15)) ∈ gtbl := in_gtbl (List.mem_of_getElem? (i := 646) (by decide +kernel)) rfl
theorem hl17 : Cond.classLink "FunDeskLaw" 17 (excN (kindOf 17)) ∈ gtbl := in_gtbl (List.mem_of_getElem? (i := 647) (by decide +kernel)) rfl
theorem hl23 : Cond.classLink "FunDeskLaw" 23 (excN (kindOf 23)) ∈ gtbl := in_gtbl (List.mem_of_getElem? (i := 1109) (by decide +kernel)) rfl
theorem hl25 : Cond.classLink "FunDeskLaw" 25 (excN (kindOf 25)) ∈ gtbl := in_gtbl (List.mem_of_getElem? (i := 1110) (by decide +kernel)) rfl
theorem hl_all : ∀ cp ∈ [13, 15, 17, 23, 25], Cond.classLink "FunDeskLaw" cp (excN (kindOf cp)) ∈ gtbl := by
  intro cp h
  simp only [List.mem_cons, List.not_mem_nil, or_false] at h
  rcases h with rfl | rfl | rfl | rfl | rfl
  · exact hl13
  · exact hl15
  · exact hl17
  · exact hl23
  · exact hl25
theorem kind_no : ∀ k, k < 5 → ∀ cp ∈ [13, 15, 17, 23, 25], kindOf cp ≠ k → (k, kindOf cp) ∈ excNo := by decide +kernel
theorem cast_self : ∀ k, k < 5 → Cond.castable (excN k) (excN k) ∈ excWs := by decide +kernel
section SVJ
variable {p : Program} {l : Launch} {e : Env} {R : Room} {s : State} {m : MethodId} {args : Array Value} {below : List Frame} {meth : Method} {c : Code} {H : Heap} {locs : List Loc} {cells slots : Nat} {Q : State → Prop}
variable {pc : Nat} {ls : Array Slot} {cc : ByteArray} {D : va_G} {A : Nat → Prop} {H0 : Heap}
theorem go_list {f : JFrame} {a k : Nat} {ce : Cell} (hk5 : k < 5) (hpl : e.platform.magicAccessors = ({} : Platform).magicAccessors) (hown : s.vm.findClass "FunDeskLaw" = some f.method.cls) (hts : ∀ w ∈ gtbl, w.before args s = true) (hex : exOK s) (hvm : ce.vm = .none) (hX : s.vm.findClass (excN k) = some ce.cls) :
    ∀ (L : List ExceptionTableEntry) (T : State) (t : Nat), s.WarmedH T.vm → T.heap[a]? = some ce → (∀ x ∈ L, x.catchType ∈ [13, 15, 17, 23, 25]) → (((L.map tup).map (fun q => (q.1, q.2.1, q.2.2.1, kindOf q.2.2.2))).find? (fun q => decide (q.1 ≤ f.pc) && decide (f.pc < q.2.1) && q.2.2.2 == k)).map (fun q => q.2.2.1) = some t →
      ∃ vm' : Vm, s.WarmedH vm' ∧ ∀ (Q : Handler → Pre) (E : CtlPost) (d : Bool) (acts : List Action), wp (findHandler.go f a L) Q E e d acts T ↔ Q (.found t) d acts (T.setVm vm')
  | [], _, _, _, _, _, h => by cases h
  | x :: L, T, t, hW, hcell, hL, h => by
    have hcp := hL x List.mem_cons_self
    have hL' : ∀ x ∈ L, x.catchType ∈ [13, 15, 17, 23, 25] := fun z hz => hL z (List.mem_cons_of_mem _ hz)
    simp only [List.map_cons, List.find?_cons, tup] at h
    by_cases hc : covers x f.pc = true
    · have h0 : x.catchType ≠ 0 := by intro q; rw [q] at hcp; revert hcp; decide
      obtain ⟨vm1, cC, hw1, hfC, hiff⟩ := go_next (f := f) (a := a) (x := x) (t := L) (X := excN k) hpl hW hown hc h0 (hts _ (hl_all _ hcp)) hcell hvm hX
      have hc' : (decide (x.startPc ≤ f.pc) && decide (f.pc < x.endPc)) = true := hc
      rw [hc'] at h
      by_cases hk : kindOf x.catchType = k
      · have hb : (kindOf x.catchType == k) = true := by simpa using hk
        rw [hb] at h
        simp only [Bool.and_self, Option.map_some, Option.some.injEq] at h
        subst h
        rw [hk] at hfC
        rw [hX] at hfC
        cases hfC
        obtain ⟨c3, c4, hc3, hc4, hasg⟩ := Cond.castable_spec (show (Cond.castable (excN k) (excN k)).before #[] s = true from hex.1 _ (cast_self k hk5))
        cases hX.symm.trans hc3
        cases hX.symm.trans hc4
        exact ⟨vm1, hw1, fun Q E d acts => by rw [hiff, if_pos hasg]⟩
      · have hb : (kindOf x.catchType == k) = false := by simpa using hk
        rw [hb] at h
        simp only [Bool.and_false] at h
        obtain ⟨c1, c2, n1, n2, n3⟩ := hex.2.2.2.2 _ (kind_no k hk5 _ hcp hk)
        cases hX.symm.trans n1
        cases hfC.symm.trans n2
        obtain ⟨vm2, hw2, hiff2⟩ := go_list hk5 hpl hown hts hex hvm hX L (T.setVm vm1) t hw1 hcell hL' h
        exact ⟨vm2, hw2, fun Q E d acts => by rw [hiff, if_neg (by rw [n3]; decide), hiff2]; exact Iff.rfl⟩
    · have hc' : covers x f.pc = false := by simpa using hc
      have hc2 : (decide (x.startPc ≤ f.pc) && decide (f.pc < x.endPc)) = false := hc'
      rw [hc2] at h
      simp only [Bool.false_and] at h
      obtain ⟨vm2, hw2, hiff2⟩ := go_list hk5 hpl hown hts hex hvm hX L T t hW hcell hL' h
      exact ⟨vm2, hw2, fun Q E d acts => by rw [W.findHandler_go_skip hc', hiff2]⟩
end SVJ
