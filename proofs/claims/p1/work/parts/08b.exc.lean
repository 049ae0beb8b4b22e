/-! What the making of an exception asks of the start, and the end of a method that throws one. -/
def excN (k : Nat) : String := ["java/lang/IllegalArgumentException", "java/util/NoSuchElementException", "java/lang/UnsupportedOperationException", "java/lang/IllegalStateException", "java/lang/IndexOutOfBoundsException"].getD k ""
def excR : List String := ["java/lang/RuntimeException", "java/lang/Exception"]
def excW (w : Cond) : Prop := (∃ a b, w = .castable a b) ∨ ∃ x, w = .declares x
def excWs : List Cond := [.castable (excN 0) (excN 0), .castable (excN 1) (excN 1), .castable (excN 2) (excN 2), .castable (excN 3) (excN 3), .castable (excN 4) (excN 4), .declares (Bundle.initS "java/lang/RuntimeException"), .declares (Bundle.initS "java/lang/Exception"), .declares (Bundle.initS "java/lang/Throwable")]
def strTab : List (Nat × String) := [(82, "the line is no expression"), (92, "a name is not bound"), (100, "the expression is ill typed"), (153, "nothing is worked out"), (166, "there is nothing else to ask of a value"), (177, "there is no such item")]
def excNo : List (Nat × Nat) := [(0, 1), (0, 2), (0, 3), (0, 4), (1, 0), (1, 2), (1, 3), (1, 4), (2, 0), (2, 1), (2, 3), (2, 4), (3, 0), (3, 1), (3, 2), (3, 4), (4, 0), (4, 1), (4, 2), (4, 3)]
def exOK (U : State) : Prop := (∀ w ∈ excWs, va_Nw w U) ∧ ((Cond.laysStatic Bundle.tN "UNASSIGNED_STACK" Bundle.steD).before #[] U = true ∧ (Cond.isRef (.static Bundle.tN "UNASSIGNED_STACK" Bundle.steD)).before #[] U = true) ∧ ((Cond.laysStatic Bundle.tN "SUPPRESSED_SENTINEL" Bundle.listD).before #[] U = true ∧ (Cond.isRef (.static Bundle.tN "SUPPRESSED_SENTINEL" Bundle.listD)).before #[] U = true) ∧ (∀ t ∈ strTab, ∃ q, vk_R "FunDesk" t.1 t.2 q U) ∧ (∀ t ∈ excNo, va_Nc (excN t.1) (excN t.2) U)
theorem lS_move {s U : State} {C n d : String} {A' : Array Value} (hv : U.vm = s.vm) (hk : ∀ (a : Nat) (cell : Cell), s.heap[a]? = some cell → cell.vm.isStatics = true → U.heap[a]? = some cell) (h : (Cond.laysStatic C n d).before #[] s = true) : (Cond.laysStatic C n d).before A' U = true := by
  obtain ⟨c, k, i, f, a, cell, hc, hf, h1, ha, hcell, h3, h4, h5, h6⟩ := Cond.laysStatic_spec h
  have hc' : U.vm.findClass C = some c := by rw [hv]; exact hc
  have hf' : U.fieldFound? C n d = some (c, k, i, f) := by unfold State.fieldFound? at hf ⊢; rw [hv]; exact hf
  have hcell' := hk a cell hcell h3
  unfold Cond.before Cond.holds
  simp [Cond.value, hc', hf', ha, hcell', h1, h3, h4, h5, h6]
theorem iR_move {s U : State} {C n d : String} {A' : Array Value} (hv : U.vm = s.vm) (hk : ∀ (a : Nat) (cell : Cell), s.heap[a]? = some cell → cell.vm.isStatics = true → U.heap[a]? = some cell) (hl : (Cond.laysStatic C n d).before #[] s = true) (h : (Cond.isRef (.static C n d)).before #[] s = true) : (Cond.isRef (.static C n d)).before A' U = true := by
  obtain ⟨c, k, i, f, a, cell, hc, hf, h1, ha, hcell, h3, h4, h5, h6⟩ := Cond.laysStatic_spec hl
  have hf' : U.fieldFound? C n d = some (c, k, i, f) := by unfold State.fieldFound? at hf ⊢; rw [hv]; exact hf
  have hcell' := hk a cell hcell h3
  have e1 : (Term.static C n d).eval #[] s none [] s = cell.slots[f.slot]? := by simp [Term.eval, State.fieldNamed?, hf, h1, ha, hcell, h3]
  have e2 : (Term.static C n d).eval A' U none [] U = cell.slots[f.slot]? := by simp [Term.eval, State.fieldNamed?, hf', h1, ha, hcell', h3]
  unfold Cond.before Cond.holds at h ⊢
  simp only [Cond.value, e1] at h
  simp only [Cond.value, e2]
  exact h
theorem exOK.move {s U : State} (hW : s.WarmedH U.vm) (hk : ∀ (a : Nat) (cell : Cell), s.heap[a]? = some cell → cell.vm.isStatics = true → U.heap[a]? = some cell) (h : exOK s) : exOK U := by
  obtain ⟨h1, ⟨h2, h3⟩, ⟨h4, h5⟩, h6, h7⟩ := h
  have sh : ∀ {w : Cond}, w.keeps = true → w.before #[] s = true → w.before #[] (s.setVm U.vm) = true := fun hw hb => Cond.holds_shifted (State.Shifted.of_warmed hW) _ [] hw hb
  refine ⟨fun w hw => ?_, ⟨lS_move (s := s.setVm U.vm) rfl hk (sh rfl h2), iR_move (s := s.setVm U.vm) rfl hk (sh rfl h2) (sh rfl h3)⟩, ⟨lS_move (s := s.setVm U.vm) rfl hk (sh rfl h4), iR_move (s := s.setVm U.vm) rfl hk (sh rfl h4) (sh rfl h5)⟩, fun t ht => ?_, fun t ht => (h7 t ht).moved hW.alike⟩
  · have h0 := h1 w hw
    have hs : (∃ a b, w = .castable a b) ∨ ∃ x, w = .declares x := by
      simp only [excWs, List.mem_cons, List.not_mem_nil, or_false] at hw
      rcases hw with rfl | rfl | rfl | rfl | rfl | rfl | rfl | rfl <;> first | exact Or.inl ⟨_, _, rfl⟩ | exact Or.inr ⟨_, rfl⟩
    rcases hs with ⟨a, b, rfl⟩ | ⟨x, rfl⟩
    · exact va_Nw.warmC hW h0
    · exact va_Nw.warmD hW h0
  · obtain ⟨q, hq⟩ := h6 t ht
    exact ⟨q, hq.warm hW⟩
theorem exOK.calling {U : State} {g : JFrame} {mk : MethodId} {a : Array Value} (h : exOK U) : exOK (U.calling g mk a) := exOK.move (s := U) (State.WarmedH.refl U) (fun _ _ h _ => h) h
