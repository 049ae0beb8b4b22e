/-! A program that is well typed never comes to a step that can't be made, and ends with a value of its types. -/
section SAFE3
variable {PR : UInt64 → Prop} {T : Tr} {n g : Int} {st : AS}
def outT (PR : UInt64 → Prop) (T : Tr) (j : Nat) (ρ : En) (v : Va) : Prop := ρ = eN ∧ ∀ s, tyE T false [] s → VTy PR s j v
theorem prog_safe (RC : RCl PR) (hw : wf T) (he : isE T) (t : ∃ s, tyE T false [] s) (k : Nat) : SfA PR (outT PR T) k ([(0, T)], eN, [], []) :=
  ExT.all (D := tyE T false []) t (fun s ts => ((fund_all RC T hw).1 he) k [] eN s ts (fun _ _ q => q.elim)) (Nat.le_refl k) (fun j hj v hv => SfA.fin ⟨rfl, hv⟩)
theorem run_safe (RC : RCl PR) (hw : wf T) (he : isE T) (t : ∃ s, tyE T false [] s) : ∀ (m : Nat) {st : AS} {n g : Int}, Run T m st n g → ∀ k, SfA PR (outT PR T) k st
  | 0, st, n, g, h, k => by
    obtain ⟨rfl, -, -⟩ := h
    exact prog_safe RC hw he t k
  | m + 1, st, n, g, h, k => by
    obtain ⟨s0, n0, g0, h0, h⟩ := h
    have x := run_safe RC hw he t m h0 (k + 1)
    have nx : nxA s0 st := by
      rcases h with ⟨h, -⟩ | ⟨b, h, -⟩
      · exact Or.inl h
      · exact Or.inr ⟨b, h⟩
    have nf : nfA s0 := fun ρ v e => by
      subst e
      rcases nx with q | ⟨b, q⟩
      · cases q
      · cases q
    exact (x.2 nf).2 st nx
theorem run_ok (RC : RCl PR) (hw : wf T) (he : isE T) (t : ∃ s, tyE T false [] s) {m : Nat} (h : Run T m st n g) : (∃ v, st = ([], eN, [v], []) ∧ ∀ s, tyE T false [] s → VTy PR s 0 v) ∨ (nfA st ∧ OkA PR st) := by
  by_cases q : ∃ ρ v, st = ([], ρ, [v], [])
  · obtain ⟨ρ, v, rfl⟩ := q
    obtain ⟨rfl, hv⟩ := (run_safe RC hw he t m h 0).1 ρ v rfl
    exact Or.inl ⟨v, rfl, hv⟩
  · have nf : nfA st := fun ρ v e => q ⟨ρ, v, e⟩
    exact Or.inr ⟨nf, ((run_safe RC hw he t m h 1).2 nf).1⟩
end SAFE3
