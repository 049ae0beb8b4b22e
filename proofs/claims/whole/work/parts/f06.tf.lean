/-! Where all parts are short there is a type all the more. -/
theorem tpP_f {α : Int → GT} : ∀ (T : Tr) {s : GT}, tpP true α T s → tpP false α T s
  | .tag k (.nest z (.append A (.append B C))), s, h => by
    have rA := @tpP_f α A
    have rB := @tpP_f α B
    unfold tpP at h ⊢
    refine ⟨fun q => (by cases q), ?_⟩
    have h := h.2
    split at h
    · exact h
    · exact h
    · exact h
    · exact h
    · trivial
    · obtain ⟨a, x, e, y⟩ := h
      exact ⟨a, rA x, e, rB y⟩
    · exact h.elim
  | .nil, _, h => h.elim
  | .line, _, h => h.elim
  | .align _, _, h => h.elim
  | .text _, _, h => h.elim
  | .append _ _, _, h => h.elim
  | .group _ _, _, h => h.elim
  | .nest _ _, _, h => h.elim
  | .tag _ (.nil), _, h => h.elim
  | .tag _ (.line), _, h => h.elim
  | .tag _ (.align _), _, h => h.elim
  | .tag _ (.text _), _, h => h.elim
  | .tag _ (.append _ _), _, h => h.elim
  | .tag _ (.group _ _), _, h => h.elim
  | .tag _ (.tag _ _), _, h => h.elim
  | .tag _ (.nest _ (.nil)), _, h => h.elim
  | .tag _ (.nest _ (.line)), _, h => h.elim
  | .tag _ (.nest _ (.align _)), _, h => h.elim
  | .tag _ (.nest _ (.text _)), _, h => h.elim
  | .tag _ (.nest _ (.nest _ _)), _, h => h.elim
  | .tag _ (.nest _ (.group _ _)), _, h => h.elim
  | .tag _ (.nest _ (.tag _ _)), _, h => h.elim
  | .tag _ (.nest _ (.append _ (.nil))), _, h => h.elim
  | .tag _ (.nest _ (.append _ (.line))), _, h => h.elim
  | .tag _ (.nest _ (.append _ (.align _))), _, h => h.elim
  | .tag _ (.nest _ (.append _ (.text _))), _, h => h.elim
  | .tag _ (.nest _ (.append _ (.nest _ _))), _, h => h.elim
  | .tag _ (.nest _ (.append _ (.group _ _))), _, h => h.elim
  | .tag _ (.nest _ (.append _ (.tag _ _))), _, h => h.elim
theorem tyE_f : ∀ (T : Tr) {G : Gm} {s : GT}, tyE T true G s → tyE T false G s
  | .tag k (.nest z (.append A (.append B C))), G, s, h => by
    have rA := fun {G s} => @tyE_f A G s
    have rB := fun {G s} => @tyE_f B G s
    have rC := fun {G s} => @tyE_f C G s
    unfold tyE at h ⊢
    refine ⟨fun _ q => (by cases q), ?_⟩
    have h := h.2
    split at h
    · exact h
    · exact h
    · exact h
    · exact h
    · exact h
    · exact h
    · exact ⟨rA h.1, h.2⟩
    · exact ⟨rA h.1, rB h.2.1, h.2.2⟩
    · obtain ⟨a, x, e, y⟩ := h
      exact ⟨a, rA x, e, rB y⟩
    · obtain ⟨a, x, y⟩ := h
      exact ⟨a, rA x, rB y⟩
    · obtain ⟨a, b, e, x⟩ := h
      exact ⟨a, b, e, rA x⟩
    · obtain ⟨⟨a, x⟩, y⟩ := h
      exact ⟨⟨a, rA x⟩, rB y⟩
    · obtain ⟨⟨a, x⟩, y⟩ := h
      exact ⟨⟨a, rA x⟩, rB y⟩
    · exact ⟨rA h.1, rB h.2.1, rC h.2.2⟩
    · obtain ⟨a, x, y⟩ := h
      exact ⟨a, rA x, rB y⟩
    · obtain ⟨a, r, α, e, x, y, w⟩ := h
      exact ⟨a, r, α, e, tpP_f A x, rB y, w.imp id rC⟩
    · exact h.elim
  | .nil, _, _, h => h.elim
  | .line, _, _, h => h.elim
  | .align _, _, _, h => h.elim
  | .text _, _, _, h => h.elim
  | .append _ _, _, _, h => h.elim
  | .group _ _, _, _, h => h.elim
  | .nest _ _, _, _, h => h.elim
  | .tag _ (.nil), _, _, h => h.elim
  | .tag _ (.line), _, _, h => h.elim
  | .tag _ (.align _), _, _, h => h.elim
  | .tag _ (.text _), _, _, h => h.elim
  | .tag _ (.append _ _), _, _, h => h.elim
  | .tag _ (.group _ _), _, _, h => h.elim
  | .tag _ (.tag _ _), _, _, h => h.elim
  | .tag _ (.nest _ (.nil)), _, _, h => h.elim
  | .tag _ (.nest _ (.line)), _, _, h => h.elim
  | .tag _ (.nest _ (.align _)), _, _, h => h.elim
  | .tag _ (.nest _ (.text _)), _, _, h => h.elim
  | .tag _ (.nest _ (.nest _ _)), _, _, h => h.elim
  | .tag _ (.nest _ (.group _ _)), _, _, h => h.elim
  | .tag _ (.nest _ (.tag _ _)), _, _, h => h.elim
  | .tag _ (.nest _ (.append _ (.nil))), _, _, h => h.elim
  | .tag _ (.nest _ (.append _ (.line))), _, _, h => h.elim
  | .tag _ (.nest _ (.append _ (.align _))), _, _, h => h.elim
  | .tag _ (.nest _ (.append _ (.text _))), _, _, h => h.elim
  | .tag _ (.nest _ (.append _ (.nest _ _))), _, _, h => h.elim
  | .tag _ (.nest _ (.append _ (.group _ _))), _, _, h => h.elim
  | .tag _ (.nest _ (.append _ (.tag _ _))), _, _, h => h.elim
/-- what a program that was loaded does, at every state that it comes to -/
theorem load_ok {T : Tr} {σ σ' : Mem} (b : bLd σ σ' T) {m : Nat} {st : AS} {n g : Int} (h : Run T m st n g) : (∃ v, st = ([], eN, [v], []) ∧ ∀ s, tyE T false [] s → VTy FP.Core.DFin s 0 v) ∨ (nfA st ∧ OkA FP.Core.DFin st) :=
  run_ok rcl b.1.2.1 b.1.1 (by obtain ⟨s, t⟩ := b.2.1.2; exact ⟨s, tyE_f T t⟩) h
