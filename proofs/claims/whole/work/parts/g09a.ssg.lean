/-! Working out with places: what holds of all parts of a program holds of all parts met. -/
def gcl (G : Tr → Prop) : Prop := G nl ∧ ∀ k z A B C, G (nd k z A B C) → G A ∧ G B ∧ G C
def vA (G : Tr → Prop) : Std.Format → Bool → Prop
  | .nest _ (.append v ρ), true => vA G v false ∧ vA G ρ true
  | .append a b, false => vA G a false ∧ vA G b false
  | .tag 5 (.append lam ρ), false => G lam ∧ vA G ρ true
  | .tag 6 (.nest _ (.append lam ρ)), false => G lam ∧ vA G ρ true
  | _, _ => True
def wkA (G : Tr → Prop) (S : WkS) : Prop := G S.2.1 ∧ (∀ q ∈ S.2.2.1, G q.2) ∧ vA G S.2.2.2.1 true ∧ (∀ v ∈ S.2.2.2.2.1, vA G v false) ∧ ∀ f ∈ S.2.2.2.2.2, (∀ q ∈ f.1, G q.2) ∧ vA G f.2 true
section WKA
variable {G : Tr → Prop}
theorem vA_lkp {z : Int} : ∀ {ρ : En}, vA G ρ true → vA G (lkp z ρ) false := by
  intro ρ
  fun_induction lkp z ρ with
  | case1 => intro c; exact c.1
  | case2 => rename_i ih; intro c; exact ih c.2
  | case3 => intro _; trivial
theorem vA_drp : ∀ {n : Nat} {ρ : En}, vA G ρ true → vA G (drp n ρ) true := by
  intro n ρ
  fun_induction drp n ρ with
  | case1 => intro c; exact c
  | case2 => rename_i ih; intro c; exact ih c.2
  | case3 => intro c; exact c
theorem vA_fit : ∀ {P : Tr} {v : Va} {ρ ρ' : En}, fitE P v ρ = some ρ' → vA G v false → vA G ρ true → vA G ρ' true := by
  intro P v ρ
  fun_induction fitE P v ρ with
  | case1 | case3 | case5 => intro ρ' h _ c; cases h; exact c
  | case2 | case4 | case6 => intro ρ' h; cases h
  | case7 => intro ρ' h d c; cases h; exact ⟨d, c⟩
  | case8 => intro ρ' h _ c; cases h; exact c
  | case9 =>
    rename_i h1 i1 i2
    intro ρ' h d c
    exact i2 h d.2 (i1 h1 d.1 c)
  | case10 => intro ρ' h; cases h
  | case11 => intro ρ' h; cases h
  | case12 => intro ρ' h; cases h
  | case13 => intro ρ' h; cases h
theorem br_A (hG : gcl G) : ∀ {B : Tr} {v : Va} {ρ : En} {E br : Tr} {ρ' : En}, brF B v ρ = some (E, br, ρ') → G B → vA G v false → vA G ρ true → G E ∧ G br ∧ vA G ρ' true := by
  intro B v ρ
  fun_induction brF B v ρ with
  | case1 z P E C v ρ ρ1 h =>
    intro E' br ρ' e a b c
    cases e
    exact ⟨(hG.2 17 z P E C a).2.1, a, vA_fit h b c⟩
  | case2 z P E C v ρ h ih =>
    intro E' br ρ' e a b c
    exact ih e (hG.2 17 z P E C a).2.2 b c
  | case3 => intro E' br ρ' e; cases e
theorem lf_A {k : Nat} {z : Int} {A B C : Tr} {ρ : En} (hk : k ≤ 5 ∨ k = 12) (w : G (nd k z A B C)) (r : vA G ρ true) : vA G (lfV k z (nd k z A B C) ρ) false := by
  unfold lfV
  split
  · trivial
  split
  · trivial
  split
  · trivial
  split
  · trivial
  split
  · trivial
  split
  · exact vA_lkp r
  · exact ⟨w, r⟩
theorem opV_A {z : Int} {a b v : Va} (h : opV z a b = .inl v) : vA G v false := by
  obtain ⟨k, x, hk, rfl⟩ := opV_v h
  match k, hk with
  | 0, _ => trivial
  | 1, _ => trivial
  | 2, _ => trivial
theorem cons_all {Q : Nat × Tr → Prop} {a : Nat × Tr} {l : Cx} (h1 : Q a) (h2 : ∀ q ∈ l, Q q) : ∀ q ∈ a :: l, Q q := fun q hq => by
  rcases List.mem_cons.mp hq with e | e
  · rw [e]; exact h1
  · exact h2 q e
theorem wk_A1 (hG : gcl G) {S S' : WkS} (w : wkA G S) (h : wkM S = some S') : wkA G S' := by
  obtain ⟨w1, w2, r1, r2, r3⟩ := w
  unfold wkM at h
  split at h
  · next k z A B C cx ρ vs fs =>
    have w1 : G (nd k z A B C) := w1
    split at h
    · next q =>
      cases h
      refine ⟨hG.1, w2, r1, fun v hv => ?_, r3⟩
      rcases List.mem_cons.mp hv with e | e
      · rw [e]; exact lf_A q w1 r1
      · exact r2 v e
    · cases h; exact ⟨(hG.2 _ _ _ _ _ w1).1, cons_all (Q := fun q => G q.2) w1 w2, r1, r2, r3⟩
  · next T j k z A B C cx ρ vs fs =>
    have wN : G (nd k z A B C) := w2 _ List.mem_cons_self
    have w2' : ∀ q ∈ cx, G q.2 := fun q hq => w2 q (List.mem_cons_of_mem _ hq)
    split at h
    · split at h
      · cases h; exact ⟨(hG.2 _ _ _ _ _ wN).2.1, cons_all (Q := fun q => G q.2) wN w2', r1, r2, r3⟩
      · cases h; exact ⟨wN, w2', r1, r2, r3⟩
    · split at h
      · cases h; exact ⟨wN, w2', r1, r2, r3⟩
      · split at h
        · cases h; exact ⟨hG.1, w2', vA_drp r1, r2, r3⟩
        · cases h; exact ⟨hG.1, w2', r1, r2, r3⟩
  · next T ρ vs cx ρ' fs =>
    cases h
    exact ⟨hG.1, (r3 _ List.mem_cons_self).1, (r3 _ List.mem_cons_self).2, r2, fun f hf => r3 f (List.mem_cons_of_mem _ hf)⟩
  · cases h
theorem fnA (hG : gcl G) {y : Int} {b R : Tr} (hw : wf (.tag 12 (.nest y (.append b R)))) (h : G (.tag 12 (.nest y (.append b R)))) : G b := by
  unfold wf at hw
  split at hw
  · next k z A B C e =>
    cases e
    exact (hG.2 12 y b B C h).1
  · exact hw.elim
theorem wk_A2 (hG : gcl G) {S S' : WkS} (v : wkV S) (w : wkA G S) (h : wkS S = some (.inl S')) : wkA G S' := by
  obtain ⟨w1, w2, r1, r2, r3⟩ := w
  obtain ⟨-, -, v2, -⟩ := v
  unfold wkS at h
  split at h
  · next k z A B C cx ρ vs fs =>
    have w1 : G (nd k z A B C) := w1
    have nx : ∀ {v : Va} {vs' : List Va}, vA G v false → (∀ v ∈ vs', vA G v false) → wkA G (1, nl, cx, ρ, v :: vs', fs) := fun a b => ⟨hG.1, w2, r1, (fun v hv => by
      rcases List.mem_cons.mp hv with e | e
      · rw [e]; exact a
      · exact b v e), r3⟩
    split at h
    · next v vs' _ => cases h; exact nx trivial (fun v hv => r2 v (List.mem_cons_of_mem _ hv))
    · next b a vs' _ =>
      split at h
      · next v hv => cases h; exact nx (opV_A hv) (fun v hv => r2 v (List.mem_cons_of_mem _ (List.mem_cons_of_mem _ hv)))
      · cases h
    · next b a vs' _ => cases h; exact nx ⟨r2 a (List.mem_cons_of_mem _ List.mem_cons_self), r2 b List.mem_cons_self⟩ (fun v hv => r2 v (List.mem_cons_of_mem _ (List.mem_cons_of_mem _ hv)))
    · next x f vs' _ =>
      have hx := r2 x List.mem_cons_self
      have hf := r2 f (List.mem_cons_of_mem _ List.mem_cons_self)
      have vf := v2 f (List.mem_cons_of_mem _ List.mem_cons_self)
      have hv' : ∀ v ∈ vs', vA G v false := fun v hv => r2 v (List.mem_cons_of_mem _ (List.mem_cons_of_mem _ hv))
      have r3' : ∀ q ∈ (cx, ρ) :: fs, (∀ y ∈ q.1, G y.2) ∧ vA G q.2 true := fun q hq => by
        rcases List.mem_cons.mp hq with e | e
        · rw [e]; exact ⟨w2, r1⟩
        · exact r3 q e
      split at h
      · cases h
        refine nx ?_ hv'
        split <;> trivial
      · next y b R ρ' =>
        cases h
        exact ⟨fnA hG vf.2.1.1 hf.1, (fun q hq => by cases hq), ⟨hx, hf.2⟩, hv', r3'⟩
      · next g y b R ρ' =>
        cases h
        exact ⟨fnA hG vf.2.1.1 hf.1, (fun q hq => by cases hq), ⟨hx, hf, hf.2⟩, hv', r3'⟩
      · cases h
    · next v vs' _ =>
      cases h
      exact ⟨(hG.2 _ _ _ _ _ w1).2.1, cons_all (Q := fun q => G q.2) w1 w2, ⟨r2 v List.mem_cons_self, r1⟩, fun v hv => r2 v (List.mem_cons_of_mem _ hv), r3⟩
    · next v vs' _ =>
      have hv := r2 v List.mem_cons_self
      split at h
      · cases h
        exact ⟨(hG.2 _ _ _ _ _ w1).2.1, cons_all (Q := fun q => G q.2) w1 w2, ⟨hv, r1⟩, fun v hv => r2 v (List.mem_cons_of_mem _ hv), r3⟩
      · cases h
    · next v vs' _ =>
      split at h
      · cases h; exact ⟨(hG.2 _ _ _ _ _ w1).2.1, cons_all (Q := fun q => G q.2) w1 w2, r1, fun v hv => r2 v (List.mem_cons_of_mem _ hv), r3⟩
      · cases h; exact ⟨(hG.2 _ _ _ _ _ w1).2.2, cons_all (Q := fun q => G q.2) w1 w2, r1, fun v hv => r2 v (List.mem_cons_of_mem _ hv), r3⟩
    · next v vs' _ =>
      split at h
      · next E br ρ' hb =>
        cases h
        obtain ⟨a, b, c⟩ := br_A hG hb (hG.2 _ _ _ _ _ w1).2.1 (r2 v List.mem_cons_self) r1
        exact ⟨a, cons_all (Q := fun q => G q.2) b w2, c, fun v hv => r2 v (List.mem_cons_of_mem _ hv), r3⟩
      · cases h
    · cases h
  · cases h
theorem gcl_c5 : gcl c5 := ⟨trivial, fun _ _ _ _ _ h => h.2⟩
theorem gcl_pd : gcl pdT := ⟨trivial, fun _ _ _ _ _ h => h.2⟩
theorem gcl_c5pd : gcl (fun T => c5 T ∧ pdT T) := ⟨⟨trivial, trivial⟩, fun _ _ _ _ _ h => ⟨⟨h.1.2.1, h.2.2.1⟩, ⟨h.1.2.2.1, h.2.2.2.1⟩, ⟨h.1.2.2.2, h.2.2.2.2⟩⟩⟩
end WKA
