/-! Working out with places: what is well formed stays so. -/
/-- functions in values are functions of the grammar -/
def vW : Std.Format → Bool → Prop
  | .nest _ (.append v ρ), true => vW v false ∧ vW ρ true
  | .append a b, false => vW a false ∧ vW b false
  | .tag 5 (.append lam ρ), false => isFn lam ∧ (wf lam ∧ szT lam ≤ 128) ∧ vW ρ true
  | .tag 6 (.nest _ (.append lam ρ)), false => isFn lam ∧ (wf lam ∧ szT lam ≤ 128) ∧ vW ρ true
  | _, _ => True
def wkV (S : WkS) : Prop := wkW S ∧ vW S.2.2.2.1 true ∧ (∀ v ∈ S.2.2.2.2.1, vW v false) ∧ ∀ f ∈ S.2.2.2.2.2, vW f.2 true
section WKV
theorem szT_nd {k : Nat} {z : Int} {A B C : Tr} : szT (nd k z A B C) = szT A + szT B + szT C + 1 := rfl
theorem vW_lkp {z : Int} : ∀ {ρ : En}, vW ρ true → vW (lkp z ρ) false := by
  intro ρ
  fun_induction lkp z ρ with
  | case1 => intro c; exact c.1
  | case2 => rename_i ih; intro c; exact ih c.2
  | case3 => intro _; trivial
theorem vW_drp : ∀ {n : Nat} {ρ : En}, vW ρ true → vW (drp n ρ) true := by
  intro n ρ
  fun_induction drp n ρ with
  | case1 => intro c; exact c
  | case2 => rename_i ih; intro c; exact ih c.2
  | case3 => intro c; exact c
theorem vW_fit : ∀ {P : Tr} {v : Va} {ρ ρ' : En}, fitE P v ρ = some ρ' → vW v false → vW ρ true → vW ρ' true := by
  intro P v ρ
  fun_induction fitE P v ρ with
  | case1 | case3 | case5 => intro ρ' h _ c; cases h; exact c
  | case2 | case4 | case6 => intro ρ' h; cases h
  | case7 => intro ρ' h d c; cases h; exact ⟨d, c⟩
  | case8 => intro ρ' h _ c; cases h; exact c
  | case9 =>
    rename_i h1 i1 i2
    intro ρ' h d c
    exact i2 h d.2 (i1 h1 d.1 c)
  | case10 => intro ρ' h; cases h
  | case11 => intro ρ' h; cases h
  | case12 => intro ρ' h; cases h
  | case13 => intro ρ' h; cases h
theorem br_wf : ∀ {B : Tr} {v : Va} {ρ : En} {E br : Tr} {ρ' : En}, brF B v ρ = some (E, br, ρ') → wf B → vW v false → vW ρ true → (isE E ∧ wf E) ∧ (∃ z P C, br = nd 17 z P E C ∧ z = (bnd P).length ∧ wf br ∧ szT br ≤ szT B) ∧ vW ρ' true := by
  intro B v ρ
  fun_induction brF B v ρ with
  | case1 z P E C v ρ ρ1 h =>
    intro E' br ρ' e a b c
    cases e
    have d : wf (nd 17 z P E C) := a
    have d2 : (z = (bnd P).length ∧ (bnd P).Nodup) ∧ wfP P ∧ isE E ∧ wf E ∧ (C = nl ∨ (isBr C ∧ wf C)) := d
    exact ⟨⟨d2.2.2.1, d2.2.2.2.1⟩, ⟨z, P, C, rfl, d2.1.1, d, Nat.le_refl _⟩, vW_fit h b c⟩
  | case2 z P E C v ρ h ih =>
    intro E' br ρ' e a b c
    have d2 : (z = (bnd P).length ∧ (bnd P).Nodup) ∧ wfP P ∧ isE E ∧ wf E ∧ (C = nl ∨ (isBr C ∧ wf C)) := a
    rcases d2.2.2.2.2 with q | q
    · subst q; simp [brF] at e
    · obtain ⟨x, ⟨z1, P1, C1, e1, e2, e3, e4⟩, y⟩ := ih e q.2 b c
      exact ⟨x, ⟨z1, P1, C1, e1, e2, e3, Nat.le_trans e4 (by show szT C ≤ szT P + szT E + szT C + 1; omega)⟩, y⟩
  | case3 => intro E' br ρ' e; cases e
theorem opV_w {z : Int} {a b v : Va} (h : opV z a b = .inl v) : vW v false := by
  obtain ⟨k, x, hk, rfl⟩ := opV_v h
  match k, hk with
  | 0, _ => trivial
  | 1, _ => trivial
  | 2, _ => trivial
theorem lf_w {k : Nat} {z : Int} {A B C : Tr} {ρ : En} (hk : k ≤ 5 ∨ k = 12) (w : wf (nd k z A B C) ∧ szT (nd k z A B C) ≤ 128) (r : vW ρ true) : vW (lfV k z (nd k z A B C) ρ) false := by
  unfold lfV
  split
  · trivial
  split
  · trivial
  split
  · trivial
  split
  · trivial
  split
  · trivial
  split
  · exact vW_lkp r
  · have e : k = 12 := by omega
    subst e
    exact ⟨rfl, w, r⟩
theorem wk_w1 {S S' : WkS} (w : wkV S) (h : wkM S = some S') : wkV S' := by
  obtain ⟨⟨w1, ⟨wz, w2⟩, w3⟩, r1, r2, r3⟩ := w
  unfold wkM at h
  split at h
  · next k z A B C cx ρ vs fs =>
    rcases w1 with ⟨-, we, ww⟩ | e | e
    · split at h
      · next q =>
        cases h
        refine ⟨⟨Or.inr (Or.inl rfl), ⟨Nat.zero_le _, w2⟩, w3⟩, r1, fun v hv => ?_, r3⟩
        rcases List.mem_cons.mp hv with e | e
        · rw [e]; exact lf_w q ⟨ww, wz⟩ r1
        · exact r2 v e
      · next q =>
        cases h
        have we : k ≤ 16 ∧ k ≠ 6 ∧ k ≠ 7 := we
        have ww : wf (nd k z A B C) := ww
        have hA : isE A ∧ wf A := by
          have ww2 := ww
          unfold wf nd at ww2
          have : k = 8 ∨ k = 9 ∨ k = 10 ∨ k = 11 ∨ k = 13 ∨ k = 14 ∨ k = 15 ∨ k = 16 := by omega
          rcases this with rfl | rfl | rfl | rfl | rfl | rfl | rfl | rfl
          · exact ⟨ww2.2.1, ww2.2.2.1⟩
          · exact ⟨ww2.2.1, ww2.2.2.1⟩
          · exact ⟨ww2.2.1, ww2.2.2.1⟩
          · exact ⟨ww2.2.1, ww2.2.2.1⟩
          · exact ⟨ww2.2.1, ww2.2.2.1⟩
          · refine ⟨?_, ww2.2.2.1⟩
            have := ww2.2.1
            unfold isFn at this
            split at this
            · next k' _ => subst this; exact ⟨by decide, by decide, by decide⟩
            · exact this.elim
          · exact ⟨ww2.2.1, ww2.2.2.1⟩
          · exact ⟨ww2.2.1, ww2.2.2.1⟩
        have wz : szT A + szT B + szT C + 1 ≤ 128 := wz
        exact ⟨⟨Or.inl ⟨rfl, hA⟩, ⟨by show szT A ≤ 128; omega, Or.inl ⟨rfl, by omega, by omega, by omega⟩, ⟨ww, wz⟩, w2⟩, w3⟩, r1, r2, r3⟩
    · cases e
    · cases e.1
  · next T j k z A B C cx ρ vs fs =>
    have w2 : ((j = 1 ∧ 8 ≤ k ∧ k ≤ 16 ∧ k ≠ 12) ∨ (j = 2 ∧ (k = 9 ∨ k = 10 ∨ k = 11 ∨ k = 13 ∨ k = 14 ∨ k = 15 ∨ k = 17)) ∨ (j = 3 ∧ k = 15)) ∧ (wf (nd k z A B C) ∧ szT (nd k z A B C) ≤ 128) ∧ cxW cx := w2
    have wz : szT A + szT B + szT C + 1 ≤ 128 := w2.2.1.2
    have st : k ≠ 17 → (8 ≤ k ∧ k ≤ 17 ∧ k ≠ 12) → wkV (2, nd k z A B C, cx, ρ, vs, fs) := fun a b => ⟨⟨Or.inr (Or.inr ⟨rfl, ⟨by omega, by omega, by omega⟩, w2.2.1.1, b.1, b.2.2⟩), ⟨w2.2.1.2, w2.2.2⟩, w3⟩, r1, r2, r3⟩
    split at h
    · next q =>
      split at h
      · next b =>
        cases h
        have ww2 := w2.2.1.1
        unfold wf nd at ww2
        have hB : isE B ∧ wf B := by
          rcases b with rfl | rfl | rfl
          · exact ⟨ww2.2.2.2.1, ww2.2.2.2.2.1⟩
          · exact ⟨ww2.2.2.2.1, ww2.2.2.2.2.1⟩
          · exact ⟨ww2.2.2.2.1, ww2.2.2.2.2.1⟩
        exact ⟨⟨Or.inl ⟨rfl, hB⟩, ⟨by show szT B ≤ 128; omega, Or.inr (Or.inl ⟨rfl, by omega⟩), w2.2.1, w2.2.2⟩, w3⟩, r1, r2, r3⟩
      · next b => cases h; exact st (by omega) (by omega)
    · next q =>
      split at h
      · next b => cases h; exact st (by omega) (by omega)
      · split at h
        · cases h; exact ⟨⟨Or.inr (Or.inl rfl), ⟨Nat.zero_le _, w2.2.2⟩, w3⟩, vW_drp r1, r2, r3⟩
        · cases h; exact ⟨⟨Or.inr (Or.inl rfl), ⟨Nat.zero_le _, w2.2.2⟩, w3⟩, r1, r2, r3⟩
  · next T ρ vs cx ρ' fs =>
    cases h
    exact ⟨⟨Or.inr (Or.inl rfl), ⟨Nat.zero_le _, w3 _ List.mem_cons_self⟩, fun f hf => w3 f (List.mem_cons_of_mem _ hf)⟩, r3 _ List.mem_cons_self, r2, fun f hf => r3 f (List.mem_cons_of_mem _ hf)⟩
  · cases h
theorem fnB {y : Int} {b R : Tr} (h : wf (.tag 12 (.nest y (.append b R)))) (hf : isFn (.tag 12 (.nest y (.append b R)))) : isE b ∧ wf b := by
  unfold wf at h
  split at h
  · next k z A B C e =>
    cases e
    exact ⟨h.2.1, h.2.2.1⟩
  · exact h.elim
theorem fn_sz {y : Int} {b R : Tr} (h : wf (.tag 12 (.nest y (.append b R)))) : szT b ≤ szT (.tag 12 (.nest y (.append b R))) := by
  unfold wf at h
  split at h
  · next k z A B C e =>
    cases e
    show szT b ≤ szT b + szT B + szT C + 1
    omega
  · exact h.elim
theorem wk_w2 {S S' : WkS} (w : wkV S) (h : wkS S = some (.inl S')) : wkV S' := by
  obtain ⟨⟨w1, ⟨wz, w2⟩, w3⟩, r1, r2, r3⟩ := w
  unfold wkS at h
  split at h
  · next k z A B C cx ρ vs fs =>
    have ww : wf (nd k z A B C) := by
      rcases w1 with e | e | e
      · cases e.1
      · cases e
      · exact e.2.2.1
    have wz : szT A + szT B + szT C + 1 ≤ 128 := wz
    have nx : ∀ {v : Va} {vs' : List Va}, vW v false → (∀ v ∈ vs', vW v false) → wkV (1, nl, cx, ρ, v :: vs', fs) := fun a b => ⟨⟨Or.inr (Or.inl rfl), ⟨Nat.zero_le _, w2⟩, w3⟩, r1, (fun v hv => by
      rcases List.mem_cons.mp hv with e | e
      · rw [e]; exact a
      · exact b v e), r3⟩
    split at h
    · next v vs' => cases h; exact nx trivial (fun v hv => r2 v (List.mem_cons_of_mem _ hv))
    · next b a vs' =>
      split at h
      · next v hv => cases h; exact nx (opV_w hv) (fun v hv => r2 v (List.mem_cons_of_mem _ (List.mem_cons_of_mem _ hv)))
      · cases h
    · next b a vs' => cases h; exact nx ⟨r2 a (List.mem_cons_of_mem _ List.mem_cons_self), r2 b List.mem_cons_self⟩ (fun v hv => r2 v (List.mem_cons_of_mem _ (List.mem_cons_of_mem _ hv)))
    · next x f vs' =>
      have hx := r2 x List.mem_cons_self
      have hf := r2 f (List.mem_cons_of_mem _ List.mem_cons_self)
      have hv' : ∀ v ∈ vs', vW v false := fun v hv => r2 v (List.mem_cons_of_mem _ (List.mem_cons_of_mem _ hv))
      have w3' : ∀ q ∈ (cx, ρ) :: fs, cxW q.1 := fun q hq => by
        rcases List.mem_cons.mp hq with e | e
        · rw [e]; exact w2
        · exact w3 q e
      have r3' : ∀ q ∈ (cx, ρ) :: fs, vW q.2 true := fun q hq => by
        rcases List.mem_cons.mp hq with e | e
        · rw [e]; exact r1
        · exact r3 q e
      split at h
      · cases h
        refine nx ?_ hv'
        split <;> trivial
      · next y b R ρ' =>
        cases h
        have hb := fnB hf.2.1.1 hf.1
        have hz : szT b ≤ 128 := Nat.le_trans (fn_sz hf.2.1.1) hf.2.1.2
        exact ⟨⟨Or.inl ⟨rfl, hb⟩, ⟨hz, trivial⟩, w3'⟩, ⟨hx, hf.2.2⟩, hv', r3'⟩
      · next g y b R ρ' =>
        cases h
        have hb := fnB hf.2.1.1 hf.1
        have hz : szT b ≤ 128 := Nat.le_trans (fn_sz hf.2.1.1) hf.2.1.2
        exact ⟨⟨Or.inl ⟨rfl, hb⟩, ⟨hz, trivial⟩, w3'⟩, ⟨hx, hf, hf.2.2⟩, hv', r3'⟩
      · cases h
    · next v vs' =>
      cases h
      have ww2 : ltZ z ∧ isE A ∧ wf A ∧ isE B ∧ wf B ∧ C = nl := ww
      exact ⟨⟨Or.inl ⟨rfl, ww2.2.2.2.1, ww2.2.2.2.2.1⟩, ⟨by show szT B ≤ 128; omega, Or.inr (Or.inl ⟨rfl, by decide⟩), ⟨ww, wz⟩, w2⟩, w3⟩, ⟨r2 v List.mem_cons_self, r1⟩, fun v hv => r2 v (List.mem_cons_of_mem _ hv), r3⟩
    · next v vs' =>
      have hv := r2 v List.mem_cons_self
      split at h
      · next lam ρ' =>
        cases h
        have ww2 : ltZ z ∧ isFn A ∧ wf A ∧ isE B ∧ wf B ∧ C = nl := ww
        exact ⟨⟨Or.inl ⟨rfl, ww2.2.2.2.1, ww2.2.2.2.2.1⟩, ⟨by show szT B ≤ 128; omega, Or.inr (Or.inl ⟨rfl, by decide⟩), ⟨ww, wz⟩, w2⟩, w3⟩, ⟨hv, r1⟩, fun v hv => r2 v (List.mem_cons_of_mem _ hv), r3⟩
      · cases h
    · next v vs' =>
      have ww2 : z = 0 ∧ isE A ∧ wf A ∧ isE B ∧ wf B ∧ isE C ∧ wf C := ww
      split at h
      · cases h; exact ⟨⟨Or.inl ⟨rfl, ww2.2.2.2.1, ww2.2.2.2.2.1⟩, ⟨by show szT B ≤ 128; omega, Or.inr (Or.inl ⟨rfl, by decide⟩), ⟨ww, wz⟩, w2⟩, w3⟩, r1, fun v hv => r2 v (List.mem_cons_of_mem _ hv), r3⟩
      · cases h; exact ⟨⟨Or.inl ⟨rfl, ww2.2.2.2.2.2⟩, ⟨by show szT C ≤ 128; omega, Or.inr (Or.inr ⟨rfl, rfl⟩), ⟨ww, wz⟩, w2⟩, w3⟩, r1, fun v hv => r2 v (List.mem_cons_of_mem _ hv), r3⟩
    · next v vs' =>
      have ww2 : z = 0 ∧ isE A ∧ wf A ∧ isBr B ∧ wf B ∧ C = nl := ww
      split at h
      · next E br ρ' hb =>
        cases h
        obtain ⟨a, ⟨zz, P, CC, rfl, -, b, bz⟩, c⟩ := br_wf hb ww2.2.2.2.2.1 (r2 v List.mem_cons_self) r1
        have bz : szT P + szT E + szT CC + 1 ≤ szT B := bz
        exact ⟨⟨Or.inl ⟨rfl, a⟩, ⟨by show szT E ≤ 128; omega, Or.inr (Or.inl ⟨rfl, by decide⟩), ⟨b, by show szT P + szT E + szT CC + 1 ≤ 128; omega⟩, w2⟩, w3⟩, c, fun v hv => r2 v (List.mem_cons_of_mem _ hv), r3⟩
      · cases h
    · cases h
  · cases h
theorem br_17 : ∀ {B : Tr} {v : Va} {ρ : En} {E br : Tr} {ρ' : En}, brF B v ρ = some (E, br, ρ') → ∃ z P C, br = nd 17 z P E C := by
  intro B v ρ
  fun_induction brF B v ρ with
  | case1 z P E C v ρ ρ1 h => intro E' br ρ' e; cases e; exact ⟨z, P, C, rfl⟩
  | case2 z P E C v ρ h ih => intro E' br ρ' e; exact ih e
  | case3 => intro E' br ρ' e; cases e
/-- a step of the one is one of the other -/
theorem wk_sp {S S' : WkS} (h : wkS S = some (.inl S')) : ∃ b, spA (abS S) = some (.inl (abS S', b)) := by
  unfold wkS at h
  split at h
  · next k z A B C cx ρ vs fs =>
    have sh : ∀ vs, abS (2, nd k z A B C, cx, ρ, vs, fs) = ((1, nd k z A B C) :: upW cx, ρ, vs, fs.map (fun f => (upW f.1, f.2))) := fun _ => rfl
    show ∃ b, spA (abS (2, nd k z A B C, cx, ρ, vs, fs)) = _
    rw [sh]
    split at h
    · cases h; exact ⟨0, rfl⟩
    · next b a vs' =>
      split at h
      · next v hv => cases h; exact ⟨0, by simp only [spA, nd, hv]; rfl⟩
      · cases h
    · cases h; exact ⟨0, rfl⟩
    · next x f vs' =>
      split at h
      · cases h; exact ⟨0, rfl⟩
      · cases h; exact ⟨1, rfl⟩
      · cases h; exact ⟨1, rfl⟩
      · cases h
    · cases h; exact ⟨1, rfl⟩
    · next v vs' =>
      split at h
      · cases h; exact ⟨1, rfl⟩
      · cases h
    · next v vs' =>
      split at h
      · next q => cases h; exact ⟨0, by simp only [spA, nd, if_pos q, abS, upW]; rfl⟩
      · next q => cases h; exact ⟨0, by simp only [spA, nd, if_neg q, abS, upW]; rfl⟩
    · next v vs' =>
      split at h
      · next E br ρ' hb => 
        cases h
        obtain ⟨z', P, CC, rfl⟩ := br_17 hb
        exact ⟨numB (nd 17 z' P E CC), by simp only [spA, nd, hb]; rfl⟩
      · cases h
    · cases h
  · cases h
/-- where the step can be made, it is made -/
theorem wk_ok {PR : UInt64 → Prop} {T : Tr} {cx : Cx} {ρ : En} {vs : List Va} {fs : List (Cx × En)} (h : OkA PR (abS (2, T, cx, ρ, vs, fs))) (w : wkV (2, T, cx, ρ, vs, fs)) : wkS (2, T, cx, ρ, vs, fs) ≠ none := by
  rcases w.1.1 with e | e | ⟨-, e, w, -⟩
  · cases e.1
  · cases e
  · obtain ⟨k, z, A, B, C, rfl, -⟩ := isE_nd e w
    have h : stOK PR k z B vs := h
    intro q
    unfold stOK at h
    unfold wkS nd at q
    simp only at q
    split at h
    · obtain ⟨v, r, rfl, -⟩ := h; cases q
    · obtain ⟨x, y, r, rfl, -⟩ := h
      simp only at q
      split at q <;> cases q
    · obtain ⟨x, y, r, rfl, -⟩ := h; cases q
    · obtain ⟨f, x, r, rfl, hf, -⟩ := h
      simp only at q
      unfold isFv at hf
      split at hf
      · cases q
      · cases q
      · cases q
      · exact hf
    · obtain ⟨v, r, rfl⟩ := h; cases q
    · obtain ⟨lam, ρ', r, rfl⟩ := h; cases q
    · obtain ⟨v, r, rfl, -⟩ := h
      simp only at q
      split at q <;> cases q
    · obtain ⟨v, r, rfl, -⟩ := h
      simp only at q
      split at q <;> cases q
    · exact h
end WKV
