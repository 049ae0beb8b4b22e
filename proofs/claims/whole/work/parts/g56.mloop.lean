/-! The model's run: its loop's rows. -/
/-- what a run leaves alone -/
def frRm (h h' : mHp) (σ σ' : Mem) : Prop := (h'.1 = h.1 ∧ h'.2.1 = h.2.1) ∧ (∀ i x, i ≠ 89 → ¬ (92 ≤ i ∧ i ≤ 97) → ¬ (i = 58 ∧ x = 69) → hAt h' i x = hAt h i x) ∧ (∀ i, hTag h' i = hTag h i ∧ hLen h' i = hLen h i) ∧ (∀ i, i ≠ 58 → i ≠ 90 → i ≠ 91 → i ≠ 93 → σ' i = σ i) ∧ ∀ k, k ≠ 0 → k ≠ 51 → k ≠ 54 → k ≠ 57 → k ≠ 58 → k ≠ 61 → k ≠ 63 → k ≠ 64 → k ≠ 65 → k ≠ 66 → k ≠ 67 → k ≠ 68 → k ≠ 70 → σ' 58 k = σ 58 k
section MLOO
variable {h h' h1 h2 : mHp} {σ0 σ σ' σ1 σ2 : Mem} {d m n : Nat} {nn k s a c : Int} {T : Tr} {S S' : WkS} {r : mRes}
theorem frRm.rf : frRm h h σ σ := ⟨⟨rfl, rfl⟩, fun _ _ _ _ _ => rfl, fun _ => ⟨rfl, rfl⟩, fun _ _ _ _ _ => rfl, fun _ _ _ _ _ _ _ _ _ _ _ _ _ _ => rfl⟩
theorem frRm.tr (x : frRm h h1 σ σ1) (y : frRm h1 h' σ1 σ') : frRm h h' σ σ' := ⟨⟨y.1.1.trans x.1.1, y.1.2.trans x.1.2⟩, fun i z a b c => (y.2.1 i z a b c).trans (x.2.1 i z a b c), fun i => ⟨(y.2.2.1 i).1.trans (x.2.2.1 i).1, (y.2.2.1 i).2.trans (x.2.2.1 i).2⟩, fun i a b c d => (y.2.2.2.1 i a b c d).trans (x.2.2.2.1 i a b c d), fun k a0 a b c d e f g i j l m n => (y.2.2.2.2 k a0 a b c d e f g i j l m n).trans (x.2.2.2.2 k a0 a b c d e f g i j l m n)⟩
theorem frWm.rm (f : frWm h h' σ σ') : frRm h h' σ σ' := ⟨f.1, fun i x a b _ => f.2.1 i a b x, f.2.2.1, f.2.2.2.1, fun k _ a b c d e f' g i j _ _ _ => f.2.2.2.2 k a b c d e f' g i j⟩
theorem frRm.m8 {j z : Int} (hj : j = 0 ∨ j = 65 ∨ j = 66 ∨ j = 67 ∨ j = 68 ∨ j = 70) : frRm h h σ (mup σ 58 j z) := ⟨⟨rfl, rfl⟩, fun _ _ _ _ _ => rfl, fun _ => ⟨rfl, rfl⟩, fun _ a _ _ _ => mup_obj a, fun _ _ _ _ _ _ _ _ _ _ _ _ _ _ => mup_nk (by omega)⟩
theorem frRm.s69 {u : Value} : frRm h (hSet h 58 69 u) σ σ := ⟨⟨rfl, rfl⟩, fun i x _ _ e => by
  by_cases q : i = 58
  · subst q; exact at_nk (fun w => e ⟨rfl, w⟩)
  · exact at_ne q x, fun _ => ⟨tag_set, len_set⟩, fun _ _ _ _ _ => rfl, fun _ _ _ _ _ _ _ _ _ _ _ _ _ _ => rfl⟩
theorem r_isSt {x : Int} (gx : rg x) : ∃ v, Rh (d + 2) yMo_isStep [vi x] h σ (.inl (some (vi v))) h σ ∧ rg v ∧ (v ≠ 0 ↔ isSt x) := by
  by_cases q : isSt x
  · refine ⟨1, M_Mo_isStep gx ?_, rgk rfl, fun _ => q, fun _ => by decide⟩
    have e : B_Mo_isStep_36 d h σ (.inl (some (vi 1))) h σ := ⟨rfl, rfl, rfl⟩
    unfold isSt at q
    unfold B_Mo_isStep
    rcases q with rfl | rfl | rfl | rfl | rfl | rfl
    · rw [if_pos rfl]; exact e
    · rw [if_neg (by decide), if_pos rfl]; exact e
    · rw [if_neg (by decide), if_neg (by decide), if_pos rfl]; exact e
    · rw [if_neg (by decide), if_neg (by decide), if_neg (by decide), if_pos rfl]; exact e
    · rw [if_neg (by decide), if_neg (by decide), if_neg (by decide), if_neg (by decide), if_pos rfl]; exact e
    · rw [if_neg (by decide), if_neg (by decide), if_neg (by decide), if_neg (by decide), if_neg (by decide), if_neg (by decide)]; exact e
  · refine ⟨0, M_Mo_isStep gx ?_, rgk rfl, fun e => absurd rfl e, fun e => absurd e q⟩
    unfold isSt at q
    unfold B_Mo_isStep
    rw [if_neg (by omega), if_neg (by omega), if_neg (by omega), if_neg (by omega), if_neg (by omega), if_pos (by omega)]
    exact ⟨rfl, rfl, rfl⟩
/-- is a step due: no, something else is -/
theorem r_due0 (ns : nsM σ) : Rh (d + 7) yMo_stepIsDue [.ref 58] h σ (.inl (some (vi 0))) h σ := by
  obtain ⟨⟨p0, p1⟩, p2, ni, gi⟩ := ns
  obtain ⟨v, I, gv, e⟩ := r_isSt (d := d + 4) (h := h) (σ := σ) gi
  have v0 : v = 0 := Decidable.byContradiction (fun q => ni (e.mp q))
  refine M_Mo_stepIsDue ?_
  unfold B_Mo_stepIsDue
  rw [if_neg (by omega)]
  refine ⟨by unfold rg; omega, by unfold rg; omega, ⟨p0, by omega⟩, v, h, σ, I, gv, ?_⟩
  rw [if_pos v0]
  exact ⟨rfl, rfl, rfl⟩
/-- the code's end -/
theorem r_dueE (e : σ 58 64 = σ 58 11) (h0 : 0 ≤ σ 58 11 ∧ σ 58 11 ≤ 124) : Rh (d + 7) yMo_stepIsDue [.ref 58] h σ (.inl (some (vi 0))) h σ := by
  refine M_Mo_stepIsDue ?_
  unfold B_Mo_stepIsDue
  rw [if_pos (by omega)]
  exact ⟨by unfold rg; omega, by unfold rg; omega, rfl, rfl, rfl⟩
theorem r_due1 (is : isSt (σ 63 (σ 58 64))) (p : 0 ≤ σ 58 64 ∧ σ 58 64 < σ 58 11) (p2 : σ 58 11 ≤ 124) : Rh (d + 7) yMo_stepIsDue [.ref 58] h σ (.inl (some (vi 1))) h σ := by
  have gi : rg (σ 63 (σ 58 64)) := by unfold isSt at is; unfold rg; omega
  obtain ⟨v, I, gv, e⟩ := r_isSt (d := d + 4) (h := h) (σ := σ) gi
  have v0 : v ≠ 0 := e.mpr is
  refine M_Mo_stepIsDue ?_
  unfold B_Mo_stepIsDue
  rw [if_neg (by omega)]
  refine ⟨by unfold rg; omega, by unfold rg; omega, ⟨p.1, by omega⟩, v, h, σ, I, gv, ?_⟩
  rw [if_neg v0]
  exact ⟨rfl, rfl, rfl⟩
/-- the state isn't 1 -/
theorem L_end (gn : rg nn) (gk : rg k) (e : σ 58 65 = c) (gc : rg c) (hc : c ≠ 1) : Lh (d + 7) yMo_run 27 [(0, .ref 58), (1, vi nn), (2, vi k)] [] h σ (.inl (some (vi k))) h σ := by
  refine K_Mo_run_27 gn gk ?_
  unfold B_Mo_run_27
  rw [e, if_pos hc]
  exact ⟨gc, rfl, rfl, rfl⟩
/-- to run_47, where no step is due -/
theorem L_47 (gn : rg nn) (gk : rg k) (e : σ 58 65 = 1) (D : Rh (d + 7) yMo_stepIsDue [.ref 58] h σ (.inl (some (vi 0))) h σ) (B : B_Mo_run_47 d nn k h σ r h' σ') : Lh (d + 7) yMo_run 27 [(0, .ref 58), (1, vi nn), (2, vi k)] [] h σ r h' σ' := by
  refine K_Mo_run_27 gn gk ?_
  unfold B_Mo_run_27
  rw [e, if_neg (by decide)]
  refine ⟨rgk rfl, ?_⟩
  by_cases q : k < nn
  · rw [if_pos q]; exact B
  · rw [if_neg q]
    refine ⟨0, h, σ, D, rgk rfl, ?_⟩
    rw [if_neg (by decide)]; exact B
/-- an instruction that is no step -/
theorem L_ns (gn : rg nn) (gk : rg k) (e : σ 58 65 = 1) (X : exM d h σ h1 σ1) (L : Lh (d + 7) yMo_run 27 [(0, .ref 58), (1, vi nn), (2, vi k)] [] h1 σ1 r h' σ') : Lh (d + 7) yMo_run 27 [(0, .ref 58), (1, vi nn), (2, vi k)] [] h σ r h' σ' := by
  obtain ⟨ns, X⟩ := X
  have D := r_due0 (d := d) (h := h) ns
  refine L_47 gn gk e D ?_
  obtain ⟨⟨p0, p1⟩, p2, -⟩ := ns
  unfold B_Mo_run_47
  refine ⟨by unfold rg; omega, by unfold rg; omega, ?_⟩
  rw [if_pos (by omega)]
  refine ⟨0, h, σ, D, rgk rfl, ?_⟩
  rw [if_neg (by decide)]
  exact ⟨h1, σ1, X, L⟩
theorem L_nsN (gn : rg nn) (gk : rg k) : ∀ {n : Nat} {h : mHp} {σ : Mem}, (n = 0 ∨ σ 58 65 = 1) → exN d n h σ h1 σ1 → Lh (d + 7) yMo_run 27 [(0, .ref 58), (1, vi nn), (2, vi k)] [] h1 σ1 r h' σ' → Lh (d + 7) yMo_run 27 [(0, .ref 58), (1, vi nn), (2, vi k)] [] h σ r h' σ'
  | 0, h, σ, _, ⟨e1, e2⟩, L => by subst e1 e2; exact L
  | n + 1, h, σ, e, ⟨h2, σ2, X, q, N⟩, L => by
    have e : σ 58 65 = 1 := by omega
    exact L_ns gn gk e X (L_nsN gn gk (by omega) N L)
/-- all is worked out -/
theorem L_fin {y : Int} (gn : rg nn) (gk : rg k) (e : σ 58 65 = 1) (e64 : σ 58 64 = σ 58 11) (h0 : 0 ≤ σ 58 11 ∧ σ 58 11 ≤ 124) (ey : hAt h 89 0 = vlg y) : Lh (d + 7) yMo_run 27 [(0, .ref 58), (1, vi nn), (2, vi k)] [] h σ (.inl (some (vi k))) (hSet h 58 69 (vlg y)) (mup (mup σ 58 65 2) 58 70 0) := by
  refine L_47 gn gk e (r_dueE e64 h0) ?_
  unfold B_Mo_run_47
  rw [if_neg (fun q => q e64)]
  exact ⟨by unfold rg; omega, by unfold rg; omega, ⟨by decide, by decide⟩, y, ey, L_end gn gk ((mup_nk (by decide)).trans mup_eq) (rgk rfl) (by decide)⟩
/-- no more steps now -/
theorem L_stop (gn : rg nn) (gk : rg k) (e : σ 58 65 = 1) (hk : ¬ k < nn) (is : isSt (σ 63 (σ 58 64))) (p : 0 ≤ σ 58 64 ∧ σ 58 64 < σ 58 11) (p2 : σ 58 11 ≤ 124) : Lh (d + 7) yMo_run 27 [(0, .ref 58), (1, vi nn), (2, vi k)] [] h σ (.inl (some (vi k))) h σ := by
  refine K_Mo_run_27 gn gk ?_
  unfold B_Mo_run_27
  rw [e, if_neg (by decide), if_neg hk]
  refine ⟨rgk rfl, 1, h, σ, r_due1 is p p2, rgk rfl, ?_⟩
  rw [if_pos (by decide)]
  exact ⟨rfl, rfl, rfl⟩
theorem L_due (gn : rg nn) (gk : rg k) (e : σ 58 65 = 1) (hk : k < nn) (is : isSt (σ 63 (σ 58 64))) (p : 0 ≤ σ 58 64 ∧ σ 58 64 < σ 58 11) (p2 : σ 58 11 ≤ 124) (e67 : σ 58 67 = s) (e68 : σ 58 68 = a) (hs : 0 ≤ s ∧ s ≤ 500) (ha : 0 ≤ a ∧ a ≤ 1000) (B : (s = 500 ∨ a = 1000) ∧ B_Mo_run_115 d nn k h σ r h' σ' ∨ (s ≠ 500 ∧ a ≠ 1000) ∧ ∃ h1 σ1, Rh (d + 7) yMo_execute [.ref 58] h (mup (mup σ 58 67 (s + 1)) 58 68 (a + 1)) (.inl none) h1 σ1 ∧ rg (k + 1) ∧ Lh (d + 7) yMo_run 27 [(0, .ref 58), (1, vi nn), (2, vi (k + 1))] [] h1 σ1 r h' σ') : Lh (d + 7) yMo_run 27 [(0, .ref 58), (1, vi nn), (2, vi k)] [] h σ r h' σ' := by
  refine K_Mo_run_27 gn gk ?_
  unfold B_Mo_run_27
  rw [e, if_neg (by decide), if_pos hk]
  refine ⟨rgk rfl, ?_⟩
  unfold B_Mo_run_47
  rw [if_pos (by omega)]
  refine ⟨by unfold rg; omega, by unfold rg; omega, 1, h, σ, r_due1 is p p2, rgk rfl, ?_⟩
  have n68 : (mup σ 58 67 (s + 1)) 58 68 = a := (mup_nk (by decide)).trans e68
  rw [if_pos (by decide), e67, e68]
  refine ⟨by unfold rg; omega, ?_⟩
  rcases B with ⟨q, B⟩ | ⟨⟨q1, q2⟩, h1, σ1, X, gk1, L⟩
  · by_cases q1 : s = 500
    · rw [if_pos q1]; exact B
    · rw [if_neg q1, if_neg (by omega)]
      exact ⟨by unfold rg; omega, B⟩
  · rw [if_neg q1, if_pos q2, n68]
    exact ⟨by unfold rg; omega, by unfold rg; omega, by unfold rg; omega, by unfold rg; omega, h1, σ1, X, gk1, L⟩
end MLOO
