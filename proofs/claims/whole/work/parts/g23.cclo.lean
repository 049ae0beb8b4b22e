/-! Working out with places: every name met is bound. -/
/-- functions in values know all their names -/
def vCl : Std.Format → Bool → Prop
  | .nest _ (.append v ρ), true => vCl v false ∧ vCl ρ true
  | .append a b, false => vCl a false ∧ vCl b false
  | .tag 5 (.append lam ρ), false => clo lam (mb (nmEn ρ)) = true ∧ vCl ρ true
  | .tag 6 (.nest f (.append lam ρ)), false => clo lam (mb (f :: nmEn ρ)) = true ∧ vCl ρ true
  | _, _ => True
def k14 : Tr → Option Int
  | .tag k (.nest z _) => if k = 14 then some z else none
  | _ => none
def hd14 : Cx → Option Int
  | [] => none
  | (j, N) :: _ => if j = 1 then k14 N else none
def bk3 : Tr → Bool
  | .tag k _ => decide (k = 13 ∨ k = 14 ∨ k = 17)
  | _ => false
def cxCl : Cx → En → Prop
  | [], _ => True
  | (j, N) :: cx, ρ => hd14 cx = none ∧ (if j ≠ 1 ∧ bk3 N = true then cxCl cx (drp (numB N) ρ) else clo N (mb (nmEn ρ)) = true ∧ cxCl cx ρ)
/-- a value; REC's first part may want REC's name -/
def vTop : Option Int → Va → Prop
  | none, v => vCl v false
  | some z, v => ∃ lam ρ, v = vF lam ρ ∧ vCl ρ true ∧ clo lam (mb (z :: nmEn ρ)) = true
def vsC : Option Int → List Va → Prop
  | _, [] => True
  | q, v :: vs => vTop q v ∧ ∀ w ∈ vs, vCl w false
def tCl : Option Int → Tr → En → Prop
  | none, T, ρ => clo T (mb (nmEn ρ)) = true
  | some z, T, ρ => isFn T ∧ clo T (mb (z :: nmEn ρ)) = true
def wkC : WkS → Prop
  | (m, T, cx, ρ, vs, fs) => (vCl ρ true ∧ cxCl cx ρ) ∧ (∀ f ∈ fs, vCl f.2 true ∧ cxCl f.1 f.2 ∧ hd14 f.1 = none) ∧
    (if m = 0 then (∀ v ∈ vs, vCl v false) ∧ tCl (hd14 cx) T ρ
     else if m = 1 then vsC (hd14 cx) vs
     else (clo T (mb (nmEn ρ)) = true ∧ hd14 cx = none) ∧ vsC (k14 T) vs)
section WKC
theorem vCl_lkp {z : Int} : ∀ {ρ : En}, vCl ρ true → vCl (lkp z ρ) false := by
  intro ρ
  fun_induction lkp z ρ with
  | case1 => intro c; exact c.1
  | case2 => rename_i ih; intro c; exact ih c.2
  | case3 => intro _; trivial
theorem vCl_drp : ∀ {n : Nat} {ρ : En}, vCl ρ true → vCl (drp n ρ) true := by
  intro n ρ
  fun_induction drp n ρ with
  | case1 => intro c; exact c
  | case2 => rename_i ih; intro c; exact ih c.2
  | case3 => intro c; exact c
theorem vsC_0 {vs : List Va} (h : vsC none vs) : ∀ v ∈ vs, vCl v false := by
  cases vs with
  | nil => intro v hv; cases hv
  | cons w vs =>
    intro v hv
    rcases List.mem_cons.mp hv with e | e
    · rw [e]; exact h.1
    · exact h.2 v e
theorem vsC_1 {vs : List Va} (h : ∀ v ∈ vs, vCl v false) : vsC none vs := by
  cases vs with
  | nil => trivial
  | cons w vs => exact ⟨h w List.mem_cons_self, fun v hv => h v (List.mem_cons_of_mem _ hv)⟩
theorem fit_nm : ∀ {P : Tr} {v : Va} {ρ ρ' : En}, wfP P → fitE P v ρ = some ρ' → nmEn ρ' = (bnd P).reverse ++ nmEn ρ ∧ drp (bnd P).length ρ' = ρ ∧ (vCl v false → vCl ρ true → vCl ρ' true) := by
  intro P v ρ
  fun_induction fitE P v ρ with
  | case1 | case3 | case5 =>
    intro ρ' w h
    cases h
    obtain ⟨-, rfl, rfl, -⟩ := w
    exact ⟨rfl, rfl, fun _ c => c⟩
  | case2 | case4 | case6 => intro ρ' _ h; cases h
  | case7 => intro ρ' w h; cases h; exact ⟨rfl, rfl, fun a c => ⟨a, c⟩⟩
  | case8 =>
    intro ρ' w h
    cases h
    obtain ⟨-, rfl, rfl, -⟩ := w
    exact ⟨rfl, rfl, fun _ c => c⟩
  | case9 =>
    rename_i h1 i1 i2
    intro ρ' w h
    obtain ⟨-, wA, wB, -⟩ := w
    obtain ⟨a1, a2, a3⟩ := i1 wA h1
    obtain ⟨b1, b2, b3⟩ := i2 wB h
    refine ⟨?_, ?_, fun q c => b3 q.2 (a3 q.1 c)⟩
    · show _ = (bnd _ ++ bnd _).reverse ++ _
      rw [b1, a1, List.reverse_append, List.append_assoc]
    · show drp (bnd _ ++ bnd _).length _ = _
      rw [List.length_append, drp_add, b2, a2]
  | case10 => intro ρ' _ h; cases h
  | case11 => intro ρ' _ h; cases h
  | case12 => intro ρ' _ h; cases h
  | case13 => intro ρ' _ h; cases h
theorem br_C : ∀ {B : Tr} {v : Va} {ρ : En} {E br : Tr} {ρ' : En}, brF B v ρ = some (E, br, ρ') → wf B → clo B (mb (nmEn ρ)) = true → vCl v false → vCl ρ true → clo E (mb (nmEn ρ')) = true ∧ vCl ρ' true ∧ drp (numB br) ρ' = ρ ∧ bk3 br = true := by
  intro B v ρ
  fun_induction brF B v ρ with
  | case1 z P E C v ρ ρ1 h =>
    intro E' br ρ' e w c b r
    cases e
    have w : (z = (bnd P).length ∧ (bnd P).Nodup) ∧ wfP P ∧ isE E ∧ wf E ∧ (C = nl ∨ (isBr C ∧ wf C)) := w
    have c : (clo E (addl (mb (nmEn ρ)) (bnd P)) && clo C (mb (nmEn ρ))) = true := c
    obtain ⟨n1, n2, n3⟩ := fit_nm w.2.1 h
    rw [addl_mb, Bool.and_eq_true] at c
    refine ⟨by rw [n1]; exact c.1, n3 b r, ?_, rfl⟩
    show drp z.toNat ρ1 = ρ
    rw [w.1.1, Int.toNat_natCast]; exact n2
  | case2 z P E C v ρ h ih =>
    intro E' br ρ' e w c b r
    have w : (z = (bnd P).length ∧ (bnd P).Nodup) ∧ wfP P ∧ isE E ∧ wf E ∧ (C = nl ∨ (isBr C ∧ wf C)) := w
    have c : (clo E (addl (mb (nmEn ρ)) (bnd P)) && clo C (mb (nmEn ρ))) = true := c
    rw [Bool.and_eq_true] at c
    rcases w.2.2.2.2 with q | q
    · subst q; simp [brF] at e
    · exact ih e q.2 c.2 b r
  | case3 => intro E' br ρ' e; cases e
theorem clo_a {k : Nat} {z : Int} {A B C : Tr} {e : Int → Bool} (h : clo (nd k z A B C) e = true) (h5 : k ≠ 5) (h12 : k ≠ 12) (h14 : k ≠ 14) (h17 : k ≠ 17) : clo A e = true := by
  rw [clo_nd, if_neg h5, if_neg h12] at h
  split at h
  · rw [Bool.and_eq_true] at h; exact h.1
  · simp only [if_neg h14, if_neg h17, Bool.and_eq_true] at h; exact h.1
theorem clo_bc {k : Nat} {z : Int} {A B C : Tr} {e : Int → Bool} (h : clo (nd k z A B C) e = true) (h5 : k ≠ 5) (h12 : k ≠ 12) (h13 : k ≠ 13) (h14 : k ≠ 14) (h17 : k ≠ 17) : clo B e = true ∧ clo C e = true := by
  rw [clo_nd, if_neg h5, if_neg h12, if_neg h13, if_neg h14, if_neg h17, Bool.and_eq_true, Bool.and_eq_true] at h
  exact h.2
theorem clo_14 {z : Int} {A B C : Tr} {G : List Int} (h : clo (nd 14 z A B C) (mb G) = true) : clo A (mb (z :: G)) = true ∧ clo B (mb (z :: G)) = true := by
  rw [clo_nd, if_neg (by decide), if_neg (by decide), if_neg (by decide), if_pos rfl, Bool.and_eq_true, adde_mb] at h
  exact h
theorem clo_13 {z : Int} {A B C : Tr} {G : List Int} (h : clo (nd 13 z A B C) (mb G) = true) : clo B (mb (z :: G)) = true := by
  rw [clo_nd, if_neg (by decide), if_neg (by decide), if_pos rfl, Bool.and_eq_true, adde_mb] at h
  exact h.2
theorem lf_C {k : Nat} {z : Int} {A B C : Tr} {ρ : En} (hk : k ≤ 5 ∨ k = 12) (w : clo (nd k z A B C) (mb (nmEn ρ)) = true) (r : vCl ρ true) : vCl (lfV k z (nd k z A B C) ρ) false := by
  unfold lfV
  split
  · trivial
  split
  · trivial
  split
  · trivial
  split
  · trivial
  split
  · trivial
  split
  · exact vCl_lkp r
  · exact ⟨w, r⟩
theorem opV_C {z : Int} {a b v : Va} (h : opV z a b = .inl v) : vCl v false := by
  obtain ⟨k, x, hk, rfl⟩ := opV_v h
  match k, hk with
  | 0, _ => trivial
  | 1, _ => trivial
  | 2, _ => trivial
theorem wk_c1 {S S' : WkS} (v : wkV S) (w : wkC S) (h : wkM S = some S') : wkC S' := by
  obtain ⟨⟨v1, -⟩, -⟩ := v
  unfold wkM at h
  split at h
  · next k z A B C cx ρ vs fs =>
    obtain ⟨⟨r, c⟩, f, w1, w2⟩ := w
    have v1 : isE (nd k z A B C) ∧ wf (nd k z A B C) := by
      rcases v1 with e | e | e
      · exact e.2
      · cases e
      · cases e.1
    split at h
    · next q =>
      cases h
      refine ⟨⟨r, c⟩, f, ?_, w1⟩
      revert w2
      cases hd14 cx with
      | none => intro w2; exact lf_C q w2 r
      | some y =>
        intro w2
        have k12 : k = 12 := w2.1
        subst k12
        exact ⟨_, _, rfl, r, w2.2⟩
    · next q =>
      cases h
      have h14 : hd14 cx = none := by
        revert w2
        cases hd14 cx with
        | none => intro _; rfl
        | some y => intro w2; have k12 : k = 12 := w2.1; omega
      rw [h14] at w2
      have ke : k ≤ 16 ∧ k ≠ 6 ∧ k ≠ 7 := v1.1
      refine ⟨⟨r, h14, ?_⟩, f, w1, ?_⟩
      · rw [if_neg (fun e => e.1 rfl)]; exact ⟨w2, c⟩
      · show tCl (if 1 = 1 then k14 (nd k z A B C) else none) A ρ
        rw [if_pos rfl]
        show tCl (if k = 14 then some z else none) A ρ
        by_cases e14 : k = 14
        · subst e14
          have ww : ltZ z ∧ isFn A ∧ wf A ∧ isE B ∧ wf B ∧ C = nl := v1.2
          exact ⟨ww.2.1, (clo_14 w2).1⟩
        · rw [if_neg e14]; exact clo_a w2 (by omega) (by omega) e14 (by omega)
  · next T j k z A B C cx ρ vs fs =>
    obtain ⟨⟨r, h14, c⟩, f, w1⟩ := w
    have w1 : vsC (if j = 1 then k14 (nd k z A B C) else none) vs := w1
    split at h
    · next q =>
      subst q
      rw [if_neg (fun e => e.1 rfl)] at c
      rw [if_pos rfl] at w1
      have w1' : vsC (if k = 14 then some z else none) vs := w1
      split at h
      · next b =>
        cases h
        rw [if_neg (by omega)] at w1'
        refine ⟨⟨r, h14, ?_⟩, f, vsC_0 w1', (clo_bc c.1 (by omega) (by omega) (by omega) (by omega) (by omega)).1⟩
        rw [if_neg (fun e => by have := of_decide_eq_true e.2; omega)]; exact c
      · next b => cases h; exact ⟨⟨r, c.2⟩, f, ⟨c.1, h14⟩, w1⟩
    · next q =>
      rw [if_neg q] at w1
      split at h
      · next b =>
        cases h
        rw [if_neg (fun e => by have := of_decide_eq_true e.2; omega)] at c
        refine ⟨⟨r, c.2⟩, f, ⟨c.1, h14⟩, ?_⟩
        show vsC (if k = 14 then some z else none) vs
        rw [if_neg (by omega)]; exact w1
      · split at h
        · next b =>
          cases h
          rw [if_pos ⟨q, decide_eq_true b⟩] at c
          refine ⟨⟨vCl_drp r, c⟩, f, ?_⟩
          show vsC (hd14 cx) vs
          rw [h14]; exact w1
        · next b =>
          cases h
          rw [if_neg (fun e => b (of_decide_eq_true e.2))] at c
          refine ⟨⟨r, c.2⟩, f, ?_⟩
          show vsC (hd14 cx) vs
          rw [h14]; exact w1
  · next T ρ vs cx ρ' fs =>
    cases h
    obtain ⟨-, f, w1⟩ := w
    obtain ⟨f1, f2, f3⟩ := f _ List.mem_cons_self
    have w1 : vsC none vs := w1
    refine ⟨⟨f1, f2⟩, fun g hg => f g (List.mem_cons_of_mem _ hg), ?_⟩
    show vsC (hd14 cx) vs
    rw [show hd14 cx = none from f3]; exact w1
  · cases h
theorem fnC {y : Int} {b R : Tr} {G : List Int} (hw : wf (.tag 12 (.nest y (.append b R)))) (h : clo (.tag 12 (.nest y (.append b R))) (mb G) = true) : clo b (mb (y :: G)) = true := by
  unfold wf at hw
  split at hw
  · next k z A B C e =>
    cases e
    have h : clo (nd 12 y b B C) (mb G) = true := h
    rw [clo_nd, if_neg (by decide), if_pos rfl, adde_mb] at h
    exact h
  · exact hw.elim
theorem wk_c2 {S S' : WkS} (v : wkV S) (w : wkC S) (h : wkS S = some (.inl S')) : wkC S' := by
  obtain ⟨⟨v1, -⟩, -, v2, -⟩ := v
  unfold wkS at h
  split at h
  · next k z A B C cx ρ vs fs =>
    obtain ⟨⟨r, c⟩, f, ⟨w1, h14⟩, w2⟩ := w
    have v9 : isE (nd k z A B C) ∧ wf (nd k z A B C) := by
      rcases v1 with e | e | e
      · cases e.1
      · cases e
      · exact ⟨e.2.1, e.2.2.1⟩
    have w2 : vsC (if k = 14 then some z else none) vs := w2
    have nx : ∀ {v : Va} {vs' : List Va}, vCl v false → (∀ v ∈ vs', vCl v false) → wkC (1, nl, cx, ρ, v :: vs', fs) := fun a b => ⟨⟨r, c⟩, f, by
      show vsC (hd14 cx) (_ :: _)
      rw [h14]; exact ⟨a, b⟩⟩
    have cp : ∀ {j : Nat}, ¬ (j ≠ 1 ∧ bk3 (nd k z A B C) = true) → cxCl ((j, nd k z A B C) :: cx) ρ := fun q => ⟨h14, by rw [if_neg q]; exact ⟨w1, c⟩⟩
    split at h
    · next v vs' _ =>
      cases h
      have w2 := vsC_0 w2
      exact nx trivial (fun v hv => w2 v (List.mem_cons_of_mem _ hv))
    · next b a vs' _ =>
      have w2 := vsC_0 w2
      split at h
      · next v hv => cases h; exact nx (opV_C hv) (fun v hv => w2 v (List.mem_cons_of_mem _ (List.mem_cons_of_mem _ hv)))
      · cases h
    · next b a vs' _ =>
      have w2 := vsC_0 w2
      cases h; exact nx ⟨w2 a (List.mem_cons_of_mem _ List.mem_cons_self), w2 b List.mem_cons_self⟩ (fun v hv => w2 v (List.mem_cons_of_mem _ (List.mem_cons_of_mem _ hv)))
    · next x g vs' _ =>
      have w2 := vsC_0 w2
      have hx := w2 x List.mem_cons_self
      have hf := w2 g (List.mem_cons_of_mem _ List.mem_cons_self)
      have vf := v2 g (List.mem_cons_of_mem _ List.mem_cons_self)
      have hv' : ∀ v ∈ vs', vCl v false := fun v hv => w2 v (List.mem_cons_of_mem _ (List.mem_cons_of_mem _ hv))
      have f' : ∀ q ∈ (cx, ρ) :: fs, vCl q.2 true ∧ cxCl q.1 q.2 ∧ hd14 q.1 = none := fun q hq => by
        rcases List.mem_cons.mp hq with e | e
        · rw [e]; exact ⟨r, c, h14⟩
        · exact f q e
      split at h
      · cases h
        refine nx ?_ hv'
        split <;> trivial
      · next y b R ρ' =>
        cases h
        exact ⟨⟨⟨hx, hf.2⟩, trivial⟩, f', hv', fnC vf.2.1.1 hf.1⟩
      · next g y b R ρ' =>
        cases h
        exact ⟨⟨⟨hx, hf, hf.2⟩, trivial⟩, f', hv', fnC vf.2.1.1 hf.1⟩
      · cases h
    · next v vs' _ =>
      have w2 := vsC_0 w2
      cases h
      refine ⟨⟨⟨w2 v List.mem_cons_self, r⟩, h14, ?_⟩, f, fun v hv => w2 v (List.mem_cons_of_mem _ hv), clo_13 w1⟩
      rw [if_pos ⟨by decide, rfl⟩]; exact c
    · next v vs' _ =>
      split at h
      · next lam ρ' =>
        cases h
        obtain ⟨⟨lam2, ρ2, e, rr, cl⟩, w3⟩ := w2
        cases e
        refine ⟨⟨⟨⟨cl, rr⟩, r⟩, h14, ?_⟩, f, w3, (clo_14 w1).2⟩
        rw [if_pos ⟨by decide, rfl⟩]; exact c
      · cases h
    · next v vs' _ =>
      have w2 := vsC_0 w2
      have cb := clo_bc w1 (by decide) (by decide) (by decide) (by decide) (by decide)
      split at h
      · cases h; exact ⟨⟨r, cp (fun e => by cases e.2)⟩, f, fun v hv => w2 v (List.mem_cons_of_mem _ hv), cb.1⟩
      · cases h; exact ⟨⟨r, cp (fun e => by cases e.2)⟩, f, fun v hv => w2 v (List.mem_cons_of_mem _ hv), cb.2⟩
    · next v vs' _ =>
      have w2 := vsC_0 w2
      split at h
      · next E br ρ' hb =>
        cases h
        have ww : z = 0 ∧ isE A ∧ wf A ∧ isBr B ∧ wf B ∧ C = nl := v9.2
        obtain ⟨x1, x2, x3, x4⟩ := br_C hb ww.2.2.2.2.1 (clo_bc w1 (by decide) (by decide) (by decide) (by decide) (by decide)).1 (w2 v List.mem_cons_self) r
        refine ⟨⟨x2, h14, ?_⟩, f, fun v hv => w2 v (List.mem_cons_of_mem _ hv), x1⟩
        rw [if_pos ⟨by decide, x4⟩, x3]; exact c
      · cases h
    · cases h
  · cases h
/-- a name that is entered is bound -/
theorem wkC.nm {k : Nat} {z : Int} {A B C : Tr} {cx : Cx} {ρ : En} {vs : List Va} {fs : List (Cx × En)} (w : wkC (0, nd k z A B C, cx, ρ, vs, fs)) (h : k = 5) : z ∈ nmEn ρ := by
  obtain ⟨-, -, -, w2⟩ := w
  subst h
  revert w2
  cases hd14 cx with
  | none =>
    intro w2
    have w2 : clo (nd 5 z A B C) (mb (nmEn ρ)) = true := w2
    rw [clo_nd, if_pos rfl] at w2
    exact of_decide_eq_true w2
  | some y => intro w2; have k12 : (5 : Nat) = 12 := w2.1; omega
theorem wkC.st {T : Tr} (h : clo T (fun _ => false) = true) : wkC (0, T, [], eN, [], []) := ⟨⟨trivial, trivial⟩, (fun f hf => by cases hf), (fun v hv => by cases hv), by
  show clo T (mb []) = true
  rw [show mb [] = fun _ => false from rfl]
  exact h⟩
end WKC
