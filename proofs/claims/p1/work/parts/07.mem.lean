/-! The abstract heap is held by the real one. -/
def cR (ad : List Nat) (tys : List (ClassId × FieldType)) (c : mCell) (E : va_E) : Prop := match E with
  | .inr o => c.1 = o.1 ∧ (∃ q, cls[o.1]? = some q ∧ o.2.length = q.2.2) ∧ c.2.1 = o.2.length ∧ ∀ k v, o.2[k]? = some v → vr ad (c.2.2 k) v
  | .inl A => c.2.1 = A.2.1 ∧ (match A.2.2 with
    | .inl f => ((c.1 = 100 ∧ (A.1, FieldType.int) ∈ tys) ∨ (c.1 = 101 ∧ (A.1, FieldType.char) ∈ tys) ∨ (c.1 = 102 ∧ (A.1, FieldType.boolean) ∈ tys)) ∧ ∀ j, j < A.2.1 → c.2.2 j = .int (f j)
    | .inr (.inl f) => (c.1 = 103 ∧ (A.1, FieldType.long) ∈ tys) ∧ ∀ j, j < A.2.1 → c.2.2 j = .long (f j)
    | .inr (.inr (.inl _)) => False
    | .inr (.inr (.inr (.inl f))) => (c.1 = 104 ∧ (A.1, FieldType.double) ∈ tys) ∧ ∀ j, j < A.2.1 → c.2.2 j = .double (f j)
    | .inr (.inr (.inr (.inr f))) => (c.1 = 105 ∧ (A.1, FieldType.object mR8) ∈ tys) ∧ ∀ j, j < A.2.1 → vr ad (c.2.2 j) (va_rf (f j)))
theorem cls_lt {ci : Nat} {q : vw_C} (h : cls[ci]? = some q) : ci < 12 := (List.getElem?_eq_some_iff.mp h).1
theorem cR.obj {ad : List Nat} {tys : List (ClassId × FieldType)} {c : mCell} {E : va_E} (h : cR ad tys c E) (hc : c.1 < 12) : ∃ fs q, E = .inr (c.1, fs) ∧ cls[c.1]? = some q ∧ fs.length = q.2.2 ∧ c.2.1 = fs.length ∧ ∀ k v, fs[k]? = some v → vr ad (c.2.2 k) v := by
  match E, h with
  | .inr (o, fs), h =>
    obtain ⟨h1, ⟨q, h2, h3⟩, h4, h5⟩ := h
    dsimp only at h1 h2 h3 h4 h5
    subst h1
    exact ⟨fs, q, rfl, h2, h3, h4, h5⟩
  | .inl (cA, n, .inl f), h => obtain ⟨-, (⟨h, -⟩ | ⟨h, -⟩ | ⟨h, -⟩), -⟩ := h <;> omega
  | .inl (cA, n, .inr (.inl f)), h => obtain ⟨-, ⟨h, -⟩, -⟩ := h; omega
  | .inl (cA, n, .inr (.inr (.inl f))), h => exact h.2.elim
  | .inl (cA, n, .inr (.inr (.inr (.inl f)))), h => obtain ⟨-, ⟨h, -⟩, -⟩ := h; omega
  | .inl (cA, n, .inr (.inr (.inr (.inr f)))), h => obtain ⟨-, ⟨h, -⟩, -⟩ := h; omega
theorem cR.i {ad : List Nat} {tys : List (ClassId × FieldType)} {c : mCell} {E : va_E} (h : cR ad tys c E) {t : Nat} {ft : FieldType} (ht : (t = 100 ∧ ft = .int) ∨ (t = 101 ∧ ft = .char) ∨ (t = 102 ∧ ft = .boolean)) (hc : c.1 = t) : ∃ cA f, E = .inl (cA, c.2.1, .inl f) ∧ (cA, ft) ∈ tys ∧ ∀ j, j < c.2.1 → c.2.2 j = .int (f j) := by
  have hr : 100 ≤ c.1 ∧ c.1 ≤ 102 := by omega
  match E, h with
  | .inr (o, fs), h =>
    obtain ⟨h1, ⟨q, h2, h3⟩, -⟩ := h
    have := cls_lt h2
    dsimp only at h1 this
    omega
  | .inl (cA, n, .inl f), h =>
    obtain ⟨h1, h2, h3⟩ := h
    dsimp only at h1 h2 h3
    subst h1
    refine ⟨cA, f, rfl, ?_, h3⟩
    rcases ht with ⟨rfl, rfl⟩ | ⟨rfl, rfl⟩ | ⟨rfl, rfl⟩ <;> rcases h2 with ⟨h, h'⟩ | ⟨h, h'⟩ | ⟨h, h'⟩ <;> first | exact h' | omega
  | .inl (cA, n, .inr (.inl f)), h => obtain ⟨-, ⟨h, -⟩, -⟩ := h; omega
  | .inl (cA, n, .inr (.inr (.inl f))), h => exact h.2.elim
  | .inl (cA, n, .inr (.inr (.inr (.inl f)))), h => obtain ⟨-, ⟨h, -⟩, -⟩ := h; omega
  | .inl (cA, n, .inr (.inr (.inr (.inr f)))), h => obtain ⟨-, ⟨h, -⟩, -⟩ := h; omega
theorem cR.l {ad : List Nat} {tys : List (ClassId × FieldType)} {c : mCell} {E : va_E} (h : cR ad tys c E) (hc : c.1 = 103) : ∃ cA f, E = .inl (cA, c.2.1, .inr (.inl f)) ∧ (cA, FieldType.long) ∈ tys ∧ ∀ j, j < c.2.1 → c.2.2 j = .long (f j) := by
  match E, h with
  | .inr (o, fs), h => obtain ⟨h1, ⟨q, h2, h3⟩, -⟩ := h; have := cls_lt h2; dsimp only at h1 this; omega
  | .inl (cA, n, .inl f), h => obtain ⟨-, (⟨h, -⟩ | ⟨h, -⟩ | ⟨h, -⟩), -⟩ := h <;> omega
  | .inl (cA, n, .inr (.inl f)), h =>
    obtain ⟨h1, ⟨-, h2⟩, h3⟩ := h
    dsimp only at h1 h2 h3
    subst h1
    exact ⟨cA, f, rfl, h2, h3⟩
  | .inl (cA, n, .inr (.inr (.inl f))), h => exact h.2.elim
  | .inl (cA, n, .inr (.inr (.inr (.inl f)))), h => obtain ⟨-, ⟨h, -⟩, -⟩ := h; omega
  | .inl (cA, n, .inr (.inr (.inr (.inr f)))), h => obtain ⟨-, ⟨h, -⟩, -⟩ := h; omega
theorem cR.d {ad : List Nat} {tys : List (ClassId × FieldType)} {c : mCell} {E : va_E} (h : cR ad tys c E) (hc : c.1 = 104) : ∃ cA f, E = .inl (cA, c.2.1, .inr (.inr (.inr (.inl f)))) ∧ (cA, FieldType.double) ∈ tys ∧ ∀ j, j < c.2.1 → c.2.2 j = .double (f j) := by
  match E, h with
  | .inr (o, fs), h => obtain ⟨h1, ⟨q, h2, h3⟩, -⟩ := h; have := cls_lt h2; dsimp only at h1 this; omega
  | .inl (cA, n, .inl f), h => obtain ⟨-, (⟨h, -⟩ | ⟨h, -⟩ | ⟨h, -⟩), -⟩ := h <;> omega
  | .inl (cA, n, .inr (.inl f)), h => obtain ⟨-, ⟨h, -⟩, -⟩ := h; omega
  | .inl (cA, n, .inr (.inr (.inl f))), h => exact h.2.elim
  | .inl (cA, n, .inr (.inr (.inr (.inl f)))), h =>
    obtain ⟨h1, ⟨-, h2⟩, h3⟩ := h
    dsimp only at h1 h2 h3
    subst h1
    exact ⟨cA, f, rfl, h2, h3⟩
  | .inl (cA, n, .inr (.inr (.inr (.inr f)))), h => obtain ⟨-, ⟨h, -⟩, -⟩ := h; omega
theorem cR.q {ad : List Nat} {tys : List (ClassId × FieldType)} {c : mCell} {E : va_E} (h : cR ad tys c E) (hc : c.1 = 105) : ∃ cA f, E = .inl (cA, c.2.1, .inr (.inr (.inr (.inr f)))) ∧ (cA, FieldType.object mR8) ∈ tys ∧ ∀ j, j < c.2.1 → vr ad (c.2.2 j) (va_rf (f j)) := by
  match E, h with
  | .inr (o, fs), h => obtain ⟨h1, ⟨q, h2, h3⟩, -⟩ := h; have := cls_lt h2; dsimp only at h1 this; omega
  | .inl (cA, n, .inl f), h => obtain ⟨-, (⟨h, -⟩ | ⟨h, -⟩ | ⟨h, -⟩), -⟩ := h <;> omega
  | .inl (cA, n, .inr (.inl f)), h => obtain ⟨-, ⟨h, -⟩, -⟩ := h; omega
  | .inl (cA, n, .inr (.inr (.inl f))), h => exact h.2.elim
  | .inl (cA, n, .inr (.inr (.inr (.inl f)))), h => obtain ⟨-, ⟨h, -⟩, -⟩ := h; omega
  | .inl (cA, n, .inr (.inr (.inr (.inr f)))), h =>
    obtain ⟨h1, ⟨-, h2⟩, h3⟩ := h
    dsimp only at h1 h2 h3
    subst h1
    exact ⟨cA, f, rfl, h2, h3⟩
theorem cR.app {ad x : List Nat} {tys ty' : List (ClassId × FieldType)} {c : mCell} {E : va_E} (h : cR ad tys c E) : cR (ad ++ x) (tys ++ ty') c E := by
  have m : ∀ {q}, q ∈ tys → q ∈ tys ++ ty' := fun h => List.mem_append_left _ h
  match E, h with
  | .inr (o, fs), h => exact ⟨h.1, h.2.1, h.2.2.1, fun k v hk => (h.2.2.2 k v hk).app⟩
  | .inl (cA, n, .inl f), h =>
    obtain ⟨h1, h2, h3⟩ := h
    exact ⟨h1, h2.imp (fun q => ⟨q.1, m q.2⟩) (fun q => q.imp (fun q => ⟨q.1, m q.2⟩) (fun q => ⟨q.1, m q.2⟩)), h3⟩
  | .inl (cA, n, .inr (.inl f)), h => exact ⟨h.1, ⟨h.2.1.1, m h.2.1.2⟩, h.2.2⟩
  | .inl (cA, n, .inr (.inr (.inl f))), h => exact h.2.elim
  | .inl (cA, n, .inr (.inr (.inr (.inl f)))), h => exact ⟨h.1, ⟨h.2.1.1, m h.2.1.2⟩, h.2.2⟩
  | .inl (cA, n, .inr (.inr (.inr (.inr f)))), h => exact ⟨h.1, ⟨h.2.1.1, m h.2.1.2⟩, fun j hj => (h.2.2 j hj).app⟩
def hR (ad : List Nat) (ws : va_W) (tys : List (ClassId × FieldType)) (h : mHp) : Prop :=
  ad.length = h.1 ∧ (∀ (i a : Nat), ad[i]? = some a → hTag h i < 106 → ∃ (k : Nat) (E : va_E), ws[k]? = some (a, E) ∧ cR ad tys (h.2.2 i) E) ∧ (∀ (i j a : Nat), ad[i]? = some a → ad[j]? = some a → hTag h i < 106 → hTag h j < 106 → i = j)
theorem hTag_set (h : mHp) (i k : Nat) (v : Value) (j : Nat) : hTag (hSet h i k v) j = hTag h j := by
  unfold hTag hSet
  dsimp only
  by_cases q : j = i
  · subst q; rw [if_pos rfl]
  · rw [if_neg q]
theorem hR.set {ad : List Nat} {ws : va_W} {tys : List (ClassId × FieldType)} {h : mHp} {i a k kk : Nat} {v : Value} {E E' : va_E} (R : hR ad ws tys h) (hi : ad[i]? = some a) (ht : hTag h i < 106) (hk : ws[k]? = some (a, E)) (hE : cR ad tys ((h.2.2 i).1, (h.2.2 i).2.1, fun x => if x = kk then v else (h.2.2 i).2.2 x) E') :
    hR ad (ws.set k (a, E')) tys (hSet h i kk v) := by
  obtain ⟨h1, h2, h3⟩ := R
  refine ⟨h1, fun j b hj hl => ?_, fun j1 j2 b q1 q2 t1 t2 => ?_⟩
  · rw [hTag_set] at hl
    by_cases q : j = i
    · subst q
      rw [hi] at hj
      cases hj
      refine ⟨k, E', ?_, ?_⟩
      · rw [List.getElem?_set_self (List.getElem?_eq_some_iff.mp hk).1]
      · have e : (hSet h j kk v).2.2 j = ((h.2.2 j).1, (h.2.2 j).2.1, fun x => if x = kk then v else (h.2.2 j).2.2 x) := by unfold hSet; dsimp only; rw [if_pos rfl]
        rw [e]
        exact hE
    · obtain ⟨kj, Ej, e1, e2⟩ := h2 j b hj hl
      have hne : k ≠ kj := by
        intro e
        subst e
        rw [hk] at e1
        cases e1
        exact q (h3 j i a hj hi hl ht)
      refine ⟨kj, Ej, ?_, ?_⟩
      · rw [List.getElem?_set_ne hne]; exact e1
      · have e : (hSet h i kk v).2.2 j = h.2.2 j := by unfold hSet; dsimp only; rw [if_neg q]
        rw [e]
        exact e2
  · rw [hTag_set] at t1 t2
    exact h3 j1 j2 b q1 q2 t1 t2
theorem hNew_old (h : mHp) (t n : Nat) (f : Nat → Value) {j : Nat} (hj : j < h.1) : (hNew h t n f).2.2 j = h.2.2 j := by
  unfold hNew; dsimp only; rw [if_neg (by omega)]
theorem hNew_new (h : mHp) (t n : Nat) (f : Nat → Value) : (hNew h t n f).2.2 h.1 = (t, n, f) := by
  unfold hNew; dsimp only; rw [if_pos rfl]
theorem app_cases {ad : List Nat} {q j b : Nat} (h : (ad ++ [q])[j]? = some b) : (j < ad.length ∧ ad[j]? = some b) ∨ (j = ad.length ∧ b = q) := by
  rcases Nat.lt_or_ge j ad.length with g | g
  · rw [List.getElem?_append_left g] at h; exact Or.inl ⟨g, h⟩
  · rw [List.getElem?_append_right g] at h
    cases e : j - ad.length with
    | zero => rw [e] at h; cases h; exact Or.inr ⟨by omega, rfl⟩
    | succ z => rw [e] at h; simp at h
theorem hR.new {ad : List Nat} {ws : va_W} {tys ty' : List (ClassId × FieldType)} {h : mHp} {A : Nat → Prop} {q t n : Nat} {f : Nat → Value} {E : va_E} (R : hR ad ws tys h) (hD : va_D A (ws ++ [(q, E)])) (hE : cR (ad ++ [q]) (tys ++ ty') (t, n, f) E) :
    hR (ad ++ [q]) (ws ++ [(q, E)]) (tys ++ ty') (hNew h t n f) := by
  obtain ⟨h1, h2, h3⟩ := R
  have last : (ws ++ [(q, E)])[ws.length]? = some (q, E) := by rw [List.getElem?_append_right (Nat.le_refl _)]; simp
  have fresh : ∀ i, ad[i]? = some q → hTag h i < 106 → False := by
    intro i hi ht
    obtain ⟨k, E2, e1, -⟩ := h2 i q hi ht
    have hk := (List.getElem?_eq_some_iff.mp e1).1
    have e3 : (ws ++ [(q, E)])[k]? = some (q, E2) := by rw [List.getElem?_append_left hk]; exact e1
    have := hD.1 k ws.length _ _ e3 last rfl
    omega
  have tg : ∀ j, j < ad.length → hTag (hNew h t n f) j = hTag h j := fun j hj => by unfold hTag; rw [hNew_old h t n f (by omega)]
  refine ⟨by rw [List.length_append, h1]; rfl, fun j b hj hl => ?_, fun j1 j2 b q1 q2 t1 t2 => ?_⟩
  · rcases app_cases hj with ⟨g, hj⟩ | ⟨g, rfl⟩
    · rw [tg j g] at hl
      obtain ⟨k, E2, e1, e2⟩ := h2 j b hj hl
      exact ⟨k, E2, by rw [List.getElem?_append_left (List.getElem?_eq_some_iff.mp e1).1]; exact e1, by rw [hNew_old h t n f (by omega)]; exact e2.app⟩
    · refine ⟨ws.length, E, last, ?_⟩
      rw [g, h1, hNew_new]
      exact hE
  · rcases app_cases q1 with ⟨g1, r1⟩ | ⟨g1, e1⟩ <;> rcases app_cases q2 with ⟨g2, r2⟩ | ⟨g2, e2⟩
    · rw [tg _ g1] at t1; rw [tg _ g2] at t2; exact h3 j1 j2 b r1 r2 t1 t2
    · rw [tg _ g1] at t1; rw [e2] at r1; exact (fresh j1 r1 t1).elim
    · rw [tg _ g2] at t2; rw [e1] at r2; exact (fresh j2 r2 t2).elim
    · omega
/-- a cell that the abstract machine never looks at again -/
theorem hR.dead {ad : List Nat} {ws : va_W} {tys : List (ClassId × FieldType)} {h : mHp} {q t n : Nat} {f : Nat → Value} (R : hR ad ws tys h) (ht : 106 ≤ t) : hR (ad ++ [q]) ws tys (hNew h t n f) := by
  obtain ⟨h1, h2, h3⟩ := R
  have tg : ∀ j, j < ad.length → hTag (hNew h t n f) j = hTag h j := fun j hj => by unfold hTag; rw [hNew_old h t n f (by omega)]
  have tl : hTag (hNew h t n f) ad.length = t := by unfold hTag; rw [h1, hNew_new]
  refine ⟨by rw [List.length_append, h1]; rfl, fun j b hj hl => ?_, fun j1 j2 b q1 q2 t1 t2 => ?_⟩
  · rcases app_cases hj with ⟨g, hj⟩ | ⟨g, rfl⟩
    · rw [tg j g] at hl
      obtain ⟨k, E2, e1, e2⟩ := h2 j b hj hl
      exact ⟨k, E2, e1, by rw [hNew_old h t n f (by omega)]; have := e2.app (x := [q]) (ty' := []); rwa [List.append_nil] at this⟩
    · rw [g, tl] at hl; omega
  · rcases app_cases q1 with ⟨g1, r1⟩ | ⟨g1, e1⟩ <;> rcases app_cases q2 with ⟨g2, r2⟩ | ⟨g2, e2⟩
    · rw [tg _ g1] at t1; rw [tg _ g2] at t2; exact h3 j1 j2 b r1 r2 t1 t2
    · rw [g2, tl] at t2; omega
    · rw [g1, tl] at t1; omega
    · omega
def mW (D : va_G) (A : Nat → Prop) (H0 : Heap) (s : State) (ad : List Nat) (h : mHp) (H : Heap) (locs : List Loc) : Prop := ∃ ws tys, va_K D cls tys s ∧ va_P D cls ws H ∧ va_D A ws ∧ va_S A H0 H locs ∧ hR ad ws tys h
def nwOK (U : State) : Prop := va_AO mR8 U ∧ va_Nw (.methodLinkNest "FunDesk" 9 ⟨"FunDesk$Line", "<init>", "()V"⟩ "FunDesk") U ∧ va_Nw (.methodLinkNest "FunDesk" 18 ⟨"FunDesk$Tree", "<init>", "()V"⟩ "FunDesk") U ∧ va_Nw (.methodLinkNest "FunDesk" 37 ⟨"FunDesk$Types", "<init>", "()V"⟩ "FunDesk") U
theorem nwOK.warm {s U : State} (hW : s.WarmedH U.vm) (h : nwOK s) : nwOK U := ⟨h.1.moved hW.alike, va_Nw.warmM hW h.2.1, va_Nw.warmM hW h.2.2.1, va_Nw.warmM hW h.2.2.2⟩
theorem fits_vr {ad : List Nat} {t : FieldType} {v c : Value} (h : fits t v = true) (hv : vr ad v c) : fits t c = true := by
  cases v <;> first | (obtain rfl : c = _ := hv; exact h) | (obtain ⟨a, -, rfl⟩ := hv; cases t <;> first | rfl | exact h) | (cases t <;> cases h)
theorem narrow_fits {t : FieldType} {v : Value} (ho : okTy t = true) (h : fits t v = true) : narrow t v = v := by
  cases t <;> first | (cases ho; done) | skip
  all_goals cases v <;> first | rfl | (cases h; done) | skip
  all_goals (simp only [fits, Bool.or_eq_true, beq_iff_eq] at h; rcases h with rfl | rfl <;> rfl)
