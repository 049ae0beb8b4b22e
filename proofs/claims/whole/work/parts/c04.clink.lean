/-! The class's store of types: two types are made one. -/
def LG (σ : Mem) : Prop := ∀ u, rg (σ 44 u)
/-- an open variable -/
def Op (σ : Mem) (u : Int) : Prop := (0 ≤ u ∧ u < σ 38 5) ∧ σ 40 u = 63 ∧ ¬ lkd (cS σ) u
/-- it stands in a or b -/
def In2 (σ : Mem) (a b u : Int) : Prop := Oc (cS σ) u a ∨ Oc (cS σ) u b
/-- what lies further out than l, of those in n, stands in X -/
def gOk (σ : Mem) (l : Int) (X : Int → Prop) (n : Int) : Prop := ∀ u, Op σ u → Oc (cS σ) u n → σ 44 u < l → ∃ x, X x ∧ Oc (cS σ) u x
/-- the levels in n are at most l -/
def lOk (σ : Mem) (l n : Int) : Prop := ∀ u, Op σ u → Oc (cS σ) u n → σ 44 u ≤ l
/-- what may change when a and b are made one -/
def UF (σ σ' : Mem) (a b : Int) : Prop := (∀ i, i ≠ 42 → i ≠ 44 → σ' i = σ i) ∧ (∀ n, (Op σ n ∧ In2 σ a b n) ∨ σ' 42 n = σ 42 n) ∧ (∀ n, σ 40 n = 62 → σ' 44 n = σ 44 n) ∧ (∀ n, Op σ n → In2 σ a b n ∨ σ' 44 n = σ 44 n) ∧ (∀ n, Op σ' n → σ' 44 n ≤ σ 44 n) ∧ LG σ' ∧ (∀ l n, lOk σ l n → lOk σ' l n) ∧ (∀ l X, gOk σ l X a → gOk σ l X b → ∀ n, gOk σ l X n → gOk σ' l X n) ∧ (∀ n u, Op σ' u → Oc (cS σ') u n → Op σ u ∧ (Oc (cS σ) u n ∨ (In2 σ a b u ∧ ∃ w, Op σ w ∧ In2 σ a b w ∧ Oc (cS σ) w n)))
section CLK
variable {σ σ1 σ' : Mem} {d : Nat} {s : Sto} {a b : Int}
theorem oc_lk1 {v t b u n : Int} (hv : (s v).1 = 0 ∧ ¬ lkd s v) (o : Oc s u n) : Oc (upS s v (0, t, b)) u n := by
  obtain ⟨k, o⟩ := o
  induction k generalizing n with
  | zero => exact o.elim
  | succ k ih =>
    rcases o with o | ⟨h, o⟩ | ⟨h, o⟩ | ⟨h, o⟩
    · rw [o]; exact Oc.self
    · have ne : n ≠ v := fun e => hv.2 (by rw [← e]; exact h)
      have e : upS s v (0, t, b) n = s n := lk_ne ne
      exact Oc.lnk (by unfold lkd; rw [e]; exact h) (by rw [e]; exact ih o)
    · have ne : n ≠ v := fun e => by have := hv.1; rw [← e] at this; omega
      have e : upS s v (0, t, b) n = s n := lk_ne ne
      exact Oc.p4 (by rw [e]; exact h) (by rw [e]; exact ih o)
    · have ne : n ≠ v := fun e => by have := hv.1; rw [← e] at this; omega
      have e : upS s v (0, t, b) n = s n := lk_ne ne
      exact Oc.p5 (by rw [e]; exact h) (by rw [e]; rcases o with o | o; exact Or.inl (ih o); exact Or.inr (ih o))
theorem oc_lk {v t b u n : Int} (hv : (s v).1 = 0 ∧ ¬ lkd s v) (ht : 0 ≤ t) (hu : u ≠ v) : Oc (upS s v (0, t, b)) u n ↔ (Oc s u n ∨ (Oc s v n ∧ Oc s u t)) := by
  constructor
  · intro ⟨k, o⟩
    induction k generalizing n with
    | zero => exact o.elim
    | succ k ih =>
      by_cases ne : n = v
      · subst ne
        rcases o with o | ⟨h, o⟩ | ⟨h, o⟩ | ⟨h, o⟩
        · exact absurd o.symm hu
        · rw [lk_at] at o
          rcases ih o with o | ⟨_, o⟩
          · exact Or.inr ⟨Oc.self, o⟩
          · exact Or.inr ⟨Oc.self, o⟩
        · rw [lk_at] at h; exact absurd h (by show ¬ (0 : Int) = 4; decide)
        · rw [lk_at] at h; exact absurd h (by show ¬ (0 : Int) = 5; decide)
      · have e : upS s v (0, t, b) n = s n := lk_ne ne
        unfold oc lkd at o
        rw [e] at o
        rcases o with o | ⟨h, o⟩ | ⟨h, o⟩ | ⟨h, o | o⟩
        · rw [o]; exact Or.inl Oc.self
        · rcases ih o with o | ⟨o, p⟩
          · exact Or.inl (o.lnk h)
          · exact Or.inr ⟨o.lnk h, p⟩
        · rcases ih o with o | ⟨o, p⟩
          · exact Or.inl (o.p4 h)
          · exact Or.inr ⟨o.p4 h, p⟩
        · rcases ih o with o | ⟨o, p⟩
          · exact Or.inl (Oc.p5 h (Or.inl o))
          · exact Or.inr ⟨Oc.p5 h (Or.inl o), p⟩
        · rcases ih o with o | ⟨o, p⟩
          · exact Or.inl (Oc.p5 h (Or.inr o))
          · exact Or.inr ⟨Oc.p5 h (Or.inr o), p⟩
  · intro h
    rcases h with h | ⟨h1, h2⟩
    · exact oc_lk1 hv h
    · have e : upS s v (0, t, b) v = (0, t, b) := lk_at
      have o : Oc (upS s v (0, t, b)) u v := Oc.lnk (by unfold lkd; rw [e]; exact ⟨rfl, ht⟩) (by rw [e]; exact oc_lk1 hv h2)
      exact o.tr (oc_lk1 hv h1)
theorem UF.rf {a b : Int} (hl : LG σ) : UF σ σ a b := ⟨fun _ _ _ => rfl, fun _ => Or.inr rfl, fun _ _ => rfl, fun _ _ => Or.inr rfl, fun _ _ => Int.le_refl _, hl, fun _ _ h => h, fun _ _ _ _ _ h => h, fun _ _ a b => ⟨a, Or.inl b⟩⟩
theorem UF.k (h : UF σ σ' a b) : σ' 40 = σ 40 ∧ σ' 38 = σ 38 := ⟨h.1 40 (by decide) (by decide), h.1 38 (by decide) (by decide)⟩
/-- what is open was open -/
theorem UF.op {a b n : Int} (h : UF σ σ' a b) (o : Op σ' n) : Op σ n := by
  rcases h.2.1 n with q | q
  · exact q.1
  · obtain ⟨r, k, l⟩ := o
    rw [h.k.2] at r
    rw [h.k.1] at k
    refine ⟨r, k, fun hl => l ?_⟩
    refine ⟨?_, ?_⟩
    · show kC (σ' 40 n) = 0
      rw [h.k.1]; exact hl.1
    · show 0 ≤ σ' 42 n
      rw [q]; exact hl.2
theorem UF.mo {a b a1 b1 : Int} (h : UF σ σ' a1 b1) (hh : ∀ u, Op σ u → In2 σ a1 b1 u → In2 σ a b u) : UF σ σ' a b := by
  obtain ⟨f1, f2, f3, f4, f5, f6, f7, f8, f9⟩ := h
  refine ⟨f1, fun n => ?_, f3, fun n o => ?_, f5, f6, f7, fun l X ga gb n gn => f8 l X ?_ ?_ n gn, fun n u o oc => ?_⟩
  · rcases f2 n with q | q
    · exact Or.inl ⟨q.1, hh n q.1 q.2⟩
    · exact Or.inr q
  · rcases f4 n o with q | q
    · exact Or.inl (hh n o q)
    · exact Or.inr q
  · intro u o oc
    rcases hh u o (Or.inl oc) with q | q
    · exact ga u o q
    · exact gb u o q
  · intro u o oc
    rcases hh u o (Or.inr oc) with q | q
    · exact ga u o q
    · exact gb u o q
  · obtain ⟨p1, p2⟩ := f9 n u o oc
    refine ⟨p1, ?_⟩
    rcases p2 with p2 | ⟨p2, w, w1, w2, w3⟩
    · exact Or.inl p2
    · exact Or.inr ⟨hh u p1 p2, w, w1, hh w w1 w2, w3⟩
theorem UF.tr {a b a2 b2 : Int} (h : UF σ σ1 a b) (g : UF σ1 σ' a2 b2) (hh : ∀ u, Op σ u → In2 σ a2 b2 u → In2 σ a b u) : UF σ σ' a b := by
  have op := fun n (o : Op σ1 n) => h.op o
  have og := fun n (o : Op σ' n) => g.op o
  have hk := h.k
  obtain ⟨f1, f2, f3, f4, f5, f6, f7, f8, f9⟩ := h
  have i2 : ∀ u, Op σ1 u → In2 σ1 a2 b2 u → In2 σ a b u := by
    intro u o q
    rcases q with q | q
    · obtain ⟨p1, p2⟩ := f9 a2 u o q
      rcases p2 with p2 | p2
      · exact hh u p1 (Or.inl p2)
      · exact p2.1
    · obtain ⟨p1, p2⟩ := f9 b2 u o q
      rcases p2 with p2 | p2
      · exact hh u p1 (Or.inr p2)
      · exact p2.1
  obtain ⟨g1, g2, g3, g4, g5, g6, g7, g8, g9⟩ := g
  refine ⟨fun i a b => (g1 i a b).trans (f1 i a b), fun n => ?_, fun n e => ?_, fun n o => ?_, fun n o => ?_, g6, fun l n q => g7 l n (f7 l n q), fun l X ga gb n gn => ?_, fun n u o oc => ?_⟩
  · rcases f2 n with q | q
    · exact Or.inl q
    · rcases g2 n with p | p
      · exact Or.inl ⟨op n p.1, i2 n p.1 p.2⟩
      · exact Or.inr (p.trans q)
  · rw [g3 n (by rw [hk.1]; exact e), f3 n e]
  · by_cases o1 : Op σ1 n
    · rcases g4 n o1 with p | p
      · exact Or.inl (i2 n o1 p)
      · rcases f4 n o with q | q
        · exact Or.inl q
        · exact Or.inr (p.trans q)
    · rcases f2 n with q | q
      · exact Or.inl q.2
      · refine absurd ?_ o1
        obtain ⟨r, k, l⟩ := o
        refine ⟨by rw [hk.2]; exact r, by rw [hk.1]; exact k, fun hl => l ⟨?_, ?_⟩⟩
        · have := hl.1
          show kC (σ 40 n) = 0
          rw [← hk.1]; exact this
        · have := hl.2
          show 0 ≤ σ 42 n
          rw [← q]; exact this
  · exact Int.le_trans (g5 n o) (f5 n (og n o))
  · refine g8 l X ?_ ?_ n (f8 l X ga gb n gn)
    · refine f8 l X ga gb a2 (fun u o oc => ?_)
      rcases hh u o (Or.inl oc) with q | q
      · exact ga u o q
      · exact gb u o q
    · refine f8 l X ga gb b2 (fun u o oc => ?_)
      rcases hh u o (Or.inr oc) with q | q
      · exact ga u o q
      · exact gb u o q
  · obtain ⟨p1, p2⟩ := g9 n u o oc
    have ou := op u p1
    refine ⟨ou, ?_⟩
    have st : ∀ w, Op σ1 w → Oc (cS σ1) w n → (Oc (cS σ) w n ∨ ∃ w', Op σ w' ∧ In2 σ a b w' ∧ Oc (cS σ) w' n) := by
      intro w ow oc
      rcases (f9 n w ow oc).2 with q | q
      · exact Or.inl q
      · exact Or.inr q.2
    rcases p2 with p2 | ⟨p2, w, w1, w2, w3⟩
    · rcases (f9 n u p1 p2).2 with q | q
      · exact Or.inl q
      · exact Or.inr q
    · refine Or.inr ⟨i2 u p1 p2, ?_⟩
      rcases st w w1 w3 with q | q
      · exact ⟨w, op w w1, i2 w w1 w2, q⟩
      · exact q
end CLK
