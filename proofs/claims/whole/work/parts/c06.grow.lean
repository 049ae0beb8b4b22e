/-! How a store of types grows (a store: its nodes, how many, the level of each variable; 1000: general). -/
abbrev TS : Type := (Int → Int × Int × Int) × Int × (Int → Int)
def oP (S : TS) (u : Int) : Prop := (0 ≤ u ∧ u < S.2.1) ∧ (S.1 u).1 = 0 ∧ ¬ lkd S.1 u
def InM (S : TS) (M : Int → Prop) (u : Int) : Prop := ∃ m, M m ∧ Oc S.1 u m
def gO (S : TS) (l : Int) (X : Int → Prop) (n : Int) : Prop := ∀ u, oP S u → Oc S.1 u n → S.2.2 u < l → InM S X u
def lO (S : TS) (l n : Int) : Prop := ∀ u, oP S u → Oc S.1 u n → S.2.2 u ≤ l
def inC (S : TS) (X : Int → Prop) : Prop := ∀ m, X m → 0 ≤ m ∧ m < S.2.1
/-- only variables in M are linked, or put further out; nodes are added -/
def XE (S S' : TS) (M : Int → Prop) (h : Int) : Prop := S.2.1 ≤ S'.2.1 ∧ (∀ n, 0 ≤ n → n < S.2.1 → (oP S n ∧ InM S M n ∧ (S'.1 n).1 = 0) ∨ S'.1 n = S.1 n) ∧ (∀ n, oP S n → InM S M n ∨ S'.2.2 n = S.2.2 n) ∧ (∀ n, oP S n → oP S' n → S'.2.2 n ≤ S.2.2 n) ∧ (∀ l n, 0 ≤ n → n < S.2.1 → lO S l n → lO S' l n) ∧ (∀ l X, l ≤ h → inC S X → (∀ m, M m → gO S l X m) → ∀ n, 0 ≤ n → n < S.2.1 → gO S l X n → gO S' l X n) ∧ (∀ n u, 0 ≤ n → n < S.2.1 → oP S' u → Oc S'.1 u n → (oP S u ∧ Oc S.1 u n) ∨ ((S.2.1 ≤ u ∨ (oP S u ∧ InM S M u)) ∧ ∃ w, oP S w ∧ InM S M w ∧ Oc S.1 w n))
/-- a result: its variables are new or stand in M -/
def Res (S : TS) (M : Int → Prop) (h : Int) (S' : TS) (t : Int) : Prop := (0 ≤ t ∧ t < S'.2.1) ∧ (∀ u, oP S' u → Oc S'.1 u t → S.2.1 ≤ u ∨ (oP S u ∧ InM S M u)) ∧ (∀ l X, l ≤ h → inC S X → (∀ m, M m → gO S l X m) → gO S' l X t) ∧ ((∀ m, M m → lO S h m) → lO S' h t)
section GRW
variable {S S1 S2 S' : TS} {M M1 : Int → Prop} {h : Int}
theorem XE.rf : XE S S M h := ⟨Int.le_refl _, fun _ _ _ => Or.inr rfl, fun _ _ => Or.inr rfl, fun _ _ _ => Int.le_refl _, fun _ _ _ _ a => a, fun _ _ _ _ _ _ _ _ a => a, fun _ _ _ _ a b => Or.inl ⟨a, b⟩⟩
theorem XE.op (x : XE S S' M h) {n : Int} (h1 : n < S.2.1) (o : oP S' n) : oP S n := by
  rcases x.2.1 n o.1.1 h1 with q | q
  · exact q.1
  · obtain ⟨⟨a, -⟩, b, c⟩ := o
    unfold lkd at c
    rw [q] at b c
    exact ⟨⟨a, h1⟩, b, c⟩
theorem XE.po (x : XE S S' M h) {n : Int} (o : oP S n) (e : S'.1 n = S.1 n) : oP S' n := by
  obtain ⟨⟨a, b⟩, c, d⟩ := o
  unfold lkd at d
  rw [← e] at c d
  have := x.1
  exact ⟨⟨a, by omega⟩, c, d⟩
theorem XE.tr (x : XE S S1 M h) (y : XE S1 S2 M1 h) (hR : ∀ m, M1 m → Res S M h S1 m) : XE S S2 M h := by
  have fp : ∀ u, oP S1 u → InM S1 M1 u → S.2.1 ≤ u ∨ (oP S u ∧ InM S M u) := fun u o ⟨m, a, b⟩ => (hR m a).2.1 u o b
  have xl := x.1
  refine ⟨Int.le_trans x.1 y.1, fun n h0 h1 => ?_, fun n o => ?_, fun n o o2 => ?_, fun l n h0 h1 q => y.2.2.2.2.1 l n h0 (by omega) (x.2.2.2.2.1 l n h0 h1 q), fun l X hl hX hM n h0 h1 q => ?_, fun n u h0 h1 o oc => ?_⟩
  · rcases y.2.1 n h0 (by omega) with ⟨q1, q2, q3⟩ | q
    · rcases fp n q1 q2 with p | p
      · omega
      · exact Or.inl ⟨p.1, p.2, q3⟩
    · rw [q]; exact x.2.1 n h0 h1
  · rcases x.2.1 n o.1.1 o.1.2 with q | q
    · exact Or.inl q.2.1
    · have o1 := x.po o q
      rcases y.2.2.1 n o1 with p | p
      · rcases fp n o1 p with z | z
        · have := o.1.2; omega
        · exact Or.inl z.2
      · rcases x.2.2.1 n o with z | z
        · exact Or.inl z
        · exact Or.inr (p.trans z)
  · have nl := o.1.2
    have o1 := y.op (by omega) o2
    exact Int.le_trans (y.2.2.2.1 n o1 o2) (x.2.2.2.1 n o o1)
  · exact y.2.2.2.2.2.1 l X hl (fun m a => ⟨(hX m a).1, by have := (hX m a).2; omega⟩) (fun m a => (hR m a).2.2.1 l X hl hX hM) n h0 (by omega) (x.2.2.2.2.2.1 l X hl hX hM n h0 h1 q)
  · rcases y.2.2.2.2.2.2 n u h0 (by omega) o oc with ⟨a, b⟩ | ⟨a, w, b, c, d⟩
    · exact x.2.2.2.2.2.2 n u h0 h1 a b
    · refine Or.inr ⟨?_, ?_⟩
      · rcases a with a | ⟨a1, a2⟩
        · exact Or.inl (by omega)
        · exact fp u a1 a2
      · rcases x.2.2.2.2.2.2 n w h0 h1 b d with ⟨z1, z2⟩ | z
        · rcases fp w b c with p | p
          · have := z1.1.2; omega
          · exact ⟨w, p.1, p.2, z2⟩
        · exact z.2
theorem Res.up {t : Int} (r : Res S M h S1 t) (y : XE S1 S2 M1 h) (xl : S.2.1 ≤ S1.2.1) (hR : ∀ m, M1 m → Res S M h S1 m) : Res S M h S2 t := by
  obtain ⟨⟨r0, r1⟩, f, g, l⟩ := r
  refine ⟨⟨r0, by have := y.1; omega⟩, fun u o oc => ?_, fun l X hl hX hM => ?_, fun hM => y.2.2.2.2.1 h t r0 r1 (l hM)⟩
  · rcases y.2.2.2.2.2.2 t u r0 r1 o oc with ⟨a, b⟩ | ⟨a, -⟩
    · exact f u a b
    · rcases a with a | ⟨a1, m, a2, a3⟩
      · exact Or.inl (by omega)
      · exact (hR m a2).2.1 u a1 a3
  · exact y.2.2.2.2.2.1 l X hl (fun m a => ⟨(hX m a).1, by have := (hX m a).2; omega⟩) (fun m a => (hR m a).2.2.1 l X hl hX hM) t r0 r1 (g l X hl hX hM)
theorem Res.m (x : XE S S1 M h) (hM : inC S M) {m : Int} (a : M m) : Res S M h S1 m := by
  obtain ⟨m0, m1⟩ := hM m a
  refine ⟨⟨m0, by have := x.1; omega⟩, fun u o oc => ?_, fun l X hl hX hg => x.2.2.2.2.2.1 l X hl hX hg m m0 m1 (hg m a), fun hl => x.2.2.2.2.1 h m m0 m1 (hl m a)⟩
  rcases x.2.2.2.2.2.2 m u m0 m1 o oc with ⟨p, q⟩ | ⟨p, -⟩
  · exact Or.inr ⟨p, m, a, q⟩
  · exact p
/-- what stood in a node stands there still -/
theorem XE.keep (x : XE S S' M h) (W : WS S.1 S.2.1) {u n : Int} (o : Oc S.1 u n) (h0 : 0 ≤ n) (h1 : n < S.2.1) : Oc S'.1 u n := by
  obtain ⟨k, o⟩ := o
  induction k generalizing n with
  | zero => exact o.elim
  | succ k ih =>
    have w := W n h0 h1
    rcases o with o | o
    · rw [o]; exact Oc.self
    · rcases x.2.1 n h0 h1 with q | q
      · exfalso
        obtain ⟨⟨-, q1, q2⟩, -⟩ := q
        rcases o with o | o | o
        · exact q2 o.1
        · omega
        · omega
      · rcases o with ⟨a, o⟩ | ⟨a, o⟩ | ⟨a, o | o⟩
        · exact Oc.lnk (by unfold lkd; rw [q]; exact a) (by rw [q]; exact ih a.2 (w.2.1 a) o)
        · exact Oc.p4 (by rw [q]; exact a) (by rw [q]; exact ih (w.2.2.1 a).1 (w.2.2.1 a).2 o)
        · exact Oc.p5 (by rw [q]; exact a) (Or.inl (by rw [q]; exact ih (w.2.2.2 a).1.1 (w.2.2.2 a).1.2 o))
        · exact Oc.p5 (by rw [q]; exact a) (Or.inr (by rw [q]; exact ih (w.2.2.2 a).2.1 (w.2.2.2 a).2.2 o))
/-- what stands in a node now comes from a variable that stood there -/
theorem XE.from (x : XE S S' M h) (W : WS S.1 S.2.1) {u n : Int} (o : Oc S'.1 u n) (hu : oP S' u) (h0 : 0 ≤ n) (h1 : n < S.2.1) : ∃ w, oP S w ∧ Oc S.1 w n ∧ Oc S'.1 u w := by
  obtain ⟨k, o⟩ := o
  induction k generalizing n with
  | zero => exact o.elim
  | succ k ih =>
    have w := W n h0 h1
    rcases x.2.1 n h0 h1 with q | q
    · exact ⟨n, q.1, Oc.self, ⟨k + 1, o⟩⟩
    · unfold oc lkd at o
      rw [q] at o
      rcases o with o | ⟨a, o⟩ | ⟨a, o⟩ | ⟨a, o | o⟩
      · subst o; exact ⟨n, x.op h1 hu, Oc.self, Oc.self⟩
      · obtain ⟨v, p1, p2, p3⟩ := ih a.2 (w.2.1 a) o
        exact ⟨v, p1, p2.lnk a, p3⟩
      · obtain ⟨v, p1, p2, p3⟩ := ih (w.2.2.1 a).1 (w.2.2.1 a).2 o
        exact ⟨v, p1, p2.p4 a, p3⟩
      · obtain ⟨v, p1, p2, p3⟩ := ih (w.2.2.2 a).1.1 (w.2.2.2 a).1.2 o
        exact ⟨v, p1, Oc.p5 a (Or.inl p2), p3⟩
      · obtain ⟨v, p1, p2, p3⟩ := ih (w.2.2.2 a).2.1 (w.2.2.2 a).2.2 o
        exact ⟨v, p1, Oc.p5 a (Or.inr p2), p3⟩
/-- the general variables of a name: all others stand in M, and that stays so -/
theorem XE.gen (x : XE S S' M h) (W : WS S.1 S.2.1) (hM : inC S M) {n : Int} (h0 : 0 ≤ n) (h1 : n < S.2.1) (hl : ∀ m, M m → lO S 999 m) (g : gO S 1000 M n) : gO S' 1000 M n := by
  intro u o oc lt
  obtain ⟨w, p1, p2, p3⟩ := x.from W oc o h0 h1
  have key : InM S M w := by
    by_cases q : S.2.2 w < 1000
    · exact g w p1 p2 q
    · rcases x.2.2.1 w p1 with z | z
      · exact z
      · exfalso
        rcases x.2.1 w p1.1.1 p1.1.2 with y | y
        · obtain ⟨m, a, b⟩ := y.2.1
          have := hl m a w p1 b
          omega
        · have o2 := x.po p1 y
          have e : u = w := by
            rcases p3.cs with c | ⟨c, -⟩ | ⟨c, -⟩ | ⟨c, -⟩
            · exact c.symm
            · exact absurd c o2.2.2
            · have := o2.2.1; omega
            · have := o2.2.1; omega
          subst e
          omega
  obtain ⟨m, a, b⟩ := key
  exact ⟨m, a, p3.tr (x.keep W b (hM m a).1 (hM m a).2)⟩
end GRW
