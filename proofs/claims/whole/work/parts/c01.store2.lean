/-! Stores of types: what stands in a type; a variable is linked; how wide a type is shown. -/
/-- v stands in n, seen within k levels -/
def oc (s : Sto) (v : Int) : Nat → Int → Prop
  | 0, _ => False
  | k + 1, n => n = v ∨ (lkd s n ∧ oc s v k (s n).2.1) ∨ ((s n).1 = 4 ∧ oc s v k (s n).2.1) ∨ ((s n).1 = 5 ∧ (oc s v k (s n).2.1 ∨ oc s v k (s n).2.2))
def Oc (s : Sto) (v n : Int) : Prop := ∃ k, oc s v k n
/-- a node is given anew -/
def upS (s : Sto) (v : Int) (x : Int × Int × Int) : Sto := fun n => if n = v then x else s n
section STP
variable {s : Sto} {c : Int} {L : Nat} {st : Int → Nat} {ρ ρ' : Int → GT}
theorem Oc.self {v : Int} : Oc s v v := ⟨1, Or.inl rfl⟩
theorem Oc.lnk {v n : Int} (h : lkd s n) (o : Oc s v (s n).2.1) : Oc s v n := by
  obtain ⟨k, o⟩ := o
  exact ⟨k + 1, Or.inr (Or.inl ⟨h, o⟩)⟩
theorem Oc.p4 {v n : Int} (h : (s n).1 = 4) (o : Oc s v (s n).2.1) : Oc s v n := by
  obtain ⟨k, o⟩ := o
  exact ⟨k + 1, Or.inr (Or.inr (Or.inl ⟨h, o⟩))⟩
theorem Oc.p5 {v n : Int} (h : (s n).1 = 5) (o : Oc s v (s n).2.1 ∨ Oc s v (s n).2.2) : Oc s v n := by
  rcases o with ⟨k, o⟩ | ⟨k, o⟩
  · exact ⟨k + 1, Or.inr (Or.inr (Or.inr ⟨h, Or.inl o⟩))⟩
  · exact ⟨k + 1, Or.inr (Or.inr (Or.inr ⟨h, Or.inr o⟩))⟩
theorem Oc.cs {v n : Int} (o : Oc s v n) : n = v ∨ (lkd s n ∧ Oc s v (s n).2.1) ∨ ((s n).1 = 4 ∧ Oc s v (s n).2.1) ∨ ((s n).1 = 5 ∧ (Oc s v (s n).2.1 ∨ Oc s v (s n).2.2)) := by
  obtain ⟨k, o⟩ := o
  cases k with
  | zero => exact o.elim
  | succ k =>
    rcases o with o | ⟨h, o⟩ | ⟨h, o⟩ | ⟨h, o | o⟩
    · exact Or.inl o
    · exact Or.inr (Or.inl ⟨h, k, o⟩)
    · exact Or.inr (Or.inr (Or.inl ⟨h, k, o⟩))
    · exact Or.inr (Or.inr (Or.inr ⟨h, Or.inl ⟨k, o⟩⟩))
    · exact Or.inr (Or.inr (Or.inr ⟨h, Or.inr ⟨k, o⟩⟩))
theorem Oc.tr {u v n : Int} (a : Oc s u v) (b : Oc s v n) : Oc s u n := by
  obtain ⟨k, b⟩ := b
  induction k generalizing n with
  | zero => exact b.elim
  | succ k ih =>
    rcases b with b | ⟨h, b⟩ | ⟨h, b⟩ | ⟨h, b | b⟩
    · rw [b]; exact a
    · exact (ih b).lnk h
    · exact (ih b).p4 h
    · exact Oc.p5 h (Or.inl (ih b))
    · exact Oc.p5 h (Or.inr (ih b))
theorem Oc.sz (W : WS s c) (V : VS s c ρ) {v n : Int} (o : Oc s v n) (h0 : 0 ≤ n) (h1 : n < c) : gz (ρ v) ≤ gz (ρ n) := by
  obtain ⟨k, o⟩ := o
  induction k generalizing n with
  | zero => exact o.elim
  | succ k ih =>
    have w := W n h0 h1
    have g := V n h0 h1
    rcases o with o | ⟨h, o⟩ | ⟨h, o⟩ | ⟨h, o | o⟩
    · rw [o]; exact Nat.le_refl _
    · have := ih h.2 (w.2.1 h) o; rw [g.1 h]; exact this
    · have := ih (w.2.2.1 h).1 (w.2.2.1 h).2 o; rw [g.2.2.1 h]; exact Nat.le_succ_of_le this
    · have := ih (w.2.2.2 h).1.1 (w.2.2.2 h).1.2 o
      have e : gz (ρ n) = gz (ρ (s n).2.1) + gz (ρ (s n).2.2) + 1 := by rw [g.2.2.2 h]; rfl
      omega
    · have := ih (w.2.2.2 h).2.1 (w.2.2.2 h).2.2 o
      have e : gz (ρ n) = gz (ρ (s n).2.1) + gz (ρ (s n).2.2) + 1 := by rw [g.2.2.2 h]; rfl
      omega
theorem Oc.rg (W : WS s c) {v n : Int} (o : Oc s v n) (h0 : 0 ≤ n) (h1 : n < c) : 0 ≤ v ∧ v < c := by
  obtain ⟨k, o⟩ := o
  induction k generalizing n with
  | zero => exact o.elim
  | succ k ih =>
    have w := W n h0 h1
    rcases o with o | ⟨h, o⟩ | ⟨h, o⟩ | ⟨h, o | o⟩
    · rw [← o]; exact ⟨h0, h1⟩
    · exact ih h.2 (w.2.1 h) o
    · exact ih (w.2.2.1 h).1 (w.2.2.1 h).2 o
    · exact ih (w.2.2.2 h).1.1 (w.2.2.2 h).1.2 o
    · exact ih (w.2.2.2 h).2.1 (w.2.2.2 h).2.2 o
/-- a list or an arrow with v in it is more than v -/
theorem Oc.no (W : WS s c) (V : VS s c ρ) {v n : Int} (o : Oc s v n) (hn : n ≠ v) (hl : ¬ lkd s n) (h0 : 0 ≤ n) (h1 : n < c) : ρ v ≠ ρ n := by
  intro e
  have w := W n h0 h1
  have g := V n h0 h1
  rcases o.cs with o | ⟨h, o⟩ | ⟨h, o⟩ | ⟨h, o | o⟩
  · exact hn o
  · exact hl h
  · have a := o.sz W V (w.2.2.1 h).1 (w.2.2.1 h).2
    have e2 : gz (ρ n) = gz (ρ (s n).2.1) + 1 := by rw [g.2.2.1 h]; rfl
    rw [e] at a; omega
  · have a := o.sz W V (w.2.2.2 h).1.1 (w.2.2.2 h).1.2
    have e2 : gz (ρ n) = gz (ρ (s n).2.1) + gz (ρ (s n).2.2) + 1 := by rw [g.2.2.2 h]; rfl
    rw [e] at a; omega
  · have a := o.sz W V (w.2.2.2 h).2.1 (w.2.2.2 h).2.2
    have e2 : gz (ρ n) = gz (ρ (s n).2.1) + gz (ρ (s n).2.2) + 1 := by rw [g.2.2.2 h]; rfl
    rw [e] at a; omega
/-- induction from parts to nodes -/
theorem st_ind {P : Int → Prop} (W : WS s c) (V : VS s c ρ) (S : SS s c L st) (H : ∀ n, 0 ≤ n → n < c → (lkd s n → P (s n).2.1) → ((s n).1 = 4 → P (s n).2.1) → ((s n).1 = 5 → P (s n).2.1 ∧ P (s n).2.2) → P n) : ∀ n, 0 ≤ n → n < c → P n := by
  have go : ∀ (k : Nat) (n : Int), mu s ρ L st n < k → 0 ≤ n → n < c → P n := by
    intro k
    induction k with
    | zero => intro n h; omega
    | succ k ih =>
      intro n h h0 h1
      have w := W n h0 h1
      refine H n h0 h1 (fun q => ?_) (fun q => ?_) (fun q => ?_)
      · have := mu_link V S h0 h1 q
        exact ih _ (by omega) q.2 (w.2.1 q)
      · have := mu_4 (L := L) (st := st) V h0 h1 q
        exact ih _ (by omega) (w.2.2.1 q).1 (w.2.2.1 q).2
      · have := mu_5 (L := L) (st := st) V h0 h1 q
        exact ⟨ih _ (by omega) (w.2.2.2 q).1.1 (w.2.2.2 q).1.2, ih _ (by omega) (w.2.2.2 q).2.1 (w.2.2.2 q).2.2⟩
  exact fun n => go (mu s ρ L st n + 1) n (Nat.lt_succ_self _)
/-- the variables in it say what it is -/
theorem val_eq (W : WS s c) (V : VS s c ρ) (V' : VS s c ρ') (S : SS s c L st) : ∀ n, 0 ≤ n → n < c → (∀ v, Oc s v n → (s v).1 = 0 → ¬ lkd s v → ρ v = ρ' v) → ρ n = ρ' n := by
  refine st_ind W V S (fun n h0 h1 i1 i2 i3 h => ?_)
  have w := W n h0 h1
  have g := V n h0 h1
  have g' := V' n h0 h1
  by_cases q : lkd s n
  · rw [g.1 q, g'.1 q]; exact i1 q (fun v o => h v (o.lnk q))
  by_cases q0 : (s n).1 = 0
  · exact h n Oc.self q0 q
  by_cases q4 : (s n).1 = 4
  · rw [g.2.2.1 q4, g'.2.2.1 q4, i2 q4 (fun v o => h v (o.p4 q4))]
  by_cases q5 : (s n).1 = 5
  · obtain ⟨j1, j2⟩ := i3 q5
    rw [g.2.2.2 q5, g'.2.2.2 q5, j1 (fun v o => h v (Oc.p5 q5 (Or.inl o))), j2 (fun v o => h v (Oc.p5 q5 (Or.inr o)))]
  · rw [g.2.1 (by omega), g'.2.1 (by omega)]
/-- how wide it is shown: no wider than anything it may be -/
theorem wid_le (W : WS s c) (V : VS s c ρ) (V' : VS s c ρ') (S : SS s c L st) (H : ∀ n, 0 ≤ n → n < c → (s n).1 = 0 → ¬ lkd s n → ρ n = gK 1) : ∀ n, 0 ≤ n → n < c → gw (ρ n) ≤ gw (ρ' n) := by
  refine st_ind W V S (fun n h0 h1 i1 i2 i3 => ?_)
  have w := W n h0 h1
  have g := V n h0 h1
  have g' := V' n h0 h1
  by_cases q : lkd s n
  · rw [g.1 q, g'.1 q]; exact i1 q
  by_cases q0 : (s n).1 = 0
  · rw [H n h0 h1 q0 q]; exact gw_ge
  by_cases q4 : (s n).1 = 4
  · have := i2 q4
    rw [g.2.2.1 q4, g'.2.2.1 q4]
    show 2 + gw (ρ (s n).2.1) ≤ 2 + gw (ρ' (s n).2.1)
    omega
  by_cases q5 : (s n).1 = 5
  · obtain ⟨j1, j2⟩ := i3 q5
    rw [g.2.2.2 q5, g'.2.2.2 q5]
    show 3 + gw (ρ (s n).2.1) + gw (ρ (s n).2.2) ≤ 3 + gw (ρ' (s n).2.1) + gw (ρ' (s n).2.2)
    omega
  · rw [g.2.1 (by omega), g'.2.1 (by omega)]; exact Int.le_refl _
/-- a variable is linked -/
theorem lk_at {v t b : Int} : upS s v (0, t, b) v = (0, t, b) := if_pos rfl
theorem lk_ne {v t b n : Int} (h : n ≠ v) : upS s v (0, t, b) n = s n := if_neg h
theorem lk_W (W : WS s c) {v t b : Int} (ht : 0 ≤ t ∧ t < c) : WS (upS s v (0, t, b)) c := by
  intro n h0 h1
  by_cases e : n = v
  · subst e
    rw [lk_at]
    exact ⟨⟨Int.le_refl (0 : Int), (by decide : (0 : Int) ≤ 5)⟩, fun _ => ht.2, (fun h => absurd h (by show ¬ (0 : Int) = 4; decide)), (fun h => absurd h (by show ¬ (0 : Int) = 5; decide))⟩
  · have w := W n h0 h1
    unfold lkd at w ⊢
    rw [lk_ne e]; exact w
theorem lk_V {v t b : Int} (hv : (s v).1 = 0 ∧ ¬ lkd s v) (hr : 0 ≤ v ∧ v < c) (ht : 0 ≤ t) : VS (upS s v (0, t, b)) c ρ ↔ (VS s c ρ ∧ ρ v = ρ t) := by
  constructor
  · intro V
    have e := (V v hr.1 hr.2).1 (by unfold lkd; rw [lk_at]; exact ⟨rfl, ht⟩)
    rw [lk_at] at e
    refine ⟨fun n h0 h1 => ?_, e⟩
    by_cases q : n = v
    · subst q
      exact ⟨fun h => absurd h hv.2, (fun h => by omega), (fun h => by omega), (fun h => by omega)⟩
    · have := V n h0 h1
      unfold nOk lkd at this ⊢
      rwa [lk_ne q] at this
  · intro ⟨V, e⟩ n h0 h1
    by_cases q : n = v
    · subst q
      unfold nOk lkd
      rw [lk_at]
      exact ⟨fun _ => e, (fun h => absurd h.1 (by show ¬ (1 : Int) ≤ 0; decide)), (fun h => absurd h (by show ¬ (0 : Int) = 4; decide)), (fun h => absurd h (by show ¬ (0 : Int) = 5; decide))⟩
    · have := V n h0 h1
      unfold nOk lkd at this ⊢
      rwa [lk_ne q]
theorem lk_S (S : SS s c L st) {v t b : Int} (hv : ¬ lkd s v) (hr : 0 ≤ v) (ht : ¬ lkd s t ∧ t ≠ v) : SS (upS s v (0, t, b)) c (L + 1) (fun n => if n = v then L + 1 else st n) := by
  intro n h0 h1 h
  by_cases e : n = v
  · subst e
    have q0 : ¬ lkd (upS s n (0, t, b)) (upS s n (0, t, b) n).2.1 := by
      rw [lk_at]
      unfold lkd
      rw [lk_ne ht.2]
      exact ht.1
    refine ⟨?_, ?_, fun q => absurd q q0⟩
    · show 1 ≤ (if n = n then L + 1 else st n)
      rw [if_pos rfl]; omega
    · show (if n = n then L + 1 else st n) ≤ L + 1
      rw [if_pos rfl]; exact Nat.le_refl _
  · unfold lkd at h
    rw [lk_ne e] at h ⊢
    have a := S n h0 h1 h
    show 1 ≤ (if n = v then L + 1 else st n) ∧ (if n = v then L + 1 else st n) ≤ L + 1 ∧ (lkd (upS s v (0, t, b)) (s n).2.1 → (if n = v then L + 1 else st n) < (if (s n).2.1 = v then L + 1 else st (s n).2.1))
    rw [if_neg e]
    refine ⟨a.1, by omega, fun q => ?_⟩
    by_cases e2 : (s n).2.1 = v
    · rw [if_pos e2]; omega
    · rw [if_neg e2]
      unfold lkd at q
      rw [lk_ne e2] at q
      exact a.2.2 q
/-- there is something that it may be -/
theorem lk_I (W : WS s c) (V : VS s c ρ) (S : SS s c L st) {v t b : Int} (hv : (s v).1 = 0 ∧ ¬ lkd s v) (hr : 0 ≤ v ∧ v < c) (ht : 0 ≤ t ∧ t < c) (ho : ¬ Oc s v t) : ∃ ρ', VS (upS s v (0, t, b)) c ρ' ∧ ∀ n, 0 ≤ n → n < c → (s n).1 = 0 → ¬ lkd s n → n ≠ v → ρ' n = ρ n := by
  obtain ⟨ρ', V', h⟩ := EvS W V S (fun n => if n = v then ρ t else ρ n)
  have e1 : ρ' v = ρ t := by rw [h v hr.1 hr.2 hv.1 hv.2, if_pos rfl]
  have e2 : ρ' t = ρ t := val_eq W V' V S t ht.1 ht.2 (fun u o hu hl => by
    have ur := o.rg W ht.1 ht.2
    rw [h u ur.1 ur.2 hu hl, if_neg (fun e => ho (by rw [← e]; exact o))])
  exact ⟨ρ', (lk_V hv hr ht.1).mpr ⟨V', e1.trans e2.symm⟩, fun n h0 h1 h2 h3 h4 => by rw [h n h0 h1 h2 h3, if_neg h4]⟩
end STP
