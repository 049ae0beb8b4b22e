/-! What a name may be: its general variables anything, the others as they are. -/
def Den (S : TS) (n : Int) (ρ : Int → GT) (s : GT) : Prop := ∃ ρ', VS S.1 S.2.1 ρ' ∧ (∀ u, oP S u → Oc S.1 u n → S.2.2 u ≠ 1000 → ρ' u = ρ u) ∧ ρ' n = s
/-- the store is sound: nodes in it, links that end, levels up to 1000 -/
def SO (S : TS) : Prop := WS S.1 S.2.1 ∧ (∃ (L : Nat) (st : Int → Nat), SS S.1 S.2.1 L st) ∧ ∀ u, oP S u → S.2.2 u ≤ 1000
/-- names: those in M have one type each; of the others all that is not general stands in M -/
def EnvI (S : TS) (h : Int) (E : List (Int × Int)) (M : Int → Prop) : Prop := inC S M ∧ (∀ m, M m → lO S h m) ∧ ∀ e ∈ E, (0 ≤ e.2 ∧ e.2 < S.2.1) ∧ gO S 1000 M e.2
def Gam (S : TS) (ρ : Int → GT) (E : List (Int × Int)) : List (Int × (GT → Prop)) := E.map fun e => (e.1, fun s => Den S e.2 ρ s)
section DEN
variable {S S' : TS} {M : Int → Prop} {h : Int} {ρ ρ' : Int → GT}
theorem lO_mono {l l' n : Int} (a : lO S l n) (b : l ≤ l') : lO S l' n := fun u o oc => Int.le_trans (a u o oc) b
theorem oP_oc {u v : Int} (o : oP S u) (oc : Oc S.1 v u) : v = u := by
  rcases oc.cs with c | ⟨c, -⟩ | ⟨c, -⟩ | ⟨c, -⟩
  · exact c.symm
  · exact absurd c o.2.2
  · have := o.2.1; omega
  · have := o.2.1; omega
/-- what is in n as a valuation says it -/
theorem val_o (W : SO S) (V : VS S.1 S.2.1 ρ) (V' : VS S.1 S.2.1 ρ') {n : Int} (h0 : 0 ≤ n) (h1 : n < S.2.1) (hh : ∀ v, oP S v → Oc S.1 v n → ρ v = ρ' v) : ρ n = ρ' n := by
  obtain ⟨W, ⟨L, st, SSt⟩, -⟩ := W
  exact val_eq W V V' SSt n h0 h1 (fun v o k l => hh v ⟨o.rg W h0 h1, k, l⟩ o)
/-- and the other way -/
theorem val_i (W : SO S) (V : VS S.1 S.2.1 ρ) (V' : VS S.1 S.2.1 ρ') {n v : Int} (h0 : 0 ≤ n) (h1 : n < S.2.1) (e : ρ n = ρ' n) (o : Oc S.1 v n) : ρ v = ρ' v := by
  have W := W.1
  obtain ⟨k, o⟩ := o
  induction k generalizing n with
  | zero => exact o.elim
  | succ k ih =>
    have w := W n h0 h1
    have g := V n h0 h1
    have g' := V' n h0 h1
    rcases o with o | ⟨a, o⟩ | ⟨a, o⟩ | ⟨a, o | o⟩
    · rw [← o]; exact e
    · rw [g.1 a, g'.1 a] at e; exact ih a.2 (w.2.1 a) e o
    · rw [g.2.2.1 a, g'.2.2.1 a] at e; exact ih (w.2.2.1 a).1 (w.2.2.1 a).2 (gL_inj.mp e) o
    · rw [g.2.2.2 a, g'.2.2.2 a] at e; exact ih (w.2.2.2 a).1.1 (w.2.2.2 a).1.2 (gA_inj.mp e).1 o
    · rw [g.2.2.2 a, g'.2.2.2 a] at e; exact ih (w.2.2.2 a).2.1 (w.2.2.2 a).2.2 (gA_inj.mp e).2 o
/-- two valuations in one -/
theorem mixV (P : Int → Prop) (f g : Int → GT) : ∃ α : Int → GT, (∀ u, P u → α u = f u) ∧ ∀ u, ¬ P u → α u = g u := ⟨fun u => @ite _ (P u) (Classical.propDecidable _) (f u) (g u), fun _ h => if_pos h, fun _ h => if_neg h⟩
theorem ev_o (W : SO S) (V : VS S.1 S.2.1 ρ) (α : Int → GT) : ∃ ρ', VS S.1 S.2.1 ρ' ∧ ∀ u, oP S u → ρ' u = α u := by
  obtain ⟨W, ⟨L, st, SSt⟩, -⟩ := W
  obtain ⟨ρ', V', e⟩ := EvS W V SSt α
  exact ⟨ρ', V', fun u o => e u o.1.1 o.1.2 o.2.1 o.2.2⟩
theorem XE.vars (x : XE S S' M h) (hl : ∀ m, M m → lO S 999 m) {u : Int} (o : oP S u) (g : S.2.2 u = 1000) : S'.1 u = S.1 u ∧ oP S' u ∧ S'.2.2 u = 1000 := by
  have ni : ¬ InM S M u := fun ⟨m, a, b⟩ => by have := hl m a u o b; omega
  rcases x.2.1 u o.1.1 o.1.2 with q | q
  · exact absurd q.2.1 ni
  · refine ⟨q, x.po o q, ?_⟩
    rcases x.2.2.1 u o with z | z
    · exact absurd z ni
    · rw [z]; exact g
/-- it stays what it was -/
theorem den_up (x : XE S S' M h) (W : SO S) (W' : SO S') (hl : ∀ m, M m → lO S 999 m) (VV : ∀ ρ, VS S'.1 S'.2.1 ρ → VS S.1 S.2.1 ρ) (V : VS S'.1 S'.2.1 ρ) {n : Int} (h0 : 0 ≤ n) (h1 : n < S.2.1) (s : GT) : Den S' n ρ s ↔ Den S n ρ s := by
  have xl := x.1
  have low : ∀ u, oP S u → S.2.2 u ≠ 1000 → lO S' 999 u := fun u o g => by
    have := W.2.2 u o
    exact x.2.2.2.2.1 999 u o.1.1 o.1.2 (fun v ov oc => by rw [oP_oc o oc]; omega)
  constructor
  · intro ⟨ρ', V', a, e⟩
    refine ⟨ρ', VV _ V', fun u o oc g => ?_, e⟩
    have lw := low u o g
    refine val_o W' V' V o.1.1 (by have := o.1.2; omega) (fun v ov oc' => a v ov (oc'.tr (x.keep W.1 oc h0 h1)) ?_)
    have := lw v ov oc'
    omega
  · intro ⟨ρ', V', a, e⟩
    obtain ⟨α, a1, a2⟩ := mixV (fun u => oP S u ∧ Oc S.1 u n ∧ S.2.2 u = 1000) ρ' ρ
    obtain ⟨ρ2, V2, e2⟩ := ev_o W' V α
    have np : ∀ u, S'.2.2 u ≠ 1000 → α u = ρ u := fun u g => a2 u (fun ⟨p1, p2, p3⟩ => g (x.vars hl p1 p3).2.2)
    refine ⟨ρ2, V2, fun u o oc g => (e2 u o).trans (np u g), ?_⟩
    rw [← e]
    refine val_o W (VV _ V2) V' h0 h1 (fun u o oc => ?_)
    by_cases g : S.2.2 u = 1000
    · rw [e2 u (x.vars hl o g).2.1, a1 u ⟨o, oc, g⟩]
    · rw [a u o oc g]
      have lw := low u o g
      exact val_o W' V2 V o.1.1 (by have := o.1.2; omega) (fun v ov oc' => by
        have := lw v ov oc'
        rw [e2 v ov, np v (by omega)])
/-- without general variables: one type -/
theorem den_1 (W : SO S) (V : VS S.1 S.2.1 ρ) {n : Int} (h0 : 0 ≤ n) (h1 : n < S.2.1) (hl : lO S 999 n) (s : GT) : Den S n ρ s ↔ s = ρ n := by
  constructor
  · intro ⟨ρ', V', a, e⟩
    rw [← e]
    exact val_o W V' V h0 h1 (fun v o oc => a v o oc (by have := hl v o oc; omega))
  · intro e
    exact ⟨ρ, V, fun _ _ _ _ => rfl, e.symm⟩
theorem EnvI.up {E : List (Int × Int)} (I : EnvI S h E M) (hh : h ≤ 999) (W : SO S) (x : XE S S' M h) : EnvI S' h E M := by
  have xl := x.1
  refine ⟨fun m a => ⟨(I.1 m a).1, by have := (I.1 m a).2; omega⟩, fun m a => x.2.2.2.2.1 h m (I.1 m a).1 (I.1 m a).2 (I.2.1 m a), fun e a => ?_⟩
  obtain ⟨⟨r0, r1⟩, g⟩ := I.2.2 e a
  exact ⟨⟨r0, by omega⟩, x.gen W.1 I.1 r0 r1 (fun m a => lO_mono (I.2.1 m a) hh) g⟩
theorem Gam_up {E : List (Int × Int)} (I : EnvI S h E M) (hh : h ≤ 999) (x : XE S S' M h) (W : SO S) (W' : SO S') (VV : ∀ ρ, VS S'.1 S'.2.1 ρ → VS S.1 S.2.1 ρ) (V : VS S'.1 S'.2.1 ρ) : Gam S' ρ E = Gam S ρ E := by
  refine List.map_congr_left (fun e a => ?_)
  obtain ⟨⟨r0, r1⟩, -⟩ := I.2.2 e a
  refine Prod.ext rfl ?_
  funext s
  exact propext (den_up x W W' (fun m a => lO_mono (I.2.1 m a) hh) VV V r0 r1 s)
end DEN
