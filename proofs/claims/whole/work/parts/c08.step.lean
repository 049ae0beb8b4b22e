/-! Steps of a store of types: a node is added; steps one after the other. -/
/-- a step: what holds after it held before -/
def TSt (S S' : TS) (M : Int → Prop) (h : Int) : Prop := SO S' ∧ XE S S' M h ∧ ∀ ρ, VS S'.1 S'.2.1 ρ → VS S.1 S.2.1 ρ
/-- a node x is added, of the level lv -/
def adT (S : TS) (x : Int × Int × Int) (lv : Int) : TS := (upS S.1 S.2.1 x, S.2.1 + 1, fun n => if n = S.2.1 then lv else S.2.2 n)
section STE
variable {S S1 S2 S' : TS} {M M1 : Int → Prop} {h : Int} {ρ ρ' : Int → GT}
theorem oc_same (W : WS S.1 S.2.1) (e : ∀ n, 0 ≤ n → n < S.2.1 → S'.1 n = S.1 n) {u n : Int} (h0 : 0 ≤ n) (h1 : n < S.2.1) : Oc S'.1 u n ↔ Oc S.1 u n := by
  have go : ∀ k n, 0 ≤ n → n < S.2.1 → (oc S'.1 u k n ↔ oc S.1 u k n) := by
    intro k
    induction k with
    | zero => intro n _ _; exact Iff.rfl
    | succ k ih =>
      intro n h0 h1
      have w := W n h0 h1
      unfold oc lkd
      rw [e n h0 h1]
      refine or_congr Iff.rfl (or_congr (and_congr_right (fun a => ih _ a.2 (w.2.1 a))) (or_congr (and_congr_right (fun a => ih _ (w.2.2.1 a).1 (w.2.2.1 a).2)) (and_congr_right (fun a => or_congr (ih _ (w.2.2.2 a).1.1 (w.2.2.2 a).1.2) (ih _ (w.2.2.2 a).2.1 (w.2.2.2 a).2.2)))))
  exact ⟨fun ⟨k, o⟩ => ⟨k, (go k n h0 h1).mp o⟩, fun ⟨k, o⟩ => ⟨k, (go k n h0 h1).mpr o⟩⟩
/-- nodes are added, nothing else -/
theorem XE.add (W : WS S.1 S.2.1) (hc : S.2.1 ≤ S'.2.1) (e : ∀ n, 0 ≤ n → n < S.2.1 → S'.1 n = S.1 n) (l : ∀ n, oP S n → S'.2.2 n = S.2.2 n) : XE S S' M h := by
  have op : ∀ u n, 0 ≤ n → n < S.2.1 → oP S' u → Oc S'.1 u n → oP S u ∧ Oc S.1 u n := by
    intro u n h0 h1 o oc
    have oc := (oc_same W e h0 h1).mp oc
    have r := oc.rg W h0 h1
    obtain ⟨-, b, c⟩ := o
    unfold lkd at c
    rw [e u r.1 r.2] at b c
    exact ⟨⟨r, b, c⟩, oc⟩
  refine ⟨hc, fun n h0 h1 => Or.inr (e n h0 h1), fun n o => Or.inr (l n o), fun n o _ => by rw [l n o]; exact Int.le_refl _, fun k n h0 h1 q u o oc => ?_, fun k X hk hX hM n h0 h1 q u o oc lt => ?_, fun n u h0 h1 o oc => Or.inl (op u n h0 h1 o oc)⟩
  · obtain ⟨a, b⟩ := op u n h0 h1 o oc
    rw [l u a]; exact q u a b
  · obtain ⟨a, b⟩ := op u n h0 h1 o oc
    rw [l u a] at lt
    obtain ⟨x, x1, x2⟩ := q u a b lt
    exact ⟨x, x1, (oc_same W e (hX x x1).1 (hX x x1).2).mpr x2⟩
theorem TSt.tr (x : TSt S S1 M h) (y : TSt S1 S2 M1 h) (hR : ∀ m, M1 m → Res S M h S1 m) : TSt S S2 M h := ⟨y.1, x.2.1.tr y.2.1 hR, fun ρ V => x.2.2 ρ (y.2.2 ρ V)⟩
theorem VS_cg (W : WS S.1 S.2.1) (V : VS S.1 S.2.1 ρ) (e : ∀ n, 0 ≤ n → n < S.2.1 → ρ' n = ρ n) : VS S.1 S.2.1 ρ' := by
  intro n h0 h1
  have w := W n h0 h1
  have v := V n h0 h1
  have en := e n h0 h1
  refine ⟨fun a => ?_, fun a => ?_, fun a => ?_, fun a => ?_⟩
  · rw [en, e _ a.2 (w.2.1 a)]; exact v.1 a
  · rw [en]; exact v.2.1 a
  · rw [en, e _ (w.2.2.1 a).1 (w.2.2.1 a).2]; exact v.2.2.1 a
  · rw [en, e _ (w.2.2.2 a).1.1 (w.2.2.2 a).1.2, e _ (w.2.2.2 a).2.1 (w.2.2.2 a).2.2]; exact v.2.2.2 a
/-- the nodes that can be added -/
def nwT (S : TS) (x : Int × Int × Int) : Prop := (x.1 = 0 ∧ x.2.1 < 0) ∨ (x.1 = 4 ∧ 0 ≤ x.2.1 ∧ x.2.1 < S.2.1) ∨ (x.1 = 5 ∧ (0 ≤ x.2.1 ∧ x.2.1 < S.2.1) ∧ 0 ≤ x.2.2 ∧ x.2.2 < S.2.1)
theorem ad_e {x : Int × Int × Int} {lv n : Int} (h : n ≠ S.2.1) : (adT S x lv).1 n = S.1 n := if_neg h
theorem ad_c {x : Int × Int × Int} {lv : Int} : (adT S x lv).1 S.2.1 = x := if_pos rfl
theorem ad_V {x : Int × Int × Int} {lv : Int} (W : SO S) (hc : 0 ≤ S.2.1) : VS (adT S x lv).1 (adT S x lv).2.1 ρ ↔ (VS S.1 S.2.1 ρ ∧ nOk (adT S x lv).1 ρ S.2.1) := by
  constructor
  · intro V
    refine ⟨fun n h0 h1 => ?_, V _ hc (by show S.2.1 < S.2.1 + 1; omega)⟩
    have v := V n h0 (by show n < S.2.1 + 1; omega)
    unfold nOk lkd at v ⊢
    rw [ad_e (by omega)] at v
    exact v
  · intro ⟨V, q⟩ n h0 h1
    have h1 : n < S.2.1 + 1 := h1
    by_cases e : n = S.2.1
    · rw [e]; exact q
    · have v := V n h0 (by omega)
      unfold nOk lkd at v ⊢
      rw [ad_e e]
      exact v
theorem ad_SS {x : Int × Int × Int} {lv : Int} {L : Nat} {st : Int → Nat} (W : WS S.1 S.2.1) (SSt : SS S.1 S.2.1 L st) (nx : nwT S x) : SS (adT S x lv).1 (adT S x lv).2.1 L st := by
  intro n h0 h1 q
  have cc : (adT S x lv).2.1 = S.2.1 + 1 := rfl
  rw [cc] at h1
  by_cases e : n = S.2.1
  · rw [e] at q
    unfold lkd at q
    rw [ad_c] at q
    rcases nx with ⟨a, b⟩ | ⟨a, b, c⟩ | ⟨a, b, c, d⟩ <;> omega
  · unfold lkd at q
    rw [ad_e e] at q ⊢
    have z := SSt n h0 (by omega) q
    refine ⟨z.1, z.2.1, fun q2 => ?_⟩
    by_cases e2 : (S.1 n).2.1 = S.2.1
    · have := (W n h0 (by omega)).2.1 q; omega
    · unfold lkd at q2
      rw [ad_e e2] at q2
      exact z.2.2 q2
theorem ad_S {x : Int × Int × Int} {lv : Int} (W : SO S) (hc : 0 ≤ S.2.1) (nx : nwT S x) (hl : x.1 = 0 → lv ≤ 1000) : TSt S (adT S x lv) M h := by
  obtain ⟨W, ⟨L, st, SSt⟩, lev⟩ := W
  have cc : (adT S x lv).2.1 = S.2.1 + 1 := rfl
  refine ⟨⟨fun n h0 h1 => ?_, ⟨L, st, ad_SS W SSt nx⟩, fun u o => ?_⟩, XE.add W (by rw [cc]; omega) (fun n h0 h1 => ad_e (by omega)) (fun n o => if_neg (by have := o.1.2; omega)), fun ρ V => ((ad_V ⟨W, ⟨L, st, SSt⟩, lev⟩ hc).mp V).1⟩
  · rw [cc] at h1 ⊢
    by_cases e : n = S.2.1
    · rw [e]
      unfold lkd
      rw [ad_c]
      rcases nx with ⟨a, b⟩ | ⟨a, b, c⟩ | ⟨a, b, c, d⟩
      · exact ⟨by omega, fun q => by omega, fun q => by omega, fun q => by omega⟩
      · exact ⟨by omega, fun q => by omega, fun _ => by omega, fun q => by omega⟩
      · exact ⟨by omega, fun q => by omega, fun q => by omega, fun _ => by omega⟩
    · have w := W n h0 (by omega)
      unfold lkd at w ⊢
      rw [ad_e e]
      exact ⟨w.1, fun q => by have := w.2.1 q; omega, fun q => by have := w.2.2.1 q; omega, fun q => by have := w.2.2.2 q; omega⟩
  · show (if u = S.2.1 then lv else S.2.2 u) ≤ 1000
    by_cases e : u = S.2.1
    · rw [if_pos e]
      have k := o.2.1
      rw [e, ad_c] at k
      exact hl k
    · rw [if_neg e]
      obtain ⟨⟨a, b⟩, c, d⟩ := o
      unfold lkd at d
      rw [ad_e e] at c d
      rw [cc] at b
      exact lev u ⟨⟨a, by omega⟩, c, d⟩
/-- what can be the new node's type -/
theorem ad_x {x : Int × Int × Int} {lv : Int} (W : SO S) (hc : 0 ≤ S.2.1) (nx : nwT S x) (V : VS S.1 S.2.1 ρ) (s : GT) (hs : (x.1 = 0 ∧ x.2.1 < 0) ∨ (x.1 = 4 ∧ s = gL (ρ x.2.1)) ∨ (x.1 = 5 ∧ s = gA (ρ x.2.1) (ρ x.2.2))) : ∃ ρ', VS (adT S x lv).1 (adT S x lv).2.1 ρ' ∧ (∀ n, 0 ≤ n → n < S.2.1 → ρ' n = ρ n) ∧ ρ' S.2.1 = s := by
  have e : ∀ n, 0 ≤ n → n < S.2.1 → (if n = S.2.1 then s else ρ n) = ρ n := fun n _ b => if_neg (by omega)
  refine ⟨fun n => if n = S.2.1 then s else ρ n, (ad_V W hc).mpr ⟨VS_cg W.1 V e, ?_⟩, e, if_pos rfl⟩
  unfold nOk lkd
  rw [ad_c]
  simp only [if_pos]
  rcases nx with ⟨a, b⟩ | ⟨a, b, c⟩ | ⟨a, b, c, d⟩
  · exact ⟨fun q => by omega, fun q => by omega, fun q => by omega, fun q => by omega⟩
  · refine ⟨fun q => by omega, fun q => by omega, fun _ => ?_, fun q => by omega⟩
    rw [e _ b c]
    rcases hs with z | z | z
    · omega
    · exact z.2
    · omega
  · refine ⟨fun q => by omega, fun q => by omega, fun q => by omega, fun _ => ?_⟩
    rw [e _ b.1 b.2, e _ c d]
    rcases hs with z | z | z
    · omega
    · omega
    · exact z.2
theorem ad_r {x : Int × Int × Int} {lv : Int} (W : SO S) (hc : 0 ≤ S.2.1) (V : VS (adT S x lv).1 (adT S x lv).2.1 ρ) : (x.1 = 4 → ρ S.2.1 = gL (ρ x.2.1)) ∧ (x.1 = 5 → ρ S.2.1 = gA (ρ x.2.1) (ρ x.2.2)) := by
  obtain ⟨-, q⟩ := (ad_V W hc).mp V
  unfold nOk at q
  rw [ad_c] at q
  exact q.2.2
end STE
