/-! The model's unify. -/
def FU (σ σ' : Mem) : Prop := (∀ i, i ≠ 58 → i ≠ 80 → i ≠ 86 → i ≠ 87 → σ' i = σ i) ∧ ∀ k, k ≠ 44 → k ≠ 45 → k ≠ 38 → σ' 58 k = σ 58 k
/-- the first j pairs of the row -/
def stk (σ : Mem) (j : Nat) (n : Int) : Prop := ∃ i : Nat, i < 2 * j ∧ n = σ 87 i
def prE (σ : Mem) (j : Nat) (ρ : Int → GT) : Prop := ∀ i : Nat, i < j → ρ (σ 87 ((2 * i : Nat) : Int)) = ρ (σ 87 ((2 * i + 1 : Nat) : Int))
def UO (σ σ' : Mem) (j : Nat) : Prop := (σ' 58 44 = 0 ∧ MT σ' ∧ (∀ h, TSt (mS σ) (mS σ') (stk σ j) h) ∧ σ' 58 35 = σ 58 35 ∧ ∀ ρ, VS (mS σ').1 (mS σ').2.1 ρ ↔ (VS (mS σ).1 (mS σ).2.1 ρ ∧ prE σ j ρ)) ∨ (σ' 58 44 = 1 ∧ ∀ ρ, VS (mS σ).1 (mS σ).2.1 ρ → prE σ j ρ → ∃ i : Nat, i < j ∧ ¬ gw (ρ (σ 87 ((2 * i : Nat) : Int))) ≤ 80)
/-- a set of nodes from which no road leads out, without general variables -/
def RC (σ : Mem) (R : Int → Prop) : Prop := (∀ n, R n → (0 ≤ n ∧ n < σ 58 35) ∧ (lkd (mS σ).1 n → R (σ 80 n)) ∧ (σ 79 n = 4 → R (σ 80 n)) ∧ (σ 79 n = 5 → R (σ 80 n) ∧ R (σ 81 n))) ∧ (∀ u, R u → oP (mS σ) u → (mS σ).2.2 u ≤ 0) ∧ ∀ l : List Int, l.Nodup → (∀ q ∈ l, R q ∧ σ 79 q = 5) → l.length ≤ 40
/-- where the pairs that wait come from -/
def QI (σ : Mem) (R : Int → Prop) (j : Nat) : Prop := ∃ q : Nat → Int, (∀ i, i + 1 < j → σ 79 (q i) = 5 ∧ R (q i)) ∧ (∀ i, i + 1 < j → ∀ k : Nat, i < k → k < j → Oc (mS σ).1 (σ 87 ((2 * k : Nat) : Int)) (σ 81 (q i))) ∧ ∀ i, i + 2 < j → Oc (mS σ).1 (q (i + 1)) (σ 81 (q i))
section MUN
variable {σ σ' σ1 : Mem} {d : Nat} {n r : Int} {μ ρ : Int → GT} {R : Int → Prop} {j : Nat}
theorem FU.tr (a : FU σ σ1) (b : FU σ1 σ') : FU σ σ' := ⟨fun i p q r s => (b.1 i p q r s).trans (a.1 i p q r s), fun k p q r => (b.2 k p q r).trans (a.2 k p q r)⟩
theorem FW.fu (a : FW σ σ') : FU σ σ' := ⟨fun i p _ r _ => a.1 i p r, fun k _ q _ => a.2 k q⟩
theorem FW2.fu (a : FW2 σ σ') : FU σ σ' := ⟨fun i p _ r _ => a.1 i p r, fun k _ q r => a.2 k q r⟩
theorem FW2.mt (f : FW2 σ σ') (H : MT σ) : MT σ' ∧ mS σ' = mS σ := H.cg (f.1 79 (by decide) (by decide)) (f.1 80 (by decide) (by decide)) (f.1 81 (by decide) (by decide)) (f.1 82 (by decide) (by decide)) (f.2 35 (by decide) (by decide))
theorem RC.oc (C : RC σ R) {u n : Int} (o : Oc (mS σ).1 u n) (h : R n) : R u := by
  obtain ⟨k, o⟩ := o
  induction k generalizing n with
  | zero => exact o.elim
  | succ k ih =>
    obtain ⟨-, c1, c2, c3⟩ := C.1 n h
    rcases o with o | ⟨a, o⟩ | ⟨a, o⟩ | ⟨a, o | o⟩
    · rw [← o]; exact h
    · exact ih (c1 a) o
    · exact ih (c2 a) o
    · exact ih (c3 a).1 o
    · have e2 : ((mS σ).1 n).2.2 = σ 81 n := by
        have a : σ 79 n = 5 := a
        show (if σ 79 n = 5 then σ 81 n else 0) = _; rw [if_pos a]
      rw [e2] at o
      exact ih (c3 a).2 o
theorem RC.cg (C : RC σ R) (h79 : σ' 79 = σ 79) (h80 : σ' 80 = σ 80) (h81 : σ' 81 = σ 81) (hc : σ' 58 35 = σ 58 35) (e : mS σ' = mS σ) : RC σ' R := by
  unfold RC at C ⊢
  rw [e, h79, h80, h81, hc]; exact C
/-- arrows that stand in one another differ -/
theorem QI.len (H : MT σ) (C : RC σ R) (Q : QI σ R j) : j ≤ 41 := by
  obtain ⟨q, q1, q2, q3⟩ := Q
  obtain ⟨ρ, V⟩ := H.2.2.2.2.2.2
  have e2 : ∀ i, i + 1 < j → ((mS σ).1 (q i)).2.2 = σ 81 (q i) := fun i hi => by show (if σ 79 (q i) = 5 then σ 81 (q i) else 0) = _; rw [if_pos (q1 i hi).1]
  have part : ∀ i, i + 1 < j → Oc (mS σ).1 (σ 81 (q i)) (q i) := fun i hi => Oc.p5 (q1 i hi).1 (Or.inr (by rw [e2 i hi]; exact Oc.self))
  have chain : ∀ i k, i < k → k + 1 < j → Oc (mS σ).1 (q k) (σ 81 (q i)) := by
    intro i k
    induction k with
    | zero => intro h; omega
    | succ k ih =>
      intro h1 h2
      by_cases e : i = k
      · rw [e]; exact q3 k h2
      · exact ((q3 k h2).tr (part k (by omega))).tr (ih (by omega) (by omega))
  have ne : ∀ i k, i < k → k + 1 < j → q i ≠ q k := fun i k h1 h2 e => by
    have o := chain i k h1 h2
    have r := (C.1 (q i) (q1 i (by omega)).2)
    have r2 := (C.1 _ (r.2.2.2 (q1 i (by omega)).1).2).1
    have z := o.sz H.1.1 V r2.1 r2.2
    have g := (V (q i) r.1.1 r.1.2).2.2.2 (q1 i (by omega)).1
    rw [e2 i (by omega)] at g
    have z2 : gz (ρ (q i)) = gz (ρ ((mS σ).1 (q i)).2.1) + gz (ρ (σ 81 (q i))) + 1 := by rw [g]; rfl
    rw [← e] at z
    omega
  have nd : ((List.range (j - 1)).map q).Nodup := by
    refine List.pairwise_map.mpr (List.Pairwise.imp_of_mem ?_ List.pairwise_lt_range)
    intro a b ha hb hab
    have := List.mem_range.mp hb
    exact ne a b hab (by omega)
  have := C.2.2 _ nd (fun x hx => by
    obtain ⟨i, hi, rfl⟩ := List.mem_map.mp hx
    have := List.mem_range.mp hi
    exact ⟨(q1 i (by omega)).2, (q1 i (by omega)).1⟩)
  rw [List.length_map, List.length_range] at this
  omega
theorem un_ill {x3 : Int} (h3 : rg x3) (hi : σ 58 44 ≠ 0) : Lb (d + 10) yMo_unify 16 [(0, .ref 58), (3, vi x3)] [] σ none σ := by
  refine K_Mo_unify_16 (d := d + 7) h3 ?_
  unfold B_Mo_unify_16
  by_cases c : x3 ≤ 0
  · rw [if_pos c]; exact ⟨rfl, rfl⟩
  · rw [if_neg c, if_pos hi]; exact ⟨rfl, rfl⟩
/-- a link of the memory is one of the store -/
theorem mS_lk {v o : Int} (hv : σ 79 v = 0) : mS (mup σ 80 v o) = (upS (mS σ).1 v (0, o, 0), (mS σ).2.1, (mS σ).2.2) := by
  have e79 : (mup σ 80 v o) 79 = σ 79 := mup_obj (by decide)
  have e81 : (mup σ 80 v o) 81 = σ 81 := mup_obj (by decide)
  refine Prod.ext ?_ (Prod.ext (show (mup σ 80 v o) 58 35 = σ 58 35 from mup_ne (by decide)) ?_)
  · funext n
    show ((mup σ 80 v o) 79 n, (mup σ 80 v o) 80 n, if (mup σ 80 v o) 79 n = 5 then (mup σ 80 v o) 81 n else 0) = if n = v then (0, o, 0) else (σ 79 n, σ 80 n, if σ 79 n = 5 then σ 81 n else 0)
    rw [e79, e81]
    by_cases e : n = v
    · rw [if_pos e, e, mup_eq, hv, if_neg (by decide)]
    · rw [if_neg e, mup_nk e]
  · funext n
    show (if (mup σ 80 v o) 81 n = 1 then 1000 else 0) = if σ 81 n = 1 then 1000 else 0
    rw [e81]
theorem lev_0 (u : Int) : 0 ≤ (mS σ).2.2 u := by
  show 0 ≤ if σ 81 u = 1 then (1000 : Int) else 0
  split <;> decide
theorem MT.lkd (H : MT σ) {v o : Int} (hv : oP (mS σ) v) (lv : (mS σ).2.2 v ≤ 0) (ho : 0 ≤ o ∧ o < σ 58 35) (nl : ¬ lkd (mS σ).1 o) (no : ¬ Oc (mS σ).1 v o) (lo : lO (mS σ) 0 o) : MT (mup σ 80 v o) ∧ (∀ h, TSt (mS σ) (mS (mup σ 80 v o)) (fun m => m = v ∨ m = o) h) ∧ ∀ ρ, VS (mS (mup σ 80 v o)).1 (mS (mup σ 80 v o)).2.1 ρ ↔ (VS (mS σ).1 (mS σ).2.1 ρ ∧ ρ v = ρ o) := by
  obtain ⟨ρ0, V0⟩ := H.2.2.2.2.2.2
  have k0 : σ 79 v = 0 := hv.2.1
  have L := fun h => lk_T (h := h) H.1 hv (fun u _ => lev_0 u) lv ho nl no lo V0
  have e := mS_lk (o := o) k0
  have o79 : (mup σ 80 v o) 79 = σ 79 := mup_obj (by decide)
  have o81 : (mup σ 80 v o) 81 = σ 81 := mup_obj (by decide)
  have o82 : (mup σ 80 v o) 82 = σ 82 := mup_obj (by decide)
  have oc : (mup σ 80 v o) 58 35 = σ 58 35 := mup_ne (by decide)
  refine ⟨⟨by rw [e]; exact (L 0).1.1, by rw [oc]; exact H.2.1, by rw [o79]; exact H.2.2.1, fun n a b => by rw [o79]; rw [oc] at b; exact H.2.2.2.1 n a b, fun n a b => ?_, fun n a b => by rw [o82]; rw [oc] at b; exact H.2.2.2.2.2.1 n a b, by rw [e]; exact (L 0).2.2⟩, fun h => by rw [e]; exact (L h).1, fun ρ => by rw [e]; exact (L 0).2.1 ρ⟩
  rw [oc] at b
  rw [o79, o81]
  have z := H.2.2.2.2.1 n a b
  refine ⟨fun k => ⟨?_, (z.1 k).2⟩, z.2⟩
  by_cases q : n = v
  · rw [q, mup_eq]; omega
  · rw [mup_nk q]; exact (z.1 k).1
theorem MT.hdk (H : MT σ) (V : VS (mS σ).1 (mS σ).2.1 ρ) {r : Int} (h0 : 0 ≤ r) (h1 : r < σ 58 35) (h : σ 79 r ≠ 0) : hd (ρ r) = σ 79 r := by
  have g := V r h0 h1
  rcases H.kd h0 h1 with k | k | k | k | k | k
  · exact absurd k h
  · rw [g.2.1 ⟨by show 1 ≤ σ 79 r; omega, by show σ 79 r ≤ 3; omega⟩]; show hd (gK (σ 79 r)) = _; rw [k]; rfl
  · rw [g.2.1 ⟨by show 1 ≤ σ 79 r; omega, by show σ 79 r ≤ 3; omega⟩]; show hd (gK (σ 79 r)) = _; rw [k]; rfl
  · rw [g.2.1 ⟨by show 1 ≤ σ 79 r; omega, by show σ 79 r ≤ 3; omega⟩]; show hd (gK (σ 79 r)) = _; rw [k]; rfl
  · rw [g.2.2.1 k, k]; rfl
  · rw [g.2.2.2 k, k]; rfl
end MUN
