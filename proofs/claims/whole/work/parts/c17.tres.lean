/-! Parts of an expression one after the other. -/
section TRS
variable {S S1 S2 S' : TS} {M : Int → Prop} {h : Int} {ρ : Int → GT} {E : List (Int × Int)} {T A B : Tr} {PA PB : Int → Prop}
theorem TRes.gam (I : EnvI S h E M) (hh : h ≤ 999) (W : SO S) (x : TSt S S1 M h) (V : VS S1.1 S1.2.1 ρ) : Gam S1 ρ E = Gam S ρ E := Gam_up I hh x.2.1 W x.1 x.2.2 V
theorem TRes.gam2 (I : EnvI S h E M) (hh : h ≤ 999) (W : SO S) (x : TSt S S1 M h) {ρ1 : Int → GT} (V : VS S.1 S.2.1 ρ) (V1 : VS S1.1 S1.2.1 ρ1) (old : ∀ n, 0 ≤ n → n < S.2.1 → ρ1 n = ρ n) : Gam S1 ρ1 E = Gam S ρ E := (Gam_up I hh x.2.1 W x.1 x.2.2 V1).trans (Gam_cg I W V (x.2.2 _ V1) (fun m a => old m (I.1 m a).1 (I.1 m a).2))
theorem lf_no {n u : Int} (hn : 1 ≤ (S.1 n).1 ∧ (S.1 n).1 ≤ 3) (o : oP S u) (oc : Oc S.1 u n) : False := by
  rcases oc.cs with c | ⟨c, -⟩ | ⟨c, -⟩ | ⟨c, -⟩
  · have := o.2.1; rw [← c] at this; omega
  · have := c.1; omega
  · omega
  · omega
theorem Res.lf {n : Int} (hn : 1 ≤ (S'.1 n).1 ∧ (S'.1 n).1 ≤ 3) (h0 : 0 ≤ n) (h1 : n < S'.2.1) : Res S M h S' n := ⟨⟨h0, h1⟩, fun _ o oc => (lf_no hn o oc).elim, fun _ _ _ _ _ _ o oc _ => (lf_no hn o oc).elim, fun _ _ o oc => (lf_no hn o oc).elim⟩
theorem TSt.rf (W : SO S) : TSt S S M h := ⟨W, XE.rf, fun _ V => V⟩
theorem TR_base {n j : Int} (W : SO S) (h0 : 0 ≤ n) (h1 : n < S.2.1) (K : (S.1 n).1 = j) (hj : 1 ≤ j ∧ j ≤ 3) (hT : ∀ w G s, tyE T w G s ↔ ((w = true → gw s ≤ 80) ∧ s = gK j)) : TRes S S E M h T (fun p => p = n) n := by
  have vn : ∀ {ρ}, VS S.1 S.2.1 ρ → ρ n = gK j := fun V => by
    have := (V n h0 h1).2.1 (by rw [K]; exact hj)
    rw [K] at this; exact this
  refine ⟨TSt.rf W, Res.lf (by rw [K]; exact hj) h0 h1, fun m e => by rw [e]; exact ⟨h0, h1⟩, fun ρ V => ⟨(hT _ _ _).mpr ⟨fun e => (by cases e), vn V⟩, fun hp => (hT _ _ _).mpr ⟨fun _ => hp n rfl, vn V⟩⟩, fun w ρ s V z => ?_⟩
  obtain ⟨z1, z2⟩ := (hT _ _ _).mp z
  exact ⟨ρ, V, fun _ _ _ => rfl, (vn V).trans z2.symm, fun e p q => by rw [q, vn V, ← z2]; exact z1 e⟩
theorem lkG_E {z : Int} : ∀ {E : List (Int × Int)}, (∃ e ∈ E, e.1 = z) → lkG z (Gam S ρ E) = fun s => Den S (lkE z E) ρ s
  | [], ⟨e, a, _⟩ => by cases a
  | (y, n) :: E, ⟨e, a, b⟩ => by
    show (if y = z then (fun s => Den S n ρ s) else lkG z (Gam S ρ E)) = fun s => Den S (if y = z then n else lkE z E) ρ s
    by_cases q : y = z
    · rw [if_pos q, if_pos q]
    · rw [if_neg q, if_neg q]
      refine lkG_E ⟨e, ?_, b⟩
      rcases List.mem_cons.mp a with c | c
      · rw [c] at b; exact absurd b q
      · exact c
theorem lkE_m {z : Int} : ∀ {E : List (Int × Int)}, (∃ e ∈ E, e.1 = z) → (z, lkE z E) ∈ E
  | [], ⟨e, a, _⟩ => by cases a
  | (y, n) :: E, ⟨e, a, b⟩ => by
    unfold lkE
    by_cases q : y = z
    · rw [if_pos q, ← q]; exact List.mem_cons_self
    · rw [if_neg q]
      refine List.mem_cons_of_mem _ (lkE_m ⟨e, ?_, b⟩)
      rcases List.mem_cons.mp a with c | c
      · rw [c] at b; exact absurd b q
      · exact c
/-- a name -/
theorem TR_name {z r : Int} (hz : ∃ e ∈ E, e.1 = z) (I : EnvI S h E M) (x : TSt S S' (fun _ => False) h) (so : ∀ ρ, VS S'.1 S'.2.1 ρ → Den S (lkE z E) ρ (ρ r)) (co : ∀ ρ s, VS S.1 S.2.1 ρ → Den S (lkE z E) ρ s → ∃ ρ', VS S'.1 S'.2.1 ρ' ∧ (∀ m, 0 ≤ m → m < S.2.1 → ρ' m = ρ m) ∧ ρ' r = s) (re : ∀ M, gO S 1000 M (lkE z E) → Res S M h S' r) : TRes S S' E M h (nd 5 z nl nl nl) (fun p => p = r) r := by
  have R := re M (I.2.2 _ (lkE_m hz)).2
  have hT : ∀ {w : Bool} {ρ : Int → GT} {s : GT}, tyE (nd 5 z nl nl nl) w (Gam S ρ E) s ↔ ((w = true → gw s ≤ 80) ∧ Den S (lkE z E) ρ s) := fun {w ρ s} => by
    show (((5 : Nat) ≠ 17 → w = true → gw s ≤ 80) ∧ lkG z (Gam S ρ E) s) ↔ _
    rw [lkG_E hz]
    exact ⟨fun ⟨a, b⟩ => ⟨a (by decide), b⟩, fun ⟨a, b⟩ => ⟨fun _ => a, b⟩⟩
  refine ⟨⟨x.1, x.2.1.mo (fun _ q => q.elim), x.2.2⟩, R, fun m e => by rw [e]; exact R.1, fun ρ V => ⟨hT.mpr ⟨fun e => (by cases e), so ρ V⟩, fun hp => hT.mpr ⟨fun _ => hp r rfl, so ρ V⟩⟩, fun w ρ s V q => ?_⟩
  obtain ⟨z1, z2⟩ := hT.mp q
  obtain ⟨ρ', V', old, e⟩ := co ρ s V z2
  exact ⟨ρ', V', old, e, fun w p q => by rw [q, e]; exact z1 w⟩
/-- two parts, one after the other -/
theorem TRes.two {a b : Int} (I : EnvI S h E M) (hh : h ≤ 999) (W : SO S) (RA : TRes S S1 E M h A PA a) (RB : TRes S1 S2 E M h B PB b) : TSt S S2 M h ∧ Res S M h S2 a ∧ Res S M h S2 b ∧ inC S2 (fun p => PA p ∨ PB p) ∧ (∀ ρ, VS S2.1 S2.2.1 ρ → (tyE A false (Gam S ρ E) (ρ a) ∧ tyE B false (Gam S ρ E) (ρ b)) ∧ ((∀ p, PA p ∨ PB p → gw (ρ p) ≤ 80) → tyE A true (Gam S ρ E) (ρ a) ∧ tyE B true (Gam S ρ E) (ρ b))) ∧ ∀ w ρ sa sb, VS S.1 S.2.1 ρ → tyE A w (Gam S ρ E) sa → tyE B w (Gam S ρ E) sb → ∃ ρ', VS S2.1 S2.2.1 ρ' ∧ (∀ n, 0 ≤ n → n < S.2.1 → ρ' n = ρ n) ∧ ρ' a = sa ∧ ρ' b = sb ∧ (w = true → ∀ p, PA p ∨ PB p → gw (ρ' p) ≤ 80) := by
  obtain ⟨xa, ra, ca, sa, ka⟩ := RA
  obtain ⟨xb, rb, cb, sb, kb⟩ := RB
  have hR : ∀ m, M m → Res S M h S1 m := fun m q => Res.m xa.2.1 I.1 q
  have l1 := xa.2.1.1
  have l2 := xb.2.1.1
  refine ⟨xa.tr xb hR, ra.up xb.2.1 l1 hR, rb.tr xa.2.1 hR, fun m q => ?_, fun ρ V => ?_, fun w ρ s1 s2 V z1 z2 => ?_⟩
  · rcases q with q | q
    · have := ca m q; omega
    · exact cb m q
  · have V1 := xb.2.2 ρ V
    have e := TRes.gam I hh W xa V1
    have q1 := sa ρ V1
    have q2 := sb ρ V
    rw [e] at q2
    exact ⟨⟨q1.1, q2.1⟩, fun hp => ⟨q1.2 (fun p q => hp p (Or.inl q)), q2.2 (fun p q => hp p (Or.inr q))⟩⟩
  · obtain ⟨ρ1, V1, o1, e1, w1⟩ := ka w ρ s1 V z1
    have eg := TRes.gam2 I hh W xa V V1 o1
    obtain ⟨ρ2, V2, o2, e2, w2⟩ := kb w ρ1 s2 V1 (by rw [eg]; exact z2)
    refine ⟨ρ2, V2, fun n p q => (o2 n p (by omega)).trans (o1 n p q), (o2 a ra.1.1 ra.1.2).trans e1, e2, fun e p q => ?_⟩
    rcases q with q | q
    · have := ca p q
      rw [o2 p this.1 this.2]; exact w1 e p q
    · exact w2 e p q
end TRS
