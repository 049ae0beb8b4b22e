/-! A part of which one type is demanded; ~ and operations. -/
/-- a part, made one with a type without parts -/
def DRes (S S' : TS) (E : List (Int × Int)) (M : Int → Prop) (h : Int) (A : Tr) (P : Int → Prop) (s0 : GT) : Prop := TSt S S' M h ∧ inC S' P ∧ (∀ ρ, VS S'.1 S'.2.1 ρ → tyE A false (Gam S ρ E) s0 ∧ ((∀ p, P p → gw (ρ p) ≤ 80) → tyE A true (Gam S ρ E) s0)) ∧ ∀ w ρ, VS S.1 S.2.1 ρ → tyE A w (Gam S ρ E) s0 → ∃ ρ', VS S'.1 S'.2.1 ρ' ∧ (∀ n, 0 ≤ n → n < S.2.1 → ρ' n = ρ n) ∧ (w = true → ∀ p, P p → gw (ρ' p) ≤ 80)
/-- a type without parts -/
def bsN (S : TS) (n j : Int) : Prop := (0 ≤ n ∧ n < S.2.1) ∧ (S.1 n).1 = j ∧ 1 ≤ j ∧ j ≤ 3
section TDM
variable {S S1 S2 S3 S' : TS} {M : Int → Prop} {h j n : Int} {ρ : Int → GT} {E : List (Int × Int)} {A B : Tr} {P PA PB : Int → Prop}
theorem bsN.up (b : bsN S n j) (x : XE S S' M h) : bsN S' n j := by
  obtain ⟨⟨n0, n1⟩, k, j1, j2⟩ := b
  refine ⟨⟨n0, by have := x.1; omega⟩, ?_, j1, j2⟩
  rcases x.2.1 n n0 n1 with q | q
  · have := q.1.2.1; omega
  · rw [q]; exact k
theorem bsN.v (b : bsN S n j) (V : VS S.1 S.2.1 ρ) : ρ n = gK j := by
  obtain ⟨⟨n0, n1⟩, k, j1, j2⟩ := b
  have := (V n n0 n1).2.1 (by rw [k]; exact ⟨j1, j2⟩)
  rw [k] at this; exact this
theorem bsN.r (b : bsN S' n j) : Res S M h S' n := Res.lf (by rw [b.2.1]; exact b.2.2) b.1.1 b.1.2
theorem TR_dem {a : Int} (I : EnvI S h E M) (RA : TRes S S1 E M h A PA a) (b : bsN S1 n j) (u : TSt S1 S2 (fun x => x = a ∨ x = n) h) (uV : ∀ ρ, VS S2.1 S2.2.1 ρ ↔ (VS S1.1 S1.2.1 ρ ∧ ρ a = ρ n)) : DRes S S2 E M h A PA (gK j) := by
  obtain ⟨xa, ra, ca, sa, ka⟩ := RA
  have lu := u.2.1.1
  refine ⟨xa.tr u (fun m q => ?_), fun p q => ?_, fun ρ V => ?_, fun w ρ V z => ?_⟩
  · rcases q with q | q
    · rw [q]; exact ra
    · rw [q]; exact b.r
  · have := ca p q; omega
  · obtain ⟨V1, e⟩ := (uV ρ).mp V
    have q := sa ρ V1
    rw [e, b.v V1] at q
    exact q
  · obtain ⟨ρ1, V1, o1, e1, w1⟩ := ka w ρ _ V z
    exact ⟨ρ1, (uV ρ1).mpr ⟨V1, by rw [e1, b.v V1]⟩, o1, w1⟩
theorem TR_dem_no {a : Int} (RA : TRes S S1 E M h A PA a) (b : bsN S1 n j) (no : ∀ ρ, VS S1.1 S1.2.1 ρ → ρ a = ρ n → ¬ gw (ρ a) ≤ 80) (V : VS S.1 S.2.1 ρ) : ¬ tyE A true (Gam S ρ E) (gK j) := by
  intro z
  obtain ⟨ρ1, V1, o1, e1, w1⟩ := RA.2.2.2.2 true ρ _ V z
  refine no ρ1 V1 (by rw [e1, b.v V1]) ?_
  rw [e1]
  show (1 : Int) ≤ 80
  decide
theorem gK_w {k : Int} : gw (gK k) ≤ 80 := by show (1 : Int) ≤ 80; decide
theorem DR_neg (D : DRes S S' E M h A PA (gK 3)) (b : bsN S n 3) : TRes S S' E M h (nd 8 0 A nl nl) (fun p => PA p ∨ p = n) n := by
  obtain ⟨x, c, s, k⟩ := D
  have b' := b.up x.2.1
  refine ⟨x, b'.r, fun p q => ?_, fun ρ V => ?_, fun w ρ s V z => ?_⟩
  · rcases q with q | q
    · exact c p q
    · rw [q]; exact b'.1
  · obtain ⟨q1, q2⟩ := s ρ V
    exact ⟨⟨fun _ e => (by cases e), q1, b'.v V⟩, fun hp => ⟨fun _ _ => hp _ (Or.inr rfl), q2 (fun p q => hp p (Or.inl q)), b'.v V⟩⟩
  · obtain ⟨z1, z2, z3⟩ := z
    obtain ⟨ρ1, V1, o1, w1⟩ := k w ρ V z2
    refine ⟨ρ1, V1, o1, (b'.v V1).trans z3.symm, fun e p q => ?_⟩
    rcases q with q | q
    · exact w1 e p q
    · rw [q, b'.v V1]; exact gK_w
/-- two demands, one after the other -/
theorem DR_op {z jo jr : Int} (I : EnvI S h E M) (hh : h ≤ 999) (W : SO S) (ho : opdT z = gK jo) (hr : opT z = gK jr) (DA : DRes S S1 E M h A PA (gK jo)) (DB : DRes S1 S2 E M h B PB (gK jo)) (b : bsN S n jr) : TRes S S2 E M h (nd 9 z A B nl) (fun p => (PA p ∨ PB p) ∨ p = n) n := by
  obtain ⟨xa, ca, sa, ka⟩ := DA
  obtain ⟨xb, cb, sb, kb⟩ := DB
  have hR : ∀ m, M m → Res S M h S1 m := fun m q => Res.m xa.2.1 I.1 q
  have x := xa.tr xb hR
  have b' := b.up x.2.1
  have lb := xb.2.1.1
  refine ⟨x, b'.r, fun p q => ?_, fun ρ V => ?_, fun w ρ s V y => ?_⟩
  · rcases q with (q | q) | q
    · have := ca p q; omega
    · exact cb p q
    · rw [q]; exact b'.1
  · have V1 := xb.2.2 ρ V
    obtain ⟨q1, q2⟩ := sa ρ V1
    obtain ⟨q3, q4⟩ := sb ρ V
    rw [TRes.gam I hh W xa V1] at q3 q4
    rw [← ho] at q1 q2 q3 q4
    have er : ρ n = opT z := (b'.v V).trans hr.symm
    exact ⟨⟨fun _ e => (by cases e), q1, q3, er⟩, fun hp => ⟨fun _ _ => hp _ (Or.inr rfl), q2 (fun p q => hp p (Or.inl (Or.inl q))), q4 (fun p q => hp p (Or.inl (Or.inr q))), er⟩⟩
  · obtain ⟨y1, y2, y3, y4⟩ := y
    rw [ho] at y2 y3
    obtain ⟨ρ1, V1, o1, w1⟩ := ka w ρ V y2
    obtain ⟨ρ2, V2, o2, w2⟩ := kb w ρ1 V1 (by rw [TRes.gam2 I hh W xa V V1 o1]; exact y3)
    have lx := xa.2.1.1
    refine ⟨ρ2, V2, fun m p q => (o2 m p (by omega)).trans (o1 m p q), by rw [b'.v V2, y4, hr], fun e p q => ?_⟩
    rcases q with (q | q) | q
    · have := ca p q
      rw [o2 p this.1 this.2]; exact w1 e p q
    · exact w2 e p q
    · rw [q, b'.v V2]; exact gK_w
end TDM
