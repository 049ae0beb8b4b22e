/-! New nodes as results; an application. -/
section TAP
variable {S S1 S2 S3 S4 S5 S' : TS} {M : Int → Prop} {h : Int} {ρ : Int → GT} {E : List (Int × Int)} {A B : Tr} {P PA PB : Int → Prop}
theorem Res.new {v lv : Int} (xl : S.2.1 ≤ v) (o : oP S' v) (l : S'.2.2 v = h) : Res S M h S' v := by
  refine ⟨o.1, fun u ou oc => Or.inl (by rw [oP_oc o oc]; exact xl), fun k X hk _ _ u ou oc lt => ?_, fun _ u ou oc => ?_⟩
  · rw [oP_oc o oc, l] at lt; omega
  · rw [oP_oc o oc, l]; exact Int.le_refl _
theorem Res.p5 {k a b : Int} (hk : 0 ≤ k ∧ k < S'.2.1) (e : S'.1 k = (5, a, b)) (ra : Res S M h S' a) (rb : Res S M h S' b) : Res S M h S' k := by
  have key : ∀ u, oP S' u → Oc S'.1 u k → Oc S'.1 u a ∨ Oc S'.1 u b := fun u o oc => by
    have z := oc.cs
    unfold lkd at z
    rw [e] at z
    rcases z with c | ⟨c, -⟩ | ⟨c, -⟩ | ⟨-, c⟩
    · have := o.2.1
      rw [← c, e] at this
      exact absurd this (by show ¬ (5 : Int) = 0; decide)
    · exact absurd c.1 (by show ¬ (5 : Int) = 0; decide)
    · exact absurd c (by show ¬ (5 : Int) = 4; decide)
    · exact c
  refine ⟨hk, fun u o oc => ?_, fun l X hl hX hM u o oc lt => ?_, fun hM u o oc => ?_⟩
  · rcases key u o oc with c | c
    · exact ra.2.1 u o c
    · exact rb.2.1 u o c
  · rcases key u o oc with c | c
    · exact ra.2.2.1 l X hl hX hM u o c lt
    · exact rb.2.2.1 l X hl hX hM u o c lt
  · rcases key u o oc with c | c
    · exact ra.2.2.2 hM u o c
    · exact rb.2.2.2 hM u o c
theorem Res.p4 {k a b : Int} (hk : 0 ≤ k ∧ k < S'.2.1) (e : S'.1 k = (4, a, b)) (ra : Res S M h S' a) : Res S M h S' k := by
  have key : ∀ u, oP S' u → Oc S'.1 u k → Oc S'.1 u a := fun u o oc => by
    have z := oc.cs
    unfold lkd at z
    rw [e] at z
    rcases z with c | ⟨c, -⟩ | ⟨-, c⟩ | ⟨c, -⟩
    · have := o.2.1
      rw [← c, e] at this
      exact absurd this (by show ¬ (4 : Int) = 0; decide)
    · exact absurd c.1 (by show ¬ (4 : Int) = 0; decide)
    · exact c
    · exact absurd c (by show ¬ (4 : Int) = 5; decide)
  exact ⟨hk, fun u o oc => ra.2.1 u o (key u o oc), fun l X hl hX hM u o oc lt => ra.2.2.1 l X hl hX hM u o (key u o oc) lt, fun hM u o oc => ra.2.2.2 hM u o (key u o oc)⟩
/-- a new variable behind a step -/
theorem fresh_r (x : XE S S1 M h) (c0 : 0 ≤ S.2.1) {t : Int} : Res S M h (adT S1 (0, -1, t) h) S1.2.1 := by
  have l := x.1
  have e : (adT S1 (0, -1, t) h).1 S1.2.1 = (0, -1, t) := ad_c
  refine Res.new (lv := 0) l ⟨⟨by omega, by show S1.2.1 < S1.2.1 + 1; omega⟩, by rw [e], fun q => ?_⟩ (if_pos rfl)
  have q2 := q.2
  rw [e] at q2
  exact absurd q2 (by show ¬ (0 : Int) ≤ -1; decide)
/-- an application: two parts, a new variable, an arrow, made one with the first part -/
theorem TR_app {a b t lv : Int} (I : EnvI S h E M) (hh : h ≤ 999) (W : SO S) (c0 : 0 ≤ S.2.1) (RA : TRes S S1 E M h A PA a) (RB : TRes S1 S2 E M h B PB b) (e3 : S3 = adT S2 (0, -1, t) h) (e4 : S4 = adT S3 (5, b, S2.2.1) lv) (u : TSt S4 S5 (fun x => x = a ∨ x = S3.2.1) h) (uV : ∀ ρ, VS S5.1 S5.2.1 ρ ↔ (VS S4.1 S4.2.1 ρ ∧ ρ a = ρ S3.2.1)) : TRes S S5 E M h (nd 11 0 A B nl) (fun p => (PA p ∨ PB p) ∨ p = S2.2.1) S2.2.1 := by
  obtain ⟨x2, ra, rb, ci, so, co⟩ := TRes.two I hh W RA RB
  have l2 := x2.2.1.1
  have hR2 : ∀ m, M m → Res S M h S2 m := fun m q => Res.m x2.2.1 I.1 q
  have n3 : nwT S2 (0, -1, t) := Or.inl ⟨rfl, by show (-1 : Int) < 0; decide⟩
  have s3 : TSt S2 S3 M h := by rw [e3]; exact ad_S x2.1 (by omega) n3 (fun _ => by omega)
  have c3 : S3.2.1 = S2.2.1 + 1 := by rw [e3]; rfl
  have x3 := x2.tr s3 hR2
  have ra3 := ra.up s3.2.1 l2 hR2
  have rb3 := rb.up s3.2.1 l2 hR2
  have rr3 : Res S M h S3 S2.2.1 := by rw [e3]; exact fresh_r x2.2.1 c0
  have hR3 : ∀ m, M m → Res S M h S3 m := fun m q => Res.m x3.2.1 I.1 q
  have n4 : nwT S3 (5, b, S2.2.1) := Or.inr (Or.inr ⟨rfl, rb3.1, by show 0 ≤ S2.2.1; omega, by show S2.2.1 < S3.2.1; omega⟩)
  have s4 : TSt S3 S4 M h := by rw [e4]; exact ad_S x3.1 (by omega) n4 (fun q => absurd q (by show ¬ (5 : Int) = 0; decide))
  have c4 : S4.2.1 = S3.2.1 + 1 := by rw [e4]; rfl
  have x4 := x3.tr s4 hR3
  have ra4 := ra3.up s4.2.1 x3.2.1.1 hR3
  have rb4 := rb3.up s4.2.1 x3.2.1.1 hR3
  have rr4 := rr3.up s4.2.1 x3.2.1.1 hR3
  have k4 : S4.1 S3.2.1 = (5, b, S2.2.1) := by rw [e4]; exact ad_c
  have rk4 : Res S M h S4 S3.2.1 := Res.p5 ⟨by omega, by omega⟩ k4 rb4 rr4
  have hR4 : ∀ m, (m = a ∨ m = S3.2.1) → Res S M h S4 m := fun m q => by
    rcases q with q | q
    · rw [q]; exact ra4
    · rw [q]; exact rk4
  have x5 := x4.tr u hR4
  have rr5 := rr4.up u.2.1 x4.2.1.1 hR4
  have l5 := u.2.1.1
  have vk : ∀ {ρ}, VS S4.1 S4.2.1 ρ → ρ S3.2.1 = gA (ρ b) (ρ S2.2.1) := fun {ρ} V => by
    rw [e4] at V
    exact (ad_r x3.1 (by omega) V).2 rfl
  refine ⟨x5, rr5, fun p q => ?_, fun ρ V => ?_, fun w ρ s V z => ?_⟩
  · rcases q with q | q
    · have := ci p q; omega
    · rw [q]; exact rr5.1
  · obtain ⟨V4, ea⟩ := (uV ρ).mp V
    have V2 := s3.2.2 ρ (s4.2.2 ρ V4)
    rw [vk V4] at ea
    obtain ⟨⟨q1, q2⟩, q3⟩ := so ρ V2
    rw [ea] at q1 q3
    exact ⟨⟨fun _ e => (by cases e), ρ b, q1, q2⟩, fun hp => ⟨fun _ _ => hp _ (Or.inr rfl), ρ b, (q3 (fun p q => hp p (Or.inl q))).1, (q3 (fun p q => hp p (Or.inl q))).2⟩⟩
  · obtain ⟨z1, a', z2, z3⟩ := z
    obtain ⟨ρ2, V2, o2, ea, eb, w2⟩ := co w ρ _ _ V z2 z3
    obtain ⟨ρ3, V3, o3, er⟩ := ad_x (lv := h) x2.1 (by omega) n3 V2 s (Or.inl ⟨rfl, by show (-1 : Int) < 0; decide⟩)
    rw [← e3] at V3
    obtain ⟨ρ4, V4, o4, ek⟩ := ad_x (lv := lv) x3.1 (by omega) n4 V3 _ (Or.inr (Or.inr ⟨rfl, rfl⟩))
    rw [← e4] at V4
    have o24 : ∀ n, 0 ≤ n → n < S2.2.1 → ρ4 n = ρ2 n := fun n p q => (o4 n p (by omega)).trans (o3 n p q)
    have er4 : ρ4 S2.2.1 = s := (o4 _ (by omega) (by omega)).trans er
    refine ⟨ρ4, (uV ρ4).mpr ⟨V4, ?_⟩, fun n p q => (o24 n p (by omega)).trans (o2 n p q), er4, fun e p q => ?_⟩
    · rw [o24 a ra.1.1 ra.1.2, ea, vk V4, o24 b rb.1.1 rb.1.2, eb, er4]
    · rcases q with q | q
      · have := ci p q
        rw [o24 p this.1 this.2]; exact w2 e p q
      · rw [q, er4]; exact z1 (by decide) e
end TAP
