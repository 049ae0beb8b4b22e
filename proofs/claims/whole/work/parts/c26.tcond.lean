/-! A condition as the class looks at it. -/
section TCD
variable {S S1 S2 S3 S4 : TS} {M : Int → Prop} {h : Int} {ρ : Int → GT} {E : List (Int × Int)} {A B C : Tr} {PA PB PC : Int → Prop}
theorem TR_if {b c : Int} (I : EnvI S h E M) (hh : h ≤ 999) (W : SO S) (DA : DRes S S1 E M h A PA (gK 2)) (RB : TRes S1 S2 E M h B PB b) (RC : TRes S2 S3 E M h C PC c) (u : TSt S3 S4 (fun x => x = c ∨ x = b) h) (uV : ∀ ρ, VS S4.1 S4.2.1 ρ ↔ (VS S3.1 S3.2.1 ρ ∧ ρ c = ρ b)) : TRes S S4 E M h (nd 15 0 A B C) (fun p => (PA p ∨ PB p ∨ PC p) ∨ p = b) b := by
  obtain ⟨xa, ca, sa, ka⟩ := DA
  have I1 := I.up hh W xa.2.1
  obtain ⟨x2, rb, rc, ci, so, co⟩ := TRes.two I1 hh xa.1 RB RC
  have hR : ∀ m, M m → Res S M h S1 m := fun m q => Res.m xa.2.1 I.1 q
  have x3 := xa.tr x2 hR
  have rb3 := Res.tr xa.2.1 hR rb
  have rc3 := Res.tr xa.2.1 hR rc
  have hR3 : ∀ m, (m = c ∨ m = b) → Res S M h S3 m := fun m q => by
    rcases q with q | q
    · rw [q]; exact rc3
    · rw [q]; exact rb3
  have x4 := x3.tr u hR3
  have rb4 := rb3.up u.2.1 x3.2.1.1 hR3
  have l2 := x2.2.1.1
  have lu := u.2.1.1
  have la := xa.2.1.1
  refine ⟨x4, rb4, fun p q => ?_, fun ρ V => ?_, fun w ρ s V y => ?_⟩
  · rcases q with (q | q) | q
    · have := ca p q; omega
    · have := ci p q; omega
    · rw [q]; exact rb4.1
  · obtain ⟨V3, e⟩ := (uV ρ).mp V
    have V1 := x2.2.2 ρ V3
    obtain ⟨q1, q2⟩ := sa ρ V1
    obtain ⟨⟨q3, q4⟩, q5⟩ := so ρ V3
    rw [TRes.gam I hh W xa V1, e] at q4
    rw [TRes.gam I hh W xa V1] at q3
    rw [TRes.gam I hh W xa V1, e] at q5
    exact ⟨⟨fun _ e => (by cases e), q1, q3, q4⟩, fun hp => ⟨fun _ _ => hp _ (Or.inr rfl), q2 (fun p q => hp p (Or.inl (Or.inl q))), q5 (fun p q => hp p (Or.inl (Or.inr q)))⟩⟩
  · obtain ⟨y1, y2, y3, y4⟩ := y
    obtain ⟨ρ1, V1, o1, w1⟩ := ka w ρ V y2
    have eg := TRes.gam2 I hh W xa V V1 o1
    obtain ⟨ρ3, V3, o3, eb, ec, w3⟩ := co w ρ1 s s V1 (by rw [eg]; exact y3) (by rw [eg]; exact y4)
    refine ⟨ρ3, (uV ρ3).mpr ⟨V3, by rw [eb, ec]⟩, fun n p q => (o3 n p (by omega)).trans (o1 n p q), eb, fun e p q => ?_⟩
    rcases q with (q | q) | q
    · have := ca p q
      rw [o3 p this.1 this.2]; exact w1 e p q
    · exact w3 e p q
    · rw [q, eb]; exact y1 (by decide) e
theorem TR_if_no {b c : Int} (I : EnvI S h E M) (hh : h ≤ 999) (W : SO S) (hC : isE C) (DA : DRes S S1 E M h A PA (gK 2)) (RB : TRes S1 S2 E M h B PB b) (RC : TRes S2 S3 E M h C PC c) (no : ∀ ρ, VS S3.1 S3.2.1 ρ → ρ c = ρ b → ¬ gw (ρ c) ≤ 80) (s : GT) (V : VS S.1 S.2.1 ρ) : ¬ tyE (nd 15 0 A B C) true (Gam S ρ E) s := by
  intro y
  obtain ⟨xa, ca, sa, ka⟩ := DA
  obtain ⟨x2, rb, rc, ci, so, co⟩ := TRes.two (I.up hh W xa.2.1) hh xa.1 RB RC
  obtain ⟨y1, y2, y3, y4⟩ := y
  obtain ⟨ρ1, V1, o1, w1⟩ := ka true ρ V y2
  have eg := TRes.gam2 I hh W xa V V1 o1
  obtain ⟨ρ3, V3, o3, eb, ec, w3⟩ := co true ρ1 s s V1 (by rw [eg]; exact y3) (by rw [eg]; exact y4)
  exact no ρ3 V3 (by rw [eb, ec]) (by rw [ec]; exact tyE_w hC y4)
end TCD
