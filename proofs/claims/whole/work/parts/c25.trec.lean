/-! A REC: its first part's fixed points, the name, the second part. -/
section TRC
variable {S S1 S2 S3 : TS} {M : Int → Prop} {h : Int} {ρ : Int → GT} {E : List (Int × Int)} {A B : Tr} {PA PB : Int → Prop}
theorem TR_rec {h1 z t b : Int} (I : EnvI S h E M) (hh : h ≤ 998) (hk : h ≤ h1) (W : SO S) (RA : TRP S S1 E M h1 (fxE z A) PA t) {lev : Int → Int} (g1 : ∀ u, gv S1 M t u → lev u = 1000) (g2 : ∀ u, oP S1 u → ¬ gv S1 M t u → lev u = S1.2.2 u) (e2 : S2 = (S1.1, S1.2.1, lev)) (RB : TRes S2 S3 ((z, t) :: E) M h B PB b) : TRes S S3 E M h (nd 14 z A B nl) (fun p => (PA p ∨ PB p) ∨ p = b) b := by
  have gam := fun {ρ : Int → GT} (V : VS S1.1 S1.2.1 ρ) => let_gam (z := z) I hh hk W RA g1 g2 V
  obtain ⟨xa, ra, ca, sa, ka⟩ := RA
  obtain ⟨xb, rb, cb, sb, kb⟩ := RB
  rw [← e2] at gam
  have v2 : ∀ ρ, VS S2.1 S2.2.1 ρ ↔ VS S1.1 S1.2.1 ρ := fun ρ => by rw [e2]
  have c2 : S2.2.1 = S1.2.1 := by rw [e2]
  have l1 := xa.2.1.1
  have lb := xb.2.1.1
  have x2 : TSt S S2 M h := by
    rw [e2]
    exact (gen_S I W ⟨xa.1, xa.2.1.le (by omega), xa.2.2⟩ ra.2.1 g1 g2).1
  have hR2 : ∀ m, M m → Res S M h S2 m := fun m q => Res.m x2.2.1 I.1 q
  refine ⟨x2.tr xb hR2, Res.tr x2.2.1 hR2 rb, fun p q => ?_, fun ρ V => ?_, fun w ρ s V y => ?_⟩
  · rcases q with (q | q) | q
    · have := ca p q; omega
    · exact cb p q
    · rw [q]; exact rb.1
  · have V1 := (v2 ρ).mp (xb.2.2 ρ V)
    obtain ⟨q1, q2⟩ := sa ρ V1
    obtain ⟨q3, q4⟩ := sb ρ V
    rw [(gam V1).2] at q3 q4
    exact ⟨⟨fun _ e => (by cases e), ⟨_, q1⟩, q3⟩, fun hp => ⟨fun _ _ => hp _ (Or.inr rfl), ⟨_, q2 (fun p q => hp p (Or.inl (Or.inl q)))⟩, q4 (fun p q => hp p (Or.inl (Or.inr q)))⟩⟩
  · obtain ⟨y1, ⟨a, y2⟩, y3⟩ := y
    obtain ⟨ρ1, V1, o1, ea, w1⟩ := ka w ρ a V y2
    have eg : Gam S ρ1 E = Gam S ρ E := Gam_cg I W V (xa.2.2 _ V1) (fun m q => o1 m (I.1 m q).1 (I.1 m q).2)
    have e3 := (gam V1).2
    rw [eg] at e3
    obtain ⟨ρ3, V3, o3, eb, w3⟩ := kb w ρ1 s ((v2 ρ1).mpr V1) (by rw [e3]; exact y3)
    refine ⟨ρ3, V3, fun n p q => (o3 n p (by omega)).trans (o1 n p q), eb, fun e p q => ?_⟩
    rcases q with (q | q) | q
    · have := ca p q
      rw [o3 p this.1 (by omega)]; exact w1 e p q
    · exact w3 e p q
    · rw [q, eb]; exact y1 (by decide) e
/-- the second part has no type: the REC has none -/
theorem TR_rec_no {h1 z t : Int} (I : EnvI S h E M) (hh : h ≤ 998) (hk : h ≤ h1) (W : SO S) (RA : TRP S S1 E M h1 (fxE z A) PA t) {lev : Int → Int} (g1 : ∀ u, gv S1 M t u → lev u = 1000) (g2 : ∀ u, oP S1 u → ¬ gv S1 M t u → lev u = S1.2.2 u) (e2 : S2 = (S1.1, S1.2.1, lev)) (no : ∀ ρ s, VS S2.1 S2.2.1 ρ → ¬ tyE B true (Gam S2 ρ ((z, t) :: E)) s) (s : GT) (V : VS S.1 S.2.1 ρ) : ¬ tyE (nd 14 z A B nl) true (Gam S ρ E) s := by
  intro y
  obtain ⟨-, ⟨a, y2⟩, y3⟩ := y
  obtain ⟨ρ1, V1, o1, ea, w1⟩ := RA.2.2.2.2 true ρ a V y2
  have eg : Gam S ρ1 E = Gam S ρ E := Gam_cg I W V (RA.1.2.2 _ V1) (fun m q => o1 m (I.1 m q).1 (I.1 m q).2)
  have e3 := (let_gam (z := z) I hh hk W RA g1 g2 V1).2
  rw [eg] at e3
  refine no ρ1 s (by rw [e2]; exact V1) ?_
  rw [e2, e3]
  exact y3
end TRC
