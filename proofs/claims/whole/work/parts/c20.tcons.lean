/-! The names within a function; a list cell. -/
section TCN
variable {S S1 S2 S3 S4 S5 S' : TS} {M : Int → Prop} {h : Int} {ρ : Int → GT} {E : List (Int × Int)} {A B : Tr} {P PA PB : Int → Prop}
theorem gO_mo {M1 : Int → Prop} {l n : Int} (g : gO S l M n) (hh : ∀ m, M m → M1 m) : gO S l M1 n := fun u o oc lt => by
  obtain ⟨m, a, b⟩ := g u o oc lt
  exact ⟨m, hh m a, b⟩
/-- a name with one type -/
theorem EnvI.fn {z p : Int} (I : EnvI S h E M) (r : 0 ≤ p ∧ p < S.2.1) (l : lO S h p) : EnvI S h ((z, p) :: E) (fun m => M m ∨ m = p) := by
  refine ⟨fun m q => ?_, fun m q => ?_, fun e q => ?_⟩
  · rcases q with q | q
    · exact I.1 m q
    · rw [q]; exact r
  · rcases q with q | q
    · exact I.2.1 m q
    · rw [q]; exact l
  · rcases List.mem_cons.mp q with q | q
    · rw [q]
      exact ⟨r, fun u o oc _ => ⟨p, Or.inr rfl, oc⟩⟩
    · exact ⟨(I.2.2 e q).1, gO_mo (I.2.2 e q).2 (fun m a => Or.inl a)⟩
/-- a name with all types that its node has -/
theorem EnvI.lt {z n : Int} (I : EnvI S h E M) (r : 0 ≤ n ∧ n < S.2.1) (g : gO S 1000 M n) : EnvI S h ((z, n) :: E) M := by
  refine ⟨I.1, I.2.1, fun e q => ?_⟩
  rcases List.mem_cons.mp q with q | q
  · rw [q]; exact ⟨r, g⟩
  · exact I.2.2 e q
theorem EnvI.up1 (I : EnvI S h E M) : EnvI S (h + 1) E M := ⟨I.1, fun m a => lO_mono (I.2.1 m a) (by omega), I.2.2⟩
/-- a cell as the class looks at it: first part, list, second part, made one -/
theorem TR_cons {a b t lv : Int} (I : EnvI S h E M) (hh : h ≤ 999) (W : SO S) (RA : TRes S S1 E M h A PA a) (c0 : 0 ≤ S.2.1) (e2 : S2 = adT S1 (4, a, t) lv) (RB : TRes S2 S3 E M h B PB b) (u : TSt S3 S4 (fun x => x = b ∨ x = S1.2.1) h) (uV : ∀ ρ, VS S4.1 S4.2.1 ρ ↔ (VS S3.1 S3.2.1 ρ ∧ ρ b = ρ S1.2.1)) : TRes S S4 E M h (nd 10 0 A B nl) (fun p => (PA p ∨ PB p) ∨ p = S1.2.1) S1.2.1 := by
  obtain ⟨xa, ra, ca, sa, ka⟩ := RA
  obtain ⟨xb, rb, cb, sb, kb⟩ := RB
  have l1 := xa.2.1.1
  have hR1 : ∀ m, M m → Res S M h S1 m := fun m q => Res.m xa.2.1 I.1 q
  have n2 : nwT S1 (4, a, t) := Or.inr (Or.inl ⟨rfl, ra.1⟩)
  have s2 : TSt S1 S2 M h := by rw [e2]; exact ad_S xa.1 (by omega) n2 (fun q => absurd q (by show ¬ (4 : Int) = 0; decide))
  have c2 : S2.2.1 = S1.2.1 + 1 := by rw [e2]; rfl
  have x2 := xa.tr s2 hR1
  have k2 : S2.1 S1.2.1 = (4, a, t) := by rw [e2]; exact ad_c
  have rl : Res S M h S2 S1.2.1 := Res.p4 ⟨by omega, by omega⟩ k2 (ra.up s2.2.1 l1 hR1)
  have hR2 : ∀ m, M m → Res S M h S2 m := fun m q => Res.m x2.2.1 I.1 q
  have x3 := x2.tr xb hR2
  have l2 := x2.2.1.1
  have rl3 := rl.up xb.2.1 l2 hR2
  have rb3 := Res.tr x2.2.1 hR2 rb
  have hR3 : ∀ m, (m = b ∨ m = S1.2.1) → Res S M h S3 m := fun m q => by
    rcases q with q | q
    · rw [q]; exact rb3
    · rw [q]; exact rl3
  have x4 := x3.tr u hR3
  have rl4 := rl3.up u.2.1 x3.2.1.1 hR3
  have l3 := xb.2.1.1
  have l4 := u.2.1.1
  have vl : ∀ {ρ}, VS S2.1 S2.2.1 ρ → ρ S1.2.1 = gL (ρ a) := fun {ρ} V => by
    rw [e2] at V
    exact (ad_r xa.1 (by omega) V).1 rfl
  refine ⟨x4, rl4, fun p q => ?_, fun ρ V => ?_, fun w ρ s V z => ?_⟩
  · rcases q with (q | q) | q
    · have := ca p q; omega
    · have := cb p q; omega
    · rw [q]; exact rl4.1
  · obtain ⟨V3, eb⟩ := (uV ρ).mp V
    have V2 := xb.2.2 ρ V3
    have V1 := s2.2.2 ρ V2
    obtain ⟨q1, q2⟩ := sa ρ V1
    obtain ⟨q3, q4⟩ := sb ρ V3
    rw [TRes.gam I hh W x2 V2, eb] at q3 q4
    exact ⟨⟨fun _ e => (by cases e), ρ a, q1, vl V2, q3⟩, fun hp => ⟨fun _ _ => hp _ (Or.inr rfl), ρ a, q2 (fun p q => hp p (Or.inl (Or.inl q))), vl V2, q4 (fun p q => hp p (Or.inl (Or.inr q)))⟩⟩
  · obtain ⟨z1, a', z2, z3, z4⟩ := z
    obtain ⟨ρ1, V1, o1, ea, w1⟩ := ka w ρ a' V z2
    obtain ⟨ρ2, V2, o2, el⟩ := ad_x (lv := lv) xa.1 (by omega) n2 V1 _ (Or.inr (Or.inl ⟨rfl, rfl⟩))
    rw [← e2] at V2
    have el : ρ2 S1.2.1 = s := by
      rw [el, z3]
      show gL (ρ1 a) = gL a'
      rw [ea]
    have eg := TRes.gam2 I hh W x2 V V2 (fun n p q => (o2 n p (by omega)).trans (o1 n p q))
    obtain ⟨ρ3, V3, o3, eb, w3⟩ := kb w ρ2 s V2 (by rw [eg]; exact z4)
    have el3 : ρ3 S1.2.1 = s := (o3 _ (by omega) (by omega)).trans el
    refine ⟨ρ3, (uV ρ3).mpr ⟨V3, by rw [eb, el3]⟩, fun n p q => (o3 n p (by omega)).trans ((o2 n p (by omega)).trans (o1 n p q)), el3, fun e p q => ?_⟩
    rcases q with (q | q) | q
    · have := ca p q
      rw [o3 p this.1 (by omega), o2 p this.1 this.2]; exact w1 e p q
    · exact w3 e p q
    · rw [q, el3]; exact z1 (by decide) e
theorem TR_cons_no {a b t lv : Int} (I : EnvI S h E M) (hh : h ≤ 999) (W : SO S) (hB : isE B) (RA : TRes S S1 E M h A PA a) (c0 : 0 ≤ S.2.1) (e2 : S2 = adT S1 (4, a, t) lv) (RB : TRes S2 S3 E M h B PB b) (no : ∀ ρ, VS S3.1 S3.2.1 ρ → ρ b = ρ S1.2.1 → ¬ gw (ρ b) ≤ 80) (s : GT) (V : VS S.1 S.2.1 ρ) : ¬ tyE (nd 10 0 A B nl) true (Gam S ρ E) s := by
  intro z
  obtain ⟨xa, ra, ca, sa, ka⟩ := RA
  obtain ⟨xb, rb, cb, sb, kb⟩ := RB
  have l1 := xa.2.1.1
  have hR1 : ∀ m, M m → Res S M h S1 m := fun m q => Res.m xa.2.1 I.1 q
  have n2 : nwT S1 (4, a, t) := Or.inr (Or.inl ⟨rfl, ra.1⟩)
  have s2 : TSt S1 S2 M h := by rw [e2]; exact ad_S xa.1 (by omega) n2 (fun q => absurd q (by show ¬ (4 : Int) = 0; decide))
  have c2 : S2.2.1 = S1.2.1 + 1 := by rw [e2]; rfl
  have x2 := xa.tr s2 hR1
  obtain ⟨z1, a', z2, z3, z4⟩ := z
  obtain ⟨ρ1, V1, o1, ea, w1⟩ := ka true ρ a' V z2
  obtain ⟨ρ2, V2, o2, el⟩ := ad_x (lv := lv) xa.1 (by omega) n2 V1 _ (Or.inr (Or.inl ⟨rfl, rfl⟩))
  rw [← e2] at V2
  have el : ρ2 S1.2.1 = s := by
    rw [el, z3]
    show gL (ρ1 a) = gL a'
    rw [ea]
  have eg := TRes.gam2 I hh W x2 V V2 (fun n p q => (o2 n p (by omega)).trans (o1 n p q))
  obtain ⟨ρ3, V3, o3, eb, w3⟩ := kb true ρ2 s V2 (by rw [eg]; exact z4)
  have el3 : ρ3 S1.2.1 = s := (o3 _ (by omega) (by omega)).trans el
  exact no ρ3 V3 (by rw [eb, el3]) (by rw [eb]; exact tyE_w hB z4)
end TCN
