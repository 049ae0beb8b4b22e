/-! Rows of the theory for the model's order: CONS, operations, what is made one with a node that stands already. -/
section MRW
variable {S S1 S2 S3 S4 S5 S' : TS} {M M1 : Int → Prop} {h n j : Int} {ρ : Int → GT} {A B C : Tr} {P PA PB PC : Int → Prop} {E : List (Int × Int)}
theorem TSt.mo (x : TSt S S1 M h) (hh : ∀ m, M m → M1 m) : TSt S S1 M1 h := ⟨x.1, x.2.1.mo hh, x.2.2⟩
theorem Res.mo {t : Int} (r : Res S M h S1 t) (hh : ∀ m, M m → M1 m) : Res S M1 h S1 t := ⟨r.1, fun u o oc => (r.2.1 u o oc).imp (fun z => z) (fun ⟨a, m, b, c⟩ => ⟨a, m, hh m b, c⟩), fun l X hl hX hM => r.2.2.1 l X hl hX (fun m q => hM m (hh m q)), fun hl => r.2.2.2 (fun m q => hl m (hh m q))⟩
theorem TRP.mo {F : Bool → Gm → GT → Prop} {t : Int} (R : TRP S S1 E M h F P t) (hh : ∀ m, M m → M1 m) : TRP S S1 E M1 h F P t := ⟨R.1.mo hh, R.2.1.mo hh, R.2.2⟩
/-- CONS, the list made last -/
theorem TR_cons2 {a b t lv : Int} (I : EnvI S h E M) (hh : h ≤ 999) (W : SO S) (c0 : 0 ≤ S.2.1) (RA : TRes S S1 E M h A PA a) (RB : TRes S1 S2 E M h B PB b) (e3 : S3 = adT S2 (4, a, t) lv) (u : TSt S3 S4 (fun x => x = b ∨ x = S2.2.1) h) (uV : ∀ ρ, VS S4.1 S4.2.1 ρ ↔ (VS S3.1 S3.2.1 ρ ∧ ρ b = ρ S2.2.1)) : TRes S S4 E M h (nd 10 0 A B nl) (fun p => (PA p ∨ PB p) ∨ p = S2.2.1) S2.2.1 := by
  obtain ⟨x2, ra, rb, ci, so, co⟩ := TRes.two I hh W RA RB
  have l2 := x2.2.1.1
  have hR2 : ∀ m, M m → Res S M h S2 m := fun m q => Res.m x2.2.1 I.1 q
  have n3 : nwT S2 (4, a, t) := Or.inr (Or.inl ⟨rfl, ra.1⟩)
  have s3 : TSt S2 S3 M h := by rw [e3]; exact ad_S x2.1 (by omega) n3 (fun q => absurd q (by show ¬ (4 : Int) = 0; decide))
  have c3 : S3.2.1 = S2.2.1 + 1 := by rw [e3]; rfl
  have x3 := x2.tr s3 hR2
  have ra3 := ra.up s3.2.1 l2 hR2
  have rb3 := rb.up s3.2.1 l2 hR2
  have k3 : S3.1 S2.2.1 = (4, a, t) := by rw [e3]; exact ad_c
  have rl3 : Res S M h S3 S2.2.1 := Res.p4 ⟨by omega, by omega⟩ k3 ra3
  have hR3 : ∀ m, (m = b ∨ m = S2.2.1) → Res S M h S3 m := fun m q => by
    rcases q with q | q
    · rw [q]; exact rb3
    · rw [q]; exact rl3
  have x4 := x3.tr u hR3
  have rl4 := rl3.up u.2.1 x3.2.1.1 hR3
  have l4 := u.2.1.1
  have vk : ∀ {ρ}, VS S3.1 S3.2.1 ρ → ρ S2.2.1 = gL (ρ a) := fun {ρ} V => by
    rw [e3] at V
    exact (ad_r x2.1 (by omega) V).1 rfl
  refine ⟨x4, rl4, fun p q => ?_, fun ρ V => ?_, fun w ρ s V z => ?_⟩
  · rcases q with q | q
    · have := ci p q; omega
    · rw [q]; exact rl4.1
  · obtain ⟨V3, eb⟩ := (uV ρ).mp V
    have V2 := s3.2.2 ρ V3
    obtain ⟨⟨q1, q2⟩, q3⟩ := so ρ V2
    rw [eb] at q2 q3
    exact ⟨⟨fun _ e => (by cases e), ρ a, q1, vk V3, q2⟩, fun hp => ⟨fun _ _ => hp _ (Or.inr rfl), ρ a, (q3 (fun p q => hp p (Or.inl q))).1, vk V3, (q3 (fun p q => hp p (Or.inl q))).2⟩⟩
  · obtain ⟨z1, a', z2, z3, z4⟩ := z
    obtain ⟨ρ2, V2, o2, ea, eb, w2⟩ := co w ρ _ _ V z2 z4
    obtain ⟨ρ3, V3, o3, el⟩ := ad_x (lv := lv) x2.1 (by omega) n3 V2 _ (Or.inr (Or.inl ⟨rfl, rfl⟩))
    rw [← e3] at V3
    have el : ρ3 S2.2.1 = s := by
      rw [el, z3]
      show gL (ρ2 a) = gL a'
      rw [ea]
    refine ⟨ρ3, (uV ρ3).mpr ⟨V3, ?_⟩, fun n p q => (o3 n p (by omega)).trans (o2 n p q), el, fun e p q => ?_⟩
    · rw [o3 b rb.1.1 rb.1.2, eb, el]
    · rcases q with q | q
      · have := ci p q
        rw [o3 p this.1 this.2]; exact w2 e p q
      · rw [q, el]; exact z1 (by decide) e
theorem TR_cons2_no {a b t lv : Int} (I : EnvI S h E M) (hh : h ≤ 999) (W : SO S) (c0 : 0 ≤ S.2.1) (hB : isE B) (RA : TRes S S1 E M h A PA a) (RB : TRes S1 S2 E M h B PB b) (e3 : S3 = adT S2 (4, a, t) lv) (no : ∀ ρ, VS S3.1 S3.2.1 ρ → ρ b = ρ S2.2.1 → ¬ gw (ρ b) ≤ 80) (s : GT) (V : VS S.1 S.2.1 ρ) : ¬ tyE (nd 10 0 A B nl) true (Gam S ρ E) s := by
  intro z
  obtain ⟨x2, ra, rb, ci, so, co⟩ := TRes.two I hh W RA RB
  have l2 := x2.2.1.1
  have n3 : nwT S2 (4, a, t) := Or.inr (Or.inl ⟨rfl, ra.1⟩)
  obtain ⟨z1, a', z2, z3, z4⟩ := z
  obtain ⟨ρ2, V2, o2, ea, eb, w2⟩ := co true ρ _ _ V z2 z4
  obtain ⟨ρ3, V3, o3, el⟩ := ad_x (lv := lv) x2.1 (by omega) n3 V2 _ (Or.inr (Or.inl ⟨rfl, rfl⟩))
  rw [← e3] at V3
  have el : ρ3 S2.2.1 = s := by
    rw [el, z3]
    show gL (ρ2 a) = gL a'
    rw [ea]
  have e3b : ρ3 b = s := (o3 b rb.1.1 rb.1.2).trans eb
  exact no ρ3 V3 (by rw [e3b, el]) (by rw [e3b]; exact tyE_w hB z4)
/-- an operation: both parts, then both demands, the second part's first -/
theorem TR_op2 {a b z jo jr m : Int} (I : EnvI S h E M) (hh : h ≤ 999) (W : SO S) (ho : opdT z = gK jo) (hr : opT z = gK jr) (RA : TRes S S1 E M h A PA a) (RB : TRes S1 S2 E M h B PB b) (bo : bsN S n jo) (br : bsN S m jr) (u1 : TSt S2 S3 (fun x => x = b ∨ x = n) h) (u1V : ∀ ρ, VS S3.1 S3.2.1 ρ ↔ (VS S2.1 S2.2.1 ρ ∧ ρ b = ρ n)) (u2 : TSt S3 S4 (fun x => x = a ∨ x = n) h) (u2V : ∀ ρ, VS S4.1 S4.2.1 ρ ↔ (VS S3.1 S3.2.1 ρ ∧ ρ a = ρ n)) : TRes S S4 E M h (nd 9 z A B nl) (fun p => (PA p ∨ PB p) ∨ p = m) m := by
  obtain ⟨x2, ra, rb, ci, so, co⟩ := TRes.two I hh W RA RB
  have b2 := bo.up x2.2.1
  have hR2 : ∀ m, (m = b ∨ m = n) → Res S M h S2 m := fun m q => by
    rcases q with q | q
    · rw [q]; exact rb
    · rw [q]; exact b2.r
  have x3 := x2.tr u1 hR2
  have b3 := bo.up x3.2.1
  have ra3 := ra.up u1.2.1 x2.2.1.1 hR2
  have hR3 : ∀ m, (m = a ∨ m = n) → Res S M h S3 m := fun m q => by
    rcases q with q | q
    · rw [q]; exact ra3
    · rw [q]; exact b3.r
  have x4 := x3.tr u2 hR3
  have br4 := br.up x4.2.1
  have l1 := u1.2.1.1
  have l2 := u2.2.1.1
  refine ⟨x4, br4.r, fun p q => ?_, fun ρ V => ?_, fun w ρ s V y => ?_⟩
  · rcases q with q | q
    · have := ci p q; omega
    · rw [q]; exact br4.1
  · obtain ⟨V3, ea⟩ := (u2V ρ).mp V
    obtain ⟨V2, eb⟩ := (u1V ρ).mp V3
    obtain ⟨⟨q1, q2⟩, q3⟩ := so ρ V2
    have vn := b2.v V2
    rw [ea, vn] at q1 q3
    rw [eb, vn] at q2 q3
    rw [← ho] at q1 q2 q3
    have er : ρ m = opT z := (br4.v V).trans hr.symm
    exact ⟨⟨fun _ e => (by cases e), q1, q2, er⟩, fun hp => ⟨fun _ _ => hp _ (Or.inr rfl), (q3 (fun p q => hp p (Or.inl q))).1, (q3 (fun p q => hp p (Or.inl q))).2, er⟩⟩
  · obtain ⟨y1, y2, y3, y4⟩ := y
    obtain ⟨ρ2, V2, o2, ea, eb, w2⟩ := co w ρ _ _ V y2 y3
    have vn := b2.v V2
    have V3 := (u1V ρ2).mpr ⟨V2, by rw [eb, vn, ho]⟩
    have V4 := (u2V ρ2).mpr ⟨V3, by rw [ea, vn, ho]⟩
    refine ⟨ρ2, V4, o2, by rw [br4.v V4, y4, hr], fun e p q => ?_⟩
    rcases q with q | q
    · exact w2 e p q
    · rw [q, br4.v V4]; exact gK_w
theorem TR_op2_no {a b z jo : Int} (I : EnvI S h E M) (hh : h ≤ 999) (W : SO S) (ho : opdT z = gK jo) (RA : TRes S S1 E M h A PA a) (RB : TRes S1 S2 E M h B PB b) (bo : bsN S n jo) (no : ∀ ρ, VS S2.1 S2.2.1 ρ → ρ b = ρ n → ρ a = ρ n → False) (s : GT) (V : VS S.1 S.2.1 ρ) : ¬ tyE (nd 9 z A B nl) true (Gam S ρ E) s := by
  intro y
  obtain ⟨x2, ra, rb, ci, so, co⟩ := TRes.two I hh W RA RB
  have b2 := bo.up x2.2.1
  obtain ⟨y1, y2, y3, y4⟩ := y
  obtain ⟨ρ2, V2, o2, ea, eb, w2⟩ := co true ρ _ _ V y2 y3
  have vn := b2.v V2
  exact no ρ2 V2 (by rw [eb, vn, ho]) (by rw [ea, vn, ho])
/-- an expression, made one with a node that stands already -/
theorem BR_e {b l r : Int} (I : EnvI S h E M) (hr : M r) (RB : TRes S S1 E M h B PB b) (u : TSt S1 S2 (fun x => x = r ∨ x = b) h) (uV : ∀ ρ, VS S2.1 S2.2.1 ρ ↔ (VS S1.1 S1.2.1 ρ ∧ ρ r = ρ b)) : BRes S S2 E M h (fun w G _ sr => tyE B w G sr) PB l r := by
  obtain ⟨xb, rb, cb, sb, kb⟩ := RB
  have hU : ∀ m, (m = r ∨ m = b) → Res S M h S1 m := fun m q => by
    rcases q with q | q
    · rw [q]; exact Res.m xb.2.1 I.1 hr
    · rw [q]; exact rb
  have lu := u.2.1.1
  have ir := I.1 r hr
  refine ⟨xb.tr u hU, fun p q => by have := cb p q; omega, fun ρ V => ?_, fun w ρ V z => ?_⟩
  · obtain ⟨V1, e⟩ := (uV ρ).mp V
    have q := sb ρ V1
    rw [← e] at q
    exact q
  · obtain ⟨ρ1, V1, o1, e1, w1⟩ := kb w ρ _ V z
    exact ⟨ρ1, (uV ρ1).mpr ⟨V1, by rw [e1, o1 r ir.1 ir.2]⟩, o1, w1⟩
theorem BR_e_no {b l r : Int} (hB : isE B) (I : EnvI S h E M) (hr : M r) (RB : TRes S S1 E M h B PB b) (no : ∀ ρ, VS S1.1 S1.2.1 ρ → ρ r = ρ b → ¬ gw (ρ r) ≤ 80) (V : VS S.1 S.2.1 ρ) : ¬ tyE B true (Gam S ρ E) (ρ r) := by
  intro z
  obtain ⟨ρ1, V1, o1, e1, w1⟩ := RB.2.2.2.2 true ρ _ V z
  have ir := I.1 r hr
  have e : ρ1 r = ρ r := o1 r ir.1 ir.2
  exact no ρ1 V1 (by rw [e1, e]) (by rw [e]; exact tyE_w hB z)
/-- IF with a node for what comes out -/
theorem TR_if2 {t : Int} (I : EnvI S h E M) (hh : h ≤ 999) (W : SO S) (c0 : 0 ≤ S.2.1) (DA : DRes S S1 E M h A PA (gK 2)) (e2 : S2 = adT S1 (0, -1, t) h) (RC : BRes S2 S3 E (fun m => M m ∨ m = S1.2.1) h (fun w G _ sr => tyE B w G sr ∧ tyE C w G sr) P S1.2.1 S1.2.1) : TRes S S3 E M h (nd 15 0 A B C) (fun p => (PA p ∨ P p) ∨ p = S1.2.1) S1.2.1 := by
  obtain ⟨xa, ca, sa, ka⟩ := DA
  obtain ⟨xc, cc, sc, kc⟩ := RC
  have l1 := xa.2.1.1
  have hR1 : ∀ m, M m → Res S M h S1 m := fun m q => Res.m xa.2.1 I.1 q
  have s2 : TSt S1 S2 M h := by rw [e2]; exact ad_S xa.1 (by omega) nw_fr (fun _ => by omega)
  have c2 : S2.2.1 = S1.2.1 + 1 := by rw [e2]; rfl
  have x2 := xa.tr s2 hR1
  have rr : Res S M h S2 S1.2.1 := by rw [e2]; exact fresh_r xa.2.1 c0
  have hR2 : ∀ m, (M m ∨ m = S1.2.1) → Res S M h S2 m := fun m q => by
    rcases q with q | q
    · exact Res.m x2.2.1 I.1 q
    · rw [q]; exact rr
  have x3 := x2.tr xc hR2
  have rr3 := rr.up xc.2.1 x2.2.1.1 hR2
  have l3 := xc.2.1.1
  refine ⟨x3, rr3, fun p q => ?_, fun ρ V => ?_, fun w ρ s V y => ?_⟩
  · rcases q with (q | q) | q
    · have := ca p q; omega
    · exact cc p q
    · rw [q]; exact rr3.1
  · have V2 := xc.2.2 ρ V
    have V1 := s2.2.2 ρ V2
    obtain ⟨q1, q2⟩ := sa ρ V1
    obtain ⟨⟨q3, q4⟩, q5⟩ := sc ρ V
    rw [TRes.gam I hh W x2 V2] at q3 q4 q5
    exact ⟨⟨fun _ e => (by cases e), q1, q3, q4⟩, fun hp => ⟨fun _ _ => hp _ (Or.inr rfl), q2 (fun p q => hp p (Or.inl (Or.inl q))), q5 (fun p q => hp p (Or.inl (Or.inr q)))⟩⟩
  · obtain ⟨y1, y2, y3, y4⟩ := y
    obtain ⟨ρ1, V1, o1, w1⟩ := ka w ρ V y2
    obtain ⟨ρ2, V2, o2, er⟩ := ad_x (lv := h) xa.1 (by omega) nw_fr V1 s (Or.inl ⟨rfl, by show (-1 : Int) < 0; decide⟩)
    rw [← e2] at V2
    have o12 : ∀ n, 0 ≤ n → n < S.2.1 → ρ2 n = ρ n := fun n p q => (o2 n p (by omega)).trans (o1 n p q)
    have eg := TRes.gam2 I hh W x2 V V2 o12
    obtain ⟨ρ3, V3, o3, w3⟩ := kc w ρ2 V2 (by rw [eg, er]; exact ⟨y3, y4⟩)
    have er3 : ρ3 S1.2.1 = s := (o3 _ (by omega) (by omega)).trans er
    refine ⟨ρ3, V3, fun n p q => (o3 n p (by omega)).trans (o12 n p q), er3, fun e p q => ?_⟩
    rcases q with (q | q) | q
    · have := ca p q
      rw [o3 p this.1 (by omega), o2 p this.1 this.2]; exact w1 e p q
    · exact w3 e p q
    · rw [q, er3]; exact y1 (by decide) e
end MRW
