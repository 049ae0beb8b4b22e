/-! Branches as the class looks at them. -/
/-- what a branch asks -/
def brT (w : Bool) (G : Gm) (A B : Tr) (sl sr : GT) : Prop := ∃ α : Int → GT, tpP w α A sl ∧ tyE B w ((bnd A).map (fun x => (x, is1 (α x))) ++ G) sr
theorem tyE_17 {n : Int} {A B C : Tr} {w : Bool} {G : Gm} {sl sr : GT} : tyE (nd 17 n A B C) w G (gA sl sr) ↔ (brT w G A B sl sr ∧ (C = nl ∨ tyE C w G (gA sl sr))) := by
  show ((17 : Nat) ≠ 17 → w = true → gw (gA sl sr) ≤ 80) ∧ (∃ a r α, gA sl sr = gA a r ∧ tpP w α A a ∧ tyE B w ((bnd A).map (fun x => (x, is1 (α x))) ++ G) r ∧ (C = nl ∨ tyE C w G (gA sl sr))) ↔ _
  constructor
  · intro ⟨_, a, r, α, e, z1, z2, z3⟩
    obtain ⟨rfl, rfl⟩ := gA_inj.mp e
    exact ⟨⟨α, z1, z2⟩, z3⟩
  · intro ⟨⟨α, z1, z2⟩, z3⟩
    exact ⟨fun q => absurd rfl q, sl, sr, α, rfl, z1, z2, z3⟩
/-- some branches: l what is looked at, r what comes out -/
def BRes (S S' : TS) (E : List (Int × Int)) (M : Int → Prop) (h : Int) (F : Bool → Gm → GT → GT → Prop) (P : Int → Prop) (l r : Int) : Prop := TSt S S' M h ∧ inC S' P ∧ (∀ ρ, VS S'.1 S'.2.1 ρ → F false (Gam S ρ E) (ρ l) (ρ r) ∧ ((∀ p, P p → gw (ρ p) ≤ 80) → F true (Gam S ρ E) (ρ l) (ρ r))) ∧ ∀ w ρ, VS S.1 S.2.1 ρ → F w (Gam S ρ E) (ρ l) (ρ r) → ∃ ρ', VS S'.1 S'.2.1 ρ' ∧ (∀ n, 0 ≤ n → n < S.2.1 → ρ' n = ρ n) ∧ (w = true → ∀ p, P p → gw (ρ' p) ≤ 80)
/-- the names of a pattern, the last one first -/
def pnE (A : Tr) (nu : Int → Int) (E : List (Int × Int)) : List (Int × Int) := (bnd A).reverse.map (fun z => (z, nu z)) ++ E
def pnM (A : Tr) (nu : Int → Int) (M : Int → Prop) : Int → Prop := fun m => M m ∨ ∃ z ∈ bnd A, m = nu z
section TBR
variable {S S1 S2 S3 S4 S' : TS} {M : Int → Prop} {h l r : Int} {ρ : Int → GT} {A B : Tr} {P PA PB : Int → Prop} {nu : Int → Int} {E : List (Int × Int)}
theorem EnvI.pn (I : EnvI S h E M) (q : ∀ z ∈ bnd A, (0 ≤ nu z ∧ nu z < S.2.1) ∧ lO S h (nu z)) : EnvI S h (pnE A nu E) (pnM A nu M) := by
  refine ⟨fun m a => ?_, fun m a => ?_, fun e a => ?_⟩
  · rcases a with a | ⟨z, a, rfl⟩
    · exact I.1 m a
    · exact (q z a).1
  · rcases a with a | ⟨z, a, rfl⟩
    · exact I.2.1 m a
    · exact (q z a).2
  · rcases List.mem_append.mp a with a | a
    · obtain ⟨z, b, rfl⟩ := List.mem_map.mp a
      have b := List.mem_reverse.mp b
      exact ⟨(q z b).1, fun u o oc _ => ⟨nu z, Or.inr ⟨z, b, rfl⟩, oc⟩⟩
    · exact ⟨(I.2.2 e a).1, gO_mo (I.2.2 e a).2 (fun m a => Or.inl a)⟩
theorem Gam_pn (W : SO S) (V : VS S.1 S.2.1 ρ) (q : ∀ z ∈ bnd A, (0 ≤ nu z ∧ nu z < S.2.1) ∧ lO S 999 (nu z)) : Gam S ρ (pnE A nu E) = (bnd A).reverse.map (fun z => (z, is1 (ρ (nu z)))) ++ Gam S ρ E := by
  unfold pnE Gam
  rw [List.map_append, List.map_map]
  congr 1
  refine List.map_congr_left (fun z a => ?_)
  obtain ⟨r, lo⟩ := q z (List.mem_reverse.mp a)
  refine Prod.ext rfl ?_
  funext s
  exact propext (den_1 W V r.1 r.2 lo s)
/-- one branch: its pattern, made one with what is looked at, its expression, made one with what comes out -/
theorem BR_1 {t b : Int} (I : EnvI S h E M) (hh : h ≤ 999) (W : SO S) (hl : M l) (hr : M r) (RA : PRes S S1 M h A PA nu t) (u1 : TSt S1 S2 (fun x => x = t ∨ x = l) h) (u1V : ∀ ρ, VS S2.1 S2.2.1 ρ ↔ (VS S1.1 S1.2.1 ρ ∧ ρ t = ρ l)) (RB : TRes S2 S3 (pnE A nu E) (pnM A nu M) h B PB b) (u2 : TSt S3 S4 (fun x => x = b ∨ x = r) h) (u2V : ∀ ρ, VS S4.1 S4.2.1 ρ ↔ (VS S3.1 S3.2.1 ρ ∧ ρ b = ρ r)) : BRes S S4 E M h (fun w G sl sr => brT w G A B sl sr) (fun p => PA p ∨ PB p) l r := by
  obtain ⟨xa, ra, ca, qa, sa, ka⟩ := RA
  obtain ⟨xb, rb, cb, sb, kb⟩ := RB
  have l1 := xa.2.1.1
  have hR1 : ∀ m, M m → Res S M h S1 m := fun m q => Res.m xa.2.1 I.1 q
  have hU1 : ∀ m, (m = t ∨ m = l) → Res S M h S1 m := fun m q => by
    rcases q with q | q
    · rw [q]; exact ra
    · rw [q]; exact hR1 l hl
  have x2 := xa.tr u1 hU1
  have l2 := x2.2.1.1
  have q2 : ∀ z ∈ bnd A, Res S M h S2 (nu z) := fun z m => (qa z m).up u1.2.1 l1 hU1
  have hR2 : ∀ m, pnM A nu M m → Res S M h S2 m := fun m q => by
    rcases q with q | ⟨z, q, rfl⟩
    · exact Res.m x2.2.1 I.1 q
    · exact q2 z q
  have x3 := x2.tr xb hR2
  have rb3 := Res.tr x2.2.1 hR2 rb
  have hU2 : ∀ m, (m = b ∨ m = r) → Res S M h S3 m := fun m q => by
    rcases q with q | q
    · rw [q]; exact rb3
    · rw [q]; exact Res.m x3.2.1 I.1 hr
  have x4 := x3.tr u2 hU2
  have l3 := xb.2.1.1
  have l4 := u2.2.1.1
  have lu := u1.2.1.1
  have gm : ∀ {ρ}, VS S2.1 S2.2.1 ρ → Gam S2 ρ (pnE A nu E) = (bnd A).reverse.map (fun z => (z, is1 (ρ (nu z)))) ++ Gam S ρ E := fun {ρ} V => by
    rw [Gam_pn x2.1 V (fun z m => ⟨(q2 z m).1, lO_mono ((q2 z m).2.2.2 I.2.1) hh⟩), TRes.gam I hh W x2 V]
  have key : ∀ {w : Bool} {ρ : Int → GT} {s : GT}, tyE B w ((bnd A).reverse.map (fun z => (z, is1 (ρ (nu z)))) ++ Gam S ρ E) s → tyE B w ((bnd A).map (fun z => (z, is1 (ρ (nu z)))) ++ Gam S ρ E) s := fun {w ρ s} q => by
    rw [tyE_ge B w _ _ (GE_rev (D := fun z => is1 (ρ (nu z))) (bnd A))] at q; exact q
  refine ⟨x4, fun p q => ?_, fun ρ V => ?_, fun w ρ V z => ?_⟩
  · rcases q with q | q
    · have := ca p q; omega
    · have := cb p q; omega
  · obtain ⟨V3, er⟩ := (u2V ρ).mp V
    have V2 := xb.2.2 ρ V3
    obtain ⟨V1, el⟩ := (u1V ρ).mp V2
    obtain ⟨q1, q1'⟩ := sa ρ V1
    obtain ⟨q3, q4⟩ := sb ρ V3
    rw [el] at q1 q1'
    rw [gm V2, er] at q3 q4
    exact ⟨⟨_, q1, key q3⟩, fun hp => ⟨_, q1' (fun p q => hp p (Or.inl q)), key (q4 (fun p q => hp p (Or.inr q)))⟩⟩
  · obtain ⟨α, z1, z2⟩ := z
    obtain ⟨ρ1, V1, o1, e1, n1, w1⟩ := ka w α ρ _ V z1
    have il := I.1 l hl
    have ir := I.1 r hr
    have V2 := (u1V ρ1).mpr ⟨V1, by rw [e1, o1 l il.1 il.2]⟩
    have z3 : tyE B w (Gam S2 ρ1 (pnE A nu E)) (ρ r) := by
      rw [gm V2, tyE_ge B w _ _ (GE_rev (D := fun z => is1 (ρ1 (nu z))) (bnd A)), Gam_cg I W V (x2.2.2 _ V2) (fun m q => o1 m (I.1 m q).1 (I.1 m q).2)]
      have e : (bnd A).map (fun z => (z, is1 (ρ1 (nu z)))) = (bnd A).map (fun x => (x, is1 (α x))) := List.map_congr_left (fun z m => by rw [n1 z m])
      rw [e]; exact z2
    obtain ⟨ρ3, V3, o3, e3, w3⟩ := kb w ρ1 _ V2 z3
    have lr : ρ3 r = ρ r := (o3 r ir.1 (by omega)).trans (o1 r ir.1 ir.2)
    refine ⟨ρ3, (u2V ρ3).mpr ⟨V3, by rw [e3, lr]⟩, fun n p q => (o3 n p (by omega)).trans (o1 n p q), fun e p q => ?_⟩
    rcases q with q | q
    · have := ca p q
      rw [o3 p this.1 (by omega)]; exact w1 e p q
    · exact w3 e p q
/-- one branch and the others -/
theorem BR_2 {F1 F2 : Bool → Gm → GT → GT → Prop} {P1 P2 : Int → Prop} (I : EnvI S h E M) (hh : h ≤ 999) (W : SO S) (hl : M l) (hr : M r) (R1 : BRes S S1 E M h F1 P1 l r) (R2 : BRes S1 S2 E M h F2 P2 l r) : BRes S S2 E M h (fun w G a b => F1 w G a b ∧ F2 w G a b) (fun p => P1 p ∨ P2 p) l r := by
  obtain ⟨x1, c1, s1, k1⟩ := R1
  obtain ⟨x2, c2, s2, k2⟩ := R2
  have hR1 : ∀ m, M m → Res S M h S1 m := fun m q => Res.m x1.2.1 I.1 q
  have l1 := x1.2.1.1
  have l2 := x2.2.1.1
  have il := I.1 l hl
  have ir := I.1 r hr
  refine ⟨x1.tr x2 hR1, fun p q => ?_, fun ρ V => ?_, fun w ρ V z => ?_⟩
  · rcases q with q | q
    · have := c1 p q; omega
    · exact c2 p q
  · have V1 := x2.2.2 ρ V
    have q1 := s1 ρ V1
    have q2 := s2 ρ V
    rw [TRes.gam I hh W x1 V1] at q2
    exact ⟨⟨q1.1, q2.1⟩, fun hp => ⟨q1.2 (fun p q => hp p (Or.inl q)), q2.2 (fun p q => hp p (Or.inr q))⟩⟩
  · obtain ⟨ρ1, V1, o1, w1⟩ := k1 w ρ V z.1
    obtain ⟨ρ2, V2, o2, w2⟩ := k2 w ρ1 V1 (by rw [TRes.gam2 I hh W x1 V V1 o1, o1 l il.1 il.2, o1 r ir.1 ir.2]; exact z.2)
    refine ⟨ρ2, V2, fun n p q => (o2 n p (by omega)).trans (o1 n p q), fun e p q => ?_⟩
    rcases q with q | q
    · have := c1 p q
      rw [o2 p this.1 this.2]; exact w1 e p q
    · exact w2 e p q
/-- a choice: what is looked at, a new variable, the branches -/
theorem TR_case {a t : Int} {C : Tr} (I : EnvI S h E M) (hh : h ≤ 999) (W : SO S) (c0 : 0 ≤ S.2.1) (RA : TRes S S1 E M h A PA a) (e2 : S2 = adT S1 (0, -1, t) h) (RC : BRes S2 S3 E (fun m => (M m ∨ m = a) ∨ m = S1.2.1) h (fun w G sl sr => tyE C w G (gA sl sr)) P a S1.2.1) : TRes S S3 E M h (nd 16 0 A C nl) (fun p => (PA p ∨ P p) ∨ p = S1.2.1) S1.2.1 := by
  obtain ⟨xa, ra, ca, sa, ka⟩ := RA
  obtain ⟨xc, cc, sc, kc⟩ := RC
  have l1 := xa.2.1.1
  have hR1 : ∀ m, M m → Res S M h S1 m := fun m q => Res.m xa.2.1 I.1 q
  have s2 : TSt S1 S2 M h := by rw [e2]; exact ad_S xa.1 (by omega) nw_fr (fun _ => by omega)
  have c2 : S2.2.1 = S1.2.1 + 1 := by rw [e2]; rfl
  have x2 := xa.tr s2 hR1
  have rr : Res S M h S2 S1.2.1 := by rw [e2]; exact fresh_r xa.2.1 c0
  have ra2 := ra.up s2.2.1 l1 hR1
  have hR2 : ∀ m, ((M m ∨ m = a) ∨ m = S1.2.1) → Res S M h S2 m := fun m q => by
    rcases q with (q | q) | q
    · exact Res.m x2.2.1 I.1 q
    · rw [q]; exact ra2
    · rw [q]; exact rr
  have x3 := x2.tr xc hR2
  have rr3 := rr.up xc.2.1 x2.2.1.1 hR2
  have l3 := xc.2.1.1
  refine ⟨x3, rr3, fun p q => ?_, fun ρ V => ?_, fun w ρ s V z => ?_⟩
  · rcases q with (q | q) | q
    · have := ca p q; omega
    · exact cc p q
    · rw [q]; exact rr3.1
  · have V2 := xc.2.2 ρ V
    have V1 := s2.2.2 ρ V2
    have q1 := sa ρ V1
    have q2 := sc ρ V
    rw [TRes.gam I hh W x2 V2] at q2
    exact ⟨⟨fun _ e => (by cases e), _, q1.1, q2.1⟩, fun hp => ⟨fun _ _ => hp _ (Or.inr rfl), _, q1.2 (fun p q => hp p (Or.inl (Or.inl q))), q2.2 (fun p q => hp p (Or.inl (Or.inr q)))⟩⟩
  · obtain ⟨z1, a', z2, z3⟩ := z
    obtain ⟨ρ1, V1, o1, ea, w1⟩ := ka w ρ a' V z2
    obtain ⟨ρ2, V2, o2, er⟩ := ad_x (lv := h) xa.1 (by omega) (nw_fr (t := t)) V1 s (Or.inl ⟨rfl, by show (-1 : Int) < 0; decide⟩)
    rw [← e2] at V2
    have ea2 : ρ2 a = a' := (o2 a ra.1.1 ra.1.2).trans ea
    have o12 : ∀ n, 0 ≤ n → n < S.2.1 → ρ2 n = ρ n := fun n p q => (o2 n p (by omega)).trans (o1 n p q)
    obtain ⟨ρ3, V3, o3, w3⟩ := kc w ρ2 V2 (by rw [TRes.gam2 I hh W x2 V V2 o12, ea2, er]; exact z3)
    have er3 : ρ3 S1.2.1 = s := (o3 _ (by omega) (by omega)).trans er
    refine ⟨ρ3, V3, fun n p q => (o3 n p (by omega)).trans (o12 n p q), er3, fun e p q => ?_⟩
    rcases q with (q | q) | q
    · have := ca p q
      rw [o3 p this.1 (by omega), o2 p this.1 this.2]; exact w1 e p q
    · exact w3 e p q
    · rw [q, er3]; exact z1 (by decide) e
end TBR
