/-! Patterns from what is looked at down to their parts, as the model goes. -/
/-- the pattern A, made one with the node l -/
def QRes (S S' : TS) (M : Int → Prop) (h : Int) (A : Tr) (P : Int → Prop) (nu : Int → Int) (l : Int) : Prop := TSt S S' M h ∧ inC S' P ∧ (∀ z ∈ bnd A, Res S M h S' (nu z)) ∧ (∀ ρ, VS S'.1 S'.2.1 ρ → tpP false (fun z => ρ (nu z)) A (ρ l) ∧ ((∀ p, P p → gw (ρ p) ≤ 80) → tpP true (fun z => ρ (nu z)) A (ρ l))) ∧ ∀ w α ρ, VS S.1 S.2.1 ρ → tpP w α A (ρ l) → ∃ ρ', VS S'.1 S'.2.1 ρ' ∧ (∀ n, 0 ≤ n → n < S.2.1 → ρ' n = ρ n) ∧ (∀ z ∈ bnd A, ρ' (nu z) = α z) ∧ (w = true → ∀ p, P p → gw (ρ' p) ≤ 80)
section MPT
variable {S S1 S2 S3 S4 S5 S' : TS} {M : Int → Prop} {h n j l r : Int} {ρ : Int → GT} {A B : Tr} {P PA PB : Int → Prop} {nu na nb : Int → Int} {E : List (Int × Int)}
theorem QRes.cg (R : QRes S S' M h A P na l) (e : ∀ z ∈ bnd A, nu z = na z) : QRes S S' M h A P nu l := by
  obtain ⟨x, c, q, s, k⟩ := R
  have cA : ∀ {w s} {ρ : Int → GT}, tpP w (fun z => ρ (na z)) A s → tpP w (fun z => ρ (nu z)) A s := fun {w s ρ} q => tpP_cg A _ (fun z m => by show ρ (na z) = ρ (nu z); rw [e z m]) q
  refine ⟨x, c, fun z m => by rw [e z m]; exact q z m, fun ρ V => ⟨cA (s ρ V).1, fun hp => cA ((s ρ V).2 hp)⟩, fun w α ρ V z => ?_⟩
  obtain ⟨ρ', V', o, m, w'⟩ := k w α ρ V z
  exact ⟨ρ', V', o, fun z mz => by rw [e z mz]; exact m z mz, w'⟩
theorem QR_base {T : Tr} (hM : inC S M) (hl : M l) (b : bsN S n j) (hb : bnd T = []) (hT : ∀ w α s, tpP w α T s ↔ ((w = true → gw s ≤ 80) ∧ s = gK j)) (u : TSt S S1 (fun x => x = l ∨ x = n) h) (uV : ∀ ρ, VS S1.1 S1.2.1 ρ ↔ (VS S.1 S.2.1 ρ ∧ ρ l = ρ n)) (W : SO S) : QRes S S1 M h T (fun p => p = l) nu l := by
  have hR : ∀ m, (m = l ∨ m = n) → Res S M h S m := fun m q => by
    rcases q with q | q
    · rw [q]; exact Res.m XE.rf hM hl
    · rw [q]; exact b.r
  have il := hM l hl
  have lu := u.2.1.1
  refine ⟨(TSt.rf W).tr u hR, fun p q => by rw [q]; exact ⟨il.1, by omega⟩, fun z m => by rw [hb] at m; exact absurd m List.not_mem_nil, fun ρ V => ?_, fun w α ρ V z => ?_⟩
  · obtain ⟨V0, e⟩ := (uV ρ).mp V
    rw [b.v V0] at e
    exact ⟨(hT _ _ _).mpr ⟨fun q => (by cases q), e⟩, fun hp => (hT _ _ _).mpr ⟨fun _ => hp l rfl, e⟩⟩
  · obtain ⟨z1, z2⟩ := (hT _ _ _).mp z
    refine ⟨ρ, (uV ρ).mpr ⟨V, by rw [z2, b.v V]⟩, fun _ _ _ => rfl, fun z m => by rw [hb] at m; exact absurd m List.not_mem_nil, fun e p q => by rw [q]; exact z1 e⟩
theorem QR_base_no {T : Tr} {α : Int → GT} (b : bsN S n j) (hT : ∀ w α s, tpP w α T s ↔ ((w = true → gw s ≤ 80) ∧ s = gK j)) (no : ∀ ρ, VS S.1 S.2.1 ρ → ρ l = ρ n → ¬ gw (ρ l) ≤ 80) (V : VS S.1 S.2.1 ρ) : ¬ tpP true α T (ρ l) := fun z => by
  obtain ⟨z1, z2⟩ := (hT _ _ _).mp z
  exact no ρ V (by rw [z2, b.v V]) (z1 rfl)
theorem QR_any (W : SO S) (hM : inC S M) (hl : M l) : QRes S S M h (nd 7 0 nl nl nl) (fun p => p = l) nu l := by
  have bn : bnd (nd 7 0 nl nl nl) = [] := rfl
  refine ⟨TSt.rf W, fun p q => by rw [q]; exact hM l hl, fun z m => by rw [bn] at m; exact absurd m List.not_mem_nil, fun ρ V => ⟨⟨fun e => (by cases e), trivial⟩, fun hp => ⟨fun _ => hp l rfl, trivial⟩⟩, fun w α ρ V z => ⟨ρ, V, fun _ _ _ => rfl, fun z m => by rw [bn] at m; exact absurd m List.not_mem_nil, fun e p q => by rw [q]; exact z.1 e⟩⟩
theorem QR_nm {z : Int} (W : SO S) (hM : inC S M) (hl : M l) (hn : nu z = l) : QRes S S M h (nd 6 z nl nl nl) (fun p => p = l) nu l := by
  have bn : bnd (nd 6 z nl nl nl) = [z] := rfl
  refine ⟨TSt.rf W, fun p q => by rw [q]; exact hM l hl, fun y m => ?_, fun ρ V => ⟨⟨fun e => (by cases e), ?_⟩, fun hp => ⟨fun _ => hp l rfl, ?_⟩⟩, fun w α ρ V y => ⟨ρ, V, fun _ _ _ => rfl, fun y' m => ?_, fun e p q => by rw [q]; exact y.1 e⟩⟩
  · rw [bn] at m
    rw [List.mem_singleton.mp m, hn]
    exact Res.m XE.rf hM hl
  · show ρ l = ρ (nu z); rw [hn]
  · show ρ l = ρ (nu z); rw [hn]
  · rw [bn] at m
    rw [List.mem_singleton.mp m, hn]
    exact y.2
theorem QR_emp {t t2 lv : Int} (W : SO S) (c0 : 0 ≤ S.2.1) (hh : h ≤ 999) (hM : inC S M) (hl : M l) (e1 : S1 = adT S (0, -1, t) h) (e2 : S2 = adT S1 (4, S.2.1, t2) lv) (u : TSt S2 S3 (fun x => x = l ∨ x = S1.2.1) h) (uV : ∀ ρ, VS S3.1 S3.2.1 ρ ↔ (VS S2.1 S2.2.1 ρ ∧ ρ l = ρ S1.2.1)) : QRes S S3 M h (nd 3 0 nl nl nl) (fun p => p = l) nu l := by
  have bn : bnd (nd 3 0 nl nl nl) = [] := rfl
  have c1 : S1.2.1 = S.2.1 + 1 := by rw [e1]; rfl
  have c2 : S2.2.1 = S1.2.1 + 1 := by rw [e2]; rfl
  have s1 : TSt S S1 M h := by rw [e1]; exact ad_S W c0 nw_fr (fun _ => by omega)
  have hR1 : ∀ m, M m → Res S M h S1 m := fun m q => Res.m s1.2.1 hM q
  have rr1 : Res S M h S1 S.2.1 := by rw [e1]; exact fresh_r XE.rf c0
  have n2 : nwT S1 (4, S.2.1, t2) := Or.inr (Or.inl ⟨rfl, rr1.1⟩)
  have s2 : TSt S1 S2 M h := by rw [e2]; exact ad_S s1.1 (by omega) n2 (fun q => absurd q (by show ¬ (4 : Int) = 0; decide))
  have x2 := s1.tr s2 hR1
  have rr2 := rr1.up s2.2.1 s1.2.1.1 hR1
  have k2 : S2.1 S1.2.1 = (4, S.2.1, t2) := by rw [e2]; exact ad_c
  have rl2 : Res S M h S2 S1.2.1 := Res.p4 ⟨by omega, by omega⟩ k2 rr2
  have hU : ∀ m, (m = l ∨ m = S1.2.1) → Res S M h S2 m := fun m q => by
    rcases q with q | q
    · rw [q]; exact Res.m x2.2.1 hM hl
    · rw [q]; exact rl2
  have x3 := x2.tr u hU
  have il := hM l hl
  have l3 := u.2.1.1
  have vk : ∀ {ρ}, VS S2.1 S2.2.1 ρ → ρ S1.2.1 = gL (ρ S.2.1) := fun {ρ} V => by
    rw [e2] at V
    exact (ad_r s1.1 (by omega) V).1 rfl
  refine ⟨x3, fun p q => by rw [q]; exact ⟨il.1, by omega⟩, fun z m => by rw [bn] at m; exact absurd m List.not_mem_nil, fun ρ V => ?_, fun w α ρ V z => ?_⟩
  · obtain ⟨V2, e⟩ := (uV ρ).mp V
    have e := e.trans (vk V2)
    exact ⟨⟨fun q => (by cases q), _, e⟩, fun hp => ⟨fun _ => hp l rfl, _, e⟩⟩
  · obtain ⟨z1, a', z2⟩ := z
    obtain ⟨ρ1, V1, o1, ei⟩ := ad_x (lv := h) W c0 (nw_fr (t := t)) V a' (Or.inl ⟨rfl, by show (-1 : Int) < 0; decide⟩)
    rw [← e1] at V1
    obtain ⟨ρ2, V2, o2, el⟩ := ad_x (lv := lv) s1.1 (by omega) n2 V1 _ (Or.inr (Or.inl ⟨rfl, rfl⟩))
    rw [← e2] at V2
    have e2l : ρ2 l = ρ l := (o2 l il.1 (by omega)).trans (o1 l il.1 il.2)
    refine ⟨ρ2, (uV ρ2).mpr ⟨V2, ?_⟩, fun n p q => (o2 n p (by omega)).trans (o1 n p q), fun z m => by rw [bn] at m; exact absurd m List.not_mem_nil, fun e p q => by rw [q, e2l]; exact z1 e⟩
    rw [e2l, el, z2]
    show gL a' = gL (ρ1 S.2.1)
    rw [ei]
/-- a list is made for what is looked at: every type it can have -/
theorem QR_ls {t t2 lv : Int} (W : SO S) (c0 : 0 ≤ S.2.1) (hh : h ≤ 999) (hM : inC S M) (hl : M l) (e1 : S1 = adT S (0, -1, t) h) (e2 : S2 = adT S1 (4, S.2.1, t2) lv) {a' : GT} (V : VS S.1 S.2.1 ρ) (el : ρ l = gL a') : ∃ ρ', VS S2.1 S2.2.1 ρ' ∧ (∀ n, 0 ≤ n → n < S.2.1 → ρ' n = ρ n) ∧ ρ' S.2.1 = a' ∧ ρ' S1.2.1 = gL a' ∧ ρ' l = ρ l := by
  have c1 : S1.2.1 = S.2.1 + 1 := by rw [e1]; rfl
  have s1 : TSt S S1 M h := by rw [e1]; exact ad_S W c0 nw_fr (fun _ => by omega)
  have n2 : nwT S1 (4, S.2.1, t2) := Or.inr (Or.inl ⟨rfl, c0, by show S.2.1 < S1.2.1; omega⟩)
  have il := hM l hl
  obtain ⟨ρ1, V1, o1, ei⟩ := ad_x (lv := h) W c0 (nw_fr (t := t)) V a' (Or.inl ⟨rfl, by show (-1 : Int) < 0; decide⟩)
  rw [← e1] at V1
  obtain ⟨ρ2, V2, o2, el2⟩ := ad_x (lv := lv) s1.1 (by omega) n2 V1 _ (Or.inr (Or.inl ⟨rfl, rfl⟩))
  rw [← e2] at V2
  refine ⟨ρ2, V2, fun n p q => (o2 n p (by omega)).trans (o1 n p q), (o2 _ c0 (by omega)).trans ei, ?_, (o2 l il.1 (by omega)).trans (o1 l il.1 il.2)⟩
  rw [el2]
  show gL (ρ1 S.2.1) = gL a'
  rw [ei]
theorem QR_emp_no {t t2 lv : Int} {α : Int → GT} (W : SO S) (c0 : 0 ≤ S.2.1) (hh : h ≤ 999) (hM : inC S M) (hl : M l) (e1 : S1 = adT S (0, -1, t) h) (e2 : S2 = adT S1 (4, S.2.1, t2) lv) (no : ∀ ρ, VS S2.1 S2.2.1 ρ → ρ l = ρ S1.2.1 → ¬ gw (ρ l) ≤ 80) (V : VS S.1 S.2.1 ρ) : ¬ tpP true α (nd 3 0 nl nl nl) (ρ l) := fun z => by
  obtain ⟨z1, a', z2⟩ := z
  obtain ⟨ρ', V', o, ei, el, e⟩ := QR_ls W c0 hh hM hl e1 e2 V z2
  exact no ρ' V' (by rw [e, el, z2]) (by rw [e]; exact z1 rfl)
theorem QR_cons {t t2 lv : Int} (W : SO S) (c0 : 0 ≤ S.2.1) (hh : h ≤ 999) (hM : inC S M) (hl : M l) (e1 : S1 = adT S (0, -1, t) h) (e2 : S2 = adT S1 (4, S.2.1, t2) lv) (u : TSt S2 S3 (fun x => x = l ∨ x = S1.2.1) h) (uV : ∀ ρ, VS S3.1 S3.2.1 ρ ↔ (VS S2.1 S2.2.1 ρ ∧ ρ l = ρ S1.2.1)) (RA : QRes S3 S4 (fun m => (M m ∨ m = S.2.1) ∨ m = S1.2.1) h A PA nu S.2.1) (RB : QRes S4 S5 (fun m => (M m ∨ m = S.2.1) ∨ m = S1.2.1) h B PB nu S1.2.1) : QRes S S5 M h (nd 10 0 A B nl) (fun p => (PA p ∨ PB p) ∨ p = l) nu l := by
  have bn : bnd (nd 10 0 A B nl) = bnd A ++ bnd B := rfl
  have c1 : S1.2.1 = S.2.1 + 1 := by rw [e1]; rfl
  have c2 : S2.2.1 = S1.2.1 + 1 := by rw [e2]; rfl
  have s1 : TSt S S1 M h := by rw [e1]; exact ad_S W c0 nw_fr (fun _ => by omega)
  have hR1 : ∀ m, M m → Res S M h S1 m := fun m q => Res.m s1.2.1 hM q
  have rr1 : Res S M h S1 S.2.1 := by rw [e1]; exact fresh_r XE.rf c0
  have n2 : nwT S1 (4, S.2.1, t2) := Or.inr (Or.inl ⟨rfl, rr1.1⟩)
  have s2 : TSt S1 S2 M h := by rw [e2]; exact ad_S s1.1 (by omega) n2 (fun q => absurd q (by show ¬ (4 : Int) = 0; decide))
  have x2 := s1.tr s2 hR1
  have rr2 := rr1.up s2.2.1 s1.2.1.1 hR1
  have k2 : S2.1 S1.2.1 = (4, S.2.1, t2) := by rw [e2]; exact ad_c
  have rl2 : Res S M h S2 S1.2.1 := Res.p4 ⟨by omega, by omega⟩ k2 rr2
  have hU : ∀ m, (m = l ∨ m = S1.2.1) → Res S M h S2 m := fun m q => by
    rcases q with q | q
    · rw [q]; exact Res.m x2.2.1 hM hl
    · rw [q]; exact rl2
  have x3 := x2.tr u hU
  have rr3 := rr2.up u.2.1 x2.2.1.1 hU
  have rl3 := rl2.up u.2.1 x2.2.1.1 hU
  obtain ⟨xa, ca, qa, sa, ka⟩ := RA
  obtain ⟨xb, cb, qb, sb, kb⟩ := RB
  have hR3 : ∀ m, ((M m ∨ m = S.2.1) ∨ m = S1.2.1) → Res S M h S3 m := fun m q => by
    rcases q with (q | q) | q
    · exact Res.m x3.2.1 hM q
    · rw [q]; exact rr3
    · rw [q]; exact rl3
  have x4 := x3.tr xa hR3
  have hR4 : ∀ m, ((M m ∨ m = S.2.1) ∨ m = S1.2.1) → Res S M h S4 m := fun m q => (hR3 m q).up xa.2.1 x3.2.1.1 hR3
  have x5 := x4.tr xb hR4
  have il := hM l hl
  have l3 := u.2.1.1
  have la := xa.2.1.1
  have lb := xb.2.1.1
  have vk : ∀ {ρ}, VS S2.1 S2.2.1 ρ → ρ S1.2.1 = gL (ρ S.2.1) := fun {ρ} V => by
    rw [e2] at V
    exact (ad_r s1.1 (by omega) V).1 rfl
  refine ⟨x5, fun p q => ?_, fun z m => ?_, fun ρ V => ?_, fun w α ρ V z => ?_⟩
  · rcases q with (q | q) | q
    · have := ca p q; omega
    · exact cb p q
    · rw [q]; exact ⟨il.1, by omega⟩
  · rw [bn] at m
    rcases List.mem_append.mp m with m | m
    · exact (Res.tr x3.2.1 hR3 (qa z m)).up xb.2.1 x4.2.1.1 hR4
    · exact Res.tr x4.2.1 hR4 (qb z m)
  · have V4 := xb.2.2 ρ V
    have V3 := xa.2.2 ρ V4
    obtain ⟨V2, e⟩ := (uV ρ).mp V3
    have q1 := sa ρ V4
    have q2 := sb ρ V
    rw [← e] at q2
    have ek := e.trans (vk V2)
    exact ⟨⟨fun q => (by cases q), _, q1.1, ek, q2.1⟩, fun hp => ⟨fun _ => hp l (Or.inr rfl), _, q1.2 (fun p q => hp p (Or.inl (Or.inl q))), ek, q2.2 (fun p q => hp p (Or.inl (Or.inr q)))⟩⟩
  · obtain ⟨z1, a', z2, z3, z4⟩ := z
    obtain ⟨ρ2, V2, o2, ei, el, e⟩ := QR_ls W c0 hh hM hl e1 e2 V z3
    have V3 := (uV ρ2).mpr ⟨V2, by rw [e, el, z3]⟩
    obtain ⟨ρ4, V4, o4, m4, w4⟩ := ka w α ρ2 V3 (by rw [ei]; exact z2)
    have e4 : ρ4 S1.2.1 = ρ l := by rw [o4 _ (by omega) (by omega), el, z3]
    obtain ⟨ρ5, V5, o5, m5, w5⟩ := kb w α ρ4 V4 (by rw [e4]; exact z4)
    have o25 : ∀ n, 0 ≤ n → n < S.2.1 → ρ5 n = ρ n := fun n p q => (o5 n p (by omega)).trans ((o4 n p (by omega)).trans (o2 n p q))
    refine ⟨ρ5, V5, o25, fun z m => ?_, fun e p q => ?_⟩
    · rw [bn] at m
      rcases List.mem_append.mp m with m | m
      · have rz := (qa z m).1
        rw [o5 _ rz.1 rz.2]; exact m4 z m
      · exact m5 z m
    · rcases q with (q | q) | q
      · have := ca p q
        rw [o5 p this.1 this.2]; exact w4 e p q
      · exact w5 e p q
      · rw [q, o25 l il.1 il.2]; exact z1 e
/-- where one of the steps fails, the pattern has no type -/
theorem QR_cons_no {t t2 lv : Int} {α : Int → GT} (W : SO S) (c0 : 0 ≤ S.2.1) (hh : h ≤ 999) (hM : inC S M) (hl : M l) (e1 : S1 = adT S (0, -1, t) h) (e2 : S2 = adT S1 (4, S.2.1, t2) lv) (no : ∀ ρ, VS S2.1 S2.2.1 ρ → ρ l = ρ S1.2.1 → gw (ρ l) ≤ 80 → tpP true α A (ρ S.2.1) → tpP true α B (ρ S1.2.1) → False) (V : VS S.1 S.2.1 ρ) : ¬ tpP true α (nd 10 0 A B nl) (ρ l) := fun z => by
  obtain ⟨z1, a', z2, z3, z4⟩ := z
  obtain ⟨ρ', V', o, ei, el, e⟩ := QR_ls W c0 hh hM hl e1 e2 V z3
  exact no ρ' V' (by rw [e, el, z3]) (by rw [e]; exact z1 rfl) (by rw [ei]; exact z2) (by rw [el, ← z3]; exact z4)
/-- one branch -/
theorem BR_q {b : Int} (I : EnvI S h E M) (hh : h ≤ 999) (W : SO S) (hl : M l) (hr : M r) (RA : QRes S S2 M h A PA nu l) (RB : TRes S2 S3 (pnE A nu E) (pnM A nu M) h B PB b) (u2 : TSt S3 S4 (fun x => x = r ∨ x = b) h) (u2V : ∀ ρ, VS S4.1 S4.2.1 ρ ↔ (VS S3.1 S3.2.1 ρ ∧ ρ r = ρ b)) : BRes S S4 E M h (fun w G sl sr => brT w G A B sl sr) (fun p => PA p ∨ PB p) l r := by
  obtain ⟨x2, ca, q2, sa, ka⟩ := RA
  obtain ⟨xb, rb, cb, sb, kb⟩ := RB
  have l2 := x2.2.1.1
  have hR2 : ∀ m, pnM A nu M m → Res S M h S2 m := fun m q => by
    rcases q with q | ⟨z, q, rfl⟩
    · exact Res.m x2.2.1 I.1 q
    · exact q2 z q
  have x3 := x2.tr xb hR2
  have rb3 := Res.tr x2.2.1 hR2 rb
  have hU2 : ∀ m, (m = r ∨ m = b) → Res S M h S3 m := fun m q => by
    rcases q with q | q
    · rw [q]; exact Res.m x3.2.1 I.1 hr
    · rw [q]; exact rb3
  have x4 := x3.tr u2 hU2
  have l3 := xb.2.1.1
  have l4 := u2.2.1.1
  have gm : ∀ {ρ}, VS S2.1 S2.2.1 ρ → Gam S2 ρ (pnE A nu E) = (bnd A).reverse.map (fun z => (z, is1 (ρ (nu z)))) ++ Gam S ρ E := fun {ρ} V => by
    rw [Gam_pn x2.1 V (fun z m => ⟨(q2 z m).1, lO_mono ((q2 z m).2.2.2 I.2.1) hh⟩), TRes.gam I hh W x2 V]
  have key : ∀ {w : Bool} {ρ : Int → GT} {s : GT}, tyE B w ((bnd A).reverse.map (fun z => (z, is1 (ρ (nu z)))) ++ Gam S ρ E) s → tyE B w ((bnd A).map (fun z => (z, is1 (ρ (nu z)))) ++ Gam S ρ E) s := fun {w ρ s} q => by
    rw [tyE_ge B w _ _ (GE_rev (D := fun z => is1 (ρ (nu z))) (bnd A))] at q; exact q
  refine ⟨x4, fun p q => ?_, fun ρ V => ?_, fun w ρ V z => ?_⟩
  · rcases q with q | q
    · have := ca p q; omega
    · have := cb p q; omega
  · obtain ⟨V3, er⟩ := (u2V ρ).mp V
    have V2 := xb.2.2 ρ V3
    obtain ⟨q1, q1'⟩ := sa ρ V2
    obtain ⟨q3, q4⟩ := sb ρ V3
    rw [gm V2, ← er] at q3 q4
    exact ⟨⟨_, q1, key q3⟩, fun hp => ⟨_, q1' (fun p q => hp p (Or.inl q)), key (q4 (fun p q => hp p (Or.inr q)))⟩⟩
  · obtain ⟨α, z1, z2⟩ := z
    obtain ⟨ρ1, V2, o1, n1, w1⟩ := ka w α ρ V z1
    have il := I.1 l hl
    have ir := I.1 r hr
    have z3 : tyE B w (Gam S2 ρ1 (pnE A nu E)) (ρ r) := by
      rw [gm V2, tyE_ge B w _ _ (GE_rev (D := fun z => is1 (ρ1 (nu z))) (bnd A)), Gam_cg I W V (x2.2.2 _ V2) (fun m q => o1 m (I.1 m q).1 (I.1 m q).2)]
      have e : (bnd A).map (fun z => (z, is1 (ρ1 (nu z)))) = (bnd A).map (fun x => (x, is1 (α x))) := List.map_congr_left (fun z m => by rw [n1 z m])
      rw [e]; exact z2
    obtain ⟨ρ3, V3, o3, e3, w3⟩ := kb w ρ1 _ V2 z3
    have lr : ρ3 r = ρ r := (o3 r ir.1 (by omega)).trans (o1 r ir.1 ir.2)
    refine ⟨ρ3, (u2V ρ3).mpr ⟨V3, by rw [e3, lr]⟩, fun n p q => (o3 n p (by omega)).trans (o1 n p q), fun e p q => ?_⟩
    rcases q with q | q
    · have := ca p q
      rw [o3 p this.1 (by omega)]; exact w1 e p q
    · exact w3 e p q
end MPT
