/-! A pattern as the class looks at it: its types; what its names are. -/
section TPC
variable {w : Bool} {α β : Int → GT}
theorem tpP_cg : ∀ (A : Tr) (s : GT), (∀ z ∈ bnd A, α z = β z) → tpP w α A s → tpP w β A s := by
  intro A
  induction A using tpP.induct with
  | case1 k z a b c iha ihb =>
    intro s h q
    have q : (w = true → gw s ≤ 80) ∧ _ := q
    refine ⟨q.1, ?_⟩
    have q2 := q.2
    match k, h, q2 with
    | 0, _, q2 => exact q2
    | 2, _, q2 => exact q2
    | 3, _, q2 => exact q2
    | 6, h, q2 =>
      have e : α z = β z := h z (by show z ∈ (if (6 : Nat) = 6 then [z] else _); rw [if_pos rfl]; exact List.mem_cons_self)
      exact q2.trans e
    | 7, _, _ => trivial
    | 10, h, q2 =>
      obtain ⟨x, q3, q4, q5⟩ := q2
      have h' : ∀ z ∈ bnd a ++ bnd b, α z = β z := h
      exact ⟨x, iha x (fun z m => h' z (List.mem_append.mpr (Or.inl m))) q3, q4, ihb s (fun z m => h' z (List.mem_append.mpr (Or.inr m))) q5⟩
  | case2 t hx =>
    intro s _ q
    unfold tpP at q
    split at q
    · exact (hx _ _ _ _ _ rfl).elim
    · exact q.elim
/-- the same names in another order -/
def GE (G G' : Gm) : Prop := ∀ z, lkG z G = lkG z G'
theorem GE.cons {G G' : Gm} (g : GE G G') {z : Int} {D : GT → Prop} : GE ((z, D) :: G) ((z, D) :: G') := fun y => by
  show (if z = y then D else lkG y G) = if z = y then D else lkG y G'
  rw [g y]
theorem GE.app {G G' : Gm} (g : GE G G') : ∀ L : Gm, GE (L ++ G) (L ++ G')
  | [] => g
  | (z, D) :: L => (GE.app g L).cons
theorem tyE_ge : ∀ (T : Tr) (w : Bool) (G G' : Gm), GE G G' → tyE T w G = tyE T w G' := by
  intro T
  induction T using tyE.induct with
  | case1 k z A B C iA iB iC =>
    intro w G G' g
    funext s
    have eA := iA w _ _ g
    have eB := iB w _ _ g
    have eC := iC w _ _ g
    have eF := iA false _ _ g
    have c1 : ∀ D, tyE A w ((z, D) :: G) = tyE A w ((z, D) :: G') := fun D => iA w _ _ g.cons
    have c2 : ∀ D, tyE B w ((z, D) :: G) = tyE B w ((z, D) :: G') := fun D => iB w _ _ g.cons
    have c3 : ∀ D, tyE A false ((z, D) :: G) = tyE A false ((z, D) :: G') := fun D => iA false _ _ g.cons
    have c4 : ∀ L, tyE B w (L ++ G) = tyE B w (L ++ G') := fun L => iB w _ _ (g.app L)
    have gz := g z
    unfold tyE
    split <;> simp only [eA, eB, eC, eF, c1, c2, c3, c4, gz]
  | case2 t hx =>
    intro _ _ _ _
    funext s
    unfold tyE
    split
    · exact (hx _ _ _ _ _ rfl).elim
    · rfl
theorem lkG_map {D : Int → GT → Prop} {G : Gm} {z : Int} : ∀ L : List Int, lkG z (L.map (fun x => (x, D x)) ++ G) = if z ∈ L then D z else lkG z G
  | [] => by rw [if_neg List.not_mem_nil]; rfl
  | x :: L => by
    show (if x = z then D x else lkG z (L.map (fun x => (x, D x)) ++ G)) = _
    by_cases e : x = z
    · subst e; rw [if_pos rfl, if_pos List.mem_cons_self]
    · rw [if_neg e, lkG_map L]
      by_cases m : z ∈ L
      · rw [if_pos m, if_pos (List.mem_cons_of_mem _ m)]
      · rw [if_neg m, if_neg (fun q => by rcases List.mem_cons.mp q with q | q; exact e q.symm; exact m q)]
theorem GE_rev {D : Int → GT → Prop} {G : Gm} (L : List Int) : GE (L.reverse.map (fun x => (x, D x)) ++ G) (L.map (fun x => (x, D x)) ++ G) := fun z => by
  rw [lkG_map, lkG_map]
  simp only [List.mem_reverse]
end TPC
/-- what a pattern's part of a store says -/
def PRes (S S' : TS) (M : Int → Prop) (h : Int) (A : Tr) (P : Int → Prop) (nu : Int → Int) (t : Int) : Prop := TSt S S' M h ∧ Res S M h S' t ∧ inC S' P ∧ (∀ z ∈ bnd A, Res S M h S' (nu z)) ∧ (∀ ρ, VS S'.1 S'.2.1 ρ → tpP false (fun z => ρ (nu z)) A (ρ t) ∧ ((∀ p, P p → gw (ρ p) ≤ 80) → tpP true (fun z => ρ (nu z)) A (ρ t))) ∧ ∀ w α ρ s, VS S.1 S.2.1 ρ → tpP w α A s → ∃ ρ', VS S'.1 S'.2.1 ρ' ∧ (∀ n, 0 ≤ n → n < S.2.1 → ρ' n = ρ n) ∧ ρ' t = s ∧ (∀ z ∈ bnd A, ρ' (nu z) = α z) ∧ (w = true → ∀ p, P p → gw (ρ' p) ≤ 80)
section TPR
variable {S S1 S2 S3 S4 S' : TS} {M : Int → Prop} {h j n : Int} {ρ : Int → GT} {A B : Tr} {P PA PB : Int → Prop} {nu na nb : Int → Int}
theorem PR_base {T : Tr} (W : SO S) (b : bsN S n j) (hb : bnd T = []) (hT : ∀ w α s, tpP w α T s ↔ ((w = true → gw s ≤ 80) ∧ s = gK j)) : PRes S S M h T (fun p => p = n) nu n := by
  refine ⟨TSt.rf W, b.r, fun p q => by rw [q]; exact b.1, fun z m => by rw [hb] at m; exact absurd m List.not_mem_nil, fun ρ V => ⟨(hT _ _ _).mpr ⟨fun e => (by cases e), b.v V⟩, fun hp => (hT _ _ _).mpr ⟨fun _ => hp n rfl, b.v V⟩⟩, fun w α ρ s V z => ?_⟩
  obtain ⟨z1, z2⟩ := (hT _ _ _).mp z
  exact ⟨ρ, V, fun _ _ _ => rfl, (b.v V).trans z2.symm, fun z m => by rw [hb] at m; exact absurd m List.not_mem_nil, fun e p q => by rw [q, b.v V, ← z2]; exact z1 e⟩
theorem nw_fr {t : Int} : nwT S (0, -1, t) := Or.inl ⟨rfl, by show (-1 : Int) < 0; decide⟩
theorem PR_any {t : Int} (W : SO S) (c0 : 0 ≤ S.2.1) (hh : h ≤ 999) (e1 : S1 = adT S (0, -1, t) h) : PRes S S1 M h (nd 7 0 nl nl nl) (fun p => p = S.2.1) nu S.2.1 := by
  have s1 : TSt S S1 M h := by rw [e1]; exact ad_S W c0 nw_fr (fun _ => by omega)
  have rp : Res S M h S1 S.2.1 := by rw [e1]; exact fresh_r (S1 := S) XE.rf c0
  refine ⟨s1, rp, fun p q => by rw [q]; exact rp.1, fun z m => absurd m List.not_mem_nil, fun ρ V => ⟨⟨fun e => (by cases e), trivial⟩, fun hp => ⟨fun _ => hp _ rfl, trivial⟩⟩, fun w α ρ s V z => ?_⟩
  obtain ⟨ρ1, V1, o1, ep⟩ := ad_x (lv := h) W c0 (nw_fr (t := t)) V s (Or.inl ⟨rfl, by show (-1 : Int) < 0; decide⟩)
  rw [← e1] at V1
  exact ⟨ρ1, V1, o1, ep, fun z m => absurd m List.not_mem_nil, fun e p q => by rw [q, ep]; exact z.1 e⟩
theorem PR_nm {t z : Int} (W : SO S) (c0 : 0 ≤ S.2.1) (hh : h ≤ 999) (e1 : S1 = adT S (0, -1, t) h) (hn : nu z = S.2.1) : PRes S S1 M h (nd 6 z nl nl nl) (fun p => p = S.2.1) nu S.2.1 := by
  have s1 : TSt S S1 M h := by rw [e1]; exact ad_S W c0 nw_fr (fun _ => by omega)
  have rp : Res S M h S1 S.2.1 := by rw [e1]; exact fresh_r (S1 := S) XE.rf c0
  have eb : ∀ y, y ∈ bnd (nd 6 z nl nl nl) → y = z := fun y m => by
    have m : y ∈ [z] := m
    exact List.mem_singleton.mp m
  refine ⟨s1, rp, fun p q => by rw [q]; exact rp.1, fun y m => by rw [eb y m, hn]; exact rp, fun ρ V => ⟨⟨fun e => (by cases e), ?_⟩, fun hp => ⟨fun _ => hp _ rfl, ?_⟩⟩, fun w α ρ s V y => ?_⟩
  · show ρ S.2.1 = ρ (nu z); rw [hn]
  · show ρ S.2.1 = ρ (nu z); rw [hn]
  obtain ⟨ρ1, V1, o1, ep⟩ := ad_x (lv := h) W c0 (nw_fr (t := t)) V s (Or.inl ⟨rfl, by show (-1 : Int) < 0; decide⟩)
  rw [← e1] at V1
  exact ⟨ρ1, V1, o1, ep, fun x m => by rw [eb x m, hn, ep]; exact y.2, fun e p q => by rw [q, ep]; exact y.1 e⟩
theorem PR_emp {t t2 lv : Int} (W : SO S) (c0 : 0 ≤ S.2.1) (hh : h ≤ 999) (hM : inC S M) (e1 : S1 = adT S (0, -1, t) h) (e2 : S2 = adT S1 (4, S.2.1, t2) lv) : PRes S S2 M h (nd 3 0 nl nl nl) (fun p => p = S1.2.1) nu S1.2.1 := by
  have s1 : TSt S S1 M h := by rw [e1]; exact ad_S W c0 nw_fr (fun _ => by omega)
  have c1 : S1.2.1 = S.2.1 + 1 := by rw [e1]; rfl
  have rp : Res S M h S1 S.2.1 := by rw [e1]; exact fresh_r (S1 := S) XE.rf c0
  have hR1 : ∀ m, M m → Res S M h S1 m := fun m q => Res.m s1.2.1 hM q
  have n2 : nwT S1 (4, S.2.1, t2) := Or.inr (Or.inl ⟨rfl, rp.1⟩)
  have s2 : TSt S1 S2 M h := by rw [e2]; exact ad_S s1.1 (by omega) n2 (fun q => absurd q (by show ¬ (4 : Int) = 0; decide))
  have c2 : S2.2.1 = S1.2.1 + 1 := by rw [e2]; rfl
  have k2 : S2.1 S1.2.1 = (4, S.2.1, t2) := by rw [e2]; exact ad_c
  have rk : Res S M h S2 S1.2.1 := Res.p4 ⟨by omega, by omega⟩ k2 (rp.up s2.2.1 s1.2.1.1 hR1)
  have vl : ∀ {ρ}, VS S2.1 S2.2.1 ρ → ρ S1.2.1 = gL (ρ S.2.1) := fun {ρ} V => by
    rw [e2] at V
    exact (ad_r s1.1 (by omega) V).1 rfl
  refine ⟨s1.tr s2 hR1, rk, fun p q => by rw [q]; exact rk.1, fun z m => absurd m List.not_mem_nil, fun ρ V => ⟨⟨fun e => (by cases e), _, vl V⟩, fun hp => ⟨fun _ => hp _ rfl, _, vl V⟩⟩, fun w α ρ s V z => ?_⟩
  obtain ⟨z1, a, z2⟩ := z
  obtain ⟨ρ1, V1, o1, ep⟩ := ad_x (lv := h) W c0 (nw_fr (t := t)) V a (Or.inl ⟨rfl, by show (-1 : Int) < 0; decide⟩)
  rw [← e1] at V1
  obtain ⟨ρ2, V2, o2, ek⟩ := ad_x (lv := lv) s1.1 (by omega) n2 V1 _ (Or.inr (Or.inl ⟨rfl, rfl⟩))
  rw [← e2] at V2
  have es : ρ2 S1.2.1 = s := by
    rw [ek, z2]
    show gL (ρ1 S.2.1) = gL a
    rw [ep]
  exact ⟨ρ2, V2, fun n p q => (o2 n p (by omega)).trans (o1 n p q), es, fun z m => absurd m List.not_mem_nil, fun e p q => by rw [q, es]; exact z1 e⟩
theorem PR_cons {a b t lv : Int} (W : SO S) (hM : inC S M) (RA : PRes S S1 M h A PA na a) (c0 : 0 ≤ S.2.1) (e2 : S2 = adT S1 (4, a, t) lv) (RB : PRes S2 S3 M h B PB nb b) (u : TSt S3 S4 (fun x => x = b ∨ x = S1.2.1) h) (uV : ∀ ρ, VS S4.1 S4.2.1 ρ ↔ (VS S3.1 S3.2.1 ρ ∧ ρ b = ρ S1.2.1)) (hnA : ∀ z ∈ bnd A, nu z = na z) (hnB : ∀ z ∈ bnd B, nu z = nb z) : PRes S S4 M h (nd 10 0 A B nl) (fun p => (PA p ∨ PB p) ∨ p = S1.2.1) nu S1.2.1 := by
  obtain ⟨xa, ra, ca, qa, sa, ka⟩ := RA
  obtain ⟨xb, rb, cb, qb, sb, kb⟩ := RB
  have l1 := xa.2.1.1
  have hR1 : ∀ m, M m → Res S M h S1 m := fun m q => Res.m xa.2.1 hM q
  have n2 : nwT S1 (4, a, t) := Or.inr (Or.inl ⟨rfl, ra.1⟩)
  have s2 : TSt S1 S2 M h := by rw [e2]; exact ad_S xa.1 (by omega) n2 (fun q => absurd q (by show ¬ (4 : Int) = 0; decide))
  have c2 : S2.2.1 = S1.2.1 + 1 := by rw [e2]; rfl
  have x2 := xa.tr s2 hR1
  have k2 : S2.1 S1.2.1 = (4, a, t) := by rw [e2]; exact ad_c
  have rl : Res S M h S2 S1.2.1 := Res.p4 ⟨by omega, by omega⟩ k2 (ra.up s2.2.1 l1 hR1)
  have hR2 : ∀ m, M m → Res S M h S2 m := fun m q => Res.m x2.2.1 hM q
  have x3 := x2.tr xb hR2
  have l2 := x2.2.1.1
  have rl3 := rl.up xb.2.1 l2 hR2
  have rb3 := Res.tr x2.2.1 hR2 rb
  have hR3 : ∀ m, (m = b ∨ m = S1.2.1) → Res S M h S3 m := fun m q => by
    rcases q with q | q
    · rw [q]; exact rb3
    · rw [q]; exact rl3
  have x4 := x3.tr u hR3
  have rl4 := rl3.up u.2.1 x3.2.1.1 hR3
  have l3 := xb.2.1.1
  have l4 := u.2.1.1
  have vl : ∀ {ρ}, VS S2.1 S2.2.1 ρ → ρ S1.2.1 = gL (ρ a) := fun {ρ} V => by
    rw [e2] at V
    exact (ad_r xa.1 (by omega) V).1 rfl
  refine ⟨x4, rl4, fun p q => ?_, fun z m => ?_, fun ρ V => ?_, fun w α ρ s V z => ?_⟩
  · rcases q with (q | q) | q
    · have := ca p q; omega
    · have := cb p q; omega
    · rw [q]; exact rl4.1
  · have m : z ∈ bnd A ++ bnd B := m
    rcases List.mem_append.mp m with m | m
    · rw [hnA z m]
      exact (((qa z m).up s2.2.1 l1 hR1).up xb.2.1 l2 hR2).up u.2.1 x3.2.1.1 hR3
    · rw [hnB z m]
      exact (Res.tr x2.2.1 hR2 (qb z m)).up u.2.1 x3.2.1.1 hR3
  · obtain ⟨V3, eb⟩ := (uV ρ).mp V
    have V2 := xb.2.2 ρ V3
    have V1 := s2.2.2 ρ V2
    obtain ⟨q1, q2⟩ := sa ρ V1
    obtain ⟨q3, q4⟩ := sb ρ V3
    rw [eb] at q3 q4
    have cA : ∀ {w s}, tpP w (fun z => ρ (na z)) A s → tpP w (fun z => ρ (nu z)) A s := fun q => tpP_cg A _ (fun z m => by show ρ (na z) = ρ (nu z); rw [hnA z m]) q
    have cB : ∀ {w s}, tpP w (fun z => ρ (nb z)) B s → tpP w (fun z => ρ (nu z)) B s := fun q => tpP_cg B _ (fun z m => by show ρ (nb z) = ρ (nu z); rw [hnB z m]) q
    exact ⟨⟨fun e => (by cases e), ρ a, cA q1, vl V2, cB q3⟩, fun hp => ⟨fun _ => hp _ (Or.inr rfl), ρ a, cA (q2 (fun p q => hp p (Or.inl (Or.inl q)))), vl V2, cB (q4 (fun p q => hp p (Or.inl (Or.inr q))))⟩⟩
  · obtain ⟨z1, a', z2, z3, z4⟩ := z
    obtain ⟨ρ1, V1, o1, ea, m1, w1⟩ := ka w α ρ a' V z2
    obtain ⟨ρ2, V2, o2, el⟩ := ad_x (lv := lv) xa.1 (by omega) n2 V1 _ (Or.inr (Or.inl ⟨rfl, rfl⟩))
    rw [← e2] at V2
    have el : ρ2 S1.2.1 = s := by
      rw [el, z3]
      show gL (ρ1 a) = gL a'
      rw [ea]
    obtain ⟨ρ3, V3, o3, eb, m3, w3⟩ := kb w α ρ2 s V2 z4
    have el3 : ρ3 S1.2.1 = s := (o3 _ (by omega) (by omega)).trans el
    refine ⟨ρ3, (uV ρ3).mpr ⟨V3, by rw [eb, el3]⟩, fun n p q => (o3 n p (by omega)).trans ((o2 n p (by omega)).trans (o1 n p q)), el3, fun z m => ?_, fun e p q => ?_⟩
    · have m : z ∈ bnd A ++ bnd B := m
      rcases List.mem_append.mp m with m | m
      · have r := (qa z m).1
        rw [hnA z m, o3 _ r.1 (by omega), o2 _ r.1 r.2]; exact m1 z m
      · rw [hnB z m]; exact m3 z m
    · rcases q with (q | q) | q
      · have := ca p q
        rw [o3 p this.1 (by omega), o2 p this.1 this.2]; exact w1 e p q
      · exact w3 e p q
      · rw [q, el3]; exact z1 e
theorem tpP_w {α : Int → GT} {s : GT} (z : tpP true α A s) : gw s ≤ 80 := by
  unfold tpP at z
  split at z
  · exact z.1 rfl
  · exact z.elim
theorem PR_cons_no {a b t lv : Int} {α : Int → GT} (W : SO S) (RA : PRes S S1 M h A PA na a) (c0 : 0 ≤ S.2.1) (e2 : S2 = adT S1 (4, a, t) lv) (RB : PRes S2 S3 M h B PB nb b) (no : ∀ ρ, VS S3.1 S3.2.1 ρ → ρ b = ρ S1.2.1 → ¬ gw (ρ b) ≤ 80) (s : GT) (V : VS S.1 S.2.1 ρ) : ¬ tpP true α (nd 10 0 A B nl) s := by
  intro z
  obtain ⟨xa, ra, ca, qa, sa, ka⟩ := RA
  obtain ⟨xb, rb, cb, qb, sb, kb⟩ := RB
  have l1 := xa.2.1.1
  have n2 : nwT S1 (4, a, t) := Or.inr (Or.inl ⟨rfl, ra.1⟩)
  have c2 : S2.2.1 = S1.2.1 + 1 := by rw [e2]; rfl
  obtain ⟨z1, a', z2, z3, z4⟩ := z
  obtain ⟨ρ1, V1, o1, ea, m1, w1⟩ := ka true α ρ a' V z2
  obtain ⟨ρ2, V2, o2, el⟩ := ad_x (lv := lv) xa.1 (by omega) n2 V1 _ (Or.inr (Or.inl ⟨rfl, rfl⟩))
  rw [← e2] at V2
  have el : ρ2 S1.2.1 = s := by
    rw [el, z3]
    show gL (ρ1 a) = gL a'
    rw [ea]
  obtain ⟨ρ3, V3, o3, eb, m3, w3⟩ := kb true α ρ2 s V2 z4
  have el3 : ρ3 S1.2.1 = s := (o3 _ (by omega) (by omega)).trans el
  exact no ρ3 V3 (by rw [eb, el3]) (by rw [eb]; exact tpP_w z4)
end TPR
