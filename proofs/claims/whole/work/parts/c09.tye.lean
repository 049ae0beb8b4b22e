/-! What types an expression has (w: all parts are shown with at most 80 characters). -/
abbrev Gm : Type := List (Int × (GT → Prop))
def lkG (z : Int) : Gm → GT → Prop
  | [] => fun _ => False
  | (y, D) :: r => if y = z then D else lkG z r
def opdT (z : Int) : GT := if 128 ≤ z then gK 3 else gK 1
def opT (z : Int) : GT := if z = 61 ∨ z = 60 ∨ z = 188 then gK 2 else opdT z
def is1 (a : GT) : GT → Prop := fun s => s = a
/-- a pattern; α: what its names are -/
def tpP (w : Bool) (α : Int → GT) : Tr → GT → Prop
  | .tag k (.nest z (.append A (.append B _))) => fun s => (w = true → gw s ≤ 80) ∧ match k with
    | 0 => s = gK 1
    | 2 => s = gK 2
    | 3 => ∃ a, s = gL a
    | 6 => s = α z
    | 7 => True
    | 10 => ∃ a, tpP w α A a ∧ s = gL a ∧ tpP w α B s
    | _ => False
  | _ => fun _ => False
def tyE : Tr → Bool → Gm → GT → Prop
  | .tag k (.nest z (.append A (.append B C))) => fun w G s => (k ≠ 17 → w = true → gw s ≤ 80) ∧ match k with
    | 0 => s = gK 1
    | 1 => s = gK 3
    | 2 => s = gK 2
    | 3 => ∃ a, s = gL a
    | 4 => s = if z = 82 then gA (gK 1) (gK 3) else gA (gK 3) (gK 1)
    | 5 => lkG z G s
    | 8 => tyE A w G (gK 3) ∧ s = gK 3
    | 9 => tyE A w G (opdT z) ∧ tyE B w G (opdT z) ∧ s = opT z
    | 10 => ∃ a, tyE A w G a ∧ s = gL a ∧ tyE B w G s
    | 11 => ∃ a, tyE A w G (gA a s) ∧ tyE B w G a
    | 12 => ∃ a b, s = gA a b ∧ tyE A w ((z, is1 a) :: G) b
    | 13 => (∃ a, tyE A w G a) ∧ tyE B w ((z, tyE A false G) :: G) s
    | 14 => (∃ a, tyE A w ((z, is1 a) :: G) a) ∧ tyE B w ((z, fun a => tyE A false ((z, is1 a) :: G) a) :: G) s
    | 15 => tyE A w G (gK 2) ∧ tyE B w G s ∧ tyE C w G s
    | 16 => ∃ a, tyE A w G a ∧ tyE B w G (gA a s)
    | 17 => ∃ a r α, s = gA a r ∧ tpP w α A a ∧ tyE B w ((bnd A).map (fun x => (x, is1 (α x))) ++ G) r ∧ (C = nl ∨ tyE C w G s)
    | _ => False
  | _ => fun _ _ _ => False
/-- what an expression's part of a store says: it is what the grammar of types asks -/
def TRP (S S' : TS) (E : List (Int × Int)) (M : Int → Prop) (h : Int) (F : Bool → Gm → GT → Prop) (P : Int → Prop) (t : Int) : Prop := TSt S S' M h ∧ Res S M h S' t ∧ inC S' P ∧ (∀ ρ, VS S'.1 S'.2.1 ρ → F false (Gam S ρ E) (ρ t) ∧ ((∀ p, P p → gw (ρ p) ≤ 80) → F true (Gam S ρ E) (ρ t))) ∧ ∀ w ρ s, VS S.1 S.2.1 ρ → F w (Gam S ρ E) s → ∃ ρ', VS S'.1 S'.2.1 ρ' ∧ (∀ n, 0 ≤ n → n < S.2.1 → ρ' n = ρ n) ∧ ρ' t = s ∧ (w = true → ∀ p, P p → gw (ρ' p) ≤ 80)
def TRes (S S' : TS) (E : List (Int × Int)) (M : Int → Prop) (h : Int) (T : Tr) (P : Int → Prop) (t : Int) : Prop := TRP S S' E M h (tyE T) P t
section TYE
variable {S S1 S2 S' : TS} {M M1 : Int → Prop} {h : Int} {ρ ρ' : Int → GT} {E : List (Int × Int)}
theorem Res.tr {t : Int} (x : XE S S1 M h) (hR : ∀ m, M1 m → Res S M h S1 m) (r : Res S1 M1 h S2 t) : Res S M h S2 t := by
  obtain ⟨r0, f, g, l⟩ := r
  have xl := x.1
  refine ⟨r0, fun u o oc => ?_, fun k X hk hX hM => ?_, fun hM => l (fun m a => (hR m a).2.2.2 hM)⟩
  · rcases f u o oc with a | ⟨a, m, b, c⟩
    · exact Or.inl (by omega)
    · exact (hR m b).2.1 u a c
  · exact g k X hk (fun m a => ⟨(hX m a).1, by have := (hX m a).2; omega⟩) (fun m a => (hR m a).2.2.1 k X hk hX hM)
theorem XE.le {k : Int} (x : XE S S1 M h) (hk : k ≤ h) : XE S S1 M k := ⟨x.1, x.2.1, x.2.2.1, x.2.2.2.1, x.2.2.2.2.1, fun l X hl => x.2.2.2.2.2.1 l X (by omega), x.2.2.2.2.2.2⟩
/-- more names that may change -/
theorem XE.mo (x : XE S S1 M h) (hh : ∀ m, M m → M1 m) : XE S S1 M1 h := by
  have im : ∀ u, InM S M u → InM S M1 u := fun u ⟨m, a, b⟩ => ⟨m, hh m a, b⟩
  refine ⟨x.1, fun n h0 h1 => ?_, fun n o => ?_, x.2.2.2.1, x.2.2.2.2.1, fun l X hl hX hM => x.2.2.2.2.2.1 l X hl hX (fun m a => hM m (hh m a)), fun n u h0 h1 o oc => ?_⟩
  · rcases x.2.1 n h0 h1 with q | q
    · exact Or.inl ⟨q.1, im n q.2.1, q.2.2⟩
    · exact Or.inr q
  · rcases x.2.2.1 n o with q | q
    · exact Or.inl (im n q)
    · exact Or.inr q
  · rcases x.2.2.2.2.2.2 n u h0 h1 o oc with q | ⟨q, w, a, b, c⟩
    · exact Or.inl q
    · refine Or.inr ⟨?_, w, a, im w b, c⟩
      rcases q with q | q
      · exact Or.inl q
      · exact Or.inr ⟨q.1, im u q.2⟩
/-- names are what the old nodes say -/
theorem Gam_cg (I : EnvI S h E M) (W : SO S) (V : VS S.1 S.2.1 ρ) (V' : VS S.1 S.2.1 ρ') (e : ∀ m, M m → ρ' m = ρ m) : Gam S ρ' E = Gam S ρ E := by
  refine List.map_congr_left (fun x a => ?_)
  obtain ⟨⟨r0, r1⟩, g⟩ := I.2.2 x a
  refine Prod.ext rfl ?_
  funext s
  have key : ∀ u, oP S u → Oc S.1 u x.2 → S.2.2 u ≠ 1000 → ρ' u = ρ u := fun u o oc lv => by
    have := W.2.2 u o
    obtain ⟨m, m1, m2⟩ := g u o oc (by omega)
    exact val_i W V' V (I.1 m m1).1 (I.1 m m1).2 (e m m1) m2
  refine propext ⟨fun ⟨r, a, b, c⟩ => ⟨r, a, fun u o oc lv => (b u o oc lv).trans (key u o oc lv), c⟩, fun ⟨r, a, b, c⟩ => ⟨r, a, fun u o oc lv => (b u o oc lv).trans (key u o oc lv).symm, c⟩⟩
/-- which variables of t become general: those that don't stand in M -/
def gv (S : TS) (M : Int → Prop) (t u : Int) : Prop := oP S u ∧ Oc S.1 u t ∧ ¬ InM S M u
theorem gv_new (I : EnvI S h E M) (W : SO S) (x : XE S S1 M h) {t u : Int} (f : ∀ u, oP S1 u → Oc S1.1 u t → S.2.1 ≤ u ∨ (oP S u ∧ InM S M u)) (g : gv S1 M t u) {n : Int} (h0 : 0 ≤ n) (h1 : n < S.2.1) : ¬ Oc S1.1 u n := by
  obtain ⟨o, oc, ni⟩ := g
  have up : ∀ v, InM S M v → Oc S1.1 u v → False := fun v ⟨m, a, b⟩ c => ni ⟨m, a, c.tr (x.keep W.1 b (I.1 m a).1 (I.1 m a).2)⟩
  intro q
  obtain ⟨w, p1, p2, p3⟩ := x.from W.1 q o h0 h1
  rcases x.2.1 w p1.1.1 p1.1.2 with z | z
  · exact up w z.2.1 p3
  · have e := oP_oc (x.po p1 z) p3
    subst e
    rcases f u o oc with c | c
    · have := p1.1.2; omega
    · exact up u c.2 Oc.self
/-- general variables are made: a step -/
theorem gen_S (I : EnvI S h E M) (W : SO S) (x : TSt S S1 M h) {t : Int} (f : ∀ u, oP S1 u → Oc S1.1 u t → S.2.1 ≤ u ∨ (oP S u ∧ InM S M u)) {lev : Int → Int} (g1 : ∀ u, gv S1 M t u → lev u = 1000) (g2 : ∀ u, oP S1 u → ¬ gv S1 M t u → lev u = S1.2.2 u) : TSt S (S1.1, S1.2.1, lev) M h ∧ gO (S1.1, S1.2.1, lev) 1000 M t := by
  obtain ⟨W1, x, VV⟩ := x
  have ng : ∀ u n, 0 ≤ n → n < S.2.1 → oP S1 u → Oc S1.1 u n → lev u = S1.2.2 u := fun u n h0 h1 o oc => g2 u o (fun g => gv_new I W x f g h0 h1 oc)
  refine ⟨⟨⟨W1.1, W1.2.1, fun u o => ?_⟩, ⟨x.1, x.2.1, fun n o => ?_, fun n o o1 => ?_, fun l n h0 h1 q u o oc => ?_, fun l X hl hX hM n h0 h1 q u o oc lt => ?_, x.2.2.2.2.2.2⟩, VV⟩, fun u o oc lt => ?_⟩
  · by_cases g : gv S1 M t u
    · show lev u ≤ 1000
      rw [g1 u g]; exact Int.le_refl _
    · show lev u ≤ 1000
      rw [g2 u o g]; exact W1.2.2 u o
  · rcases x.2.1 n o.1.1 o.1.2 with z | z
    · exact Or.inl z.2.1
    · rcases x.2.2.1 n o with y | y
      · exact Or.inl y
      · exact Or.inr ((ng n n o.1.1 o.1.2 (x.po o z) Oc.self).trans y)
  · show lev n ≤ S.2.2 n
    rw [ng n n o.1.1 o.1.2 o1 Oc.self]; exact x.2.2.2.1 n o o1
  · show lev u ≤ l
    rw [ng u n h0 h1 o oc]; exact x.2.2.2.2.1 l n h0 h1 q u o oc
  · have lt : lev u < l := lt
    rw [ng u n h0 h1 o oc] at lt
    exact x.2.2.2.2.2.1 l X hl hX hM n h0 h1 q u o oc lt
  · have lt : lev u < 1000 := lt
    exact Classical.byContradiction (fun ni => by
      have := g1 u ⟨o, oc, ni⟩
      omega)
end TYE
