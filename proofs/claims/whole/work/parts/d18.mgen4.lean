/-! Generalize as a step; the same value at another node; what has no type where the parts before are short. -/
/-- the nodes of the names that have one type -/
def mnM (σ : Mem) : Int → Prop := fun m => ∃ k, (0 ≤ k ∧ k < σ 58 30) ∧ σ 78 k = 0 ∧ m = σ 77 k
/-- T has no type where PM is short -/
def NoM (S : TS) (PM : Int → Prop) (E : List (Int × Int)) (T : Tr) : Prop := ∀ ρ s, VS S.1 S.2.1 ρ → (∀ p, PM p → gw (ρ p) ≤ 80) → ¬ tyE T true (Gam S ρ E) s
section MG4
variable {σ s' : Mem} {n : Int} {S S1 S2 S3 S' : TS} {M PM PA P : Int → Prop} {h t a z : Int} {ρ : Int → GT} {A B T : Tr} {E : List (Int × Int)}
theorem GO.gv (g : (mS s').1 = (mS σ).1 ∧ (∀ u, 0 ≤ u → u < σ 58 35 → fV σ n u → s' 81 u = 1) ∧ ∀ u, ¬ (0 ≤ u ∧ u < σ 58 35 ∧ fV σ n u) → s' 81 u = σ 81 u) (f : FG σ s') : mS s' = ((mS σ).1, (mS σ).2.1, (mS s').2.2) ∧ (∀ u, gv (mS σ) (mnM σ) n u → (mS s').2.2 u = 1000) ∧ ∀ u, oP (mS σ) u → ¬ gv (mS σ) (mnM σ) n u → (mS s').2.2 u = (mS σ).2.2 u := by
  obtain ⟨g1, g2, g3⟩ := g
  have c : (mS s').2.1 = (mS σ).2.1 := f.2 35 (by decide) (by decide) (by decide)
  have lv : ∀ u, (mS s').2.2 u = if s' 81 u = 1 then 1000 else 0 := fun u => rfl
  have lw : ∀ u, (mS σ).2.2 u = if σ 81 u = 1 then 1000 else 0 := fun u => rfl
  refine ⟨Prod.ext g1 (Prod.ext c rfl), fun u ⟨o, oc, ni⟩ => ?_, fun u o ng => ?_⟩
  · rw [lv, if_pos (g2 u o.1.1 o.1.2 ⟨⟨o.2.1, ?_⟩, oc, fun k h0 h1 h2 q => ni ⟨_, ⟨k, ⟨h0, h1⟩, h2, rfl⟩, q⟩⟩)]
    have k0 : σ 79 u = 0 := o.2.1
    have nl : ¬ (σ 79 u = 0 ∧ 0 ≤ σ 80 u) := o.2.2
    omega
  · rw [lv, lw, g3 u (fun ⟨_, _, v⟩ => ng ⟨o, v.2.1, fun ⟨m, ⟨k, ⟨h0, h1⟩, h2, e⟩, q⟩ => v.2.2 k h0 h1 h2 (by rw [← e]; exact q)⟩)]
theorem TRP.eq {F : Bool → Gm → GT → Prop} {t' : Int} (R : TRP S S' E M h F P t) (r : Res S M h S' t') (e : ∀ ρ, VS S'.1 S'.2.1 ρ → ρ t' = ρ t) : TRP S S' E M h F P t' := ⟨R.1, r, R.2.2.1, fun ρ V => by rw [e ρ V]; exact R.2.2.2.1 ρ V, fun w ρ s V z => by
  obtain ⟨ρ', V', o, e', w'⟩ := R.2.2.2.2 w ρ s V z
  exact ⟨ρ', V', o, (e ρ' V').trans e', w'⟩⟩
/-- REC's first part, its own node -/
theorem TR_fix2 (I : EnvI S h E M) (hh : h ≤ 999) (W : SO S) (c0 : 0 ≤ S.2.1) (e1 : S1 = adT S (0, -1, t) h) (RA : TRes S1 S2 ((z, S.2.1) :: E) (fun m => M m ∨ m = S.2.1) h A PA a) (u : TSt S2 S3 (fun x => x = S.2.1 ∨ x = a) h) (uV : ∀ ρ, VS S3.1 S3.2.1 ρ ↔ (VS S2.1 S2.2.1 ρ ∧ ρ S.2.1 = ρ a)) : TRP S S3 E M h (fxE z A) PA S.2.1 := by
  refine (TR_fix I hh W c0 e1 RA u uV).eq ?_ (fun ρ V => ((uV ρ).mp V).2)
  have c1 : S1.2.1 = S.2.1 + 1 := by rw [e1]; rfl
  have s1 : TSt S S1 M h := by rw [e1]; exact ad_S W c0 nw_fr (fun _ => by omega)
  have rr1 : Res S M h S1 S.2.1 := by rw [e1]; exact fresh_r XE.rf c0
  have hR1 : ∀ m, (M m ∨ m = S.2.1) → Res S M h S1 m := fun m q => by
    rcases q with q | q
    · exact Res.m s1.2.1 I.1 q
    · rw [q]; exact rr1
  have x2 := s1.tr RA.1 hR1
  have rr2 := rr1.up RA.1.2.1 s1.2.1.1 hR1
  have ra2 := Res.tr s1.2.1 hR1 RA.2.1
  exact rr2.up u.2.1 x2.2.1.1 (fun m q => by
    rcases q with q | q
    · rw [q]; exact rr2
    · rw [q]; exact ra2)
/-- on with a part that has its type -/
theorem TRP.nx {F : Bool → Gm → GT → Prop} {sa : GT} (I : EnvI S h E M) (hh : h ≤ 999) (W : SO S) (RA : TRP S S1 E M h F PA a) (hP : inC S PM) (V : VS S.1 S.2.1 ρ) (sm : ∀ p, PM p → gw (ρ p) ≤ 80) (y : F true (Gam S ρ E) sa) : ∃ ρ1, VS S1.1 S1.2.1 ρ1 ∧ (∀ p, PM p ∨ PA p → gw (ρ1 p) ≤ 80) ∧ Gam S1 ρ1 E = Gam S ρ E ∧ ρ1 a = sa ∧ ∀ n, 0 ≤ n → n < S.2.1 → ρ1 n = ρ n := by
  obtain ⟨ρ1, V1, o, e, w⟩ := RA.2.2.2.2 true ρ sa V y
  refine ⟨ρ1, V1, fun p q => ?_, TRes.gam2 I hh W RA.1 V V1 o, e, o⟩
  rcases q with q | q
  · have := hP p q
    rw [o p this.1 this.2]; exact sm p q
  · exact w rfl p q
/-- a part that is too wide -/
theorem TRP.wd (I : EnvI S h E M) (hh : h ≤ 999) (W : SO S) (RA : TRes S S1 E M h A PA a) (hP : inC S PM) {p : Int} (hp : PM p ∨ PA p) (big : ∀ ρ, VS S1.1 S1.2.1 ρ → 80 < gw (ρ p)) : NoM S PM E A := fun ρ s V sm y => by
  obtain ⟨ρ1, V1, s1, -⟩ := TRP.nx I hh W RA hP V sm y
  have := s1 p hp
  have := big ρ1 V1
  omega
/-- the first part has no type, or the second has none after it -/
theorem NoM.two {sa sb : GT} (I : EnvI S h E M) (hh : h ≤ 999) (W : SO S) (RA : TRes S S1 E M h A PA a) (hP : inC S PM) (no : NoM S1 (fun p => PM p ∨ PA p) E B) (V : VS S.1 S.2.1 ρ) (sm : ∀ p, PM p → gw (ρ p) ≤ 80) (y : tyE A true (Gam S ρ E) sa) (y2 : tyE B true (Gam S ρ E) sb) : False := by
  obtain ⟨ρ1, V1, s1, eg, -⟩ := TRP.nx I hh W RA hP V sm y
  exact no ρ1 sb V1 s1 (by rw [eg]; exact y2)
/-- a name of a pattern is short where the pattern is -/
theorem tpP_sm {α : Int → GT} : ∀ (A : Tr), wfP A → ∀ s, tpP true α A s → ∀ z ∈ bnd A, gw (α z) ≤ 80 := by
  intro A
  induction A using wfP.induct with
  | case1 z a b c => intro hw; obtain ⟨_, h1, h2, h3⟩ := hw; subst h1 h2 h3; intro s q y hy; exact absurd hy List.not_mem_nil
  | case2 z a b c => intro hw; obtain ⟨_, h1, h2, h3⟩ := hw; subst h1 h2 h3; intro s q y hy; exact absurd hy List.not_mem_nil
  | case3 z a b c => intro hw; obtain ⟨_, h1, h2, h3⟩ := hw; subst h1 h2 h3; intro s q y hy; exact absurd hy List.not_mem_nil
  | case4 z a b c =>
    intro hw
    obtain ⟨_, h1, h2, h3⟩ := hw
    subst h1 h2 h3
    intro s q y hy
    have hy : y ∈ [z] := hy
    have q1 : gw s ≤ 80 := q.1 rfl
    have e : s = α z := q.2
    rw [List.mem_singleton.mp hy, ← e]; exact q1
  | case5 z a b c => intro hw; obtain ⟨_, h1, h2, h3⟩ := hw; subst h1 h2 h3; intro s q y hy; exact absurd hy List.not_mem_nil
  | case6 z a b c iha ihb =>
    intro hw
    obtain ⟨_, wa, wb, _⟩ := hw
    intro s q y hy
    have hy : y ∈ bnd a ++ bnd b := hy
    obtain ⟨x, q3, q4, q5⟩ := q.2
    rcases List.mem_append.mp hy with m | m
    · exact iha wa x q3 y m
    · exact ihb wb s q5 y m
  | case7 k z a b c h1 h2 h3 h4 h5 h6 => intro hw; exfalso; revert hw; unfold wfP; split <;> simp_all
  | case8 t hx =>
    intro hw; exfalso; revert hw; unfold wfP; split
    · exact (hx _ _ _ _ _ rfl).elim
    · exact fun h => h
end MG4
