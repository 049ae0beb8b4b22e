/-! The class's checker: types are made; what it leaves behind. -/
section CNF
variable {σ σ' σ1 : Mem} {d : Nat} {h : Int}
theorem c_fresh (T : TI σ) (hc : σ 38 5 < 3000) (hh : 0 ≤ h ∧ h ≤ 1000) : ∃ σ', Rn (d + 5) yTy_fresh [.ref 38, vi h] σ (some (σ 38 5)) σ' ∧ FT σ σ' ∧ TI σ' ∧ tS σ' = adT (tS σ) (0, -1, 0) h ∧ σ' 38 5 = σ 38 5 + 1 := by
  obtain ⟨σ', R, F, T', e, -⟩ := c_make (d := d) (k := 63) (a := -1) (b := h) T hc (rgk rfl) (rgk rfl) ⟨by omega, by omega⟩ (Or.inl ⟨rfl, rfl, hh.2⟩)
  exact ⟨σ', M_Ty_fresh (d := d + 1) ⟨by omega, by omega⟩ ⟨_, σ', R, rfl, rfl⟩, F, T', e, congrArg (fun S : TS => S.2.1) e⟩
theorem c_list (T : TI σ) (hc : σ 38 5 < 3000) {a : Int} (ha : 0 ≤ a ∧ a < σ 38 5) : ∃ σ', Rn (d + 5) yTy_list [.ref 38, vi a] σ (some (σ 38 5)) σ' ∧ FT σ σ' ∧ TI σ' ∧ tS σ' = adT (tS σ) (4, a, 0) (-1) ∧ σ' 38 5 = σ 38 5 + 1 := by
  obtain ⟨σ', R, F, T', e, -⟩ := c_make (d := d) (k := 91) (a := a) (b := -1) T hc (rgk rfl) ⟨by omega, by omega⟩ (rgk rfl) (Or.inr (Or.inl ⟨rfl, ha⟩))
  exact ⟨σ', M_Ty_list (d := d + 1) ⟨by omega, by omega⟩ ⟨_, σ', R, rfl, rfl⟩, F, T', e, congrArg (fun S : TS => S.2.1) e⟩
theorem c_arrow (T : TI σ) (hc : σ 38 5 < 3000) {a b : Int} (ha : 0 ≤ a ∧ a < σ 38 5) (hb : 0 ≤ b ∧ b < σ 38 5) : ∃ σ', Rn (d + 5) yTy_arrow [.ref 38, vi a, vi b] σ (some (σ 38 5)) σ' ∧ FT σ σ' ∧ TI σ' ∧ tS σ' = adT (tS σ) (5, a, b) b ∧ σ' 38 5 = σ 38 5 + 1 := by
  obtain ⟨σ', R, F, T', e, -⟩ := c_make (d := d) (k := 62) (a := a) (b := b) T hc (rgk rfl) ⟨by omega, by omega⟩ ⟨by omega, by omega⟩ (Or.inr (Or.inr ⟨rfl, ha, hb⟩))
  exact ⟨σ', M_Ty_arrow (d := d + 1) ⟨by omega, by omega⟩ ⟨by omega, by omega⟩ ⟨_, σ', R, rfl, rfl⟩, F, T', e, congrArg (fun S : TS => S.2.1) e⟩
/-- made all the same where the types are wrong already -/
theorem m_any {k a b : Int} (hk : rg k) (ha : rg a) (hb : rg b) (c : 0 ≤ σ 38 5 ∧ σ 38 5 ≤ 3000) : ∃ v σ', Rn (d + 4) yTy_make [.ref 38, vi k, vi a, vi b] σ (some v) σ' ∧ rg v ∧ FT σ σ' ∧ (0 ≤ σ' 38 5 ∧ σ' 38 5 ≤ 3000) := by
  by_cases q : σ 38 5 < 3000
  · refine ⟨σ 38 5, rows 3000 (rows 3000 (rows 3000 (mup σ 38 5 (σ 38 5 + 1)) 40 (σ 38 5) k) 42 (σ 38 5) a) 44 (σ 38 5) b, M_Ty_make hk ha hb (by unfold B_Ty_make; rw [if_pos q]; exact ⟨⟨by omega, by omega⟩, rfl, rfl⟩), ⟨by omega, by omega⟩, ⟨fun i h1 h2 h3 h4 => ?_, fun k hk => ?_⟩, ?_⟩
    · rw [rows_obj h4, rows_obj h3, rows_obj h2, mup_obj h1]
    · rw [rows_ne (by decide), rows_ne (by decide), rows_ne (by decide), mup_nk hk]
    · rw [rows_ne (by decide), rows_ne (by decide), rows_ne (by decide), mup_eq]; omega
  · exact ⟨-1, σ, M_Ty_make hk ha hb (by unfold B_Ty_make; rw [if_neg q]; exact ⟨rfl, rfl⟩), rgk rfl, ⟨fun _ _ _ _ _ => rfl, fun _ _ => rfl⟩, c⟩
theorem fresh_any (hh : rg h) (c : 0 ≤ σ 38 5 ∧ σ 38 5 ≤ 3000) : ∃ v σ', Rn (d + 5) yTy_fresh [.ref 38, vi h] σ (some v) σ' ∧ rg v ∧ FT σ σ' ∧ (0 ≤ σ' 38 5 ∧ σ' 38 5 ≤ 3000) := by
  obtain ⟨v, σ', R, q⟩ := m_any (d := d) (k := 63) (a := -1) (b := h) (rgk rfl) (rgk rfl) hh c
  exact ⟨v, σ', M_Ty_fresh (d := d + 1) hh ⟨_, σ', R, rfl, rfl⟩, q⟩
theorem list_any {a : Int} (ha : rg a) (c : 0 ≤ σ 38 5 ∧ σ 38 5 ≤ 3000) : ∃ v σ', Rn (d + 5) yTy_list [.ref 38, vi a] σ (some v) σ' ∧ rg v ∧ FT σ σ' ∧ (0 ≤ σ' 38 5 ∧ σ' 38 5 ≤ 3000) := by
  obtain ⟨v, σ', R, q⟩ := m_any (d := d) (k := 91) (a := a) (b := -1) (rgk rfl) ha (rgk rfl) c
  exact ⟨v, σ', M_Ty_list (d := d + 1) ha ⟨_, σ', R, rfl, rfl⟩, q⟩
theorem arrow_any {a b : Int} (ha : rg a) (hb : rg b) (c : 0 ≤ σ 38 5 ∧ σ 38 5 ≤ 3000) : ∃ v σ', Rn (d + 5) yTy_arrow [.ref 38, vi a, vi b] σ (some v) σ' ∧ rg v ∧ FT σ σ' ∧ (0 ≤ σ' 38 5 ∧ σ' 38 5 ≤ 3000) := by
  obtain ⟨v, σ', R, q⟩ := m_any (d := d) (k := 62) (a := a) (b := b) (rgk rfl) ha hb c
  exact ⟨v, σ', M_Ty_arrow (d := d + 1) ha hb ⟨_, σ', R, rfl, rfl⟩, q⟩
end CNF
/-- what the checker may write -/
def ckP (i : Nat) : Bool := i == 19 || i == 38 || i == 40 || i == 42 || i == 44 || i == 46 || i == 48 || i == 49 || i == 51 || i == 53
def frCk (σ σ' : Mem) : Prop := (∀ i, ckP i = false → σ' i = σ i) ∧ ∀ x, σ 7 x = 17 → σ' 19 x = σ 19 x
def inE (E : List (Int × Int)) : Int → Bool := fun z => E.any (fun e => decide (e.1 = z))
def CkI (σ : Mem) (E : List (Int × Int)) (M : Int → Prop) (h : Int) : Prop := TI σ ∧ EnvI (tS σ) h E M ∧ envC σ E ∧ σ 49 4 = E.length ∧ σ 49 5 = h ∧ σ 49 6 = 0
def CkB (σ : Mem) (E : List (Int × Int)) (h x w : Int) : Prop := σ 38 5 + 44 * w ≤ 3000 ∧ E.length + w ≤ 64 ∧ (0 ≤ h ∧ h + w ≤ 64) ∧ 0 ≤ x ∧ x + w ≤ 64
/-- the types are wrong -/
def CkX (σ σ' : Mem) : Prop := frCk σ σ' ∧ σ' 49 6 ≠ 0 ∧ σ' 49 4 = σ 49 4 ∧ σ' 49 5 = σ 49 5 ∧ 0 ≤ σ' 38 5 ∧ σ' 38 5 ≤ 3000
/-- the checker went on; only nodes of T have new types -/
def CkG (σ σ' : Mem) (E : List (Int × Int)) (X : Int → Prop) : Prop := frCk σ σ' ∧ TI σ' ∧ envC σ' E ∧ σ' 49 4 = σ 49 4 ∧ σ' 49 5 = σ 49 5 ∧ σ' 49 6 = 0 ∧ ∀ x, ¬ X x → σ' 19 x = σ 19 x
def noT (σ : Mem) (E : List (Int × Int)) (T : Tr) : Prop := ∀ ρ s, VS (tS σ).1 (tS σ).2.1 ρ → ¬ tyE T true (Gam (tS σ) ρ E) s
/-- the types of a tree's nodes -/
def tyN (σ σ' : Mem) (T : Tr) (n : Int) : Int → Prop := fun p => ∃ x, iT σ T n x ∧ σ 7 x ≠ 17 ∧ σ' 19 x = p
def CkO (σ σ' : Mem) (E : List (Int × Int)) (M : Int → Prop) (h : Int) (T : Tr) (n r : Int) : Prop := (CkX σ σ' ∧ noT σ E T) ∨ (CkG σ σ' E (iT σ T n) ∧ (σ' 19 n = r ∧ σ' 38 5 ≤ σ 38 5 + 44 * rwl T - 4) ∧ TRes (tS σ) (tS σ') E M h T (tyN σ σ' T n) r)
def PE (T : Tr) : Prop := ∀ (k d : Nat) (n x h : Int) (σ : Mem) (E : List (Int × Int)) (M : Int → Prop), rwl T ≤ k → isT σ 5 0 (σ 5 7) T n → σ 5 7 ≤ 128 → PP σ → CkI σ E M h → clo T (inE E) = true → CkB σ E h x (rwl T) → ∃ r σ', Rn (4 * k + d + 100) yCk_infer [.ref 49, vi n, vi x] σ (some r) σ' ∧ rg r ∧ CkO σ σ' E M h T n r
/-- the same before the node has its type -/
def CkC (σ σ' : Mem) (E : List (Int × Int)) (M : Int → Prop) (h : Int) (T : Tr) (n r : Int) (PS : Int → Prop) : Prop := ((frCk σ σ' ∧ (σ' 49 6 ≠ 0 ∨ r = -1) ∧ σ' 49 4 = σ 49 4 ∧ σ' 49 5 = σ 49 5 ∧ 0 ≤ σ' 38 5 ∧ σ' 38 5 ≤ 3000) ∧ noT σ E T) ∨ (CkG σ σ' E (iT σ T n) ∧ σ' 38 5 ≤ σ 38 5 + 44 * rwl T - 4 ∧ TRes (tS σ) (tS σ') E M h T (fun p => PS p ∨ p = r) r)
section CNG
variable {σ σ' σ1 σ2 : Mem} {d : Nat} {h : Int} {E : List (Int × Int)} {M : Int → Prop}
theorem frCk.rf : frCk σ σ := ⟨fun _ _ => rfl, fun _ _ => rfl⟩
theorem frCk.tr (a : frCk σ σ1) (b : frCk σ1 σ') : frCk σ σ' := ⟨fun i hi => (b.1 i hi).trans (a.1 i hi), fun x hx => (b.2 x (by rw [a.1 7 rfl]; exact hx)).trans (a.2 x hx)⟩
theorem frCk.mu {i : Nat} {k z : Int} (h : ckP i = true) (h19 : i ≠ 19 := by decide) : frCk σ (mup σ i k z) := ⟨fun j hj => mup_obj (fun e => by rw [e, h] at hj; cases hj), fun x _ => mup_ne (fun e => h19 e.symm)⟩
theorem frCk.ro {k z : Int} (h : σ 7 k ≠ 17) : frCk σ (rows 128 σ 19 k z) := ⟨fun j hj => rows_obj (fun e => by rw [e] at hj; cases hj), fun x hx => by rw [rows_at]; exact if_neg (fun e => h (by rw [← e.1]; exact hx))⟩
theorem ckP_no {i : Nat} (h : ckP i = false) : i ≠ 19 ∧ i ≠ 38 ∧ i ≠ 40 ∧ i ≠ 42 ∧ i ≠ 44 ∧ i ≠ 46 ∧ i ≠ 48 ∧ i ≠ 49 ∧ i ≠ 51 ∧ i ≠ 53 := by
  unfold ckP at h
  simpa only [Bool.or_eq_false_iff, beq_eq_false_iff_ne, ne_eq, and_assoc] using h
theorem FT.fk (f : FT σ σ') : frCk σ σ' := ⟨fun i hi => by
  obtain ⟨a, b, c, e, g, -⟩ := ckP_no hi
  exact f.1 i b c e g, fun x _ => by rw [f.1 19 (by decide) (by decide) (by decide) (by decide)]⟩
theorem FT2.fk (f : FT2 σ σ') : frCk σ σ' := ⟨fun i hi => by
  obtain ⟨a, b, c, e, g, p, q, -⟩ := ckP_no hi
  exact f.1 i b c e g p q, fun x _ => by rw [f.1 19 (by decide) (by decide) (by decide) (by decide) (by decide) (by decide)]⟩
theorem TRP.P {S S' : TS} {F : Bool → Gm → GT → Prop} {P P' : Int → Prop} {t : Int} (R : TRP S S' E M h F P t) (e : ∀ p, P p ↔ P' p) : TRP S S' E M h F P' t := by
  rw [show P' = P from funext (fun p => propext (e p).symm)]; exact R
/-- the tree's rows are what they were -/
theorem frCk.tre (f : frCk σ σ') : σ' 5 = σ 5 ∧ σ' 7 = σ 7 ∧ σ' 9 = σ 9 ∧ σ' 11 = σ 11 ∧ σ' 13 = σ 13 ∧ σ' 15 = σ 15 ∧ σ' 17 = σ 17 := ⟨f.1 5 rfl, f.1 7 rfl, f.1 9 rfl, f.1 11 rfl, f.1 13 rfl, f.1 15 rfl, f.1 17 rfl⟩
theorem frCk.pp (f : frCk σ σ') (G : PP σ) : PP σ' := by
  obtain ⟨a, b, c, e, g, i, j⟩ := f.tre
  exact G.cg (by rw [a]) b e g i j
theorem frCk.is (f : frCk σ σ') {T : Tr} {n : Int} (t : isT σ 5 0 (σ 5 7) T n) : isT σ' 5 0 (σ' 5 7) T n := by
  obtain ⟨a, b, c, e, g, i, j⟩ := f.tre
  rw [a]
  exact isT.mv (Int.le_refl _) (Int.le_refl _) (fun x _ _ => ⟨congrFun b x, congrFun c x, congrFun e x, congrFun g x, congrFun i x⟩) t
theorem frCk.it (f : frCk σ σ') : iT σ' = iT σ := by
  obtain ⟨a, b, c, e, g, i, j⟩ := f.tre
  unfold iT
  rw [e, g, i]
theorem rwl_0 : ∀ {T : Tr}, 0 ≤ rwl T := by
  intro T
  have ug : ∀ {l : Int} {T : Tr}, 0 ≤ rwl T → 0 ≤ up l T (rwl T) := fun {l T} h => by have := (up_ge (l := l) (T := T) (r := rwl T)).1; omega
  have rp : ∀ {A : Tr}, 0 ≤ rpl A := by
    intro A
    fun_induction rpl A with
    | case1 z A B C i1 i2 => split <;> omega
    | case2 => decide
    | case3 => decide
    | case4 => decide
  fun_induction rwl T with
  | case1 => decide
  | case2 => decide
  | case3 z A B C i => have := ug (l := 6) i; omega
  | case4 z A B C i j => have := ug (l := lf9 z) i; have := ug (l := rt9 z) j; omega
  | case5 z A B C i j => have := ug (l := 2) i; have := ug (l := 1) j; omega
  | case6 z A B C i j => have := ug (l := 5) i; have := ug (l := 6) j; omega
  | case7 => omega
  | case8 => omega
  | case9 => omega
  | case10 => omega
  | case11 => omega
  | case12 z A B C i j => have := rp (A := A); omega
  | case13 => decide
  | case14 => decide
theorem infer_ill {n x : Int} (hn : rg n) (hx : 0 ≤ x ∧ x ≤ 64) (hi : σ 49 6 ≠ 0) : Rn (d + 4) yCk_infer [.ref 49, vi n, vi x] σ (some (-1)) σ := by
  refine M_Ck_infer hn ⟨by omega, by omega⟩ ?_
  unfold B_Ck_infer B_Ck_infer_11
  rw [if_pos hx.2, if_neg hi]
  exact ⟨rfl, rfl⟩
end CNG
