/-! The model: does a pattern fit. -/
def mOf (σ : Mem) : MBd := (σ 58 61, σ 58 63, σ 58 57)
def fitL : List (Tr × Va) → En → Option En
  | [], ρ => some ρ
  | q :: L, ρ => match fitE q.1 q.2 ρ with
    | some ρ1 => fitL L ρ1
    | none => none
def pnL : List (Tr × Va) → Int
  | [] => 0
  | q :: L => pn q.1 + pnL L
def nmL : List (Tr × Va) → Int
  | [] => 0
  | q :: L => (bnd q.1).length + nmL L
def isPs (σ : Mem) : List (Tr × Va) → Int → Prop
  | [], _ => True
  | q :: L, s => isP σ q.1 s ∧ isPs σ L (s + pn q.1)
def stkM (h : mHp) (σ : Mem) (P : Tr → List Int → Int → Prop) (m : MBd) : List (Tr × Va) → Prop
  | [] => True
  | q :: L => (∃ y, hAt h 97 L.length = vlg y ∧ RMv h σ P m q.2 false y) ∧ stkM h σ P m L
/-- what fits leaves alone; b: how many bindings there were -/
def frF (b : Int) (h h' : mHp) (σ σ' : Mem) : Prop := (h'.1 = h.1 ∧ h'.2.1 = h.2.1) ∧ (∀ (i k : Nat), i ≠ 97 → ¬ (i = 92 ∧ b < (k : Int)) → hAt h' i k = hAt h i k) ∧ (∀ i, hTag h' i = hTag h i ∧ hLen h' i = hLen h i) ∧ (∀ i k, ¬ (i = 93 ∧ b < k) → ¬ (i = 58 ∧ (k = 57 ∨ k = 58)) → σ' i k = σ i k)
section MFIT
variable {h h' h1 : mHp} {σ σ' σ1 : Mem} {d : Nat} {P : Tr → List Int → Int → Prop} {m m' : MBd} {b b' : Int}
theorem frF.rf : frF b h h σ σ := ⟨⟨rfl, rfl⟩, fun _ _ _ _ => rfl, fun _ => ⟨rfl, rfl⟩, fun _ _ _ _ => rfl⟩
theorem frF.tr (x : frF b h h1 σ σ1) (hb : b ≤ b') (y : frF b' h1 h' σ1 σ') : frF b h h' σ σ' := ⟨⟨y.1.1.trans x.1.1, y.1.2.trans x.1.2⟩, fun i k h1 h2 => (y.2.1 i k h1 (fun e => h2 ⟨e.1, by omega⟩)).trans (x.2.1 i k h1 h2), fun i => ⟨(y.2.2.1 i).1.trans (x.2.2.1 i).1, (y.2.2.1 i).2.trans (x.2.2.1 i).2⟩, fun i k h1 h2 => (y.2.2.2 i k (fun e => h1 ⟨e.1, by omega⟩) h2).trans (x.2.2.2 i k h1 h2)⟩
theorem frF.s97 {k : Nat} {v : Value} : frF b h (hSet h 97 k v) σ σ := ⟨⟨rfl, rfl⟩, fun _ _ h1 _ => at_ne h1 _, fun _ => ⟨tag_set, len_set⟩, fun _ _ _ _ => rfl⟩
theorem frF.wo {y e : Int} (h0 : 0 ≤ b) : frF b h (hSet h 92 (b + 1).toNat (vlg y)) σ (mup (mup (mup σ 58 57 (b + 1)) 93 (b + 1) e) 58 58 (b + 1)) := ⟨⟨rfl, rfl⟩, fun i k _ h2 => by
  by_cases q : i = 92
  · subst q; exact at_nk (fun e => h2 ⟨rfl, by omega⟩)
  · exact at_ne q _, fun _ => ⟨tag_set, len_set⟩, fun i k h1 h2 => by
  by_cases q : i = 58
  · subst q
    rw [mup_nk (fun e => h2 ⟨rfl, Or.inr e⟩), mup_ne (by decide), mup_nk (fun e => h2 ⟨rfl, Or.inl e⟩)]
  · rw [mup_ne q]
    by_cases q3 : i = 93
    · subst q3; rw [mup_nk (fun e => h1 ⟨rfl, by omega⟩), mup_ne q]
    · rw [mup_ne q3, mup_ne q]⟩
theorem frF.m8 {k z : Int} (hk : k = 57 ∨ k = 58) : frF b h h σ (mup σ 58 k z) := ⟨⟨rfl, rfl⟩, fun _ _ _ _ => rfl, fun _ => ⟨rfl, rfl⟩, fun i j _ h2 => by
  by_cases q : i = 58
  · subst q; exact mup_nk (fun e => h2 ⟨rfl, by rw [e]; exact hk⟩)
  · exact mup_ne q⟩
theorem frF.sm (f : frF b h h' σ σ') (hm : m.2.2 ≤ b) : smM m h h' σ σ' := ⟨fun k _ _ => ⟨f.2.1 94 _ (by decide) (fun e => by cases e.1), f.2.1 95 _ (by decide) (fun e => by cases e.1)⟩, fun k _ _ => f.2.1 96 _ (by decide) (fun e => by cases e.1), fun k h1 h2 => ⟨f.2.1 92 k.toNat (by decide) (fun e => by have := e.2; omega), f.2.2.2 93 k (fun e => by have := e.2; omega) (fun e => by cases e.1)⟩⟩
theorem stkM.mv (s : smM m h h' σ σ') (h1 : m.1 ≤ m'.1) (h2 : m.2.1 ≤ m'.2.1) (h3 : m.2.2 ≤ m'.2.2) : ∀ {L : List (Tr × Va)}, (∀ i, i < L.length → hAt h' 97 i = hAt h 97 i) → stkM h σ P m L → stkM h' σ' P m' L
  | [], _, _ => trivial
  | q :: L, e, ⟨⟨y, ey, r⟩, st⟩ => ⟨⟨y, (e _ (Nat.lt_succ_self _)).trans ey, r.mv s h1 h2 h3⟩, stkM.mv s h1 h2 h3 (fun i hi => e i (Nat.lt_succ_of_lt hi)) st⟩
theorem wfP_c {A : Tr} (w : wfP A) : (∃ z, A = nd 0 z nl nl nl ∧ 0 ≤ z ∧ z ≤ 9999) ∨ (∃ z, A = nd 2 z nl nl nl ∧ (z = 0 ∨ z = 1)) ∨ A = nd 3 0 nl nl nl ∨ (∃ z, A = nd 6 z nl nl nl ∧ ltZ z) ∨ A = nd 7 0 nl nl nl ∨ ∃ B C, A = nd 10 0 B C nl ∧ wfP B ∧ wfP C := by
  induction A using wfP.induct with
  | case1 z A B C => obtain ⟨hz, rfl, rfl, rfl⟩ := w; exact Or.inl ⟨z, rfl, hz⟩
  | case2 z A B C => obtain ⟨hz, rfl, rfl, rfl⟩ := w; exact Or.inr (Or.inl ⟨z, rfl, hz⟩)
  | case3 z A B C => obtain ⟨rfl, rfl, rfl, rfl⟩ := w; exact Or.inr (Or.inr (Or.inl rfl))
  | case4 z A B C => obtain ⟨hz, rfl, rfl, rfl⟩ := w; exact Or.inr (Or.inr (Or.inr (Or.inl ⟨z, rfl, hz⟩)))
  | case5 z A B C => obtain ⟨rfl, rfl, rfl, rfl⟩ := w; exact Or.inr (Or.inr (Or.inr (Or.inr (Or.inl rfl))))
  | case6 z A B C i1 i2 => obtain ⟨rfl, w1, w2, rfl⟩ := w; exact Or.inr (Or.inr (Or.inr (Or.inr (Or.inr ⟨A, B, rfl, w1, w2⟩))))
  | case7 => exfalso; revert w; unfold wfP; split <;> simp_all
  | case8 t hx =>
    exfalso; revert w; unfold wfP; split
    · exact (hx _ _ _ _ _ rfl).elim
    · exact id
theorem pn_1 {A : Tr} (w : wfP A) : 1 ≤ pn A := by
  rcases wfP_c w with ⟨z, rfl, -⟩ | ⟨z, rfl, -⟩ | rfl | ⟨z, rfl, -⟩ | rfl | ⟨B, C, rfl, -⟩
  · exact Int.le_refl _
  · exact Int.le_refl _
  · exact Int.le_refl _
  · exact Int.le_refl _
  · exact Int.le_refl _
  · have := pn_ge (T := B); have := pn_ge (T := C); show 1 ≤ pn B + pn C + 1; omega
theorem pnL_len : ∀ {L : List (Tr × Va)}, (∀ q ∈ L, wfP q.1) → (L.length : Int) ≤ pnL L
  | [], _ => Int.le_refl _
  | q :: L, w => by
    have a := pn_1 (w q List.mem_cons_self)
    have b := pnL_len (L := L) (fun r hr => w r (List.mem_cons_of_mem _ hr))
    show ((L.length + 1 : Nat) : Int) ≤ pn q.1 + pnL L
    omega
theorem nmL_0 : ∀ {L : List (Tr × Va)}, 0 ≤ nmL L
  | [] => Int.le_refl _
  | q :: L => by have := nmL_0 (L := L); show 0 ≤ ((bnd q.1).length : Int) + nmL L; omega
end MFIT
