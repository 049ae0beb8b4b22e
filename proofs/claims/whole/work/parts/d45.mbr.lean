/-! The model's types: one branch of a choice. -/
section MBR
variable {σ σ1 σ2 τ m mi : Mem} {d : Nat} {z x n p q s a b l r t0 : Int} {E : List (Int × Int)} {F : List Int} {S S' : TS} {A B C T : Tr} {M X : Int → Prop} {h : Int}
theorem pn_rpl : ∀ {A : Tr}, wfP A → pn A ≤ rpl A := by
  intro A
  induction A using wfP.induct with
  | case1 z a b c => intro _; exact Int.le_refl _
  | case2 z a b c => intro _; exact Int.le_refl _
  | case3 z a b c => intro _; show (1 : Int) ≤ 2; decide
  | case4 z a b c => intro _; exact Int.le_refl _
  | case5 z a b c => intro _; exact Int.le_refl _
  | case6 z a b c iha ihb =>
    intro hw
    obtain ⟨-, wa, wb, -⟩ := hw
    have h1 := iha wa
    have h2 := ihb wb
    show pn a + pn b + 1 ≤ (if isCo a then rpl a + 2 else rpl a) + 1 + rpl b
    split <;> omega
  | case7 k z a b c h1 h2 h3 h4 h5 h6 => intro hw; exfalso; revert hw; unfold wfP; split <;> simp_all
  | case8 t hx =>
    intro hw; exfalso; revert hw; unfold wfP; split
    · exact (hx _ _ _ _ _ rfl).elim
    · exact fun h => h
/-- what stands in X stays there, whatever else may change -/
theorem XE.genX (x : XE S S' M h) (W : WS S.1 S.2.1) (hX : inC S X) {n : Int} (h0 : 0 ≤ n) (h1 : n < S.2.1) (hl : ∀ m, M m → lO S 999 m) (g : gO S 1000 X n) : gO S' 1000 X n := fun u o oc lt => by
  obtain ⟨w, ow, ocw, uw⟩ := x.from W oc o h0 h1
  by_cases e : S.2.2 w < 1000
  · obtain ⟨m, a, b⟩ := g w ow ocw e
    exact ⟨m, a, uw.tr (x.keep W b (hX m a).1 (hX m a).2)⟩
  · by_cases e2 : S.2.2 w = 1000
    · obtain ⟨-, ow', lw⟩ := x.vars hl ow e2
      have := oP_oc ow' uw
      rw [this] at lt
      omega
    · have ni : ¬ InM S M w := fun ⟨m, a, b⟩ => by
        have := hl m a w ow b
        omega
      have same : S'.1 w = S.1 w := by
        rcases x.2.1 w ow.1.1 ow.1.2 with ⟨_, i, _⟩ | e
        · exact (ni i).elim
        · exact e
      have lw : S'.2.2 w = S.2.2 w := (x.2.2.1 w ow).resolve_left ni
      have ow' : oP S' w := x.po ow same
      have := oP_oc ow' uw
      rw [this] at lt
      omega
theorem EnvI.upx (I : EnvI S h E X) (hh : h ≤ 999) (W : SO S) (x : XE S S' M h) (lM : ∀ m, M m → lO S h m) : EnvI S' h E X := ⟨fun m q => ⟨(I.1 m q).1, by have := (I.1 m q).2; have := x.1; omega⟩, fun m q => x.2.2.2.2.1 h m (I.1 m q).1 (I.1 m q).2 (I.2.1 m q), fun e he => ⟨⟨(I.2.2 e he).1.1, by have := (I.2.2 e he).1.2; have := x.1; omega⟩, x.genX W.1 I.1 (I.2.2 e he).1.1 (I.2.2 e he).1.2 (fun m q => lO_mono (lM m q) hh) (I.2.2 e he).2⟩⟩
theorem EnvI.un {S' : TS} (I : EnvI S 0 E X) (W : SO S) (ur : unR S a b S') (la : lO S 0 a) (lb : lO S 0 b) : EnvI S' 0 E X := I.upx (by decide) W (ur.1 0).2.1 (fun m q => q.elim (fun e => by rw [e]; exact la) (fun e => by rw [e]; exact lb))
/-- the names of a pattern in the rows -/
theorem tmR.pn {nu : Int → Int} (t : tmR σ E F) : ∀ (R : List Int), (∀ i : Nat, i < R.length → σ 76 (E.length + i) = R.reverse.getD i 0 ∧ σ 77 (E.length + i) = nu (R.reverse.getD i 0) ∧ σ 78 (E.length + i) = 0) → tmR σ (R.map (fun z => (z, nu z)) ++ E) (List.replicate R.length 0 ++ F)
  | [], _ => t
  | z :: R, H => by
    have eR : (z :: R).reverse = R.reverse ++ [z] := List.reverse_cons
    have lr : R.reverse.length = R.length := List.length_reverse
    have top : ((R.map (fun z => (z, nu z)) ++ E).length : Int) = E.length + (R.length : Nat) := by rw [List.length_append, List.length_map]; omega
    have gz : (z :: R).reverse.getD R.length 0 = z := by
      rw [eR, gd_r _ _ _ (by omega), lr, Nat.sub_self]; rfl
    have h0 := H R.length (by rw [List.length_cons]; omega)
    rw [gz] at h0
    refine ⟨⟨?_, ?_, ?_, Or.inl rfl⟩, tmR.pn t R (fun i hi => ?_)⟩
    · show σ 76 ((R.map (fun z => (z, nu z)) ++ E).length : Int) = z
      rw [top]; exact h0.1
    · show σ 77 ((R.map (fun z => (z, nu z)) ++ E).length : Int) = nu z
      rw [top]; exact h0.2.1
    · show σ 78 ((R.map (fun z => (z, nu z)) ++ E).length : Int) = 0
      rw [top]; exact h0.2.2
    · have h1 := H i (by rw [List.length_cons]; omega)
      rw [eR, (gd_l R.reverse [z] i (by omega)).1] at h1
      exact h1
theorem mnF_pn {nu : Int → Int} : ∀ (R : List Int) (m : Int), mnF (R.map (fun z => (z, nu z)) ++ E) (List.replicate R.length 0 ++ F) m ↔ (mnF E F m ∨ ∃ z ∈ R, m = nu z)
  | [], m => ⟨Or.inl, fun h => h.elim (fun h => h) (fun ⟨_, h, _⟩ => by cases h)⟩
  | z :: R, m => by
    show ((0 : Int) = 0 ∧ m = nu z) ∨ mnF (R.map (fun z => (z, nu z)) ++ E) (List.replicate R.length 0 ++ F) m ↔ _
    rw [mnF_pn R m]
    constructor
    · rintro (⟨-, h⟩ | h | ⟨y, h1, h2⟩)
      · exact Or.inr ⟨z, List.mem_cons_self, h⟩
      · exact Or.inl h
      · exact Or.inr ⟨y, List.mem_cons_of_mem _ h1, h2⟩
    · rintro (h | ⟨y, h1, h2⟩)
      · exact Or.inr (Or.inl h)
      · rcases List.mem_cons.mp h1 with e | e
        · exact Or.inl ⟨rfl, by rw [h2, e]⟩
        · exact Or.inr (Or.inr ⟨y, e, h2⟩)
theorem mnF_pE {nu : Int → Int} : mnF (pnE A nu E) (List.replicate (bnd A).length 0 ++ F) = pnM A nu (mnF E F) := by
  funext m
  have e : List.replicate (bnd A).length (0 : Int) = List.replicate (bnd A).reverse.length 0 := by rw [List.length_reverse]
  unfold pnE pnM
  rw [e]
  refine propext ((mnF_pn _ m).trans ?_)
  constructor
  · rintro (h | ⟨z, h1, h2⟩)
    · exact Or.inl h
    · exact Or.inr ⟨z, List.mem_reverse.mp h1, h2⟩
  · rintro (h | ⟨z, h1, h2⟩)
    · exact Or.inl h
    · exact Or.inr ⟨z, List.mem_reverse.mpr h1, h2⟩
theorem tmE.pn {nu : Int → Int} (t : tmE σ E F) (f : FP σ m x) (N : NmA σ m A nu) : tmE m (pnE A nu E) (List.replicate (bnd A).length 0 ++ F) := by
  have l30 := t.1
  refine ⟨?_, ?_⟩
  · rw [N.1, l30]
    unfold pnE
    rw [List.length_append, List.length_map, List.length_reverse]; omega
  · have e : List.replicate (bnd A).length (0 : Int) = List.replicate (bnd A).reverse.length 0 := by rw [List.length_reverse]
    unfold pnE
    rw [e]
    refine tmR.pn (t.2.mv (fun k k0 k1 => f.2.2.2.2.2 k (by omega))) _ (fun i hi => ?_)
    rw [List.length_reverse] at hi
    rw [List.reverse_reverse, ← l30]
    exact N.2 i hi
end MBR
