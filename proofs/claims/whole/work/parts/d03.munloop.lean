/-! The loop of the model's unify. -/
/-- how many of the first k nodes are variables without a link -/
def ucn (σ : Mem) : Nat → Nat
  | 0 => 0
  | k + 1 => ucn σ k + if σ 79 (k : Int) = 0 ∧ ¬ 0 ≤ σ 80 (k : Int) then 1 else 0
/-- how wide the left sides of the first j pairs are -/
def sL (μ : Int → GT) (p : Int → Int) : Nat → Int
  | 0 => 0
  | j + 1 => sL μ p j + gw (μ (p ((2 * j : Nat) : Int)))
section MUL
variable {σ σ' σ1 : Mem} {d : Nat} {μ ρ : Int → GT} {R : Int → Prop} {j : Nat}
theorem ucn_cg (h79 : σ' 79 = σ 79) (h80 : σ' 80 = σ 80) : ∀ k, ucn σ' k = ucn σ k
  | 0 => rfl
  | k + 1 => by unfold ucn; rw [ucn_cg h79 h80 k, h79, h80]
theorem ucn_lk {v o : Int} (hv : σ 79 v = 0 ∧ ¬ 0 ≤ σ 80 v) (h0 : 0 ≤ v) (ho : 0 ≤ o) : ∀ k : Nat, ucn (mup σ 80 v o) k + (if v < (k : Int) then 1 else 0) = ucn σ k
  | 0 => by rw [if_neg (by omega)]; rfl
  | k + 1 => by
    have ih := ucn_lk hv h0 ho k
    have e79 : (mup σ 80 v o) 79 = σ 79 := mup_obj (by decide)
    show ucn (mup σ 80 v o) k + (if (mup σ 80 v o) 79 (k : Int) = 0 ∧ ¬ 0 ≤ (mup σ 80 v o) 80 (k : Int) then 1 else 0) + (if v < ((k + 1 : Nat) : Int) then 1 else 0) = ucn σ k + if σ 79 (k : Int) = 0 ∧ ¬ 0 ≤ σ 80 (k : Int) then 1 else 0
    rw [e79]
    by_cases e : (k : Int) = v
    · have n1 : ¬ v < (k : Int) := by omega
      have n2 : v < ((k + 1 : Nat) : Int) := by omega
      rw [if_neg n1] at ih
      rw [if_pos n2, e, mup_eq, if_neg (fun q => q.2 ho), if_pos hv]
      omega
    · rw [mup_nk e]
      by_cases l : v < (k : Int)
      · have n2 : v < ((k + 1 : Nat) : Int) := by omega
        rw [if_pos l] at ih
        rw [if_pos n2]
        omega
      · have n2 : ¬ v < ((k + 1 : Nat) : Int) := by omega
        rw [if_neg l] at ih
        rw [if_neg n2]
        omega
theorem sL_0 {p : Int → Int} : ∀ j, 0 ≤ sL μ p j
  | 0 => Int.le_refl 0
  | j + 1 => by
    have a := sL_0 (p := p) j
    have b := gw_ge (t := μ (p ((2 * j : Nat) : Int)))
    show 0 ≤ sL μ p j + gw (μ (p ((2 * j : Nat) : Int))); omega
theorem sL_cg {p q : Int → Int} : ∀ j : Nat, (∀ i : Nat, i < 2 * j → q i = p i) → sL μ q j = sL μ p j
  | 0, _ => rfl
  | j + 1, h => by
    show sL μ q j + gw (μ (q ((2 * j : Nat) : Int))) = sL μ p j + gw (μ (p ((2 * j : Nat) : Int)))
    rw [sL_cg j (fun i hi => h i (by omega)), h (2 * j) (by omega)]
theorem prE_s : prE σ (j + 1) ρ ↔ (prE σ j ρ ∧ ρ (σ 87 ((2 * j : Nat) : Int)) = ρ (σ 87 ((2 * j + 1 : Nat) : Int))) := by
  constructor
  · intro h; exact ⟨fun i hi => h i (by omega), h j (by omega)⟩
  · intro ⟨h, e⟩ i hi
    by_cases q : i = j
    · rw [q]; exact e
    · exact h i (by omega)
theorem prE_cg (h : ∀ i : Nat, i < 2 * j → σ1 87 i = σ 87 i) : prE σ1 j ρ ↔ prE σ j ρ := by
  constructor
  · intro p i hi
    rw [← h (2 * i) (by omega), ← h (2 * i + 1) (by omega)]; exact p i hi
  · intro p i hi
    rw [h (2 * i) (by omega), h (2 * i + 1) (by omega)]; exact p i hi
theorem FU.m80 {k z : Int} : FU σ (mup σ 80 k z) := ⟨fun _ _ p _ _ => mup_obj p, fun _ _ _ _ => mup_ne (by decide)⟩
theorem FU.m87 {k z : Int} : FU σ (mup σ 87 k z) := ⟨fun _ _ _ _ p => mup_obj p, fun _ _ _ _ => mup_ne (by decide)⟩
theorem FU.m44 {z : Int} : FU σ (mup σ 58 44 z) := ⟨fun _ p _ _ _ => mup_obj p, fun _ p _ _ => mup_nk p⟩
theorem FU.rf : FU σ σ := ⟨fun _ _ _ _ _ => rfl, fun _ _ _ _ => rfl⟩
/-- what was said of pairs is said of those that come of them -/
theorem UO.st {j1 : Nat} (e : mS σ1 = mS σ) (hc : σ1 58 35 = σ 58 35) (h2 : ∀ n, stk σ1 j1 n → ∃ m, stk σ j m ∧ Oc (mS σ).1 n m) (h1 : ∀ ρ, VS (mS σ).1 (mS σ).2.1 ρ → (prE σ j ρ ↔ prE σ1 j1 ρ)) (h3 : ∀ ρ, VS (mS σ).1 (mS σ).2.1 ρ → ∀ i : Nat, i < j1 → ¬ gw (ρ (σ1 87 ((2 * i : Nat) : Int))) ≤ 80 → ∃ i : Nat, i < j ∧ ¬ gw (ρ (σ 87 ((2 * i : Nat) : Int))) ≤ 80) (U : UO σ1 σ' j1) : UO σ σ' j := by
  rcases U with ⟨a, b, c, f, g⟩ | ⟨a, b⟩
  · refine Or.inl ⟨a, b, fun h => ?_, f.trans hc, fun ρ => ?_⟩
    · have q := c h
      rw [e] at q
      exact q.in h2
    · rw [g ρ, e]; exact and_congr_right (fun V => (h1 ρ V).symm)
  · refine Or.inr ⟨a, fun ρ V p => ?_⟩
    obtain ⟨i, hi, q⟩ := b ρ (by rw [e]; exact V) ((h1 ρ V).mp p)
    exact h3 ρ V i hi q
theorem un_201i {x3 t1 t2 : Int} (h3 : rg x3) (h1 : 0 ≤ t1 ∧ t1 < 1300) (hi : σ 58 44 ≠ 0) : B_Mo_unify_201 (d + 7) x3 t1 t2 σ none (mup σ 80 t1 t2) := ⟨h1, un_ill h3 (by rw [mup_ne (by decide)]; exact hi)⟩
theorem un_168i {x3 x6 x7 : Int} (h3 : rg x3) (h6 : 0 ≤ x6 ∧ x6 < 1300) : ∃ σ', B_Mo_unify_168 (d + 7) x3 x6 x7 σ none σ' ∧ FU σ σ' ∧ σ' 58 44 = 1 := by
  refine ⟨mup (mup σ 58 44 1) 80 x6 (σ 80 x6), ?_, FU.m44.tr FU.m80, by rw [mup_ne (by decide), mup_eq]⟩
  unfold B_Mo_unify_168 B_Mo_unify_173
  refine ⟨Or.inr rfl, ?_⟩
  rw [if_neg (by decide)]
  exact ⟨h6, un_201i h3 h6 (by rw [mup_eq]; decide)⟩
theorem un_147i {x3 x6 x7 : Int} (h3 : rg x3) (h6 : 0 ≤ x6 ∧ x6 < 1300) (hi : σ 58 44 ≠ 0) : ∃ σ', B_Mo_unify_147 (d + 7) x3 x6 x7 σ none σ' ∧ FU σ σ' ∧ σ' 58 44 = 1 := by
  obtain ⟨σ', a, b⟩ := un_168i (σ := σ) (d := d) (x7 := x7) h3 h6
  exact ⟨σ', by unfold B_Mo_unify_147; rw [if_pos hi]; exact a, b⟩
theorem un_131i {x3 x4 x5 t0 : Int} (h3 : rg x3) (h4 : 0 ≤ x4 ∧ x4 < 1300) (h5 : 0 ≤ t0 ∧ t0 < 1300) (hi : σ 58 44 ≠ 0) : ∃ σ', B_Mo_unify_131 (d + 7) x3 x4 x5 t0 σ none σ' ∧ FU σ σ' ∧ σ' 58 44 = 1 := by
  unfold B_Mo_unify_131
  split
  · exact un_147i h3 h5 hi
  · exact un_147i h3 h5 hi
theorem un_114i {x3 x4 x5 : Int} (h3 : rg x3) (h4 : 0 ≤ x4 ∧ x4 < 1300) (h5 : 0 ≤ x5 ∧ x5 < 1300) (hi : σ 58 44 ≠ 0) : ∃ σ', B_Mo_unify_114 (d + 7) x3 x4 x5 σ none σ' ∧ FU σ σ' ∧ σ' 58 44 = 1 := by
  unfold B_Mo_unify_114
  by_cases c : σ 79 x4 ≠ 0
  · obtain ⟨σ', a, b⟩ := un_131i (d := d) (x5 := x5) h3 h4 h5 hi
    exact ⟨σ', ⟨h4, by rw [if_pos c]; exact a⟩, b⟩
  · obtain ⟨σ', a, b⟩ := un_131i (d := d) (x5 := x5) h3 h4 h4 hi
    exact ⟨σ', ⟨h4, by rw [if_neg c]; exact a⟩, b⟩
theorem un_230i {x3 x4 x5 : Int} (h3 : 0 ≤ x3 ∧ x3 ≤ 200) (h4 : 0 ≤ x4 ∧ x4 < 1300) (h5 : 0 ≤ x5 ∧ x5 < 1300) (k4 : 0 ≤ σ 79 x4 ∧ σ 79 x4 ≤ 5) : ∃ σ', B_Mo_unify_230 (d + 7) x3 x4 x5 σ none σ' ∧ FU σ σ' ∧ σ' 58 44 = 1 := by
  refine ⟨mup (mup (mup (mup (mup σ 58 44 1) 87 x3 (σ 80 x4)) 87 (x3 + 1) (σ 80 x5)) 87 (x3 + 2) (σ 81 x4)) 87 (x3 + 3) (σ 81 x5), ?_, (((FU.m44.tr FU.m87).tr FU.m87).tr FU.m87).tr FU.m87, by rw [mup_ne (by decide), mup_ne (by decide), mup_ne (by decide), mup_ne (by decide), mup_eq]⟩
  have ill : (mup (mup (mup (mup (mup σ 58 44 1) 87 x3 (σ 80 x4)) 87 (x3 + 1) (σ 80 x5)) 87 (x3 + 2) (σ 81 x4)) 87 (x3 + 3) (σ 81 x5)) 58 44 ≠ 0 := by
    rw [mup_ne (by decide), mup_ne (by decide), mup_ne (by decide), mup_ne (by decide), mup_eq]; decide
  unfold B_Mo_unify_230 B_Mo_unify_235
  refine ⟨Or.inr rfl, h4, ⟨by omega, by omega⟩, h5, ⟨by omega, by omega⟩, h4, ⟨by omega, by omega⟩, h5, ⟨by omega, by omega⟩, h4, ?_⟩
  split
  · exact ⟨⟨by omega, by omega⟩, un_ill ⟨by omega, by omega⟩ ill⟩
  · exact ⟨h4, ⟨by omega, by omega⟩, ⟨by omega, by omega⟩, un_ill ⟨by omega, by omega⟩ ill⟩
theorem un_86i {x3 x4 x5 : Int} (h3 : 0 ≤ x3 ∧ x3 ≤ 200) (h4 : 0 ≤ x4 ∧ x4 < 1300) (h5 : 0 ≤ x5 ∧ x5 < 1300) (k4 : 0 ≤ σ 79 x4 ∧ σ 79 x4 ≤ 5) : ∃ σ', B_Mo_unify_86 (d + 7) x3 x4 x5 σ none σ' ∧ FU σ σ' ∧ σ' 58 44 = 1 := by
  have i0 : (mup σ 58 44 1) 58 44 ≠ 0 := by rw [mup_eq]; decide
  have o79 : (mup σ 58 44 1) 79 = σ 79 := mup_obj (by decide)
  unfold B_Mo_unify_86 B_Mo_unify_91
  by_cases c : σ 79 x4 = 0
  · obtain ⟨σ', a, b, e⟩ := un_114i (d := d) (x3 := x3) ⟨by omega, by omega⟩ h4 h5 i0
    exact ⟨σ', ⟨Or.inr rfl, h4, by rw [if_pos c]; exact a⟩, FU.m44.tr b, e⟩
  · by_cases c5 : σ 79 x5 ≠ 0
    · obtain ⟨σ', a, b, e⟩ := un_230i (d := d) h3 h4 h5 (σ := mup σ 58 44 1) (by rw [o79]; exact k4)
      exact ⟨σ', ⟨Or.inr rfl, h4, by rw [if_neg c]; exact ⟨h5, by rw [if_pos c5, if_pos (by decide)]; exact a⟩⟩, FU.m44.tr b, e⟩
    · obtain ⟨σ', a, b, e⟩ := un_114i (d := d) (x3 := x3) ⟨by omega, by omega⟩ h4 h5 i0
      exact ⟨σ', ⟨Or.inr rfl, h4, by rw [if_neg c]; exact ⟨h5, by rw [if_neg c5]; exact a⟩⟩, FU.m44.tr b, e⟩
theorem un_eq {x3 r : Int} {s' : Mem} (h : 2 ≤ x3 ∧ x3 ≤ 200) (hi : σ 58 44 = 0) (ra : Rn (d + 10) yMo_realType [.ref 58, vi (σ 87 (x3 + (-2)))] σ (some r) σ) (rb : Rn (d + 10) yMo_realType [.ref 58, vi (σ 87 (x3 + (-2) + 1))] σ (some r) σ) (k : Lb (d + 10) yMo_unify 16 [(0, .ref 58), (3, vi (x3 + (-2)))] [] σ none s') : Lb (d + 10) yMo_unify 16 [(0, .ref 58), (3, vi x3)] [] σ none s' := by
  refine K_Mo_unify_16 (d := d + 7) ⟨by omega, by omega⟩ ?_
  unfold B_Mo_unify_16
  rw [if_neg (by omega), if_neg (fun q => q hi)]
  refine ⟨⟨by omega, by omega⟩, r, σ, ra, ⟨by omega, by omega⟩, r, σ, rb, ?_⟩
  rw [if_pos rfl]
  exact ⟨⟨by omega, by omega⟩, k⟩
theorem un_w1 {x3 x4 x5 v9 : Int} {m9 s' : Mem} (h : 2 ≤ x3 ∧ x3 ≤ 200) (hi : σ 58 44 = 0) (ra : Rn (d + 10) yMo_realType [.ref 58, vi (σ 87 (x3 + (-2)))] σ (some x4) σ) (rb : Rn (d + 10) yMo_realType [.ref 58, vi (σ 87 (x3 + (-2) + 1))] σ (some x5) σ) (ne : x4 ≠ x5) (w : Rn (d + 10) yMo_width [.ref 58, vi x4] σ (some v9) m9) (g : 80 < v9) (k : B_Mo_unify_86 (d + 7) (x3 + (-2)) x4 x5 m9 none s') : Lb (d + 10) yMo_unify 16 [(0, .ref 58), (3, vi x3)] [] σ none s' := by
  refine K_Mo_unify_16 (d := d + 7) ⟨by omega, by omega⟩ ?_
  unfold B_Mo_unify_16
  rw [if_neg (by omega), if_neg (fun q => q hi)]
  refine ⟨⟨by omega, by omega⟩, x4, σ, ra, ⟨by omega, by omega⟩, x5, σ, rb, ?_⟩
  rw [if_neg ne]
  refine ⟨v9, m9, w, ?_⟩
  rw [if_pos (by omega)]
  exact ⟨⟨by omega, by omega⟩, k⟩
theorem un_w2 {x3 x4 x5 v9 v12 : Int} {m9 m12 s' : Mem} (h : 2 ≤ x3 ∧ x3 ≤ 200) (hi : σ 58 44 = 0) (ra : Rn (d + 10) yMo_realType [.ref 58, vi (σ 87 (x3 + (-2)))] σ (some x4) σ) (rb : Rn (d + 10) yMo_realType [.ref 58, vi (σ 87 (x3 + (-2) + 1))] σ (some x5) σ) (ne : x4 ≠ x5) (w : Rn (d + 10) yMo_width [.ref 58, vi x4] σ (some v9) m9) (g : ¬ 80 < v9) (w2 : Rn (d + 10) yMo_width [.ref 58, vi x5] m9 (some v12) m12) (k : (80 < v12 → B_Mo_unify_86 (d + 7) (x3 + (-2)) x4 x5 m12 none s') ∧ (¬ 80 < v12 → B_Mo_unify_91 (d + 7) (x3 + (-2)) x4 x5 0 m12 none s')) : Lb (d + 10) yMo_unify 16 [(0, .ref 58), (3, vi x3)] [] σ none s' := by
  refine K_Mo_unify_16 (d := d + 7) ⟨by omega, by omega⟩ ?_
  unfold B_Mo_unify_16
  rw [if_neg (by omega), if_neg (fun q => q hi)]
  refine ⟨⟨by omega, by omega⟩, x4, σ, ra, ⟨by omega, by omega⟩, x5, σ, rb, ?_⟩
  rw [if_neg ne]
  refine ⟨v9, m9, w, ?_⟩
  rw [if_neg (by omega)]
  refine ⟨v12, m12, w2, ?_⟩
  by_cases c : 80 < v12
  · rw [if_neg (by omega)]; exact ⟨⟨by omega, by omega⟩, k.1 c⟩
  · rw [if_pos (by omega)]; exact ⟨⟨by omega, by omega⟩, k.2 c⟩
end MUL
