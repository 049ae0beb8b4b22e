/-! The model shows a type. -/
section MSH
variable {σ σ' σ0 σ1 σ2 : Mem} {d : Nat} {n x y c : Int} {L L1 L2 cs c1 c2 : List Int} {μ : Int → GT}
theorem zChr_t : ∀ u : Fin 128, zChr (u.val : Int) = (u.val : Int) := by decide +kernel
theorem zNeg_t : ∀ u : Fin 128, zNeg (-(u.val : Int)) = (u.val : Int) := by decide +kernel
theorem zChr_i (h : 0 ≤ c ∧ c < 128) : zChr c = c := by
  have := zChr_t ⟨c.toNat, by omega⟩
  have e : ((c.toNat : Nat) : Int) = c := by omega
  simp only [e] at this
  exact this
theorem zNeg_i (h : 0 ≤ c ∧ c < 128) : zNeg (-c) = c := by
  have := zNeg_t ⟨c.toNat, by omega⟩
  have e : ((c.toNat : Nat) : Int) = c := by omega
  simp only [e] at this
  exact this
/-- the letters so far -/
def LRs (σ0 σ : Mem) (L : List Int) : Prop := (∀ i : Nat, i < L.length → (0 ≤ L.getD i 0 ∧ L.getD i 0 < σ0 58 35) ∧ σ 82 (L.getD i 0) = i) ∧ ∀ n, 0 ≤ n → n < σ0 58 35 → n ∉ L → σ 82 n = -1
/-- the store is what it was -/
def SwT (σ0 σ : Mem) : Prop := σ 79 = σ0 79 ∧ σ 80 = σ0 80 ∧ σ 81 = σ0 81
def Sh2 (σ0 σ σ' : Mem) (b : Int) (cs L' : List Int) : Prop := (∀ i, i ≠ 58 → i ≠ 82 → i ≠ 86 → i ≠ 88 → σ' i = σ i) ∧ (∀ k, k ≠ 49 → σ' 58 k = σ 58 k) ∧ (∀ i, i < b → σ' 86 i = σ 86 i) ∧ LRs σ0 σ' L' ∧ σ' 58 49 = σ 58 49 + cs.length ∧ (∀ i : Nat, i < cs.length → σ' 88 (σ 58 49 + i) = cs.getD i 0) ∧ ∀ i, i < σ 58 49 → σ' 88 i = σ 88 i
theorem Sh2.tr {b1 : Int} (a : Sh2 σ0 σ σ1 b1 c1 L1) (h : b1 ≥ x) (b : Sh2 σ0 σ1 σ2 x c2 L2) : Sh2 σ0 σ σ2 x (c1 ++ c2) L2 := by
  obtain ⟨a1, a2, a3, a4, a5, a6, a7⟩ := a
  obtain ⟨b1, b2, b3, b4, b5, b6, b7⟩ := b
  refine ⟨fun i h1 h2 h3 h4 => (b1 i h1 h2 h3 h4).trans (a1 i h1 h2 h3 h4), fun k h1 => (b2 k h1).trans (a2 k h1), fun i hi => (b3 i hi).trans (a3 i (by omega)), b4, by rw [List.length_append]; omega, fun i hi => ?_, fun i hi => (b7 i (by omega)).trans (a7 i hi)⟩
  rw [List.length_append] at hi
  by_cases c : i < c1.length
  · rw [(gd_l c1 c2 i c).1, b7 _ (by omega)]; exact a6 i c
  · rw [gd_r c1 c2 i (by omega), ← b6 (i - c1.length) (by omega)]
    congr 1
    omega
theorem sr_l (H : MT σ0) (A : SwT σ0 σ) : ∀ (k : Nat) (n : Int), 0 ≤ n → n < σ0 58 35 → ¬ lkd (mS σ0).1 (rv (mS σ0).1 k n) → Lb (d + 3) yMo_realType 2 [(0, .ref 58), (2, vi n)] [] σ (some (rv (mS σ0).1 k n)) σ := by
  have hc := H.2.1
  have stop : ∀ n, 0 ≤ n → n < σ0 58 35 → ¬ lkd (mS σ0).1 n → Lb (d + 3) yMo_realType 2 [(0, .ref 58), (2, vi n)] [] σ (some n) σ := fun n h0 h1 q => by
    refine K_Mo_realType_2 ⟨by omega, by omega⟩ ⟨⟨h0, by omega⟩, ?_⟩
    rw [A.1, A.2.1]
    by_cases c : σ0 79 n ≠ 0
    · rw [if_pos c]; exact ⟨rfl, rfl⟩
    · rw [if_neg c]
      refine ⟨⟨h0, by omega⟩, ?_⟩
      rw [if_pos (by have : ¬ (σ0 79 n = 0 ∧ 0 ≤ σ0 80 n) := q; omega)]
      exact ⟨rfl, rfl⟩
  intro k
  induction k with
  | zero => intro n h0 h1 q; exact stop n h0 h1 q
  | succ k ih =>
    intro n h0 h1 q
    by_cases c : lkd (mS σ0).1 n
    · have e : rv (mS σ0).1 (k + 1) n = rv (mS σ0).1 k (σ0 80 n) := by rw [rv, if_pos c]; rfl
      rw [e] at q ⊢
      have c' : σ0 79 n = 0 ∧ 0 ≤ σ0 80 n := c
      have w : σ0 80 n < σ0 58 35 := (H.1.1 n h0 h1).2.1 c
      refine K_Mo_realType_2 ⟨by omega, by omega⟩ ⟨⟨h0, by omega⟩, ?_⟩
      rw [A.1, A.2.1, if_neg (by omega)]
      refine ⟨⟨h0, by omega⟩, ?_⟩
      rw [if_neg (by omega)]
      exact ⟨⟨h0, by omega⟩, ih _ c'.2 w q⟩
    · rw [rv_stop c]; exact stop n h0 h1 c
theorem s_real2 (H : MT σ0) (A : SwT σ0 σ) (h0 : 0 ≤ n) (h1 : n < σ0 58 35) {k : Nat} (nl : ¬ lkd (mS σ0).1 (rv (mS σ0).1 k n)) : Rn (d + 4) yMo_realType [.ref 58, vi n] σ (some (rv (mS σ0).1 k n)) σ := by
  have hc := H.2.1
  exact M_Mo_realType ⟨by omega, by omega⟩ (sr_l H A k n h0 h1 nl)
/-- a character is put -/
theorem sh_168 (LR : LRs σ0 σ L) (hx : rg x) (hy : rg y) (h49 : 0 ≤ σ 58 49 ∧ σ 58 49 < 80) (hc : 0 ≤ c ∧ c < 128) : ∃ σ', (∀ o s', Lb (d + 4) yMo_show 16 [(0, .ref 58), (2, vi x), (3, vi y)] [] σ' o s' → B_Mo_show_168 (d + 1) x y (σ 58 49) c σ o s') ∧ ∀ b, Sh2 σ0 σ σ' b [c] L := by
  refine ⟨mup (mup σ 88 (σ 58 49) c) 58 49 (σ 58 49 + 1), fun o s' h => ⟨h49, ?_, ⟨by omega, by omega⟩, ?_⟩, fun b => ⟨fun i h1 _ _ h4 => by rw [mup_obj h1, mup_obj h4], fun k h => by rw [mup_nk h, mup_ne (by decide)], fun i _ => by rw [mup_ne (by decide), mup_ne (by decide)], ⟨fun i hi => by rw [mup_ne (by decide), mup_ne (by decide)]; exact LR.1 i hi, fun n h0 h1 h2 => by rw [mup_ne (by decide), mup_ne (by decide)]; exact LR.2 n h0 h1 h2⟩, mup_eq, fun i hi => ?_, fun i hi => by rw [mup_ne (by decide), mup_nk (by omega)]⟩⟩
  · rw [zChr_i hc]; omega
  · rw [zChr_i hc]
    unfold B_Mo_show_289
    exact h
  · have hi : i < 1 := hi
    have e0 : i = 0 := by omega
    subst e0
    rw [mup_ne (by decide), show σ 58 49 + ((0 : Nat) : Int) = σ 58 49 by omega, mup_eq]; rfl
/-- a character on the pile -/
theorem sh_ch (LR : LRs σ0 σ L) (h2 : 1 ≤ x ∧ x ≤ 160) (hy : rg y) (h49 : 0 ≤ σ 58 49 ∧ σ 58 49 < 80) (hc : 1 ≤ c ∧ c < 128) (e : σ 86 (x - 1) = -c) : ∃ σ', (∀ o s', Lb (d + 4) yMo_show 16 [(0, .ref 58), (2, vi (x - 1)), (3, vi y)] [] σ' o s' → Lb (d + 4) yMo_show 16 [(0, .ref 58), (2, vi x), (3, vi y)] [] σ o s') ∧ ∀ b, Sh2 σ0 σ σ' b [c] L := by
  obtain ⟨σ', k, S⟩ := sh_168 (d := d) (x := x - 1) (y := y) (c := c) LR ⟨by omega, by omega⟩ hy h49 ⟨by omega, hc.2⟩
  refine ⟨σ', fun o s' h => K_Mo_show_16 (d := d + 1) ⟨by omega, by omega⟩ hy ?_, S⟩
  unfold B_Mo_show_16
  have ex : x + (-1) = x - 1 := by omega
  rw [if_neg (by omega), ex, if_pos (by omega), e]
  refine ⟨by omega, ⟨by omega, by omega⟩, ?_⟩
  unfold B_Mo_show_75
  rw [if_pos (by omega)]
  unfold B_Mo_show_91
  rw [if_neg (by omega), zNeg_i ⟨by omega, hc.2⟩]
  exact k o s' h
end MSH
