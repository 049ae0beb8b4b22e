/-! The model's store of types: realType, width, standsIn. -/
def mS (σ : Mem) : TS := (fun n => (σ 79 n, σ 80 n, if σ 79 n = 5 then σ 81 n else 0), σ 58 35, fun n => if σ 81 n = 1 then 1000 else 0)
def MT (σ : Mem) : Prop := SO (mS σ) ∧ (3 ≤ σ 58 35 ∧ σ 58 35 ≤ 1300) ∧ (σ 79 0 = 1 ∧ σ 79 1 = 2 ∧ σ 79 2 = 3) ∧ (∀ n, 3 ≤ n → n < σ 58 35 → σ 79 n = 0 ∨ σ 79 n = 4 ∨ σ 79 n = 5) ∧ (∀ n, 0 ≤ n → n < σ 58 35 → (σ 79 n = 0 → -1 ≤ σ 80 n ∧ (σ 81 n = 0 ∨ σ 81 n = 1)) ∧ (σ 79 n = 4 → σ 81 n = 0)) ∧ (∀ n, 0 ≤ n → n < σ 58 35 → σ 82 n = -1) ∧ ∃ ρ, VS (mS σ).1 (mS σ).2.1 ρ
/-- where links from n end -/
def rtM (σ : Mem) (n r : Int) : Prop := (∃ k, r = rv (mS σ).1 k n) ∧ ¬ lkd (mS σ).1 r
section MST
variable {σ σ' σ1 : Mem} {d : Nat} {n r : Int} {μ ρ : Int → GT}
theorem MT.cg (H : MT σ) (h79 : σ' 79 = σ 79) (h80 : σ' 80 = σ 80) (h81 : σ' 81 = σ 81) (h82 : σ' 82 = σ 82) (hc : σ' 58 35 = σ 58 35) : MT σ' ∧ mS σ' = mS σ := by
  have e : mS σ' = mS σ := by unfold mS; rw [h79, h80, h81, hc]
  unfold MT
  rw [e, h79, h80, h81, h82, hc]
  exact ⟨H, rfl⟩
theorem MT.lk : lkd (mS σ).1 n ↔ (σ 79 n = 0 ∧ 0 ≤ σ 80 n) := Iff.rfl
theorem MT.kd (H : MT σ) (h0 : 0 ≤ n) (h1 : n < σ 58 35) : (σ 79 n = 0 ∨ σ 79 n = 1 ∨ σ 79 n = 2 ∨ σ 79 n = 3 ∨ σ 79 n = 4 ∨ σ 79 n = 5) := by
  have := (H.1.1 n h0 h1).1
  have this : 0 ≤ σ 79 n ∧ σ 79 n ≤ 5 := this
  omega
theorem rt_ex (H : MT σ) (h0 : 0 ≤ n) (h1 : n < σ 58 35) : ∃ r, rtM σ n r := by
  obtain ⟨W, ⟨L, st, S⟩, -⟩ := H.1
  exact ⟨_, ⟨L + 1, rfl⟩, rv_root W S (L + 1) n h0 h1 (fun _ => Nat.le_add_right _ _)⟩
theorem rtM.in (R : rtM σ n r) (H : MT σ) (h0 : 0 ≤ n) (h1 : n < σ 58 35) : 0 ≤ r ∧ r < σ 58 35 := by
  obtain ⟨⟨k, rfl⟩, -⟩ := R
  exact rv_in H.1.1 k n h0 h1
theorem rtM.val (R : rtM σ n r) (H : MT σ) (h0 : 0 ≤ n) (h1 : n < σ 58 35) (V : VS (mS σ).1 (mS σ).2.1 ρ) : ρ r = ρ n := by
  obtain ⟨⟨k, rfl⟩, -⟩ := R
  exact rv_val H.1.1 V k n h0 h1
theorem rtM.oc (R : rtM σ n r) {v : Int} (hv : ¬ lkd (mS σ).1 v) : Oc (mS σ).1 v r ↔ Oc (mS σ).1 v n := by
  obtain ⟨⟨k, rfl⟩, -⟩ := R
  exact oc_rv hv k n
theorem mr_l (H : MT σ) : ∀ (k : Nat) (n : Int), 0 ≤ n → n < σ 58 35 → ¬ lkd (mS σ).1 (rv (mS σ).1 k n) → Lb (d + 3) yMo_realType 2 [(0, .ref 58), (2, vi n)] [] σ (some (rv (mS σ).1 k n)) σ := by
  have hc := H.2.1
  have stop : ∀ n, 0 ≤ n → n < σ 58 35 → ¬ lkd (mS σ).1 n → Lb (d + 3) yMo_realType 2 [(0, .ref 58), (2, vi n)] [] σ (some n) σ := fun n h0 h1 q => by
    refine K_Mo_realType_2 ⟨by omega, by omega⟩ ⟨⟨h0, by omega⟩, ?_⟩
    by_cases c : σ 79 n ≠ 0
    · rw [if_pos c]; exact ⟨rfl, rfl⟩
    · rw [if_neg c]
      refine ⟨⟨h0, by omega⟩, ?_⟩
      rw [if_pos (by have : ¬ (σ 79 n = 0 ∧ 0 ≤ σ 80 n) := q; omega)]
      exact ⟨rfl, rfl⟩
  intro k
  induction k with
  | zero => intro n h0 h1 q; exact stop n h0 h1 q
  | succ k ih =>
    intro n h0 h1 q
    by_cases c : lkd (mS σ).1 n
    · have e : rv (mS σ).1 (k + 1) n = rv (mS σ).1 k (σ 80 n) := by rw [rv, if_pos c]; rfl
      rw [e] at q ⊢
      have c' : σ 79 n = 0 ∧ 0 ≤ σ 80 n := c
      have w : σ 80 n < σ 58 35 := (H.1.1 n h0 h1).2.1 c
      refine K_Mo_realType_2 ⟨by omega, by omega⟩ ⟨⟨h0, by omega⟩, ?_⟩
      rw [if_neg (by omega)]
      refine ⟨⟨h0, by omega⟩, ?_⟩
      rw [if_neg (by omega)]
      exact ⟨⟨h0, by omega⟩, ih _ c'.2 w q⟩
    · rw [rv_stop c] at q ⊢
      exact stop n h0 h1 q
theorem s_real (H : MT σ) (h0 : 0 ≤ n) (h1 : n < σ 58 35) (R : rtM σ n r) : Rn (d + 4) yMo_realType [.ref 58, vi n] σ (some r) σ := by
  obtain ⟨⟨k, rfl⟩, q⟩ := R
  have hc := H.2.1
  exact M_Mo_realType ⟨by omega, by omega⟩ (mr_l H k n h0 h1 q)
/-- what stands at the end of links -/
theorem rtM.kd (R : rtM σ n r) (H : MT σ) (h0 : 0 ≤ n) (h1 : n < σ 58 35) : (σ 79 r = 0 ∧ σ 80 r = -1) ∨ σ 79 r = 1 ∨ σ 79 r = 2 ∨ σ 79 r = 3 ∨ (σ 79 r = 4 ∧ 0 ≤ σ 80 r ∧ σ 80 r < σ 58 35) ∨ (σ 79 r = 5 ∧ (0 ≤ σ 80 r ∧ σ 80 r < σ 58 35) ∧ 0 ≤ σ 81 r ∧ σ 81 r < σ 58 35) := by
  obtain ⟨r0, r1⟩ := R.in H h0 h1
  have nl : ¬ (σ 79 r = 0 ∧ 0 ≤ σ 80 r) := R.2
  have w := H.1.1 r r0 r1
  have e := H.2.2.2.2.1 r r0 r1
  rcases H.kd r0 r1 with k | k | k | k | k | k
  · left; have := (e.1 k).1; omega
  · exact Or.inr (Or.inl k)
  · exact Or.inr (Or.inr (Or.inl k))
  · exact Or.inr (Or.inr (Or.inr (Or.inl k)))
  · exact Or.inr (Or.inr (Or.inr (Or.inr (Or.inl ⟨k, w.2.2.1 k⟩))))
  · have q := w.2.2.2 k
    have q2 : 0 ≤ (if σ 79 r = 5 then σ 81 r else 0) ∧ (if σ 79 r = 5 then σ 81 r else 0) < σ 58 35 := q.2
    rw [if_pos k] at q2
    exact Or.inr (Or.inr (Or.inr (Or.inr (Or.inr ⟨k, q.1, q2⟩))))
theorem ms_min (H : MT σ) : ∃ μ, MinV (mS σ).1 (mS σ).2.1 μ := by
  obtain ⟨W, ⟨L, st, S⟩, -⟩ := H.1
  obtain ⟨ρ, V⟩ := H.2.2.2.2.2.2
  obtain ⟨ρ', V', h⟩ := EvS W V S (fun _ => gK 1)
  exact ⟨ρ', V', h⟩
/-- how wide the first j of a row are -/
def swM (μ : Int → GT) (p : Int → Int) : Nat → Int
  | 0 => 0
  | j + 1 => swM μ p j + gw (μ (p j))
theorem swM_0 {p : Int → Int} : ∀ j, 0 ≤ swM μ p j
  | 0 => Int.le_refl 0
  | j + 1 => by
    have a := swM_0 (p := p) j
    have b := gw_ge (t := μ (p j))
    show 0 ≤ swM μ p j + gw (μ (p j)); omega
theorem swM_cg {p q : Int → Int} : ∀ j : Nat, (∀ i : Nat, i < j → q i = p i) → swM μ q j = swM μ p j
  | 0, _ => rfl
  | j + 1, h => by
    show swM μ q j + gw (μ (q j)) = swM μ p j + gw (μ (p j))
    rw [swM_cg j (fun i hi => h i (by omega)), h j (by omega)]
def FW (σ σ' : Mem) : Prop := (∀ i, i ≠ 58 → i ≠ 86 → σ' i = σ i) ∧ ∀ k, k ≠ 45 → σ' 58 k = σ 58 k
theorem FW.tr (a : FW σ σ1) (b : FW σ1 σ') : FW σ σ' := ⟨fun i p q => (b.1 i p q).trans (a.1 i p q), fun k p => (b.2 k p).trans (a.2 k p)⟩
theorem FW.mt (f : FW σ σ') (H : MT σ) : MT σ' ∧ mS σ' = mS σ := H.cg (f.1 79 (by decide) (by decide)) (f.1 80 (by decide) (by decide)) (f.1 81 (by decide) (by decide)) (f.1 82 (by decide) (by decide)) (f.2 35 (by decide))
theorem wd_l : ∀ (f j : Nat) (x2 : Int) (σ : Mem), MT σ → MinV (mS σ).1 (mS σ).2.1 μ → 84 ≤ x2 + f → (0 ≤ x2 ∧ x2 ≤ 83) → 3 * (j : Int) ≤ x2 + 3 → (∀ i : Nat, i < j → 0 ≤ σ 86 i ∧ σ 86 i < σ 58 35) → (σ 58 45 = 0 ∨ σ 58 45 = 1) → ∃ v σ', Lb (d + 5) yMo_width 16 [(0, .ref 58), (2, vi x2), (3, vi j)] [] σ (some v) σ' ∧ FW σ σ' ∧ (0 ≤ v ∧ v ≤ 200) ∧ (σ' 58 45 = 0 ∨ σ' 58 45 = 1) ∧ (x2 + swM μ (σ 86) j ≤ 80 → v = x2 + swM μ (σ 86) j ∧ (¬ lkd (mS σ).1 (σ 58 38) → (σ' 58 45 = 1 ↔ (σ 58 45 = 1 ∨ ∃ i : Nat, i < j ∧ Oc (mS σ).1 (σ 58 38) (σ 86 i))))) ∧ (80 < x2 + swM μ (σ 86) j → 80 < v) := by
  intro f
  induction f with
  | zero => intro j x2 σ H M hf hx; omega
  | succ f ih =>
    intro j x2 σ H M hf hx hj hp hm
    have hc := H.2.1
    have rx : rg x2 := ⟨by omega, by omega⟩
    have rj : rg (j : Int) := ⟨by omega, by omega⟩
    by_cases big : j = 0 ∨ 81 ≤ x2
    · refine ⟨x2, σ, K_Mo_width_16 (d := d + 2) rx rj ?_, ⟨fun _ _ _ => rfl, fun _ _ => rfl⟩, ⟨by omega, by omega⟩, hm, fun q => ?_, fun q => ?_⟩
      · unfold B_Mo_width_16
        by_cases c : (j : Int) ≤ 0
        · rw [if_pos c]; exact ⟨rfl, rfl⟩
        · rw [if_neg c, if_pos (by omega)]; exact ⟨rfl, rfl⟩
      · rcases big with rfl | big
        · exact ⟨(Int.add_zero x2).symm, fun _ => ⟨Or.inl, fun q => q.elim id (fun ⟨i, hi, _⟩ => by omega)⟩⟩
        · have := swM_0 (μ := μ) (p := σ 86) j; omega
      · rcases big with rfl | big
        · have q : 80 < x2 + 0 := q; omega
        · omega
    · obtain ⟨j, rfl⟩ : ∃ j', j = j' + 1 := ⟨j - 1, by omega⟩
      have e1 : ((j + 1 : Nat) : Int) + (-1) = j := by omega
      obtain ⟨p0, p1⟩ := hp j (by omega)
      obtain ⟨t, R⟩ := rt_ex H p0 p1
      obtain ⟨t0, t1⟩ := R.in H p0 p1
      have Rr := s_real (d := d + 1) H p0 p1 R
      have ev := R.val H p0 p1 M.1
      have V := M.1 t t0 t1
      have kd := R.kd H p0 p1
      have es : swM μ (σ 86) (j + 1) = swM μ (σ 86) j + gw (μ t) := by rw [ev]; rfl
      -- the bit that is set
      obtain ⟨b, hb, hbit, hB⟩ : ∃ b : Int, (b = 0 ∨ b = 1) ∧ (b = 1 ↔ (σ 58 45 = 1 ∨ t = σ 58 38)) ∧ ∀ {v : Int} {σ' : Mem}, B_Mo_width_63 (d + 2) x2 j t b σ (some v) σ' → Lb (d + 5) yMo_width 16 [(0, .ref 58), (2, vi x2), (3, vi ((j + 1 : Nat) : Int))] [] σ (some v) σ' := by
        have mk : ∀ {v : Int} {σ' : Mem}, (if σ 58 45 ≠ 0 then ((rg (((j + 1 : Nat) : Int) + (-1))) ∧ (B_Mo_width_58 (d + 2) x2 (((j + 1 : Nat) : Int) + (-1)) t σ (some v) σ')) else (if t ≠ σ 58 38 then ((rg (((j + 1 : Nat) : Int) + (-1))) ∧ (B_Mo_width_63 (d + 2) x2 (((j + 1 : Nat) : Int) + (-1)) t 0 σ (some v) σ')) else ((rg (((j + 1 : Nat) : Int) + (-1))) ∧ (B_Mo_width_58 (d + 2) x2 (((j + 1 : Nat) : Int) + (-1)) t σ (some v) σ')))) → Lb (d + 5) yMo_width 16 [(0, .ref 58), (2, vi x2), (3, vi ((j + 1 : Nat) : Int))] [] σ (some v) σ' := fun {v σ'} h => by
          refine K_Mo_width_16 (d := d + 2) rx rj ?_
          unfold B_Mo_width_16
          rw [if_neg (by omega), if_neg (by omega)]
          refine ⟨⟨by omega, by omega⟩, t, σ, ?_, h⟩
          rw [e1]; exact Rr
        have rj' : rg (((j + 1 : Nat) : Int) + (-1)) := ⟨by omega, by omega⟩
        by_cases c1 : σ 58 45 ≠ 0
        · refine ⟨1, Or.inr rfl, ⟨fun _ => Or.inl (by omega), fun _ => rfl⟩, fun {v σ'} h => mk ?_⟩
          rw [if_pos c1]; exact ⟨rj', by rw [e1]; exact h⟩
        by_cases c2 : t ≠ σ 58 38
        · refine ⟨0, Or.inl rfl, ⟨fun q => absurd q (by decide), fun q => by rcases q with q | q; omega; exact absurd q c2⟩, fun {v σ'} h => mk ?_⟩
          rw [if_neg c1, if_pos c2]; exact ⟨rj', by rw [e1]; exact h⟩
        · refine ⟨1, Or.inr rfl, ⟨fun _ => Or.inr (Classical.not_not.mp c2), fun _ => rfl⟩, fun {v σ'} h => mk ?_⟩
          rw [if_neg c1, if_neg c2]; exact ⟨rj', by rw [e1]; exact h⟩
      -- the row, with the parts of t
      generalize hτ : mup (mup (mup σ 58 45 b) 86 j (σ 80 t)) 86 (j + 1) (σ 81 t) = τ
      have fτ : FW σ τ := by
        rw [← hτ]
        exact ⟨fun i p q => by rw [mup_obj q, mup_obj q, mup_obj p], fun k p => by rw [mup_ne (by decide), mup_ne (by decide), mup_nk p]⟩
      obtain ⟨Hτ, eτ⟩ := fτ.mt H
      have m45 : τ 58 45 = b := by rw [← hτ, mup_ne (by decide), mup_ne (by decide), mup_eq]
      have lo : ∀ i : Nat, i < j → τ 86 i = σ 86 i := fun i hi => by
        rw [← hτ, mup_nk (by omega), mup_nk (by omega), mup_ne (by decide)]
      have at0 : τ 86 j = σ 80 t := by rw [← hτ, mup_nk (by omega), mup_eq]
      have at1 : τ 86 ((j : Int) + 1) = σ 81 t := by rw [← hτ, mup_eq]
      have w38 : τ 58 38 = σ 58 38 := fτ.2 38 (by decide)
      have c35 : τ 58 35 = σ 58 35 := fτ.2 35 (by decide)
      have tin : t < 1300 := by omega
      -- on with j' parts
      have go : ∀ (j' : Nat) (a : Int), (j' : Int) ≤ j + 2 → (a = if σ 79 t = 4 then 2 else if σ 79 t = 5 then 3 else 1) → (j' : Int) = j + (if σ 79 t ≤ 3 then 0 else σ 79 t - 3) → (∀ i : Nat, i < j' → 0 ≤ τ 86 i ∧ τ 86 i < σ 58 35) → (swM μ (τ 86) j' + a = swM μ (σ 86) j + gw (μ t)) → (¬ lkd (mS σ).1 (σ 58 38) → (Oc (mS σ).1 (σ 58 38) t ↔ (t = σ 58 38 ∨ ∃ i : Nat, (j ≤ i ∧ i < j') ∧ Oc (mS σ).1 (σ 58 38) (τ 86 i)))) → 3 * (j' : Int) ≤ x2 + a + 3 → ∃ v σ', Lb (d + 5) yMo_width 16 [(0, .ref 58), (2, vi x2), (3, vi ((j + 1 : Nat) : Int))] [] σ (some v) σ' ∧ FW σ σ' ∧ (0 ≤ v ∧ v ≤ 200) ∧ (σ' 58 45 = 0 ∨ σ' 58 45 = 1) ∧ (x2 + swM μ (σ 86) (j + 1) ≤ 80 → v = x2 + swM μ (σ 86) (j + 1) ∧ (¬ lkd (mS σ).1 (σ 58 38) → (σ' 58 45 = 1 ↔ (σ 58 45 = 1 ∨ ∃ i : Nat, i < j + 1 ∧ Oc (mS σ).1 (σ 58 38) (σ 86 i))))) ∧ (80 < x2 + swM μ (σ 86) (j + 1) → 80 < v) := by
        intro j' a hj' ha hjj hpp hsw hoc h3
        have a13 : 1 ≤ a ∧ a ≤ 3 := by rw [ha]; split <;> (try split) <;> omega
        have jj : j ≤ j' := by split at hjj <;> omega
        have ii := ih j' (x2 + a) τ Hτ (by rw [eτ]; exact M) (by omega) (by omega) (by omega) (fun i hi => by rw [c35]; exact hpp i hi) (by rw [m45]; exact hb)
        rw [eτ, w38, m45] at ii
        obtain ⟨v, σ', L, F, gv, gm, y1, y2⟩ := ii
        refine ⟨v, σ', hB ?_, fτ.tr F, gv, gm, fun qq => ?_, fun qq => y2 (by omega)⟩
        · have L' : B_Mo_width_98 (d + 2) j t x2 a (mup σ 58 45 b) (some v) σ' := by
            unfold B_Mo_width_98 B_Mo_width_153
            have e79 : (mup σ 58 45 b) 79 t = σ 79 t := mup_ne (by decide)
            have e80 : (mup σ 58 45 b) 80 t = σ 80 t := mup_ne (by decide)
            have e81 : (mup σ 58 45 b) 81 t = σ 81 t := mup_ne (by decide)
            refine ⟨⟨t0, tin⟩, ⟨by omega, by omega⟩, ⟨t0, tin⟩, ⟨by omega, by omega⟩, ⟨t0, tin⟩, ?_⟩
            rw [e79, e80, e81, hτ]
            have go2 : ∀ w : Int, (j' : Int) = j + w → (rg ((j : Int) + w)) ∧ Lb (d + 2 + 3) yMo_width 16 [(0, .ref 58), (2, vi (x2 + a)), (3, vi ((j : Int) + w))] [] τ (some v) σ' := fun w hw => ⟨⟨by omega, by omega⟩, by rw [← hw]; exact L⟩
            by_cases c : σ 79 t ≤ 3
            · rw [if_pos c] at hjj ⊢
              exact ⟨⟨by omega, by omega⟩, go2 0 hjj⟩
            · rw [if_neg c] at hjj ⊢
              exact ⟨⟨t0, tin⟩, ⟨by omega, by omega⟩, ⟨by rcases kd with k | k | k | k | k | k <;> omega, by rcases kd with k | k | k | k | k | k <;> omega⟩, go2 _ hjj⟩
          unfold B_Mo_width_63
          refine ⟨hb, ⟨t0, tin⟩, ?_⟩
          by_cases c4 : σ 79 t = 4
          · rw [if_neg (fun w => w c4)]
            rw [if_pos c4] at ha
            rw [← ha]; exact L'
          · rw [if_pos c4]
            refine ⟨⟨t0, tin⟩, ?_⟩
            rw [if_neg c4] at ha
            by_cases c5 : σ 79 t = 5
            · rw [if_neg (fun w => w c5)]
              rw [if_pos c5] at ha
              rw [← ha]; exact L'
            · rw [if_pos c5]
              rw [if_neg c5] at ha
              rw [← ha]; exact L'
        · obtain ⟨z1, z2⟩ := y1 (by omega)
          refine ⟨by omega, fun nl => ?_⟩
          rw [z2 nl, hbit]
          have ht := hoc nl
          have hto := R.oc nl
          constructor
          · intro q
            rcases q with (q | q) | ⟨i, hi, q⟩
            · exact Or.inl q
            · exact Or.inr ⟨j, by omega, hto.mp (ht.mpr (Or.inl q))⟩
            · by_cases ij : i < j
              · rw [lo i ij] at q; exact Or.inr ⟨i, Nat.lt_succ_of_lt ij, q⟩
              · exact Or.inr ⟨j, Nat.lt_succ_self j, hto.mp (ht.mpr (Or.inr ⟨i, ⟨Nat.le_of_not_lt ij, hi⟩, q⟩))⟩
          · intro q
            rcases q with q | ⟨i, hi, q⟩
            · exact Or.inl (Or.inl q)
            · by_cases ij : i < j
              · exact Or.inr ⟨i, Nat.lt_of_lt_of_le ij jj, by rw [lo i ij]; exact q⟩
              · have ei : i = j := Nat.le_antisymm (Nat.le_of_lt_succ hi) (Nat.le_of_not_lt ij)
                rw [ei] at q
                rcases ht.mp (hto.mpr q) with w | ⟨l, hl, w⟩
                · exact Or.inl (Or.inr w)
                · exact Or.inr ⟨l, hl.2, w⟩
      have lower : ∀ i : Nat, i < j → 0 ≤ τ 86 i ∧ τ 86 i < σ 58 35 := fun i hi => by rw [lo i hi]; exact hp i (by omega)
      have sj : swM μ (τ 86) j = swM μ (σ 86) j := swM_cg j lo
      rcases kd with k | k | k | k | k | k
      -- a variable, or a type without parts
      all_goals first
        | (have k3 : σ 79 t ≤ 3 := by omega
           have nk : σ 79 t ≠ 4 ∧ σ 79 t ≠ 5 := by omega
           have g1 : gw (μ t) = 1 := by
             rcases H.kd t0 t1 with q | q | q | q | q | q
             · rw [M.2 t t0 t1 q R.2]; rfl
             · rw [V.2.1 ⟨by show 1 ≤ σ 79 t; omega, by show σ 79 t ≤ 3; omega⟩]; rfl
             · rw [V.2.1 ⟨by show 1 ≤ σ 79 t; omega, by show σ 79 t ≤ 3; omega⟩]; rfl
             · rw [V.2.1 ⟨by show 1 ≤ σ 79 t; omega, by show σ 79 t ≤ 3; omega⟩]; rfl
             · omega
             · omega
           exact go j 1 (by omega) (by rw [if_neg nk.1, if_neg nk.2]) (by rw [if_pos k3]; omega) lower (by rw [sj, g1]) (fun nl => ⟨fun o => Or.inl ((oc_leaf R.2 nk.1 nk.2).mp o), fun q => by
             rcases q with q | ⟨i, hi, _⟩
             · exact (oc_leaf R.2 nk.1 nk.2).mpr q
             · omega⟩) (by omega))
        | skip
      · -- a list
        have g : gw (μ t) = 2 + gw (μ (σ 80 t)) := by rw [V.2.2.1 k.1]; rfl
        refine go (j + 1) 2 (by omega) (by rw [if_pos k.1]) (by rw [if_neg (by omega)]; omega) (fun i hi => ?_) ?_ (fun nl => ?_) (by omega)
        · by_cases ij : i < j
          · exact lower i ij
          · have : i = j := by omega
            subst this; rw [at0]; exact k.2
        · show swM μ (τ 86) j + gw (μ (τ 86 j)) + 2 = _
          rw [sj, at0, g]; omega
        · constructor
          · intro o
            rcases o.cs with q | ⟨q, _⟩ | ⟨_, q⟩ | ⟨q, _⟩
            · exact Or.inl q
            · exact absurd q R.2
            · exact Or.inr ⟨j, ⟨Nat.le_refl _, by omega⟩, by rw [at0]; exact q⟩
            · have q : σ 79 t = 5 := q; omega
          · intro q
            rcases q with q | ⟨i, hi, q⟩
            · rw [q]; exact Oc.self
            · have : i = j := by omega
              subst this; rw [at0] at q; exact Oc.p4 k.1 q
      · -- an arrow
        have e2 : ((mS σ).1 t).2.2 = σ 81 t := by show (if σ 79 t = 5 then σ 81 t else 0) = _; rw [if_pos k.1]
        have g : gw (μ t) = 3 + gw (μ (σ 80 t)) + gw (μ (σ 81 t)) := by
          have := V.2.2.2 k.1
          rw [e2] at this
          rw [this]; rfl
        refine go (j + 2) 3 (by omega) (by rw [if_neg (by omega), if_pos k.1]) (by rw [if_neg (by omega)]; omega) (fun i hi => ?_) ?_ (fun nl => ?_) (by omega)
        · by_cases ij : i < j
          · exact lower i ij
          · have : i = j ∨ i = j + 1 := by omega
            rcases this with rfl | rfl
            · rw [at0]; exact k.2.1
            · rw [show ((j + 1 : Nat) : Int) = (j : Int) + 1 by omega, at1]; exact k.2.2
        · show swM μ (τ 86) j + gw (μ (τ 86 j)) + gw (μ (τ 86 ((j + 1 : Nat) : Int))) + 3 = _
          rw [sj, at0, show ((j + 1 : Nat) : Int) = (j : Int) + 1 by omega, at1, g]; omega
        · constructor
          · intro o
            rcases o.cs with q | ⟨q, _⟩ | ⟨q, _⟩ | ⟨_, q⟩
            · exact Or.inl q
            · exact absurd q R.2
            · have q : σ 79 t = 4 := q; omega
            · rw [e2] at q
              rcases q with q | q
              · exact Or.inr ⟨j, ⟨Nat.le_refl _, by omega⟩, by rw [at0]; exact q⟩
              · exact Or.inr ⟨j + 1, ⟨by omega, by omega⟩, by rw [show ((j + 1 : Nat) : Int) = (j : Int) + 1 by omega, at1]; exact q⟩
          · intro q
            rcases q with q | ⟨i, hi, q⟩
            · rw [q]; exact Oc.self
            · have : i = j ∨ i = j + 1 := by omega
              rcases this with rfl | rfl
              · rw [at0] at q; exact Oc.p5 k.1 (Or.inl q)
              · rw [show ((j + 1 : Nat) : Int) = (j : Int) + 1 by omega, at1] at q
                exact Oc.p5 k.1 (Or.inr (by rw [e2]; exact q))
/-- how wide a type is shown; what stands in it -/
theorem s_width (H : MT σ) (M : MinV (mS σ).1 (mS σ).2.1 μ) (h0 : 0 ≤ n) (h1 : n < σ 58 35) : ∃ v σ', Rn (d + 6) yMo_width [.ref 58, vi n] σ (some v) σ' ∧ FW σ σ' ∧ (0 ≤ v ∧ v ≤ 200) ∧ (σ' 58 45 = 0 ∨ σ' 58 45 = 1) ∧ (gw (μ n) ≤ 80 → v = gw (μ n) ∧ (¬ lkd (mS σ).1 (σ 58 38) → (σ' 58 45 = 1 ↔ Oc (mS σ).1 (σ 58 38) n))) ∧ (80 < gw (μ n) → 80 < v) := by
  have hc := H.2.1
  generalize hτ : mup (mup σ 58 45 0) 86 0 n = τ
  have fτ : FW σ τ := by
    rw [← hτ]
    exact ⟨fun i p q => by rw [mup_obj q, mup_obj p], fun k p => by rw [mup_ne (by decide), mup_nk p]⟩
  obtain ⟨Hτ, eτ⟩ := fτ.mt H
  have m45 : τ 58 45 = 0 := by rw [← hτ, mup_ne (by decide), mup_eq]
  have at0 : τ 86 0 = n := by rw [← hτ, mup_eq]
  have c35 : τ 58 35 = σ 58 35 := fτ.2 35 (by decide)
  have w38 : τ 58 38 = σ 58 38 := fτ.2 38 (by decide)
  have ii := wd_l (d := d) (μ := μ) 84 1 0 τ Hτ (by rw [eτ]; exact M) (by decide) (by decide) (by decide) (fun i hi => by
    have : i = 0 := by omega
    subst this; rw [c35, show ((0 : Nat) : Int) = 0 from rfl, at0]; exact ⟨h0, h1⟩) (Or.inl m45)
  have es : swM μ (τ 86) 1 = gw (μ n) := by show 0 + gw (μ (τ 86 ((0 : Nat) : Int))) = _; rw [show ((0 : Nat) : Int) = 0 from rfl, at0]; omega
  rw [eτ, w38, m45, es] at ii
  obtain ⟨v, σ', L, F, gv, gm, y1, y2⟩ := ii
  refine ⟨v, σ', M_Mo_width (d := d + 2) ⟨by omega, by omega⟩ ⟨by decide, by rw [hτ]; exact L⟩, fτ.tr F, gv, gm, fun q => ?_, fun q => y2 (by omega)⟩
  obtain ⟨z1, z2⟩ := y1 (by omega)
  refine ⟨by omega, fun nl => (z2 nl).trans ⟨fun q => ?_, fun q => Or.inr ⟨0, by decide, by rw [show ((0 : Nat) : Int) = 0 from rfl, at0]; exact q⟩⟩⟩
  rcases q with q | ⟨i, hi, q⟩
  · exact absurd q (by decide)
  · have : i = 0 := by omega
    subst this
    rw [show ((0 : Nat) : Int) = 0 from rfl, at0] at q; exact q
def FW2 (σ σ' : Mem) : Prop := (∀ i, i ≠ 58 → i ≠ 86 → σ' i = σ i) ∧ ∀ k, k ≠ 45 → k ≠ 38 → σ' 58 k = σ 58 k
theorem s_standsIn (H : MT σ) (M : MinV (mS σ).1 (mS σ).2.1 μ) {v : Int} (hv : 0 ≤ v ∧ v < σ 58 35) (nl : ¬ lkd (mS σ).1 v) (h0 : 0 ≤ n) (h1 : n < σ 58 35) (hw : gw (μ n) ≤ 80) : ∃ b σ', Rn (d + 7) yMo_standsIn [.ref 58, vi v, vi n] σ (some b) σ' ∧ FW2 σ σ' ∧ (b = 0 ∨ b = 1) ∧ (b = 1 ↔ Oc (mS σ).1 v n) := by
  have hc := H.2.1
  have f0 : ∀ k, k ≠ 38 → (mup σ 58 38 v) 58 k = σ 58 k := fun k q => mup_nk q
  have o0 : ∀ i, i ≠ 58 → (mup σ 58 38 v) i = σ i := fun i q => mup_obj q
  obtain ⟨H0, e0⟩ := H.cg (σ' := mup σ 58 38 v) (o0 79 (by decide)) (o0 80 (by decide)) (o0 81 (by decide)) (o0 82 (by decide)) (f0 35 (by decide))
  obtain ⟨w, σ', R, F, gw0, gm, y1, -⟩ := s_width (d := d) (μ := μ) H0 (by rw [e0]; exact M) h0 (by rw [f0 35 (by decide)]; exact h1)
  have e38 : (mup σ 58 38 v) 58 38 = v := mup_eq
  rw [e0, e38] at y1
  obtain ⟨-, y⟩ := y1 hw
  have y := y nl
  have F2 : FW2 σ σ' := ⟨fun i p q => (F.1 i p q).trans (o0 i p), fun k p q => (F.2 k p).trans (f0 k q)⟩
  have mk : ∀ {b : Int}, (if w < 0 then B_Mo_standsIn_20 (d + 3) σ' (some b) σ' else (if σ' 58 45 = 0 then ((some b : Option Int) = some 0 ∧ σ' = σ') else B_Mo_standsIn_20 (d + 3) σ' (some b) σ')) → Rn (d + 7) yMo_standsIn [.ref 58, vi v, vi n] σ (some b) σ' := fun {b} h => M_Mo_standsIn (d := d + 3) ⟨by omega, by omega⟩ ⟨by omega, by omega⟩ ⟨w, σ', R, h⟩
  by_cases c : σ' 58 45 = 0
  · refine ⟨0, σ', mk ?_, F2, Or.inl rfl, ⟨fun q => absurd q (by decide), fun q => by have := y.mpr q; omega⟩⟩
    rw [if_neg (by omega), if_pos c]; exact ⟨rfl, rfl⟩
  · refine ⟨1, σ', mk ?_, F2, Or.inr rfl, ⟨fun _ => y.mp (by omega), fun _ => rfl⟩⟩
    rw [if_neg (by omega), if_neg c]
    exact ⟨rfl, rfl⟩
end MST
