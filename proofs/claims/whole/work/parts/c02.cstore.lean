/-! The class's store of types: resolve, make, how long a type is shown. -/
/-- how many variables are not linked -/
def uc (s : Sto) : Nat → Nat
  | 0 => 0
  | n + 1 => uc s n + (if (s n).1 = 0 ∧ ¬ lkd s n then 1 else 0)
theorem uc_eq {s s' : Sto} : ∀ {c : Nat}, (∀ n : Int, 0 ≤ n → n < c → s' n = s n) → uc s' c = uc s c
  | 0, _ => rfl
  | c + 1, h => by
    have e := h c (by omega) (by omega)
    unfold uc lkd
    rw [uc_eq (c := c) (fun n a b => h n a (by omega)), e]
theorem uc_lk {s : Sto} {v t b : Int} (hv : (s v).1 = 0 ∧ ¬ lkd s v) (ht : 0 ≤ t) (h0 : 0 ≤ v) : ∀ {c : Nat}, v < c → uc (upS s v (0, t, b)) c + 1 = uc s c
  | 0, h => by omega
  | c + 1, h => by
    unfold uc
    by_cases e : (c : Int) = v
    · have e1 : uc (upS s v (0, t, b)) c = uc s c := uc_eq (fun n a b => lk_ne (by omega))
      have e2 : ¬ ((upS s v (0, t, b) c).1 = 0 ∧ ¬ lkd (upS s v (0, t, b)) c) := fun q => q.2 (by unfold lkd; rw [e, lk_at]; exact ⟨rfl, ht⟩)
      rw [e1, if_neg e2, e, if_pos hv]
    · have := uc_lk (b := b) hv ht h0 (c := c) (by omega)
      have e2 : upS s v (0, t, b) c = s c := lk_ne e
      have e3 : (if (upS s v (0, t, b) c).1 = 0 ∧ ¬ lkd (upS s v (0, t, b)) c then 1 else 0) = (if (s c).1 = 0 ∧ ¬ lkd s c then 1 else 0) := by unfold lkd; rw [e2]
      rw [e3]; omega
/-- the kind of a node by its letter -/
def kC (z : Int) : Int := if z = 105 then 1 else if z = 98 then 2 else if z = 114 then 3 else if z = 91 then 4 else if z = 62 then 5 else 0
def cS (σ : Mem) : Sto := fun n => (kC (σ 40 n), σ 42 n, if σ 40 n = 62 then σ 44 n else 0)
def kdC (z : Int) : Prop := z = 105 ∨ z = 98 ∨ z = 114 ∨ z = 91 ∨ z = 62 ∨ z = 63
/-- links that can be followed -/
def SU (s : Sto) (c : Int) : Prop := ∃ (L : Nat) (st : Int → Nat), SS s c L st ∧ (L : Int) + uc s c.toNat ≤ c
def CI (σ : Mem) : Prop := WS (cS σ) (σ 38 5) ∧ (3 ≤ σ 38 5 ∧ σ 38 5 ≤ 3000) ∧ SU (cS σ) (σ 38 5) ∧ (σ 40 0 = 105 ∧ σ 40 1 = 98 ∧ σ 40 2 = 114) ∧ (∀ n, 0 ≤ n → n < σ 38 5 → kdC (σ 40 n) ∧ (σ 40 n = 63 → -1 ≤ σ 42 n) ∧ (3 ≤ n → σ 40 n = 63 ∨ σ 40 n = 91 ∨ σ 40 n = 62)) ∧ ∃ ρ, VS (cS σ) (σ 38 5) ρ
theorem kC_0 {z : Int} (h : kdC z) : (kC z = 0 ↔ z = 63) ∧ (kC z = 1 ↔ z = 105) ∧ (kC z = 2 ↔ z = 98) ∧ (kC z = 3 ↔ z = 114) ∧ (kC z = 4 ↔ z = 91) ∧ (kC z = 5 ↔ z = 62) := by
  rcases h with rfl | rfl | rfl | rfl | rfl | rfl <;> decide
section CST
variable {σ : Mem} {d : Nat}
theorem rw_in {i : Nat} {n : Int} (h0 : 0 ≤ n) (h1 : n < 3000) : rowv 3000 σ i n = σ i n := if_pos ⟨h0, h1⟩
theorem cS_lk (H : CI σ) {n : Int} (h0 : 0 ≤ n) (h1 : n < σ 38 5) : lkd (cS σ) n ↔ (σ 40 n = 63 ∧ σ 42 n ≠ -1) := by
  obtain ⟨k1, k2, -⟩ := H.2.2.2.2.1 n h0 h1
  have k := kC_0 k1
  constructor
  · intro ⟨a, b⟩
    have a : kC (σ 40 n) = 0 := a
    have b : 0 ≤ σ 42 n := b
    exact ⟨k.1.mp a, by omega⟩
  · intro ⟨a, b⟩
    have := k2 a
    exact ⟨k.1.mpr a, by show 0 ≤ σ 42 n; omega⟩
/-- what a type comes to -/
def rC (σ : Mem) (n : Int) : Int := rv (cS σ) 3000 n
theorem res_l (H : CI σ) : ∀ (k : Nat) (n i : Int), (k : Int) + i = 3000 → 0 ≤ i → 0 ≤ n → n < σ 38 5 → ¬ lkd (cS σ) (rv (cS σ) k n) → Lb (d + 3) yTy_resolve 4 [(0, .ref 38), (2, vi n), (3, vi i)] [] σ (some (rv (cS σ) k n)) σ
  | 0, n, i, hk, hi, h0, h1, hr => by
    have hc := H.2.1
    refine K_Ty_resolve_4 ⟨by omega, by omega⟩ ⟨by omega, by omega⟩ ?_
    unfold B_Ty_resolve_4
    rw [if_pos (by omega)]
    exact ⟨rfl, rfl⟩
  | k + 1, n, i, hk, hi, h0, h1, hr => by
    have hc := H.2.1
    have w := H.1 n h0 h1
    have lk := cS_lk H h0 h1
    refine K_Ty_resolve_4 ⟨by omega, by omega⟩ ⟨by omega, by omega⟩ ?_
    unfold B_Ty_resolve_4
    rw [if_neg (by omega), rw_in h0 (by omega), rw_in h0 (by omega)]
    unfold rv at hr ⊢
    by_cases q : lkd (cS σ) n
    · rw [if_pos q] at hr ⊢
      have q' := lk.mp q
      rw [if_neg (fun h => h q'.1), if_neg q'.2]
      exact ⟨⟨by omega, by omega⟩, res_l H k (σ 42 n) (i + 1) (by omega) (by omega) q.2 (w.2.1 q) hr⟩
    · rw [if_neg q] at hr ⊢
      by_cases e : σ 40 n = 63
      · rw [if_neg (fun h => h e)]
        have : σ 42 n = -1 := Classical.byContradiction (fun h => q (lk.mpr ⟨e, h⟩))
        rw [if_pos this]
        exact ⟨rfl, rfl⟩
      · rw [if_pos e]
        exact ⟨rfl, rfl⟩
theorem rC_root (H : CI σ) {n : Int} (h0 : 0 ≤ n) (h1 : n < σ 38 5) : ¬ lkd (cS σ) (rC σ n) ∧ 0 ≤ rC σ n ∧ rC σ n < σ 38 5 := by
  obtain ⟨L, st, S, hL⟩ := H.2.2.1
  have hc := H.2.1
  refine ⟨rv_root H.1 S 3000 n h0 h1 (fun q => ?_), rv_in H.1 3000 n h0 h1⟩
  have := S n h0 h1 q
  omega
theorem s_resolve (H : CI σ) {n : Int} (h0 : 0 ≤ n) (h1 : n < σ 38 5) : Rn (d + 4) yTy_resolve [.ref 38, vi n] σ (some (rC σ n)) σ := by
  have hc := H.2.1
  exact M_Ty_resolve ⟨by omega, by omega⟩ (res_l H 3000 n 0 (by decide) (by decide) h0 h1 (rC_root H h0 h1).1)
theorem rC_val {ρ : Int → GT} (H : CI σ) (V : VS (cS σ) (σ 38 5) ρ) {n : Int} (h0 : 0 ≤ n) (h1 : n < σ 38 5) : ρ (rC σ n) = ρ n := rv_val H.1 V 3000 n h0 h1
/-- what a root is -/
theorem root_k (H : CI σ) {n : Int} (h0 : 0 ≤ n) (h1 : n < σ 38 5) (hr : ¬ lkd (cS σ) n) : (σ 40 n = 63 ∧ σ 42 n = -1) ∨ σ 40 n = 105 ∨ σ 40 n = 98 ∨ σ 40 n = 114 ∨ (σ 40 n = 91 ∧ 0 ≤ σ 42 n ∧ σ 42 n < σ 38 5) ∨ (σ 40 n = 62 ∧ (0 ≤ σ 42 n ∧ σ 42 n < σ 38 5) ∧ 0 ≤ σ 44 n ∧ σ 44 n < σ 38 5) := by
  obtain ⟨k1, k2, -⟩ := H.2.2.2.2.1 n h0 h1
  have lk := cS_lk H h0 h1
  have w := H.1 n h0 h1
  have k := kC_0 k1
  rcases k1 with e | e | e | e | e | e
  · exact Or.inr (Or.inl e)
  · exact Or.inr (Or.inr (Or.inl e))
  · exact Or.inr (Or.inr (Or.inr (Or.inl e)))
  · exact Or.inr (Or.inr (Or.inr (Or.inr (Or.inl ⟨e, w.2.2.1 (k.2.2.2.2.1.mpr e)⟩))))
  · have q := w.2.2.2 (k.2.2.2.2.2.mpr e)
    rw [show (cS σ n).2.2 = σ 44 n from if_pos e] at q
    exact Or.inr (Or.inr (Or.inr (Or.inr (Or.inr ⟨e, q⟩))))
  · exact Or.inl ⟨e, Classical.byContradiction (fun h => hr (lk.mpr ⟨e, h⟩))⟩
/-- the values when every variable is a number: no wider than any -/
def MinV (s : Sto) (c : Int) (ρ : Int → GT) : Prop := VS s c ρ ∧ ∀ n, 0 ≤ n → n < c → (s n).1 = 0 → ¬ lkd s n → ρ n = gK 1
theorem min_ex (H : CI σ) : ∃ ρ, MinV (cS σ) (σ 38 5) ρ := by
  obtain ⟨L, st, S, hL⟩ := H.2.2.1
  obtain ⟨ρ, V⟩ := H.2.2.2.2.2
  obtain ⟨ρ', V', h⟩ := EvS H.1 V S (fun _ => gK 1)
  exact ⟨ρ', V', h⟩
/-- how many characters show a type: right up to 80, else more -/
theorem s_length (H : CI σ) {ρ : Int → GT} (M : MinV (cS σ) (σ 38 5) ρ) : ∀ (k : Nat) (n x : Int), (k : Int) + x = 41 → 0 ≤ x → 0 ≤ n → n < σ 38 5 → ∃ v, Rn (k + d + 5) yTy_length [.ref 38, vi n, vi x] σ (some v) σ ∧ (1 ≤ v ∧ v ≤ 81 + 83 * k) ∧ (v ≤ 80 → gw (ρ n) = v) ∧ (80 < v → 80 < gw (ρ n) + 2 * x)
  | 0, n, x, hk, hx, h0, h1 => by
    have hc := H.2.1
    have g := gw_ge (t := ρ n)
    refine ⟨81, M_Ty_length (d := 0 + d + 1) ⟨by omega, by omega⟩ ⟨by omega, by omega⟩ ?_, by omega, fun h => by omega, fun h => by omega⟩
    unfold B_Ty_length
    rw [if_neg (by omega)]
    exact ⟨rfl, rfl⟩
  | k + 1, n, x, hk, hx, h0, h1 => by
    have hc := H.2.1
    obtain ⟨hr, r0, r1⟩ := rC_root H h0 h1
    have R := s_resolve (d := k + 1 + d) H h0 h1
    have ev := rC_val H M.1 h0 h1
    have V := M.1 _ r0 r1
    generalize rC σ n = r at *
    have m : ∀ {v : Int}, B_Ty_length (k + 1 + d + 1) n x σ (some v) σ → Rn (k + 1 + d + 5) yTy_length [.ref 38, vi n, vi x] σ (some v) σ := fun h => M_Ty_length ⟨by omega, by omega⟩ ⟨by omega, by omega⟩ h
    have ek : (((k + 1 : Nat)) : Int) = k + 1 := by omega
    rw [← ev]
    have base : σ 40 r ≠ 62 → σ 40 r ≠ 91 → gw (ρ r) = 1 → ∃ v, Rn (k + 1 + d + 5) yTy_length [.ref 38, vi n, vi x] σ (some v) σ ∧ (1 ≤ v ∧ v ≤ 81 + 83 * ((k + 1 : Nat) : Int)) ∧ (v ≤ 80 → gw (ρ r) = v) ∧ (80 < v → 80 < gw (ρ r) + 2 * x) := by
      intro e1 e2 e3
      refine ⟨1, m ?_, by omega, fun _ => e3, fun h => by omega⟩
      unfold B_Ty_length
      rw [if_pos (by omega)]
      refine ⟨_, _, R, ?_⟩
      rw [rw_in r0 (by omega), if_neg e1, if_neg e2]
      exact ⟨rfl, rfl⟩
    rcases root_k H r0 r1 hr with ⟨e, -⟩ | e | e | e | ⟨e, f0, f1⟩ | ⟨e, ⟨f0, f1⟩, g0, g1⟩
    · exact base (by omega) (by omega) (by rw [M.2 r r0 r1 (by show kC (σ 40 r) = 0; rw [e]; rfl) hr]; rfl)
    · exact base (by omega) (by omega) (by rw [V.2.1 (by show 1 ≤ kC (σ 40 r) ∧ kC (σ 40 r) ≤ 3; rw [e]; decide)]; rfl)
    · exact base (by omega) (by omega) (by rw [V.2.1 (by show 1 ≤ kC (σ 40 r) ∧ kC (σ 40 r) ≤ 3; rw [e]; decide)]; rfl)
    · exact base (by omega) (by omega) (by rw [V.2.1 (by show 1 ≤ kC (σ 40 r) ∧ kC (σ 40 r) ≤ 3; rw [e]; decide)]; rfl)
    · have er : gw (ρ r) = 2 + gw (ρ (σ 42 r)) := by
        rw [V.2.2.1 (by show kC (σ 40 r) = 4; rw [e]; decide)]; rfl
      obtain ⟨v, hv, hb, p1, p2⟩ := s_length H M k (σ 42 r) (x + 1) (by omega) (by omega) f0 f1
      refine ⟨2 + v, m ?_, by omega, fun h => by have := p1 (by omega); omega, fun h => ?_⟩
      · unfold B_Ty_length
        rw [if_pos (by omega)]
        refine ⟨_, _, R, ?_⟩
        rw [rw_in r0 (by omega), if_neg (by omega), if_pos e, rw_in r0 (by omega)]
        rw [show k + d + 5 = k + 1 + d + 1 + 3 by omega] at hv
        exact ⟨v, _, hv, ⟨by omega, by omega⟩, rfl, rfl⟩
      · by_cases q : v ≤ 80
        · have := p1 q; omega
        · have := p2 (by omega); omega
    · have er : gw (ρ r) = 3 + gw (ρ (σ 42 r)) + gw (ρ (σ 44 r)) := by
        rw [V.2.2.2 (by show kC (σ 40 r) = 5; rw [e]; decide), show (cS σ r).2.2 = σ 44 r from if_pos e]; rfl
      obtain ⟨v, hv, hb, p1, p2⟩ := s_length H M k (σ 42 r) (x + 1) (by omega) (by omega) f0 f1
      obtain ⟨u, hu, hub, u1, u2⟩ := s_length H M k (σ 44 r) (x + 1) (by omega) (by omega) g0 g1
      have ga := gw_ge (t := ρ (σ 42 r))
      have gb := gw_ge (t := ρ (σ 44 r))
      rw [show k + d + 5 = k + 1 + d + 1 + 3 by omega] at hv hu
      by_cases q : v ≤ 80
      · have pv := p1 q
        refine ⟨3 + v + u, m ?_, by omega, fun h => by have := u1 (by omega); omega, fun h => ?_⟩
        · unfold B_Ty_length
          rw [if_pos (by omega)]
          refine ⟨_, _, R, ?_⟩
          rw [rw_in r0 (by omega), if_pos e, rw_in r0 (by omega)]
          refine ⟨v, _, hv, ?_⟩
          rw [if_pos q, rw_in r0 (by omega)]
          exact ⟨u, _, hu, ⟨by omega, by omega⟩, rfl, rfl⟩
        · by_cases q2 : u ≤ 80
          · have := u1 q2; omega
          · have := u2 (by omega); omega
      · refine ⟨v, m ?_, by omega, fun h => by omega, fun h => by have := p2 (by omega); omega⟩
        unfold B_Ty_length
        rw [if_pos (by omega)]
        refine ⟨_, _, R, ?_⟩
        rw [rw_in r0 (by omega), if_pos e, rw_in r0 (by omega)]
        refine ⟨v, _, hv, ?_⟩
        rw [if_neg q]
        exact ⟨rfl, rfl⟩
/-- is it shown with more than 80 characters? -/
theorem s_tooLong (H : CI σ) {ρ : Int → GT} (M : MinV (cS σ) (σ 38 5) ρ) {n : Int} (h0 : 0 ≤ n) (h1 : n < σ 38 5) : Rn (d + 47) yTy_tooLong [.ref 38, vi n] σ (some (if gw (ρ n) ≤ 80 then 0 else 1)) σ := by
  have hc := H.2.1
  obtain ⟨v, hv, -, p1, p2⟩ := s_length (d := d) H M 41 n 0 rfl (by decide) h0 h1
  refine M_Ty_tooLong (d := d + 43) ⟨by omega, by omega⟩ ⟨v, σ, ?_, ?_⟩
  · rw [show d + 43 + 3 = 41 + d + 5 by omega]; exact hv
  · by_cases q : v ≤ 80
    · rw [if_pos q, if_pos (by rw [p1 q]; exact q)]; exact ⟨rfl, rfl⟩
    · rw [if_neg q, if_neg (by have := p2 (by omega); omega)]; exact ⟨rfl, rfl⟩
end CST
