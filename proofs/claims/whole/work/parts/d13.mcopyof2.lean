/-! The model's copyOf, whole; instance: all nodes. -/
/-- the first j copies have their parts -/
def IC (σ0 σ : Mem) (K j : Nat) : Prop := ∀ i : Nat, i < j → (4 ≤ σ0 79 (σ 87 i) → SF σ0 σ K (σ0 80 (σ 87 i)) (σ 80 (σ0 58 35 + i))) ∧ (σ0 79 (σ 87 i) = 5 → SF σ0 σ K (σ0 81 (σ 87 i)) (σ 81 (σ0 58 35 + i)))
section MC2
variable {σ σ' σ0 : Mem} {d : Nat} {n0 x r a : Int} {K K' B j : Nat}
theorem m_copyOf (H : MT σ0) (A : IA σ0 σ K) (I : IB σ0 σ n0 K) (Bd : BdC σ0 n0 B) (h0 : 0 ≤ x) (h1 : x < σ0 58 35) (ox : Oc (mS σ0).1 x n0) : ∃ a σ' K', Rn (d + 6) yMo_copyOf [.ref 58, vi x] σ (some a) σ' ∧ K ≤ K' ∧ IA σ0 σ' K' ∧ IB σ0 σ' n0 K' ∧ SF σ0 σ' K' x a ∧ (∀ i : Nat, i < K → σ' 87 i = σ 87 i) ∧ (∀ m, m < σ0 58 35 + K → σ' 80 m = σ 80 m ∧ σ' 81 m = σ 81 m) ∧ 0 ≤ a ∧ a < σ0 58 35 + K' := by
  have hc := H.2.1
  obtain ⟨r, R⟩ := rt_ex H h0 h1
  have ri := R.in H h0 h1
  have orr : Oc (mS σ0).1 r n0 := by
    obtain ⟨⟨k, e⟩, -⟩ := R
    rw [e]; exact (oc_rt k x).tr ox
  have rl := o_real (d := d + 1) H A h0 h1 R
  have g := A.2.2.2.2 r ri.1 ri.2
  have kd := H.kd ri.1 ri.2
  have z5 := H.2.2.2.2.1 r ri.1 ri.2
  have c35 := A.2.2.2.1
  have t39 := A.2.2.1
  have bK := bd_0 Bd I
  have bB := Bd.1
  have hx : rg x := ⟨by omega, by omega⟩
  have w := H.1.1 r ri.1 ri.2
  have w4 : σ0 79 r = 4 → 0 ≤ σ0 80 r ∧ σ0 80 r < σ0 58 35 := w.2.2.1
  have w5 : σ0 79 r = 5 → (0 ≤ σ0 80 r ∧ σ0 80 r < σ0 58 35) ∧ 0 ≤ σ0 81 r ∧ σ0 81 r < σ0 58 35 := fun q => by
    have y := w.2.2.2 q
    have e81 : ((mS σ0).1 r).2.2 = σ0 81 r := by show (if σ0 79 r = 5 then σ0 81 r else 0) = _; rw [if_pos q]
    rw [e81] at y
    exact y
  -- shared
  by_cases sh : (1 ≤ σ0 79 r ∧ σ0 79 r ≤ 3) ∨ (σ0 79 r = 0 ∧ σ0 81 r = 0)
  · refine ⟨r, σ, K, M_Mo_copyOf (d := d + 2) hx ⟨r, σ, rl, ⟨by omega, by omega⟩, ?_⟩, Nat.le_refl _, A, I, ⟨r, R, Or.inr ⟨rfl, sh⟩⟩, fun _ _ => rfl, fun _ _ => ⟨rfl, rfl⟩, by omega, by omega⟩
    rcases sh with q | q
    · rw [if_neg (by omega)]
      refine ⟨⟨by omega, by omega⟩, ?_⟩
      rw [if_pos (by omega)]; exact ⟨rfl, rfl⟩
    · rw [if_pos (by omega)]
      unfold B_Mo_copyOf_25
      refine ⟨⟨by omega, by omega⟩, ?_⟩
      rw [if_neg (by omega)]
      refine ⟨⟨by omega, by omega⟩, ?_⟩
      rw [if_neg (by omega)]; exact ⟨rfl, rfl⟩
  · have t : tOk σ0 n0 r := ⟨ri, orr, R.2, by
      rcases kd with k | k | k | k | k | k
      · left; have := (z5.1 k).2; omega
      · omega
      · omega
      · omega
      · exact Or.inr (Or.inl k)
      · exact Or.inr (Or.inr k)⟩
    -- the way to 45
    have way : ∀ a σ', B_Mo_copyOf_45 (d + 2) r σ (some a) σ' → Rn (d + 6) yMo_copyOf [.ref 58, vi x] σ (some a) σ' := fun a σ' h => by
      refine M_Mo_copyOf (d := d + 2) hx ⟨r, σ, rl, ⟨by omega, by omega⟩, ?_⟩
      have h25 : B_Mo_copyOf_25 (d + 2) r σ (some a) σ' := by
        unfold B_Mo_copyOf_25
        refine ⟨⟨by omega, by omega⟩, ?_⟩
        by_cases q : σ 79 r ≠ 0
        · rw [if_pos q]; exact h
        · rw [if_neg q]
          refine ⟨⟨by omega, by omega⟩, ?_⟩
          rw [if_pos (by have := t.2.2.2; omega)]; exact h
      by_cases q : σ 79 r ≤ 0
      · rw [if_pos q]; exact h25
      · rw [if_neg q]
        refine ⟨⟨by omega, by omega⟩, ?_⟩
        rw [if_neg (by have := t.2.2.2; omega)]; exact h25
    by_cases ol : ∃ i : Nat, i < K ∧ σ 87 i = r
    · -- copied before
      obtain ⟨i, hi, e⟩ := ol
      have v := I.2.2.2.1 i hi
      rw [e] at v
      refine ⟨σ 82 r, σ, K, way _ _ ?_, Nat.le_refl _, A, I, ⟨r, R, Or.inl ⟨i, hi, e, v⟩⟩, fun _ _ => rfl, fun _ _ => ⟨rfl, rfl⟩, by omega, by omega⟩
      unfold B_Mo_copyOf_45
      refine ⟨⟨by omega, by omega⟩, ?_⟩
      rw [if_pos (by omega)]
      exact ⟨⟨by omega, by omega⟩, rfl, rfl⟩
    · have nw : ∀ i : Nat, i < K → σ 87 i ≠ r := fun i hi e => ol ⟨i, hi, e⟩
      have b1 := bd_1 Bd I t nw
      have v82 := I.2.2.1 r ri.1 ri.2 nw
      have res : ∀ aa bb, (σ0 79 r = 0 → aa = -1 ∧ bb = 0) → (σ0 79 r = 4 → bb = 0) → B_Mo_copyOf_45 (d + 2) r σ (some (σ0 58 35 + K)) (cpM σ r (σ0 79 r) aa bb) → ∃ a σ' K', Rn (d + 6) yMo_copyOf [.ref 58, vi x] σ (some a) σ' ∧ K ≤ K' ∧ IA σ0 σ' K' ∧ IB σ0 σ' n0 K' ∧ SF σ0 σ' K' x a ∧ (∀ i : Nat, i < K → σ' 87 i = σ 87 i) ∧ (∀ m, m < σ0 58 35 + K → σ' 80 m = σ 80 m ∧ σ' 81 m = σ 81 m) ∧ 0 ≤ a ∧ a < σ0 58 35 + K' := fun aa bb q0 q4 h => by
        obtain ⟨A', I', lo, at_, rest, -⟩ := cp_new (a := aa) (b := bb) H A I t nw rfl q0 q4
        exact ⟨σ0 58 35 + K, _, K + 1, way _ _ h, by omega, A', I', ⟨r, R, Or.inl ⟨K, by omega, at_, rfl⟩⟩, lo, rest, by omega, by push_cast; omega⟩
      -- what comes after the node was made
      have fin : ∀ kk aa bb, B_Mo_copyOf_97 (d + 2) r r (σ 58 35) (mkM σ kk aa bb) (some (σ0 58 35 + K)) (cpM σ r kk aa bb) := fun kk aa bb => by
        have m39 : (mkM σ kk aa bb) 58 39 = σ 58 39 := mkM.fk_39
        unfold B_Mo_copyOf_97
        rw [m39]
        refine ⟨⟨by omega, by omega⟩, ⟨by omega, by omega⟩, ⟨by omega, by omega⟩, ?_⟩
        unfold B_Mo_copyOf_118
        refine ⟨⟨by omega, by omega⟩, ?_, rfl⟩
        rw [mup_ne (by decide), mup_ne (by decide), mup_eq, c35]
      by_cases k0 : σ0 79 r = 0
      · refine res (-1) 0 (fun _ => ⟨rfl, rfl⟩) (fun _ => rfl) ?_
        unfold B_Mo_copyOf_45
        refine ⟨⟨by omega, by omega⟩, ?_⟩
        rw [if_neg (by omega)]
        refine ⟨⟨by omega, by omega⟩, ?_⟩
        rw [if_neg (by omega)]
        refine ⟨σ 58 35, mkM σ 0 (-1) 0, M_Mo_fresh (d := d + 1) ⟨_, _, r_make (d := d) (by omega) (by omega) (rgk rfl) (rgk rfl) (rgk rfl), rfl, rfl⟩, ?_⟩
        rw [k0]
        exact fin 0 (-1) 0
      · refine res (σ0 80 r) (σ0 81 r) (fun q => absurd q k0) (fun q => z5.2 q) ?_
        unfold B_Mo_copyOf_45
        refine ⟨⟨by omega, by omega⟩, ?_⟩
        rw [if_neg (by omega)]
        refine ⟨⟨by omega, by omega⟩, ?_⟩
        rw [if_pos (by omega)]
        refine ⟨⟨by omega, by omega⟩, ⟨by omega, by omega⟩, ⟨by omega, by omega⟩, σ 58 35, mkM σ (σ0 79 r) (σ0 80 r) (σ0 81 r), ?_, fin _ _ _⟩
        rw [g.1, g.2.1, g.2.2]
        have k45 := t.2.2.2
        refine r_make (d := d + 1) (by omega) (by omega) ⟨by omega, by omega⟩ ?_ ?_
        · rcases k45 with q | q | q
          · omega
          · have := w4 q; exact ⟨by omega, by omega⟩
          · have := w5 q; exact ⟨by omega, by omega⟩
        · rcases k45 with q | q | q
          · omega
          · have := z5.2 q; exact ⟨by omega, by omega⟩
          · have := w5 q; exact ⟨by omega, by omega⟩
/-- a part is put into a copy -/
theorem put_p (A : IA σ0 σ K) (I : IB σ0 σ n0 K) (hj : j < K) {z : Int} : IA σ0 (mup σ 80 (σ0 58 35 + j) z) K ∧ (σ0 79 (σ 87 j) ≠ 0 → IB σ0 (mup σ 80 (σ0 58 35 + j) z) n0 K) := by
  obtain ⟨F, i44, t39, c35, ag⟩ := A
  obtain ⟨b1, b2, b3, b4, b5, b6⟩ := I
  have ob : ∀ i, i ≠ 80 → (mup σ 80 (σ0 58 35 + j) z) i = σ i := fun i h => mup_obj h
  have o58 := ob 58 (by decide)
  have o79 := ob 79 (by decide)
  have o81 := ob 81 (by decide)
  have o82 := ob 82 (by decide)
  have o87 := ob 87 (by decide)
  refine ⟨⟨F.tr ⟨fun i _ _ h _ _ _ _ => ob i h, fun k _ _ _ _ _ => by rw [o58]⟩, by rw [o58]; exact i44, by rw [o58]; exact t39, by rw [o58]; exact c35, fun m h1 h2 => ?_⟩, fun nk => ⟨by rw [o87]; exact b1, by rw [o87]; exact b2, by rw [o82, o87]; exact b3, by rw [o82, o87]; exact b4, by rw [o82]; exact b5, fun i hi => ?_⟩⟩
  · rw [o79, o81, mup_nk (by omega)]; exact ag m h1 h2
  · have q := b6 i hi
    rw [o79, o81, o87]
    refine ⟨q.1, fun k => ?_, q.2.2⟩
    by_cases e : i = j
    · rw [e] at k; exact absurd k nk
    · rw [mup_nk (by omega)]; exact q.2.1 k
theorem put_q (A : IA σ0 σ K) (I : IB σ0 σ n0 K) (hj : j < K) {z : Int} : IA σ0 (mup σ 81 (σ0 58 35 + j) z) K ∧ (σ0 79 (σ 87 j) = 5 → IB σ0 (mup σ 81 (σ0 58 35 + j) z) n0 K) := by
  obtain ⟨F, i44, t39, c35, ag⟩ := A
  obtain ⟨b1, b2, b3, b4, b5, b6⟩ := I
  have ob : ∀ i, i ≠ 81 → (mup σ 81 (σ0 58 35 + j) z) i = σ i := fun i h => mup_obj h
  have o58 := ob 58 (by decide)
  have o79 := ob 79 (by decide)
  have o80 := ob 80 (by decide)
  have o82 := ob 82 (by decide)
  have o87 := ob 87 (by decide)
  refine ⟨⟨F.tr ⟨fun i _ _ _ h _ _ _ => ob i h, fun k _ _ _ _ _ => by rw [o58]⟩, by rw [o58]; exact i44, by rw [o58]; exact t39, by rw [o58]; exact c35, fun m h1 h2 => ?_⟩, fun k5 => ⟨by rw [o87]; exact b1, by rw [o87]; exact b2, by rw [o82, o87]; exact b3, by rw [o82, o87]; exact b4, by rw [o82]; exact b5, fun i hi => ?_⟩⟩
  · rw [o79, o80, mup_nk (by omega)]; exact ag m h1 h2
  · have q := b6 i hi
    rw [o79, o80, o87]
    by_cases e : i = j
    · rw [e] at q ⊢
      exact ⟨q.1, fun k => by omega, fun k => by omega⟩
    · rw [mup_nk (by omega)]; exact q
end MC2
