/-! The model's instance. -/
section MIN
variable {σ σ' σ0 : Mem} {d : Nat} {n0 x r a : Int} {K K' B j : Nat}
theorem ins_139 : ∀ (f j : Nat) (σ : Mem), j + f = K → σ 58 39 = K → K ≤ 200 → rg a → (∀ i : Nat, i < K → 0 ≤ σ 87 i ∧ σ 87 i < 1300) → ∃ s', Lb (d + 3) yMo_instance 139 [(0, .ref 58), (2, vi a), (3, vi (j : Int))] [] σ (some a) s' ∧ (∀ i, i ≠ 82 → s' i = σ i) ∧ (∀ m, s' 82 m = σ 82 m ∨ s' 82 m = -1) ∧ ∀ i : Nat, j ≤ i → i < K → s' 82 (σ 87 i) = -1 := by
  intro f
  induction f with
  | zero =>
    intro j σ he h39 hK ha hr
    refine ⟨σ, K_Mo_instance_139 ha ⟨by omega, by omega⟩ ?_, fun _ _ => rfl, fun _ => Or.inl rfl, fun i h1 h2 => by omega⟩
    unfold B_Mo_instance_139
    rw [if_pos (by omega)]; exact ⟨rfl, rfl⟩
  | succ f ih =>
    intro j σ he h39 hK ha hr
    have o87 : (mup σ 82 (σ 87 j) (-1)) 87 = σ 87 := mup_obj (by decide)
    have o39 : (mup σ 82 (σ 87 j) (-1)) 58 39 = σ 58 39 := mup_ne (by decide)
    obtain ⟨s', l, ob, an, dn⟩ := ih (j + 1) (mup σ 82 (σ 87 j) (-1)) (by omega) (by rw [o39]; exact h39) hK ha (by rw [o87]; exact hr)
    have hj := hr j (by omega)
    refine ⟨s', K_Mo_instance_139 ha ⟨by omega, by omega⟩ ?_, fun i h => (ob i h).trans (mup_obj h), fun m => ?_, fun i h1 h2 => ?_⟩
    · unfold B_Mo_instance_139
      rw [if_neg (by omega)]
      refine ⟨⟨by omega, by omega⟩, hj, ⟨by omega, by omega⟩, ?_⟩
      have e : ((j : Nat) : Int) + 1 = ((j + 1 : Nat) : Int) := by omega
      rw [e]; exact l
    · rcases an m with q | q
      · by_cases e : m = σ 87 j
        · rw [e, mup_eq] at q; rw [e]; exact Or.inr q
        · rw [mup_nk e] at q; exact Or.inl q
      · exact Or.inr q
    · by_cases e : i = j
      · rcases an (σ 87 i) with q | q
        · rw [q, e, mup_eq]
        · exact q
      · have := dn i (by omega) h2
        rw [o87] at this; exact this
theorem IC.up (C : IC σ0 σ K j) (hK : K ≤ K') (hj : j ≤ K) (e : ∀ i : Nat, i < K → σ' 87 i = σ 87 i) (e2 : ∀ m, m < σ0 58 35 + j → σ' 80 m = σ 80 m ∧ σ' 81 m = σ 81 m) : IC σ0 σ' K' j := fun i hi => by
  have c := C i hi
  have q := e2 (σ0 58 35 + i) (by omega)
  rw [e i (by omega), q.1, q.2]
  exact ⟨fun h => (c.1 h).up hK e, fun h => (c.2 h).up hK e⟩
/-- from j processed copies to all -/
theorem ins_48 (H : MT σ0) (Bd : BdC σ0 n0 B) (ha : rg a) : ∀ (f j K : Nat) (σ : Mem), j + f = B → j ≤ K → IA σ0 σ K → IB σ0 σ n0 K → IC σ0 σ K j → ∃ σ' s' K', Lb (d + 6) yMo_instance 48 [(0, .ref 58), (2, vi a), (3, vi (j : Int))] [] σ (some a) s' ∧ K ≤ K' ∧ IA σ0 σ' K' ∧ IB σ0 σ' n0 K' ∧ IC σ0 σ' K' K' ∧ (∀ i : Nat, i < K → σ' 87 i = σ 87 i) ∧ (∀ i, i ≠ 82 → s' i = σ' i) ∧ (∀ m, s' 82 m = σ' 82 m ∨ s' 82 m = -1) ∧ ∀ i : Nat, i < K' → s' 82 (σ' 87 i) = -1 := by
  have hc := H.2.1
  have bB := Bd.1
  intro f
  induction f with
  | zero =>
    intro j K σ he hj A I C
    have bK := bd_0 Bd I
    have t39 := A.2.2.1
    have jK : j = K := by omega
    obtain ⟨s', l, ob, an, dn⟩ := ins_139 (K := K) (d := d + 3) (a := a) K 0 σ (by omega) t39 (by omega) ha (fun i hi => by have := (I.1 i hi).1; omega)
    refine ⟨σ, s', K, K_Mo_instance_48 (d := d + 3) ha ⟨by omega, by omega⟩ ?_, Nat.le_refl _, A, I, by rw [jK] at C; exact C, fun _ _ => rfl, ob, an, fun i hi => dn i (by omega) hi⟩
    unfold B_Mo_instance_48
    rw [if_pos (by omega)]; exact l
  | succ f ih =>
    intro j K σ he hj A I C
    have bK := bd_0 Bd I
    have t39 := A.2.2.1
    by_cases jK : j = K
    · obtain ⟨s', l, ob, an, dn⟩ := ins_139 (K := K) (d := d + 3) (a := a) K 0 σ (by omega) t39 (by omega) ha (fun i hi => by have := (I.1 i hi).1; omega)
      refine ⟨σ, s', K, K_Mo_instance_48 (d := d + 3) ha ⟨by omega, by omega⟩ ?_, Nat.le_refl _, A, I, by rw [jK] at C; exact C, fun _ _ => rfl, ob, an, fun i hi => dn i (by omega) hi⟩
      unfold B_Mo_instance_48
      rw [if_pos (by omega)]; exact l
    · have hjK : j < K := by omega
      have t := I.1 j hjK
      have tr := t.1
      have v82 := I.2.2.2.1 j hjK
      have g := A.2.2.2.2 (σ 87 j) t.1.1 t.1.2
      have w := H.1.1 (σ 87 j) t.1.1 t.1.2
      have w4 : σ0 79 (σ 87 j) = 4 → 0 ≤ σ0 80 (σ 87 j) ∧ σ0 80 (σ 87 j) < σ0 58 35 := w.2.2.1
      have e81 : σ0 79 (σ 87 j) = 5 → ((mS σ0).1 (σ 87 j)).2.2 = σ0 81 (σ 87 j) := fun q => by show (if σ0 79 (σ 87 j) = 5 then σ0 81 (σ 87 j) else 0) = _; rw [if_pos q]
      have w5 : σ0 79 (σ 87 j) = 5 → (0 ≤ σ0 80 (σ 87 j) ∧ σ0 80 (σ 87 j) < σ0 58 35) ∧ 0 ≤ σ0 81 (σ 87 j) ∧ σ0 81 (σ 87 j) < σ0 58 35 := fun q => by
        have y := w.2.2.2 q
        rw [e81 q] at y
        exact y
      have kd := t.2.2.2
      -- to the next
      have nxt : ∀ m K1, K ≤ K1 → IA σ0 m K1 → IB σ0 m n0 K1 → IC σ0 m K1 (j + 1) → (∀ i : Nat, i < K → m 87 i = σ 87 i) → (∀ s', B_Mo_instance_131 (d + 3) a ((j : Nat) : Int) m (some a) s' → Lb (d + 6) yMo_instance 48 [(0, .ref 58), (2, vi a), (3, vi (j : Int))] [] σ (some a) s') → ∃ σ' s' K', Lb (d + 6) yMo_instance 48 [(0, .ref 58), (2, vi a), (3, vi (j : Int))] [] σ (some a) s' ∧ K ≤ K' ∧ IA σ0 σ' K' ∧ IB σ0 σ' n0 K' ∧ IC σ0 σ' K' K' ∧ (∀ i : Nat, i < K → σ' 87 i = σ 87 i) ∧ (∀ i, i ≠ 82 → s' i = σ' i) ∧ (∀ m, s' 82 m = σ' 82 m ∨ s' 82 m = -1) ∧ ∀ i : Nat, i < K' → s' 82 (σ' 87 i) = -1 := by
        intro m K1 hK A1 I1 C1 e k
        obtain ⟨σ', s', K', l, q1, q2, q3, q4, q5, q6⟩ := ih (j + 1) K1 m (by omega) (by omega) A1 I1 C1
        refine ⟨σ', s', K', k s' ⟨⟨by omega, by omega⟩, ?_⟩, by omega, q2, q3, q4, fun i hi => (q5 i (by omega)).trans (e i hi), q6⟩
        have ee : ((j : Nat) : Int) + 1 = ((j + 1 : Nat) : Int) := by omega
        rw [ee]; exact l
      have start : ∀ s', (if σ 79 (σ 87 j) ≤ 3 then (B_Mo_instance_102 (d + 3) a ((j : Nat) : Int) (σ 87 j) (σ 82 (σ 87 j)) σ (some a) s') else (((0 : Int) ≤ σ 87 j ∧ σ 87 j < (1300 : Int)) ∧ (∃ (v7 : Int) (m7 : Mem), Rn (d + 3 + 3) yMo_copyOf [.ref 58, vi (σ 80 (σ 87 j))] σ (some v7) m7 ∧ (((0 : Int) ≤ σ 82 (σ 87 j) ∧ σ 82 (σ 87 j) < (1300 : Int)) ∧ (B_Mo_instance_102 (d + 3) a ((j : Nat) : Int) (σ 87 j) (σ 82 (σ 87 j)) (mup m7 80 (σ 82 (σ 87 j)) v7) (some a) s'))))) → Lb (d + 6) yMo_instance 48 [(0, .ref 58), (2, vi a), (3, vi (j : Int))] [] σ (some a) s' := fun s' h => by
        refine K_Mo_instance_48 (d := d + 3) ha ⟨by omega, by omega⟩ ?_
        unfold B_Mo_instance_48
        rw [if_neg (by omega)]
        exact ⟨⟨by omega, by omega⟩, ⟨by omega, by omega⟩, ⟨by omega, by omega⟩, h⟩
      by_cases k0 : σ0 79 (σ 87 j) = 0
      · -- a variable
        refine nxt σ K (Nat.le_refl _) A I (fun i hi => ?_) (fun _ _ => rfl) (fun s' h => start s' ?_)
        · by_cases e : i = j
          · rw [e]; exact ⟨fun q => by omega, fun q => by omega⟩
          · exact C i (by omega)
        · rw [if_pos (by omega)]
          unfold B_Mo_instance_102
          refine ⟨⟨by omega, by omega⟩, ?_⟩
          rw [if_pos (by omega)]; exact h
      · have p80 : 0 ≤ σ0 80 (σ 87 j) ∧ σ0 80 (σ 87 j) < σ0 58 35 := by
          rcases kd with q | q | q
          · omega
          · exact w4 q
          · exact (w5 q).1
        have oc1 : Oc (mS σ0).1 (σ0 80 (σ 87 j)) n0 := by
          rcases kd with q | q | q
          · omega
          · exact (Oc.p4 q Oc.self).tr t.2.1
          · exact (Oc.p5 q (Or.inl Oc.self)).tr t.2.1
        obtain ⟨a1, m1, K1, R1, hK1, A1, I1, S1, e1, f1, ai1⟩ := m_copyOf (d := d) H A I Bd p80.1 p80.2 oc1
        obtain ⟨A2, I2⟩ := put_p (z := a1) A1 I1 (show j < K1 by omega)
        have I2 := I2 (by rw [e1 j hjK]; exact k0)
        have C2 : IC σ0 (mup m1 80 (σ0 58 35 + j) a1) K1 j := C.up hK1 (by omega) (fun i hi => by rw [mup_ne (by decide)]; exact e1 i hi) (fun m hm => by
          rw [mup_nk (by omega), mup_ne (by decide)]
          exact f1 m (by omega))
        have e2 : ∀ i : Nat, i < K → (mup m1 80 (σ0 58 35 + j) a1) 87 i = σ 87 i := fun i hi => by rw [mup_ne (by decide)]; exact e1 i hi
        have S2 : SF σ0 (mup m1 80 (σ0 58 35 + j) a1) K1 (σ0 80 (σ 87 j)) ((mup m1 80 (σ0 58 35 + j) a1) 80 (σ0 58 35 + j)) := by
          rw [mup_eq]; exact S1.up (Nat.le_refl _) (fun i _ => mup_ne (by decide))
        have b1 := bd_0 Bd I1
        -- the first part is put
        have st2 : ∀ s', B_Mo_instance_102 (d + 3) a ((j : Nat) : Int) (σ 87 j) (σ 82 (σ 87 j)) (mup m1 80 (σ 82 (σ 87 j)) a1) (some a) s' → Lb (d + 6) yMo_instance 48 [(0, .ref 58), (2, vi a), (3, vi (j : Int))] [] σ (some a) s' := fun s' h => start s' (by
          rw [if_neg (by omega)]
          exact ⟨⟨by omega, by omega⟩, a1, m1, by rw [g.2.1]; exact R1, ⟨by omega, by omega⟩, h⟩)
        rw [v82] at st2
        by_cases k5 : σ0 79 (σ 87 j) = 5
        · -- a function: the second part
          have p81 := (w5 k5).2
          have oc2 : Oc (mS σ0).1 (σ0 81 (σ 87 j)) n0 := (Oc.p5 k5 (Or.inr (by rw [e81 k5]; exact Oc.self))).tr t.2.1
          have g2 := A2.2.2.2.2 (σ 87 j) t.1.1 t.1.2
          obtain ⟨a2, m3, K2, R2, hK2, A3, I3, S3, e3, f3, ai3⟩ := m_copyOf (d := d) H A2 I2 Bd p81.1 p81.2 oc2
          obtain ⟨A4, I4⟩ := put_q (z := a2) A3 I3 (show j < K2 by omega)
          have e4 : ∀ i : Nat, i < K → m3 87 i = σ 87 i := fun i hi => (e3 i (by omega)).trans (e2 i hi)
          have I4 := I4 (by rw [e4 j hjK]; exact k5)
          have b2 := bd_0 Bd I3
          have C4 : IC σ0 (mup m3 81 (σ0 58 35 + j) a2) K2 j := C2.up hK2 (by omega) (fun i hi => by rw [mup_ne (by decide)]; exact e3 i hi) (fun m hm => by
            exact ⟨(mup_ne (by decide)).trans (f3 m (by omega)).1, (mup_nk (by omega)).trans (f3 m (by omega)).2⟩)
          refine nxt (mup m3 81 (σ0 58 35 + j) a2) K2 (by omega) A4 I4 (fun i hi => ?_) (fun i hi => by rw [mup_ne (by decide)]; exact e4 i hi) (fun s' h => st2 s' ?_)
          · by_cases e : i = j
            · rw [e, mup_ne (by decide), e4 j hjK, mup_eq]
              refine ⟨fun _ => ?_, fun _ => S3.up (Nat.le_refl _) (fun i _ => mup_ne (by decide))⟩
              have q := f3 (σ0 58 35 + j) (by omega)
              rw [mup_ne (by decide), q.1]
              exact S2.up hK2 (fun i hi => by rw [mup_ne (by decide)]; exact e3 i hi)
            · exact C4 i (by omega)
          · unfold B_Mo_instance_102
            refine ⟨⟨by omega, by omega⟩, ?_⟩
            rw [if_neg (by omega)]
            refine ⟨⟨by omega, by omega⟩, a2, m3, ?_, ⟨by omega, by omega⟩, h⟩
            rw [g2.2.2]; exact R2
        · refine nxt (mup m1 80 (σ0 58 35 + j) a1) K1 hK1 A2 I2 (fun i hi => ?_) e2 (fun s' h => st2 s' ?_)
          · by_cases e : i = j
            · rw [e, e2 j hjK]
              exact ⟨fun _ => S2, fun q => absurd q k5⟩
            · exact C2 i (by omega)
          · unfold B_Mo_instance_102
            have g2 := A2.2.2.2.2 (σ 87 j) t.1.1 t.1.2
            refine ⟨⟨by omega, by omega⟩, ?_⟩
            rw [if_pos (by omega)]; exact h
end MIN
