/-! The model's instance, whole. -/
section MI2
variable {σ σ' σ0 : Mem} {d : Nat} {n0 x r a : Int} {K K' B j : Nat} {ρ : Int → GT}
/-- different nodes of a type: two characters of it each, but one -/
theorem nod_n {s : Sto} {c : Int} {L : Nat} {st : Int → Nat} (W : WS s c) (V : VS s c ρ) (SSt : SS s c L st) : ∀ n, 0 ≤ n → n < c → ∀ l : List Int, l.Nodup → (∀ q ∈ l, ¬ lkd s q ∧ Oc s q n) → 2 * (l.length : Int) ≤ gw (ρ n) + 1 := by
  refine st_ind W V SSt (fun n h0 h1 i1 i2 i3 l hl hq => ?_)
  have g := V n h0 h1
  by_cases q : lkd s n
  · rw [g.1 q]
    refine i1 q l hl (fun x m => ⟨(hq x m).1, ?_⟩)
    rcases (hq x m).2.cs with z | ⟨-, z⟩ | ⟨z, -⟩ | ⟨z, -⟩
    · have := (hq x m).1; rw [← z] at this; exact absurd q this
    · exact z
    · have := q.1; omega
    · have := q.1; omega
  -- the others
  have er : ∀ b : Int, (∀ l : List Int, l.Nodup → (∀ x ∈ l, x ≠ n ∧ ¬ lkd s x ∧ Oc s x n) → 2 * (l.length : Int) ≤ b) → 2 * (l.length : Int) ≤ b + 2 := fun b hb => by
    by_cases m : n ∈ l
    · have len : (l.erase n).length + 1 = l.length := by
        have := List.length_erase_of_mem m
        have := List.length_pos_of_mem m
        omega
      have := hb (l.erase n) (hl.erase n) (fun x mx => by
        have hm := (List.Nodup.mem_erase_iff hl).mp mx
        exact ⟨hm.1, hq x hm.2⟩)
      omega
    · have := hb l hl (fun x mx => ⟨fun e => m (e ▸ mx), hq x mx⟩)
      omega
  by_cases q4 : (s n).1 = 4
  · have := er (gw (ρ (s n).2.1) + 1) (fun l hl hx => i2 q4 l hl (fun x m => ⟨(hx x m).2.1, by
      rcases (hx x m).2.2.cs with z | ⟨z, -⟩ | ⟨-, z⟩ | ⟨z, -⟩
      · exact absurd z.symm (hx x m).1
      · exact absurd z q
      · exact z
      · omega⟩))
    rw [g.2.2.1 q4]
    show 2 * (l.length : Int) ≤ 2 + gw (ρ (s n).2.1) + 1
    omega
  by_cases q5 : (s n).1 = 5
  · obtain ⟨j1, j2⟩ := i3 q5
    have := er (gw (ρ (s n).2.1) + gw (ρ (s n).2.2) + 2) (fun l hl hx => by
      have dc : ∀ x, Decidable (Oc s x (s n).2.1) := fun x => Classical.propDecidable _
      have ln := len_flt (fun x => decide (Oc s x (s n).2.1)) l
      have b1 := j1 (l.filter (fun x => decide (Oc s x (s n).2.1))) (hl.filter _) (fun x hx' => by
        have z := List.mem_filter.mp hx'
        exact ⟨(hx x z.1).2.1, of_decide_eq_true z.2⟩)
      have b2 := j2 (l.filter (fun x => ! decide (Oc s x (s n).2.1))) (hl.filter _) (fun x hx' => by
        have z := List.mem_filter.mp hx'
        have z2 : ¬ Oc s x (s n).2.1 := by
          have := z.2
          intro h
          rw [decide_eq_true h] at this
          exact absurd this (by decide)
        refine ⟨(hx x z.1).2.1, ?_⟩
        rcases (hx x z.1).2.2.cs with y | ⟨y, -⟩ | ⟨y, -⟩ | ⟨-, y⟩
        · exact absurd y.symm (hx x z.1).1
        · exact absurd y q
        · omega
        · exact y.resolve_left z2)
      omega)
    rw [g.2.2.2 q5]
    show 2 * (l.length : Int) ≤ 3 + gw (ρ (s n).2.1) + gw (ρ (s n).2.2) + 1
    omega
  · have := er 0 (fun l hl hx => by
      cases l with
      | nil => exact Int.le_refl _
      | cons y l =>
        exfalso
        obtain ⟨a, -, b⟩ := hx y List.mem_cons_self
        rcases b.cs with z | ⟨z, -⟩ | ⟨z, -⟩ | ⟨z, -⟩
        · exact a z.symm
        · exact q z
        · exact q4 z
        · exact q5 z)
    have := gw_ge (t := ρ n)
    omega
/-- at most 40 nodes are copied -/
theorem bd_w (H : MT σ) (hn : 0 ≤ n0 ∧ n0 < σ 58 35) (hw : ∀ ρ, MinV (mS σ).1 (mS σ).2.1 ρ → gw (ρ n0) ≤ 80) (hc : σ 58 35 + 40 ≤ 1300) : BdC σ n0 40 := by
  obtain ⟨ν, Mi⟩ := ms_min H
  obtain ⟨W0, ⟨L, st, SSt⟩, -⟩ := H.1
  refine ⟨⟨by decide, hc⟩, fun l hl ht => ?_⟩
  have := nod_n W0 Mi.1 SSt n0 hn.1 hn.2 l hl (fun q m => ⟨(ht q m).2.2.1, (ht q m).2.1⟩)
  have := hw ν Mi
  omega
theorem SF.cq (s : SF σ0 σ K x a) (I : IB σ0 σ n0 K) : Cq (mS σ0) (fun t => ∃ i : Nat, i < K ∧ σ 87 i = t) (fun t => σ 82 t) x a := by
  obtain ⟨r, R, h⟩ := s
  refine ⟨r, R, ?_⟩
  rcases h with ⟨i, h1, h2, h3⟩ | ⟨h1, h2⟩
  · refine Or.inl ⟨⟨i, h1, h2⟩, ?_⟩
    show a = σ 82 r
    rw [← h2, I.2.2.2.1 i h1]; exact h3
  · refine Or.inr ⟨h1, fun ⟨i, hi, e⟩ => ?_, ?_⟩
    · have := (I.1 i hi).2.2.2
      rw [e] at this
      omega
    · refine h2.imp (fun h => h) (fun h => ⟨h.1, ?_⟩)
      show (if σ0 81 r = 1 then (1000 : Int) else 0) ≠ 1000
      rw [if_neg (by omega)]; decide
/-- all copies together -/
theorem cp_all (A : IA σ0 σ K) (I : IB σ0 σ n0 K) (C : IC σ0 σ K K) (ob : ∀ i, i ≠ 82 → σ' i = σ i) : CpT (mS σ0) (mS σ') (fun t => ∃ i : Nat, i < K ∧ σ 87 i = t) (fun t => σ 82 t) n0 := by
  have c35 : (mS σ').2.1 = σ0 58 35 + K := by show σ' 58 35 = _; rw [ob 58 (by decide)]; exact A.2.2.2.1
  have c0 : (mS σ0).2.1 = σ0 58 35 := rfl
  have no : ∀ n, (mS σ').1 n = (σ 79 n, σ 80 n, if σ 79 n = 5 then σ 81 n else 0) := fun n => by
    show (σ' 79 n, σ' 80 n, if σ' 79 n = 5 then σ' 81 n else 0) = _
    rw [ob 79 (by decide), ob 80 (by decide), ob 81 (by decide)]
  have lv : ∀ n, (mS σ').2.2 n = if σ 81 n = 1 then 1000 else 0 := fun n => by
    show (if σ' 81 n = 1 then (1000 : Int) else 0) = _
    rw [ob 81 (by decide)]
  refine ⟨by rw [c35, c0]; omega, fun n h0 h1 => ?_, fun t ⟨i, hi, e⟩ => ?_, fun n h0 h1 => ?_, fun t t' ⟨i, hi, e⟩ ⟨i', hi', e'⟩ q => ?_⟩
  · have g := A.2.2.2.2 n h0 h1
    rw [no n, lv n, g.1, g.2.1, g.2.2]
    exact ⟨rfl, rfl⟩
  · have t1 := I.1 i hi
    have v := I.2.2.2.1 i hi
    have b6 := I.2.2.2.2.2 i hi
    have ci := C i hi
    rw [e] at t1 v b6 ci
    show _ ∧ (_ ≤ σ 82 t ∧ σ 82 t < _) ∧ _
    rw [v, c35]
    refine ⟨⟨t1.1, t1.2.1, t1.2.2.1⟩, by rw [c0]; omega, ?_⟩
    show (_ ∧ _ ∧ (mS σ').1 (σ 82 t) = _ ∧ (mS σ').2.2 (σ 82 t) = _) ∨ (_ ∧ ∃ a, _ ∧ (mS σ').1 (σ 82 t) = _) ∨ (_ ∧ ∃ a b, _ ∧ _ ∧ (mS σ').1 (σ 82 t) = _)
    rw [v, no, lv, b6.1]
    rcases t1.2.2.2 with ⟨k0, k1⟩ | k4 | k5
    · refine Or.inl ⟨k0, ?_, ?_, ?_⟩
      · show (if σ0 81 t = 1 then (1000 : Int) else 0) = 1000
        rw [if_pos k1]
      · rw [k0, (b6.2.1 k0).1, if_neg (by decide)]
      · rw [(b6.2.1 k0).2, if_neg (by decide)]
    · refine Or.inr (Or.inl ⟨k4, _, (ci.1 (by omega)).cq I, ?_⟩)
      rw [k4, if_neg (by decide)]
    · have e81 : ((mS σ0).1 t).2.2 = σ0 81 t := by show (if σ0 79 t = 5 then σ0 81 t else 0) = _; rw [if_pos k5]
      refine Or.inr (Or.inr ⟨k5, _, _, (ci.1 (by omega)).cq I, by rw [e81]; exact (ci.2 k5).cq I, ?_⟩)
      rw [k5, if_pos rfl]
  · rw [c35] at h1
    rw [c0] at h0
    refine ⟨σ 87 ((n - σ0 58 35).toNat : Int), ⟨(n - σ0 58 35).toNat, by omega, rfl⟩, ?_⟩
    show σ 82 (σ 87 ((n - σ0 58 35).toNat : Int)) = n
    rw [I.2.2.2.1 _ (by omega)]; omega
  · have q : σ 82 t = σ 82 t' := q
    rw [← e, ← e', I.2.2.2.1 i hi, I.2.2.2.1 i' hi'] at q
    have : i = i' := by omega
    rw [← e, ← e', this]
theorem m_instance (H : MT σ) (hi : σ 58 44 = 0) (hn : 0 ≤ n0 ∧ n0 < σ 58 35) (Bd : (∀ ρ, MinV (mS σ).1 (mS σ).2.1 ρ → gw (ρ n0) ≤ 80) → BdC σ n0 B) : ∃ r σ', Rn (d + 7) yMo_instance [.ref 58, vi n0] σ (some r) σ' ∧ FK σ σ' ∧ (0 ≤ r ∧ r < σ' 58 35) ∧ ((σ' 58 44 = 1 ∧ σ' 58 35 = σ 58 35 ∧ ∀ ρ, VS (mS σ).1 (mS σ).2.1 ρ → 80 < gw (ρ n0)) ∨ (σ' 58 44 = 0 ∧ MT σ' ∧ σ' 58 35 ≤ σ 58 35 + B ∧ TSt (mS σ) (mS σ') (fun _ => False) 0 ∧ (∀ ρ, VS (mS σ').1 (mS σ').2.1 ρ → Den (mS σ) n0 ρ (ρ r)) ∧ (∀ ρ s, VS (mS σ).1 (mS σ).2.1 ρ → Den (mS σ) n0 ρ s → ∃ ρ', VS (mS σ').1 (mS σ').2.1 ρ' ∧ (∀ m, 0 ≤ m → m < (mS σ).2.1 → ρ' m = ρ m) ∧ ρ' r = s) ∧ (∀ M, gO (mS σ) 1000 M n0 → Res (mS σ) M 0 (mS σ') r) ∧ ∃ D cp, CpT (mS σ) (mS σ') D cp n0 ∧ Cq (mS σ) D cp n0 r)) := by
  have hc := H.2.1
  obtain ⟨μ, Mi⟩ := ms_min H
  obtain ⟨v, m, s1, F, vb, -, p1, p2⟩ := s_width (d := d) H Mi hn.1 hn.2
  have fin : ∀ r s', (if v ≤ 80 then B_Mo_instance_23 (d + 3) n0 0 m (some r) s' else B_Mo_instance_18 (d + 3) n0 m (some r) s') → Rn (d + 7) yMo_instance [.ref 58, vi n0] σ (some r) s' := fun r s' h => by
    refine M_Mo_instance (d := d + 3) ⟨by omega, by omega⟩ ?_
    unfold B_Mo_instance
    rw [if_neg (by omega)]
    exact ⟨v, m, s1, h⟩
  by_cases q : v ≤ 80
  · have sm : gw (μ n0) ≤ 80 := by
      by_cases h : gw (μ n0) ≤ 80
      · exact h
      · have := p2 (by omega); omega
    have Bd := Bd (fun ρ Mr => by
      have := wid_all H Mr μ Mi.1 n0 hn.1 hn.2
      omega)
    have bB := Bd.1
    have f1 : FK σ (mup (mup m 58 44 0) 58 39 0) := F.fk.tr ⟨fun i h _ _ _ _ _ _ => by rw [mup_obj h, mup_obj h], fun k _ _ h3 h4 _ => by rw [mup_nk h3, mup_nk h4]⟩
    have ob : ∀ i, i ≠ 58 → i ≠ 86 → (mup (mup m 58 44 0) 58 39 0) i = σ i := fun i h1 h2 => by rw [mup_obj h1, mup_obj h1]; exact F.1 i h1 h2
    have A : IA σ (mup (mup m 58 44 0) 58 39 0) 0 := ⟨f1, by rw [mup_nk (by decide), mup_eq], by rw [mup_eq]; rfl, by rw [mup_nk (by decide), mup_nk (by decide), F.2 35 (by decide)]; omega, fun k _ _ => by rw [ob 79 (by decide) (by decide), ob 80 (by decide) (by decide), ob 81 (by decide) (by decide)]; exact ⟨rfl, rfl, rfl⟩⟩
    have I : IB σ (mup (mup m 58 44 0) 58 39 0) n0 0 := ⟨fun i h => absurd h (Nat.not_lt_zero i), fun i _ h => absurd h (Nat.not_lt_zero i), fun k h0 h1 _ => by rw [ob 82 (by decide) (by decide)]; exact H.2.2.2.2.2.1 k h0 h1, fun i h => absurd h (Nat.not_lt_zero i), fun i h => absurd h (Nat.not_lt_zero i), fun i h => absurd h (Nat.not_lt_zero i)⟩
    obtain ⟨a, m1, K1, R1, -, A1, I1, S1, -, -, ai⟩ := m_copyOf (d := d) H A I Bd hn.1 hn.2 Oc.self
    have b1 := bd_0 Bd I1
    obtain ⟨σ2, s', K2, l, hK, A2, I2, C2, e2, o2, an, dn⟩ := ins_48 (d := d) (a := a) H Bd ⟨by omega, by omega⟩ B 0 K1 m1 (by omega) (Nat.zero_le _) A1 I1 (fun i h => absurd h (Nat.not_lt_zero i))
    have b2 := bd_0 Bd I2
    have S2 : Cq (mS σ) (fun t => ∃ i : Nat, i < K2 ∧ σ2 87 i = t) (fun t => σ2 82 t) n0 a := (S1.up hK e2).cq I2
    have CC := cp_all A2 I2 C2 o2
    have c35 : s' 58 35 = σ 58 35 + K2 := by rw [o2 58 (by decide)]; exact A2.2.2.2.1
    have lv1 : ∀ u, (mS s').2.2 u ≤ 1000 := fun u => by
      show (if s' 81 u = 1 then (1000 : Int) else 0) ≤ 1000
      split <;> decide
    have st : ∀ M h, TSt (mS σ) (mS s') M h := fun M h => cp_st CC H.1 (by show 0 ≤ σ 58 35; omega) lv1
    refine ⟨a, s', fin a s' (by rw [if_pos q]; exact ⟨Or.inl rfl, by rw [if_pos rfl]; exact ⟨a, m1, R1, l⟩⟩), A2.1.tr ⟨fun i h1 _ _ _ h5 _ _ => o2 i h5, fun k _ _ _ _ _ => by rw [o2 58 (by decide)]⟩, ⟨ai.1, by omega⟩, Or.inr ⟨by rw [o2 58 (by decide)]; exact A2.2.1, ⟨(st (fun _ => False) 0).1, by omega, ?_, fun n h0 h1 => ?_, fun n h0 h1 => ?_, fun n h0 h1 => ?_, ?_⟩, by omega, st _ _, fun ρ V => cp_so CC H.1 hn V S2, fun ρ s V z => cp_co CC H.1 hn V z S2, fun M g => cp_r CC H.1 hn (fun u => ?_) (fun u => lev_0 u) S2 g, _, _, CC, S2⟩⟩
    · rw [o2 79 (by decide), (A2.2.2.2.2 0 (by omega) (by omega)).1, (A2.2.2.2.2 1 (by omega) (by omega)).1, (A2.2.2.2.2 2 (by omega) (by omega)).1]
      exact H.2.2.1
    · rw [o2 79 (by decide)]
      by_cases h : n < σ 58 35
      · rw [(A2.2.2.2.2 n (by omega) h).1]; exact H.2.2.2.1 n h0 h
      · have b6 := I2.2.2.2.2.2 (n - σ 58 35).toNat (by omega)
        have tt := (I2.1 (n - σ 58 35).toNat (by omega)).2.2.2
        have en : σ 58 35 + ((n - σ 58 35).toNat : Int) = n := by omega
        rw [en] at b6
        omega
    · rw [o2 79 (by decide), o2 80 (by decide), o2 81 (by decide)]
      by_cases h : n < σ 58 35
      · have g := A2.2.2.2.2 n h0 h
        rw [g.1, g.2.1, g.2.2]; exact H.2.2.2.2.1 n h0 h
      · have b6 := I2.2.2.2.2.2 (n - σ 58 35).toNat (by omega)
        have en : σ 58 35 + ((n - σ 58 35).toNat : Int) = n := by omega
        rw [en] at b6
        exact ⟨fun k => by have := b6.2.1 (by omega); omega, fun k => b6.2.2 (by omega)⟩
    · by_cases h : n < σ 58 35
      · by_cases t : ∃ i : Nat, i < K2 ∧ σ2 87 i = n
        · obtain ⟨i, hi, e⟩ := t
          rw [← e]; exact dn i hi
        · rcases an n with y | y
          · rw [y]; exact I2.2.2.1 n h0 h (fun i hi e => t ⟨i, hi, e⟩)
          · exact y
      · have b5 := I2.2.2.2.2.1 (n - σ 58 35).toNat (by omega)
        have en : σ 58 35 + ((n - σ 58 35).toNat : Int) = n := by omega
        rw [en] at b5
        rcases an n with y | y
        · rw [y]; exact b5
        · exact y
    · obtain ⟨ρ', V', -⟩ := cp_co CC H.1 hn Mi.1 ⟨μ, Mi.1, fun _ _ _ _ => rfl, rfl⟩ S2
      exact ⟨ρ', V'⟩
    · show (if σ 81 u = 1 then (1000 : Int) else 0) = 1000 ∨ (if σ 81 u = 1 then (1000 : Int) else 0) = 0
      by_cases e : σ 81 u = 1
      · rw [if_pos e]; exact Or.inl rfl
      · rw [if_neg e]; exact Or.inr rfl
  · have big : 80 < gw (μ n0) := by
      by_cases h : gw (μ n0) ≤ 80
      · have := (p1 h).1; omega
      · omega
    have c35 : (mup m 58 44 1) 58 35 = σ 58 35 := (mup_nk (by decide)).trans (F.2 35 (by decide))
    refine ⟨n0, mup m 58 44 1, fin _ _ ?_, F.fk.tr FU.m44.fk, by rw [c35]; exact hn, Or.inl ⟨mup_eq, c35, fun ρ V => ?_⟩⟩
    · rw [if_neg q]
      unfold B_Mo_instance_18 B_Mo_instance_23
      refine ⟨Or.inr rfl, ?_⟩
      rw [if_neg (by decide)]
      exact ⟨rfl, rfl⟩
    · have := wid_all H Mi ρ V n0 hn.1 hn.2
      omega
end MI2
