/-! The model's copyOf: one node. -/
/-- a node that is copied -/
def tOk (σ0 : Mem) (n0 t : Int) : Prop := (0 ≤ t ∧ t < σ0 58 35) ∧ Oc (mS σ0).1 t n0 ∧ ¬ lkd (mS σ0).1 t ∧ ((σ0 79 t = 0 ∧ σ0 81 t = 1) ∨ σ0 79 t = 4 ∨ σ0 79 t = 5)
/-- what stands for x after K copies -/
def SF (σ0 σ : Mem) (K : Nat) (x a : Int) : Prop := ∃ r, rtM σ0 x r ∧ ((∃ i : Nat, i < K ∧ σ 87 i = r ∧ a = σ0 58 35 + i) ∨ (a = r ∧ ((1 ≤ σ0 79 r ∧ σ0 79 r ≤ 3) ∨ (σ0 79 r = 0 ∧ σ0 81 r = 0))))
/-- the frame: the first nodes, the counts -/
def IA (σ0 σ : Mem) (K : Nat) : Prop := FK σ0 σ ∧ σ 58 44 = 0 ∧ σ 58 39 = K ∧ σ 58 35 = σ0 58 35 + K ∧ ∀ m, 0 ≤ m → m < σ0 58 35 → σ 79 m = σ0 79 m ∧ σ 80 m = σ0 80 m ∧ σ 81 m = σ0 81 m
/-- what was copied, and where the copies are -/
def IB (σ0 σ : Mem) (n0 : Int) (K : Nat) : Prop := (∀ i : Nat, i < K → tOk σ0 n0 (σ 87 i)) ∧ (∀ i i' : Nat, i < K → i' < K → σ 87 i = σ 87 i' → i = i') ∧ (∀ m, 0 ≤ m → m < σ0 58 35 → (∀ i : Nat, i < K → σ 87 i ≠ m) → σ 82 m = -1) ∧ (∀ i : Nat, i < K → σ 82 (σ 87 i) = σ0 58 35 + i) ∧ (∀ i : Nat, i < K → σ 82 (σ0 58 35 + i) = -1) ∧ ∀ i : Nat, i < K → σ 79 (σ0 58 35 + i) = σ0 79 (σ 87 i) ∧ (σ0 79 (σ 87 i) = 0 → σ 80 (σ0 58 35 + i) = -1 ∧ σ 81 (σ0 58 35 + i) = 0) ∧ (σ0 79 (σ 87 i) = 4 → σ 81 (σ0 58 35 + i) = 0)
/-- how many can be copied -/
def BdC (σ0 : Mem) (n0 : Int) (B : Nat) : Prop := (B ≤ 100 ∧ σ0 58 35 + B ≤ 1300) ∧ ∀ l : List Int, l.Nodup → (∀ t ∈ l, tOk σ0 n0 t) → l.length ≤ B
section MCO
variable {σ σ' σ0 : Mem} {d : Nat} {n0 x r a : Int} {K K' B : Nat}
theorem SF.up (s : SF σ0 σ K x a) (hK : K ≤ K') (e : ∀ i : Nat, i < K → σ' 87 i = σ 87 i) : SF σ0 σ' K' x a := by
  obtain ⟨r, R, h⟩ := s
  refine ⟨r, R, h.imp (fun ⟨i, h1, h2, h3⟩ => ⟨i, by omega, by rw [e i h1]; exact h2, h3⟩) (fun h => h)⟩
theorem or_l (H : MT σ0) (A : IA σ0 σ K) : ∀ (k : Nat) (n : Int), 0 ≤ n → n < σ0 58 35 → ¬ lkd (mS σ0).1 (rv (mS σ0).1 k n) → Lb (d + 3) yMo_realType 2 [(0, .ref 58), (2, vi n)] [] σ (some (rv (mS σ0).1 k n)) σ := by
  have hc := H.2.1
  have ag := A.2.2.2.2
  have stop : ∀ n, 0 ≤ n → n < σ0 58 35 → ¬ lkd (mS σ0).1 n → Lb (d + 3) yMo_realType 2 [(0, .ref 58), (2, vi n)] [] σ (some n) σ := fun n h0 h1 q => by
    have g := ag n h0 h1
    refine K_Mo_realType_2 ⟨by omega, by omega⟩ ⟨⟨h0, by omega⟩, ?_⟩
    by_cases c : σ 79 n ≠ 0
    · rw [if_pos c]; exact ⟨rfl, rfl⟩
    · rw [if_neg c]
      refine ⟨⟨h0, by omega⟩, ?_⟩
      rw [if_pos (by have : ¬ (σ0 79 n = 0 ∧ 0 ≤ σ0 80 n) := q; omega)]
      exact ⟨rfl, rfl⟩
  intro k
  induction k with
  | zero => intro n h0 h1 q; exact stop n h0 h1 q
  | succ k ih =>
    intro n h0 h1 q
    have g := ag n h0 h1
    by_cases c : lkd (mS σ0).1 n
    · have e : rv (mS σ0).1 (k + 1) n = rv (mS σ0).1 k (σ0 80 n) := by rw [rv, if_pos c]; rfl
      rw [e] at q ⊢
      have c' : σ0 79 n = 0 ∧ 0 ≤ σ0 80 n := c
      have w : σ0 80 n < σ0 58 35 := (H.1.1 n h0 h1).2.1 c
      refine K_Mo_realType_2 ⟨by omega, by omega⟩ ⟨⟨h0, by omega⟩, ?_⟩
      rw [if_neg (by omega)]
      refine ⟨⟨h0, by omega⟩, ?_⟩
      rw [if_neg (by omega)]
      refine ⟨⟨h0, by omega⟩, ?_⟩
      rw [g.2.1]
      exact ih _ c'.2 w q
    · rw [rv_stop c] at q ⊢
      exact stop n h0 h1 q
theorem o_real (H : MT σ0) (A : IA σ0 σ K) (h0 : 0 ≤ x) (h1 : x < σ0 58 35) (R : rtM σ0 x r) : Rn (d + 4) yMo_realType [.ref 58, vi x] σ (some r) σ := by
  obtain ⟨⟨k, rfl⟩, q⟩ := R
  have hc := H.2.1
  exact M_Mo_realType ⟨by omega, by omega⟩ (or_l H A k x h0 h1 q)
/-- room for another copy -/
theorem bd_1 (Bd : BdC σ0 n0 B) (I : IB σ0 σ n0 K) (t : tOk σ0 n0 r) (nw : ∀ i : Nat, i < K → σ 87 i ≠ r) : K + 1 ≤ B := by
  have nd : ((List.range K).map (fun i : Nat => σ 87 i)).Nodup := by
    refine List.pairwise_map.mpr (List.Pairwise.imp_of_mem ?_ List.pairwise_lt_range)
    intro a b ha hb hab e
    have h1 := List.mem_range.mp ha
    have h2 := List.mem_range.mp hb
    have := I.2.1 a b h1 h2 e
    omega
  have := Bd.2 (r :: (List.range K).map (fun i : Nat => σ 87 i)) (List.nodup_cons.mpr ⟨fun m => by
    obtain ⟨i, hi, e⟩ := List.mem_map.mp m
    exact nw i (List.mem_range.mp hi) e, nd⟩) (fun q m => by
    rcases List.mem_cons.mp m with m | m
    · rw [m]; exact t
    · obtain ⟨i, hi, e⟩ := List.mem_map.mp m
      rw [← e]; exact I.1 i (List.mem_range.mp hi))
  rw [List.length_cons, List.length_map, List.length_range] at this
  exact this
theorem bd_0 (Bd : BdC σ0 n0 B) (I : IB σ0 σ n0 K) : K ≤ B := by
  have nd : ((List.range K).map (fun i : Nat => σ 87 i)).Nodup := by
    refine List.pairwise_map.mpr (List.Pairwise.imp_of_mem ?_ List.pairwise_lt_range)
    intro a b ha hb hab e
    have h1 := List.mem_range.mp ha
    have h2 := List.mem_range.mp hb
    have := I.2.1 a b h1 h2 e
    omega
  have := Bd.2 ((List.range K).map (fun i : Nat => σ 87 i)) nd (fun q m => by
    obtain ⟨i, hi, e⟩ := List.mem_map.mp m
    rw [← e]; exact I.1 i (List.mem_range.mp hi))
  rw [List.length_map, List.length_range] at this
  exact this
/-- the memory after a copy was made -/
def cpM (σ : Mem) (r k a b : Int) : Mem := mup (mup (mup (mkM σ k a b) 82 r (σ 58 35)) 87 (σ 58 39) r) 58 39 (σ 58 39 + 1)
theorem cp_new (H : MT σ0) (A : IA σ0 σ K) (I : IB σ0 σ n0 K) (t : tOk σ0 n0 r) (nw : ∀ i : Nat, i < K → σ 87 i ≠ r) {k b : Int} (hk : k = σ0 79 r) (h0 : σ0 79 r = 0 → a = -1 ∧ b = 0) (h4 : σ0 79 r = 4 → b = 0) : IA σ0 (cpM σ r k a b) (K + 1) ∧ IB σ0 (cpM σ r k a b) n0 (K + 1) ∧ (∀ i : Nat, i < K → cpM σ r k a b 87 i = σ 87 i) ∧ cpM σ r k a b 87 K = r ∧ (∀ m, m < σ0 58 35 + K → cpM σ r k a b 80 m = σ 80 m ∧ cpM σ r k a b 81 m = σ 81 m) ∧ cpM σ r k a b 82 r = σ0 58 35 + K := by
  have hc := H.2.1
  obtain ⟨F, i44, t39, c35, ag⟩ := A
  obtain ⟨b1, b2, b3, b4, b5, b6⟩ := I
  have tr := t.1
  have e79 : ∀ m, cpM σ r k a b 79 m = if m = σ 58 35 then k else σ 79 m := fun m => by unfold cpM; rw [mup_ne (by decide), mup_ne (by decide), mup_ne (by decide), mkM_79]
  have e80 : ∀ m, cpM σ r k a b 80 m = if m = σ 58 35 then a else σ 80 m := fun m => by unfold cpM; rw [mup_ne (by decide), mup_ne (by decide), mup_ne (by decide), mkM_80]
  have e81 : ∀ m, cpM σ r k a b 81 m = if m = σ 58 35 then b else σ 81 m := fun m => by unfold cpM; rw [mup_ne (by decide), mup_ne (by decide), mup_ne (by decide), mkM_81]
  have e82 : ∀ m, cpM σ r k a b 82 m = if m = r then σ 58 35 else if m = σ 58 35 then -1 else σ 82 m := fun m => by
    unfold cpM
    rw [mup_ne (by decide), mup_ne (by decide)]
    by_cases e : m = r
    · rw [if_pos e, e, mup_eq]
    · rw [if_neg e, mup_nk e, mkM_82]
  have o87 : (mkM σ k a b) 87 = σ 87 := by unfold mkM; rw [mup_obj (by decide), mup_obj (by decide), mup_obj (by decide), mup_obj (by decide), mup_obj (by decide)]
  have e87 : ∀ m, cpM σ r k a b 87 m = if m = K then r else σ 87 m := fun m => by
    unfold cpM
    rw [mup_ne (by decide), t39]
    by_cases e : m = K
    · rw [if_pos e, e, mup_eq]
    · rw [if_neg e, mup_nk e, mup_ne (by decide), o87]
  have lo : ∀ i : Nat, i < K → cpM σ r k a b 87 i = σ 87 i := fun i hi => by rw [e87, if_neg (by omega)]
  have at_ : cpM σ r k a b 87 K = r := by rw [e87, if_pos rfl]
  have k58 : ∀ q, q ≠ 39 → cpM σ r k a b 58 q = (mkM σ k a b) 58 q := fun q h => by unfold cpM; rw [mup_nk h, mup_ne (by decide), mup_ne (by decide)]
  have f1 : FK (mkM σ k a b) (cpM σ r k a b) := ⟨fun i h1 _ _ _ h5 _ h7 => by unfold cpM; rw [mup_obj h1, mup_obj h7, mup_obj h5], fun q _ _ h _ _ => k58 q h⟩
  refine ⟨⟨F.tr (mkM.fk.tr f1), ?_, ?_, ?_, fun m h1 h2 => ?_⟩, ⟨fun i hi => ?_, fun i i' hi hi' e => ?_, fun m h1 h2 h3 => ?_, fun i hi => ?_, fun i hi => ?_, fun i hi => ?_⟩, lo, at_, fun m hm => ?_, ?_⟩
  · rw [k58 44 (by decide)]
    unfold mkM
    rw [mup_nk (by decide), mup_ne (by decide), mup_ne (by decide), mup_ne (by decide), mup_ne (by decide)]; exact i44
  · unfold cpM; rw [mup_eq, t39]; omega
  · rw [k58 35 (by decide), mkM_c, c35]; omega
  · rw [e79, e80, e81, if_neg (by omega), if_neg (by omega), if_neg (by omega)]; exact ag m h1 h2
  · by_cases h : i < K
    · rw [lo i h]; exact b1 i h
    · rw [show i = K by omega, at_]; exact t
  · by_cases h : i < K
    · by_cases h' : i' < K
      · rw [lo i h, lo i' h'] at e; exact b2 i i' h h' e
      · rw [lo i h, show i' = K by omega, at_] at e; exact absurd e (nw i h)
    · by_cases h' : i' < K
      · rw [lo i' h', show i = K by omega, at_] at e; exact absurd e.symm (nw i' h')
      · omega
  · rw [e82, if_neg (fun e => h3 K (by omega) (by rw [at_, e])), if_neg (by omega)]
    exact b3 m h1 h2 (fun i hi => by rw [← lo i hi]; exact h3 i (by omega))
  · by_cases h : i < K
    · rw [lo i h, e82, if_neg (nw i h), if_neg (by have := (b1 i h).1; omega)]; exact b4 i h
    · rw [show i = K by omega, at_, e82, if_pos rfl, c35]
  · rw [e82, if_neg (by omega)]
    by_cases h : i < K
    · rw [if_neg (by omega)]; exact b5 i h
    · rw [if_pos (by omega)]
  · rw [e79, e80, e81]
    by_cases h : i < K
    · rw [lo i h, if_neg (by omega), if_neg (by omega), if_neg (by omega)]; exact b6 i h
    · rw [show i = K by omega, at_, if_pos c35.symm, if_pos c35.symm, if_pos c35.symm]
      exact ⟨hk, h0, h4⟩
  · rw [e80, e81, if_neg (by omega), if_neg (by omega)]; exact ⟨rfl, rfl⟩
  · rw [e82, if_pos rfl]; exact c35
end MCO
