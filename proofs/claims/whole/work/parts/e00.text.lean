/-! How a type is shown: its characters, the variables lettered as they come. -/
def Tx (s : Sto) : Nat → Int → List Int → List Int → List Int → Prop
  | 0, _, _, _, _ => False
  | k + 1, n, L, cs, L' => (lkd s n ∧ Tx s k (s n).2.1 L cs L') ∨ (¬ lkd s n ∧ (((s n).1 = 0 ∧ ((n ∉ L ∧ cs = [97 + (L.length : Int)] ∧ L' = L ++ [n]) ∨ ∃ i : Nat, i < L.length ∧ L.getD i 0 = n ∧ cs = [97 + (i : Int)] ∧ L' = L)) ∨ ((s n).1 = 1 ∧ cs = [105] ∧ L' = L) ∨ ((s n).1 = 2 ∧ cs = [98] ∧ L' = L) ∨ ((s n).1 = 3 ∧ cs = [114] ∧ L' = L) ∨ ((s n).1 = 4 ∧ ∃ c1, Tx s k (s n).2.1 L c1 L' ∧ cs = 91 :: (c1 ++ [93])) ∨ ((s n).1 = 5 ∧ ∃ c1 L1 c2, Tx s k (s n).2.1 L c1 L1 ∧ Tx s k (s n).2.2 L1 c2 L' ∧ cs = 40 :: (c1 ++ 62 :: (c2 ++ [41])))))
def gp1 : GT → GT
  | .nest _ a => a
  | .append a _ => a
  | t => t
def gp2 : GT → GT
  | .append _ b => b
  | t => t
def gkd : GT → Int
  | .tag k _ => k
  | .nest _ _ => 4
  | .append _ _ => 5
  | _ => 0
/-- how many leaves -/
def glv : GT → Int
  | .nest _ a => glv a
  | .append a b => glv a + glv b
  | _ => 1
theorem glv_ge : ∀ {t : GT}, 1 ≤ glv t := by
  intro t
  fun_induction glv t with
  | case1 => assumption
  | case2 => omega
  | case3 => decide
theorem glv_gw : ∀ {t : GT}, 4 * glv t ≤ gw t + 3 := by
  intro t
  fun_induction glv t with
  | case1 z a ih => show 4 * glv a ≤ 2 + gw a + 3; omega
  | case2 a b ih1 ih2 => show 4 * (glv a + glv b) ≤ 3 + gw a + gw b + 3; omega
  | case3 t h1 h2 =>
    have := gw_ge (t := t)
    omega
section TXT
variable {s : Sto} {S S' : TS} {k k' : Nat} {n n' x x' n0 n0' : Int} {L L' L1 L1' cs cs' : List Int} {ρ ρ' : Int → GT}
theorem Tx.up : ∀ {k : Nat} {n : Int} {L cs L1 : List Int}, Tx s k n L cs L1 → Tx s (k + 1) n L cs L1
  | 0, _, _, _, _, h => h.elim
  | k + 1, n, L, cs, L1, h => by
    rcases h with ⟨a, h⟩ | ⟨a, h⟩
    · exact Or.inl ⟨a, Tx.up h⟩
    · refine Or.inr ⟨a, ?_⟩
      rcases h with h | h | h | h | ⟨b, c1, h, e⟩ | ⟨b, c1, L2, c2, h1, h2, e⟩
      · exact Or.inl h
      · exact Or.inr (Or.inl h)
      · exact Or.inr (Or.inr (Or.inl h))
      · exact Or.inr (Or.inr (Or.inr (Or.inl h)))
      · exact Or.inr (Or.inr (Or.inr (Or.inr (Or.inl ⟨b, c1, Tx.up h, e⟩))))
      · exact Or.inr (Or.inr (Or.inr (Or.inr (Or.inr ⟨b, c1, L2, c2, Tx.up h1, Tx.up h2, e⟩))))
theorem Tx.mo (h : Tx s k n L cs L1) : ∀ {k' : Nat}, k ≤ k' → Tx s k' n L cs L1 := by
  intro k' hk
  induction hk with
  | refl => exact h
  | step _ ih => exact ih.up
theorem Tx.lks : ∀ {j : Nat} {n : Int}, Tx s k (rv s j n) L cs L1 → Tx s (k + j) n L cs L1
  | 0, _, h => h
  | j + 1, n, h => by
    have e : rv s (j + 1) n = if lkd s n then rv s j (s n).2.1 else n := rfl
    rw [e] at h
    by_cases c : lkd s n
    · rw [if_pos c] at h
      exact Or.inl ⟨c, Tx.lks h⟩
    · rw [if_neg c] at h
      exact h.mo (by omega)
theorem VS_kd (V : VS S.1 S.2.1 ρ) (h0 : 0 ≤ x) (h1 : x < S.2.1) (W : WS S.1 S.2.1) (nz : (S.1 x).1 ≠ 0) : gkd (ρ x) = (S.1 x).1 := by
  obtain ⟨-, v2, v3, v4⟩ := V x h0 h1
  have r := (W x h0 h1).1
  by_cases c : (S.1 x).1 ≤ 3
  · rw [v2 ⟨by omega, c⟩]
    show (((S.1 x).1.toNat : Nat) : Int) = _
    omega
  · by_cases c4 : (S.1 x).1 = 4
    · rw [v3 c4, c4]; rfl
    · have c5 : (S.1 x).1 = 5 := by omega
      rw [v4 c5, c5]; rfl
/-- what is selected in every reading of one is in every reading of the other -/
def Sel (S S' : TS) (n0 n0' x x' : Int) : Prop := ∃ f : GT → GT, (∀ ρ, VS S.1 S.2.1 ρ → f (ρ n0) = ρ x) ∧ ∀ ρ, VS S'.1 S'.2.1 ρ → f (ρ n0') = ρ x'
def SameT (S S' : TS) (n0 n0' : Int) : Prop := ∀ g, (∃ ρ, VS S.1 S.2.1 ρ ∧ ρ n0 = g) ↔ ∃ ρ, VS S'.1 S'.2.1 ρ ∧ ρ n0' = g
theorem Sel.go (H : SameT S S' n0 n0') (f : Sel S S' n0 n0' x x') (V : VS S.1 S.2.1 ρ) : ∃ ρ', VS S'.1 S'.2.1 ρ' ∧ ρ' n0' = ρ n0 ∧ ρ' x' = ρ x := by
  obtain ⟨ρ', V', e⟩ := (H (ρ n0)).mp ⟨ρ, V, rfl⟩
  obtain ⟨g, g1, g2⟩ := f
  exact ⟨ρ', V', e, by rw [← g2 ρ' V', e, g1 ρ V]⟩
theorem Sel.sym (f : Sel S S' n0 n0' x x') : Sel S' S n0' n0 x' x := by
  obtain ⟨g, g1, g2⟩ := f
  exact ⟨g, g2, g1⟩
theorem SameT.sym (H : SameT S S' n0 n0') : SameT S' S n0' n0 := fun g => (H g).symm
theorem Sel.k0 (H : SameT S S' n0 n0') (W : SO S) (W' : SO S') (I : ∃ ρ, VS S.1 S.2.1 ρ) (f : Sel S S' n0 n0' x x') (h : 0 ≤ x ∧ x < S.2.1) (h' : 0 ≤ x' ∧ x' < S'.2.1) (u : ¬ lkd S.1 x) (k0 : (S.1 x).1 = 0) : (S'.1 x').1 = 0 := Classical.byContradiction fun nz => by
  obtain ⟨ρ0, V0⟩ := I
  have t : ∀ g : GT, gkd g = (S'.1 x').1 := fun g => by
    obtain ⟨ρ, V, e⟩ := ev_o W V0 (fun _ => g)
    obtain ⟨ρ', V', -, e'⟩ := f.go H V
    rw [← VS_kd V' h'.1 h'.2 W'.1 nz, e', e x ⟨h, k0, u⟩]
  have a := t (gL .nil)
  have b := t (gA .nil .nil)
  rw [← a] at b
  exact absurd b (by show ¬ (5 : Int) = 4; decide)
theorem Sel.kd (H : SameT S S' n0 n0') (W : SO S) (W' : SO S') (I : ∃ ρ, VS S.1 S.2.1 ρ) (I' : ∃ ρ, VS S'.1 S'.2.1 ρ) (f : Sel S S' n0 n0' x x') (h : 0 ≤ x ∧ x < S.2.1) (h' : 0 ≤ x' ∧ x' < S'.2.1) (u : ¬ lkd S.1 x) (u' : ¬ lkd S'.1 x') : (S.1 x).1 = (S'.1 x').1 := by
  by_cases k0 : (S.1 x).1 = 0
  · rw [k0, f.k0 H W W' I h h' u k0]
  · by_cases k0' : (S'.1 x').1 = 0
    · exact absurd (f.sym.k0 H.sym W' W I' h' h u' k0') k0
    · obtain ⟨ρ, V⟩ := I
      obtain ⟨ρ', V', -, e⟩ := f.go H V
      rw [← VS_kd V h.1 h.2 W.1 k0, ← VS_kd V' h'.1 h'.2 W'.1 k0', e]
/-- two variables are one in both -/
theorem Sel.eq {y y' : Int} (H : SameT S S' n0 n0') (W' : SO S') (I' : ∃ ρ, VS S'.1 S'.2.1 ρ) (f : Sel S S' n0 n0' x x') (g : Sel S S' n0 n0' y y') (ox : oP S' x') (oy : oP S' y') (e : x = y) : x' = y' := Classical.byContradiction fun ne => by
  obtain ⟨ρ0, V0⟩ := I'
  obtain ⟨ρ', V', e'⟩ := ev_o W' V0 (fun u => if u = x' then gK 1 else gK 2)
  obtain ⟨f, f1, f2⟩ := f
  obtain ⟨g, g1, g2⟩ := g
  obtain ⟨ρ, V, en⟩ := (H (ρ' n0')).mpr ⟨ρ', V', rfl⟩
  have a : ρ' x' = ρ x := by rw [← f2 ρ' V', ← en, f1 ρ V]
  have b : ρ' y' = ρ y := by rw [← g2 ρ' V', ← en, g1 ρ V]
  rw [e, ← b, e' x' ox, e' y' oy, if_pos rfl, if_neg (Ne.symm ne)] at a
  exact absurd (congrArg gkd a) (by show ¬ (1 : Int) = 2; decide)
/-- the variables met so far, in pairs -/
def PLj (L : List Int) : Prop := ∀ i j : Nat, i < L.length → j < L.length → L.getD i 0 = L.getD j 0 → i = j
def PL (S S' : TS) (n0 n0' : Int) (L L' : List Int) : Prop := L.length = L'.length ∧ ∀ i : Nat, i < L.length → oP S (L.getD i 0) ∧ oP S' (L'.getD i 0) ∧ Sel S S' n0 n0' (L.getD i 0) (L'.getD i 0)
theorem mem_gd : ∀ {L : List Int} {x : Int}, x ∈ L → ∃ i : Nat, i < L.length ∧ L.getD i 0 = x
  | [], _, h => by cases h
  | y :: L, x, h => by
    rcases List.mem_cons.mp h with e | e
    · exact ⟨0, by rw [List.length_cons]; omega, e.symm⟩
    · obtain ⟨i, h1, h2⟩ := mem_gd e
      exact ⟨i + 1, by rw [List.length_cons]; omega, h2⟩
theorem PL.mem (H : SameT S S' n0 n0') (W' : SO S') (I' : ∃ ρ, VS S'.1 S'.2.1 ρ) (P : PL S S' n0 n0' L L') (f : Sel S S' n0 n0' x x') (ox : oP S' x') {i : Nat} (hi : i < L.length) (e : L.getD i 0 = x) : L'.getD i 0 = x' := by
  obtain ⟨-, o', g⟩ := P.2 i hi
  exact g.eq H W' I' f o' ox e
theorem PL.sym (P : PL S S' n0 n0' L L') : PL S' S n0' n0 L' L := ⟨P.1.symm, fun i hi => by
  obtain ⟨a, b, c⟩ := P.2 i (by rw [P.1]; exact hi)
  exact ⟨b, a, c.sym⟩⟩
theorem PL.snoc (P : PL S S' n0 n0' L L') (f : Sel S S' n0 n0' x x') (o : oP S x) (o' : oP S' x') : PL S S' n0 n0' (L ++ [x]) (L' ++ [x']) := by
  refine ⟨by rw [List.length_append, List.length_append, P.1]; rfl, fun i hi => ?_⟩
  rw [List.length_append] at hi
  by_cases c : i < L.length
  · rw [(gd_l L [x] i c).1, (gd_l L' [x'] i (by rw [← P.1]; exact c)).1]; exact P.2 i c
  · have e : i = L.length := by
      have : [x].length = 1 := rfl
      omega
    rw [gd_r L [x] i (by omega), gd_r L' [x'] i (by rw [← P.1]; omega), ← P.1, e, Nat.sub_self]
    exact ⟨o, o', f⟩
theorem gd_mem : ∀ {L : List Int} {i : Nat}, i < L.length → L.getD i 0 ∈ L
  | [], i, h => absurd h (Nat.not_lt_zero i)
  | _ :: _, 0, _ => List.mem_cons_self
  | _ :: L, i + 1, h => List.mem_cons_of_mem _ (gd_mem (L := L) (by rw [List.length_cons] at h; omega))
theorem PLj.snoc (P : PLj L) (h : x ∉ L) : PLj (L ++ [x]) := fun i j hi hj e => by
  have l1 : [x].length = 1 := rfl
  rw [List.length_append] at hi hj
  have gx : (L ++ [x]).getD L.length 0 = x := by rw [gd_r L [x] _ (by omega), Nat.sub_self]; rfl
  by_cases ci : i < L.length
  · by_cases cj : j < L.length
    · rw [(gd_l L [x] i ci).1, (gd_l L [x] j cj).1] at e; exact P i j ci cj e
    · have ej : j = L.length := by omega
      rw [(gd_l L [x] i ci).1, ej, gx] at e
      exact absurd (e ▸ gd_mem ci) h
  · have ei : i = L.length := by omega
    by_cases cj : j < L.length
    · rw [(gd_l L [x] j cj).1, ei, gx] at e
      exact absurd (e.symm ▸ gd_mem cj) h
    · omega
theorem tx_eq (H : SameT S S' n0 n0') (W : SO S) (W' : SO S') (I : ∃ ρ, VS S.1 S.2.1 ρ) (I' : ∃ ρ, VS S'.1 S'.2.1 ρ) : ∀ (N k k' : Nat) (x x' : Int) (L L' cs cs' L1 L1' : List Int), k + k' ≤ N → (0 ≤ x ∧ x < S.2.1) → (0 ≤ x' ∧ x' < S'.2.1) → Sel S S' n0 n0' x x' → PL S S' n0 n0' L L' → PLj L → PLj L' → Tx S.1 k x L cs L1 → Tx S'.1 k' x' L' cs' L1' → cs = cs' ∧ PL S S' n0 n0' L1 L1' ∧ PLj L1 ∧ PLj L1'
  | _, 0, _, _, _, _, _, _, _, _, _, _, _, _, _, _, _, _, t, _ => t.elim
  | _, _ + 1, 0, _, _, _, _, _, _, _, _, _, _, _, _, _, _, _, _, t => t.elim
  | 0, k + 1, k' + 1, _, _, _, _, _, _, _, _, h, _, _, _, _, _, _, _, _ => by omega
  | N + 1, k + 1, k' + 1, x, x', L, L', cs, cs', L1, L1', hN, h, h', f, P, J, J', t, t' => by
    by_cases u : lkd S.1 x
    · have t1 : Tx S.1 k (S.1 x).2.1 L cs L1 := by
        rcases t with ⟨-, t⟩ | ⟨a, -⟩
        · exact t
        · exact absurd u a
      have r := (W.1 x h.1 h.2).2.1 u
      obtain ⟨g, g1, g2⟩ := f
      exact tx_eq H W W' I I' N k (k' + 1) _ _ _ _ _ _ _ _ (by omega) ⟨u.2, r⟩ h' ⟨g, fun ρ V => (g1 ρ V).trans ((V x h.1 h.2).1 u), g2⟩ P J J' t1 t'
    · by_cases u' : lkd S'.1 x'
      · have t1 : Tx S'.1 k' (S'.1 x').2.1 L' cs' L1' := by
          rcases t' with ⟨-, t⟩ | ⟨a, -⟩
          · exact t
          · exact absurd u' a
        have r := (W'.1 x' h'.1 h'.2).2.1 u'
        obtain ⟨g, g1, g2⟩ := f
        exact tx_eq H W W' I I' N (k + 1) k' _ _ _ _ _ _ _ _ (by omega) h ⟨u'.2, r⟩ ⟨g, g1, fun ρ V => (g2 ρ V).trans ((V x' h'.1 h'.2).1 u')⟩ P J J' t t1
      · have ek := f.kd H W W' I I' h h' u u'
        rcases t with ⟨a, -⟩ | ⟨-, t⟩
        · exact absurd a u
        rcases t' with ⟨a, -⟩ | ⟨-, t'⟩
        · exact absurd a u'
        have w := W.1 x h.1 h.2
        have w' := W'.1 x' h'.1 h'.2
        rcases t with ⟨k0, t⟩ | ⟨k1, t⟩ | ⟨k2, t⟩ | ⟨k3, t⟩ | ⟨k4, t⟩ | ⟨k5, t⟩
        · have ox : oP S x := ⟨h, k0, u⟩
          have ox' : oP S' x' := ⟨h', by rw [← ek]; exact k0, u'⟩
          rcases t' with ⟨-, t'⟩ | ⟨q, -⟩ | ⟨q, -⟩ | ⟨q, -⟩ | ⟨q, -⟩ | ⟨q, -⟩ <;> try (exfalso; omega)
          rcases t with ⟨m, e1, e2⟩ | ⟨i, hi, e0, e1, e2⟩
          · rcases t' with ⟨m', e1', e2'⟩ | ⟨i', hi', e0', e1', e2'⟩
            · subst e1 e2 e1' e2'
              exact ⟨by rw [P.1], P.snoc f ox ox', J.snoc m, J'.snoc m'⟩
            · exfalso
              have := P.sym.mem H.sym W I f.sym ox hi' e0'
              exact m (this ▸ gd_mem (by rw [P.1]; exact hi'))
          · have q := P.mem H W' I' f ox' hi e0
            rcases t' with ⟨m', e1', e2'⟩ | ⟨i', hi', e0', e1', e2'⟩
            · exfalso
              exact m' (q ▸ gd_mem (by rw [← P.1]; exact hi))
            · have : i = i' := J' i i' (by rw [← P.1]; exact hi) hi' (q.trans e0'.symm)
              subst e1 e2 e1' e2' this
              exact ⟨rfl, P, J, J'⟩
        · rcases t' with ⟨q, -⟩ | ⟨q, t'⟩ | ⟨q, -⟩ | ⟨q, -⟩ | ⟨q, -⟩ | ⟨q, -⟩ <;> try (exfalso; omega)
          obtain ⟨e1, e2⟩ := t
          obtain ⟨e1', e2'⟩ := t'
          subst e1 e2 e1' e2'
          exact ⟨rfl, P, J, J'⟩
        · rcases t' with ⟨q, -⟩ | ⟨q, -⟩ | ⟨q, t'⟩ | ⟨q, -⟩ | ⟨q, -⟩ | ⟨q, -⟩ <;> try (exfalso; omega)
          obtain ⟨e1, e2⟩ := t
          obtain ⟨e1', e2'⟩ := t'
          subst e1 e2 e1' e2'
          exact ⟨rfl, P, J, J'⟩
        · rcases t' with ⟨q, -⟩ | ⟨q, -⟩ | ⟨q, -⟩ | ⟨q, t'⟩ | ⟨q, -⟩ | ⟨q, -⟩ <;> try (exfalso; omega)
          obtain ⟨e1, e2⟩ := t
          obtain ⟨e1', e2'⟩ := t'
          subst e1 e2 e1' e2'
          exact ⟨rfl, P, J, J'⟩
        · rcases t' with ⟨q, -⟩ | ⟨q, -⟩ | ⟨q, -⟩ | ⟨q, -⟩ | ⟨q, t'⟩ | ⟨q, -⟩ <;> try (exfalso; omega)
          obtain ⟨c1, t1, e⟩ := t
          obtain ⟨c1', t1', e'⟩ := t'
          obtain ⟨g, g1, g2⟩ := f
          obtain ⟨q1, q2, q3, q4⟩ := tx_eq H W W' I I' N k k' _ _ _ _ _ _ _ _ (by omega) (w.2.2.1 k4) (w'.2.2.1 (by omega)) ⟨fun t => gp1 (g t), fun ρ V => by show gp1 (g (ρ n0)) = _; rw [g1 ρ V, (V x h.1 h.2).2.2.1 k4]; rfl, fun ρ V => by show gp1 (g (ρ n0')) = _; rw [g2 ρ V, (V x' h'.1 h'.2).2.2.1 (by omega)]; rfl⟩ P J J' t1 t1'
          exact ⟨by rw [e, e', q1], q2, q3, q4⟩
        · rcases t' with ⟨q, -⟩ | ⟨q, -⟩ | ⟨q, -⟩ | ⟨q, -⟩ | ⟨q, -⟩ | ⟨q, t'⟩ <;> try (exfalso; omega)
          obtain ⟨c1, L2, c2, t1, t2, e⟩ := t
          obtain ⟨c1', L2', c2', t1', t2', e'⟩ := t'
          obtain ⟨g, g1, g2⟩ := f
          have v := fun ρ (V : VS S.1 S.2.1 ρ) => (V x h.1 h.2).2.2.2 k5
          have v' := fun ρ (V : VS S'.1 S'.2.1 ρ) => (V x' h'.1 h'.2).2.2.2 (by omega)
          obtain ⟨q1, q2, q3, q4⟩ := tx_eq H W W' I I' N k k' _ _ _ _ _ _ _ _ (by omega) (w.2.2.2 k5).1 (w'.2.2.2 (by omega)).1 ⟨fun t => gp1 (g t), fun ρ V => by show gp1 (g (ρ n0)) = _; rw [g1 ρ V, v ρ V]; rfl, fun ρ V => by show gp1 (g (ρ n0')) = _; rw [g2 ρ V, v' ρ V]; rfl⟩ P J J' t1 t1'
          obtain ⟨p1, p2, p3, p4⟩ := tx_eq H W W' I I' N k k' _ _ _ _ _ _ _ _ (by omega) (w.2.2.2 k5).2 (w'.2.2.2 (by omega)).2 ⟨fun t => gp2 (g t), fun ρ V => by show gp2 (g (ρ n0)) = _; rw [g1 ρ V, v ρ V]; rfl, fun ρ V => by show gp2 (g (ρ n0')) = _; rw [g2 ρ V, v' ρ V]; rfl⟩ q2 q3 q4 t2 t2'
          exact ⟨by rw [e, e', q1, p1], p2, p3, p4⟩
/-- the characters of a type -/
def TxT (s : Sto) (n : Int) (cs : List Int) : Prop := ∃ k L', Tx s k n [] cs L'
theorem txt_eq (W : SO S) (W' : SO S') (I : ∃ ρ, VS S.1 S.2.1 ρ) (I' : ∃ ρ, VS S'.1 S'.2.1 ρ) (h : 0 ≤ n ∧ n < S.2.1) (h' : 0 ≤ n' ∧ n' < S'.2.1) (H : SameT S S' n n') (t : TxT S.1 n cs) (t' : TxT S'.1 n' cs') : cs = cs' := by
  obtain ⟨k, L1, t⟩ := t
  obtain ⟨k', L1', t'⟩ := t'
  exact (tx_eq H W W' I I' (k + k') k k' n n' [] [] cs cs' L1 L1' (Nat.le_refl _) h h' ⟨fun t => t, fun _ _ => rfl, fun _ _ => rfl⟩ ⟨rfl, fun i hi => absurd hi (Nat.not_lt_zero i)⟩ (fun i _ hi => absurd hi (Nat.not_lt_zero i)) (fun i _ hi => absurd hi (Nat.not_lt_zero i)) t t').1
end TXT
