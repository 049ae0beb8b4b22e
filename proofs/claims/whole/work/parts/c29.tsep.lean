/-! The nodes of a tree: parts have none in common. -/
/-- x is a node of the tree T at n -/
def inT (f g k : Int → Int) : Tr → Int → Int → Prop
  | .tag _ (.nest _ (.append a (.append b c))), n, x => x = n ∨ inT f g k a (f n) x ∨ inT f g k b (g n) x ∨ inT f g k c (k n) x
  | _, _, _ => False
theorem inT_nd {f g h : Int → Int} {k : Nat} {z n x : Int} {a b c : Tr} : inT f g h (nd k z a b c) n x ↔ (x = n ∨ inT f g h a (f n) x ∨ inT f g h b (g n) x ∨ inT f g h c (h n) x) := Iff.rfl
def szT : Tr → Nat
  | .tag _ (.nest _ (.append a (.append b c))) => szT a + szT b + szT c + 1
  | _ => 0
def slT (i : Nat) : Prop := i = 11 ∨ i = 13 ∨ i = 15
section TSP
variable {σ : Mem} {lo hi : Int}
abbrev iT (σ : Mem) : Tr → Int → Int → Prop := inT (σ 11) (σ 13) (σ 15)
/-- what stands at a node is one tree -/
theorem isT_det : ∀ {T U : Tr} {n : Int}, 0 ≤ lo → isT σ 5 lo hi T n → isT σ 5 lo hi U n → T = U := by
  intro T U n h0
  fun_induction isT σ 5 lo hi T n generalizing U with
  | case1 k z a b c n iha ihb ihc =>
    intro h h'
    obtain ⟨h1, h2, h3, h4, h5, h6⟩ := h
    unfold isT at h'
    split at h'
    · next k' z' a' b' c' =>
      obtain ⟨g1, g2, g3, g4, g5, g6⟩ := h'
      have ek : k = k' := by omega
      have ez : z = z' := by omega
      rw [iha h4 g4, ihb h5 g5, ihc h6 g6, ek, ez]
    · omega
    · exact h'.elim
  | case2 n =>
    intro h h'
    unfold isT at h'
    split at h'
    · omega
    · rfl
    · exact h'.elim
  | case3 => intro h; exact h.elim
/-- x is reached from m by so many parts -/
def rch (σ : Mem) : Nat → Int → Int → Prop
  | 0, m, x => x = m
  | k + 1, m, x => ∃ y i, slT i ∧ (0 ≤ y ∧ y < σ 5 7) ∧ rch σ k m y ∧ σ i y = x
theorem rch_f {m x : Int} {i : Nat} (hi : slT i) (hm : 0 ≤ m ∧ m < σ 5 7) : ∀ (k : Nat), rch σ k (σ i m) x → rch σ (k + 1) m x
  | 0, h => ⟨m, i, hi, hm, rfl, h.symm⟩
  | k + 1, h => by
    obtain ⟨y, j, hj, hy, r, e⟩ := h
    exact ⟨y, j, hj, hy, rch_f hi hm k r, e⟩
/-- a node of a tree: it is reached, and a tree stands there -/
theorem iT_r : ∀ {T : Tr} {n x : Int}, isT σ 5 0 (σ 5 7) T n → iT σ T n x → (0 ≤ x ∧ x < σ 5 7) ∧ (∃ k, rch σ k n x) ∧ ∃ U, isT σ 5 0 (σ 5 7) U x ∧ szT U ≤ szT T := by
  intro T n
  fun_induction isT σ 5 0 (σ 5 7) T n with
  | case1 k z a b c n iha ihb ihc =>
    intro x h q
    have h' : isT σ 5 0 (σ 5 7) (nd k z a b c) n := h
    obtain ⟨h1, h2, h3, h4, h5, h6⟩ := h
    have e : szT (nd k z a b c) = szT a + szT b + szT c + 1 := rfl
    rcases q with q | q | q | q
    · rw [q]; exact ⟨h1, ⟨0, rfl⟩, _, h', Nat.le_refl _⟩
    · obtain ⟨r1, ⟨j, r2⟩, U, r3, r4⟩ := iha h4 q
      exact ⟨r1, ⟨j + 1, rch_f (Or.inl rfl) h1 j r2⟩, U, r3, Nat.le_trans r4 (by show szT a ≤ szT (nd k z a b c); omega)⟩
    · obtain ⟨r1, ⟨j, r2⟩, U, r3, r4⟩ := ihb h5 q
      exact ⟨r1, ⟨j + 1, rch_f (Or.inr (Or.inl rfl)) h1 j r2⟩, U, r3, Nat.le_trans r4 (by show szT b ≤ szT (nd k z a b c); omega)⟩
    · obtain ⟨r1, ⟨j, r2⟩, U, r3, r4⟩ := ihc h6 q
      exact ⟨r1, ⟨j + 1, rch_f (Or.inr (Or.inr rfl)) h1 j r2⟩, U, r3, Nat.le_trans r4 (by show szT c ≤ szT (nd k z a b c); omega)⟩
  | case2 => intro x _ q; exact q.elim
  | case3 => intro x h; exact h.elim
/-- a node isn't in its own parts -/
theorem iT_no {k : Nat} {z n : Int} {a b c : Tr} (h : isT σ 5 0 (σ 5 7) (nd k z a b c) n) : ¬ iT σ a (σ 11 n) n ∧ ¬ iT σ b (σ 13 n) n ∧ ¬ iT σ c (σ 15 n) n := by
  have h' := h
  obtain ⟨h1, h2, h3, h4, h5, h6⟩ := h
  have e : szT (nd k z a b c) = szT a + szT b + szT c + 1 := rfl
  refine ⟨fun q => ?_, fun q => ?_, fun q => ?_⟩
  · obtain ⟨-, -, U, u1, u2⟩ := iT_r h4 q
    rw [← isT_det (Int.le_refl 0) h' u1] at u2; omega
  · obtain ⟨-, -, U, u1, u2⟩ := iT_r h5 q
    rw [← isT_det (Int.le_refl 0) h' u1] at u2; omega
  · obtain ⟨-, -, U, u1, u2⟩ := iT_r h6 q
    rw [← isT_det (Int.le_refl 0) h' u1] at u2; omega
theorem rch_dis (G : PP σ) {n : Int} {i j : Nat} (hn : 0 ≤ n ∧ n < σ 5 7) (hi : slT i) (hj : slT j) (ne : i ≠ j) (ei : σ i n ≠ -1) (ej : σ j n ≠ -1) (ci : ∀ k, ¬ rch σ k (σ i n) n) (cj : ∀ k, ¬ rch σ k (σ j n) n) : ∀ (k k' : Nat) (x : Int), x ≠ -1 → rch σ k (σ i n) x → rch σ k' (σ j n) x → False
  | 0, 0, x, hx, h, h' => by
    have h : x = σ i n := h
    have h' : x = σ j n := h'
    exact ne (G.2 n n hn hn i j hi hj (h.symm.trans h') ei).2
  | 0, k' + 1, x, hx, h, h' => by
    have h : x = σ i n := h
    obtain ⟨y, l, hl, hy, r, e⟩ := h'
    obtain ⟨e1, -⟩ := G.2 y n hy hn l i hl hi (e.trans h) (by rw [e]; exact hx)
    rw [e1] at r
    exact cj _ r
  | k + 1, 0, x, hx, h, h' => by
    have h' : x = σ j n := h'
    obtain ⟨y, l, hl, hy, r, e⟩ := h
    obtain ⟨e1, -⟩ := G.2 y n hy hn l j hl hj (e.trans h') (by rw [e]; exact hx)
    rw [e1] at r
    exact ci _ r
  | k + 1, k' + 1, x, hx, h, h' => by
    obtain ⟨y, l, hl, hy, r, e⟩ := h
    obtain ⟨y', l', hl', hy', r', e'⟩ := h'
    obtain ⟨e1, -⟩ := G.2 y y' hy hy' l l' hl hl' (e.trans e'.symm) (by rw [e]; exact hx)
    rw [← e1] at r'
    exact rch_dis G hn hi hj ne ei ej ci cj k k' y (by omega) r r'
theorem iT_nl {T : Tr} {n x : Int} (h : isT σ 5 0 (σ 5 7) T n) (q : iT σ T n x) : n ≠ -1 := by
  unfold isT at h
  split at h
  · omega
  · exact q.elim
  · exact h.elim
/-- parts have no node in common -/
theorem iT_sep (G : PP σ) {k : Nat} {z n : Int} {a b c : Tr} (h : isT σ 5 0 (σ 5 7) (nd k z a b c) n) : (∀ x, iT σ a (σ 11 n) x → ¬ iT σ b (σ 13 n) x) ∧ (∀ x, iT σ a (σ 11 n) x → ¬ iT σ c (σ 15 n) x) ∧ ∀ x, iT σ b (σ 13 n) x → ¬ iT σ c (σ 15 n) x := by
  obtain ⟨n1, n2, n3⟩ := iT_no h
  obtain ⟨h1, h2, h3, h4, h5, h6⟩ := h
  have hs : ∀ y, 0 ≤ y → y < σ 5 7 → ∀ i, slT i → σ i y = -1 ∨ 0 ≤ σ i y := fun y y0 y1 i hi => by
    rcases G.1 y y0 y1 i hi with q | q
    · exact Or.inl q
    · exact Or.inr q.1
  -- from reached to within, inside the tree
  have cyc : ∀ {T : Tr} {m : Int}, isT σ 5 0 (σ 5 7) T m → m ≠ -1 → ¬ iT σ T m n → ∀ k, ¬ rch σ k m n := by
    intro T m hT hm nn k r
    refine nn ?_
    have go : ∀ (k : Nat) (x : Int), x ≠ -1 → rch σ k m x → iT σ T m x := by
      intro k
      induction k with
      | zero =>
        intro x hx r
        have r : x = m := r
        unfold isT at hT
        split at hT
        · exact Or.inl r
        · exact absurd hT hm
        · exact hT.elim
      | succ k ih =>
        intro x hx r
        obtain ⟨y, i, hi, hy, r, e⟩ := r
        have iy := ih y (by omega) r
        have go2 : ∀ {T : Tr} {m : Int}, isT σ 5 0 (σ 5 7) T m → iT σ T m y → iT σ T m x := by
          intro T m
          fun_induction isT σ 5 0 (σ 5 7) T m with
          | case1 k z a b c m iha ihb ihc =>
            intro h q
            obtain ⟨h1, h2, h3, h4, h5, h6⟩ := h
            have root : ∀ {U : Tr} {m : Int}, isT σ 5 0 (σ 5 7) U m → x = m → iT σ U m x := by
              intro U m hU em
              unfold isT at hU
              split at hU
              · exact Or.inl em
              · omega
              · exact hU.elim
            rcases q with q | q | q | q
            · subst q
              rcases hi with rfl | rfl | rfl
              · exact Or.inr (Or.inl (root h4 e.symm))
              · exact Or.inr (Or.inr (Or.inl (root h5 e.symm)))
              · exact Or.inr (Or.inr (Or.inr (root h6 e.symm)))
            · exact Or.inr (Or.inl (iha h4 q))
            · exact Or.inr (Or.inr (Or.inl (ihb h5 q)))
            · exact Or.inr (Or.inr (Or.inr (ihc h6 q)))
          | case2 => intro _ q; exact q.elim
          | case3 => intro h; exact h.elim
        exact go2 hT iy
    exact go k n (by omega) r
  have dis : ∀ {i j : Nat} {A B : Tr}, slT i → slT j → i ≠ j → isT σ 5 0 (σ 5 7) A (σ i n) → isT σ 5 0 (σ 5 7) B (σ j n) → ¬ iT σ A (σ i n) n → ¬ iT σ B (σ j n) n → ∀ x, iT σ A (σ i n) x → ¬ iT σ B (σ j n) x := by
    intro i j A B hi hj ne hA hB nA nB x qA qB
    obtain ⟨x1, ⟨p, r⟩, -⟩ := iT_r hA qA
    obtain ⟨-, ⟨p', r'⟩, -⟩ := iT_r hB qB
    exact rch_dis G h1 hi hj ne (iT_nl hA qA) (iT_nl hB qB) (cyc hA (iT_nl hA qA) nA) (cyc hB (iT_nl hB qB) nB) p p' x (by omega) r r'
  exact ⟨dis (Or.inl rfl) (Or.inr (Or.inl rfl)) (by decide) h4 h5 n1 n2, dis (Or.inl rfl) (Or.inr (Or.inr rfl)) (by decide) h4 h6 n1 n3, dis (Or.inr (Or.inl rfl)) (Or.inr (Or.inr rfl)) (by decide) h5 h6 n2 n3⟩
end TSP
