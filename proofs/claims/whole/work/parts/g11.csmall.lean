/-! The class's machine: names are found, scopes are left. -/
theorem set_same {h : mHp} {i k : Nat} {v : Value} (e : hAt h i k = v) : hSet h i k v = h := by
  obtain ⟨a, b, f⟩ := h
  unfold hSet
  refine congrArg (fun f => (a, b, f)) (funext fun j => ?_)
  dsimp only
  by_cases q : j = i
  · subst q
    rw [if_pos rfl]
    refine congrArg (fun g => ((f j).1, (f j).2.1, g)) (funext fun x => ?_)
    by_cases w : x = k
    · subst w; rw [if_pos rfl]; exact e.symm
    · rw [if_neg w]
  · rw [if_neg q]
theorem set_set {h : mHp} {i k : Nat} {u v : Value} : hSet (hSet h i k u) i k v = hSet h i k v := by
  unfold hSet
  refine congrArg (fun f => (h.1, h.2.1, f)) (funext fun j => ?_)
  dsimp only
  by_cases q : j = i
  · subst q
    rw [if_pos rfl, if_pos rfl, if_pos rfl]
    refine congrArg (fun g => ((h.2.2 j).1, (h.2.2 j).2.1, g)) (funext fun x => ?_)
    dsimp only
    by_cases w : x = k
    · rw [if_pos w, if_pos w]
    · rw [if_neg w, if_neg w, if_neg w]
  · rw [if_neg q, if_neg q, if_neg q]
theorem smC.un {n : Nat} {h h' : mHp} (s : smC n h h') : smC n h' h := fun i h0 h1 => ⟨(s i h0 h1).1.symm, fun k => ((s i h0 h1).2 k).symm⟩
theorem smC.le {n m : Nat} {h h' : mHp} (s : smC n h h') (hm : m ≤ n) : smC m h h' := fun i h0 h1 => s i h0 (Nat.lt_of_lt_of_le h1 hm)
theorem smC.rf {n : Nat} {h : mHp} : smC n h h := fun _ _ _ => ⟨rfl, fun _ => rfl⟩
section CSML
variable {h h' : mHp} {σ : Mem} {d n : Nat} {P : Tr → Int → Prop}
theorem RPv.v {f : Std.Format} {u : Value} (r : RPv h P n f false u) : ∃ j, u = .ref j ∧ ceL h n 8 j := by
  generalize hb : false = b at r
  revert r
  fun_cases RPv h P n f b with
  | case1 => cases hb
  | case2 => cases hb
  | case3 | case4 | case5 | case6 | case7 => intro r; obtain ⟨i, e, c, -⟩ := r; exact ⟨i, e, c⟩
  | case8 | case9 => intro r; obtain ⟨i, m, e, c, -⟩ := r; exact ⟨i, e, c⟩
  | case10 => intro r; obtain ⟨i, m, s, e, c, -⟩ := r; exact ⟨i, e, c⟩
  | case11 => intro r; exact r.elim
theorem RPv.e {f : Std.Format} {u : Value} (r : RPv h P n f true u) : u = .null ∨ ∃ j, u = .ref j ∧ ceL h n 10 j := by
  generalize hb : true = b at r
  revert r
  fun_cases RPv h P n f b with
  | case1 => intro r; exact Or.inl r
  | case2 => intro r; obtain ⟨i, e, c, -⟩ := r; exact Or.inr ⟨i, e, c⟩
  | case3 | case4 | case5 | case6 | case7 | case8 | case9 | case10 => cases hb
  | case11 => intro r; exact r.elim
theorem RPv.nn {f : Std.Format} {u : Value} {j : Nat} (r : RPv h P n f true u) (e : u = .ref j) : ∃ z v ρ, f = .nest z (.append v ρ) := by
  subst e
  generalize hb : true = b at r
  revert r
  fun_cases RPv h P n f b with
  | case1 => intro r; cases r
  | case2 z v ρ => intro _; exact ⟨z, v, ρ, rfl⟩
  | case3 | case4 | case5 | case6 | case7 | case8 | case9 | case10 => cases hb
  | case11 => intro r; exact r.elim
theorem RPv.qv {f : Std.Format} {u : Value} (r : RPv h P n f false u) : isQ u := by obtain ⟨j, e, -⟩ := r.v; exact Or.inr ⟨j, e⟩
theorem RPv.qe {f : Std.Format} {u : Value} (r : RPv h P n f true u) : isQ u := by
  rcases r.e with e | ⟨j, e, -⟩
  · exact Or.inl e
  · exact Or.inr ⟨j, e⟩
theorem r_find5 {z : Int} (hz : rg z) : ∀ (ρ : En) (u : Value), RPv h P n ρ true u → z ∈ nmEn ρ → ∃ j, Lh (d + 2) yMc_find 5 [(1, vi z), (2, u)] [] h σ (.inl (some (.ref j))) h σ ∧ RPv h P n (lkp z ρ) false (.ref j) := by
  intro ρ
  fun_induction lkp z ρ with
  | case1 v ρ =>
    intro u r hm
    obtain ⟨i, rfl, c, a, g, x, y⟩ := r
    obtain ⟨j, ej, -⟩ := x.v
    refine ⟨j, K_Mc_find_5 hz isQ.j (Or.inr ⟨i, rfl, c.1.1, c.2, z, a, g, ?_⟩), by rw [ej] at x; exact x⟩
    rw [if_neg (by simp)]
    exact ⟨_, ej, isQ.j, Or.inr ⟨j, rfl, _, ej, isQ.j, rfl, rfl, rfl⟩⟩
  | case2 y v ρ hy ih =>
    intro u r hm
    obtain ⟨i, rfl, c, a, g, x, w⟩ := r
    have hm : z ∈ y :: nmEn ρ := hm
    obtain ⟨j, L, q⟩ := ih _ w (by
      rcases List.mem_cons.mp hm with e | e
      · exact absurd e.symm hy
      · exact e)
    refine ⟨j, K_Mc_find_5 hz isQ.j (Or.inr ⟨i, rfl, c.1.1, c.2, y, a, g, ?_⟩), q⟩
    rw [if_pos hy]
    exact ⟨i, rfl, c.1.1, c.2, _, rfl, w.qe, L⟩
  | case3 ρ hn =>
    intro u r hm
    unfold nmEn at hm
    split at hm
    · next y v ρ' => exact (hn y v ρ' rfl).elim
    · cases hm
theorem r_find {z : Int} (hz : rg z) {ρ : En} (r : RPv h P n ρ true (hAt h 54 5)) (hm : z ∈ nmEn ρ) : ∃ j, Rh (d + 3) yMc_find [.ref 54, vi z] h σ (.inl (some (.ref j))) h σ ∧ RPv h P n (lkp z ρ) false (.ref j) := by
  obtain ⟨j, L, q⟩ := r_find5 (d := d) (σ := σ) hz ρ _ r hm
  exact ⟨j, M_Mc_find hz ⟨_, rfl, r.qe, L⟩, q⟩
/-- scopes are left -/
theorem r_unb2 {x1 : Int} (h1 : 0 ≤ x1 ∧ x1 ≤ 200) : ∀ (m : Nat) (x2 : Int) (h : mHp) (ρ : En), (m : Int) + x2 = x1 → 0 ≤ x2 → RPv h P n ρ true (hAt h 54 5) → ∃ u, Lh (d + 1) yMc_unbind 2 [(0, .ref 54), (1, vi x1), (2, vi x2)] [] h σ (.inl none) (hSet h 54 5 u) σ ∧ RPv h P n (drp m ρ) true u := by
  intro m
  induction m with
  | zero =>
    intro x2 h ρ e h0 r
    refine ⟨hAt h 54 5, K_Mc_unbind_2 (by unfold rg; omega) (by unfold rg; omega) ?_, r⟩
    unfold B_Mc_unbind_2
    rw [if_pos (by omega)]
    exact ⟨rfl, set_same rfl, rfl⟩
  | succ m ih =>
    intro x2 h ρ e h0 r
    have stop : ∀ ρ, hAt h 54 5 = .null → RPv h P n ρ true .null → ∃ u, Lh (d + 1) yMc_unbind 2 [(0, .ref 54), (1, vi x1), (2, vi x2)] [] h σ (.inl none) (hSet h 54 5 u) σ ∧ RPv h P n ρ true u := fun ρ e1 r1 => by
      refine ⟨.null, K_Mc_unbind_2 (by unfold rg; omega) (by unfold rg; omega) ?_, r1⟩
      unfold B_Mc_unbind_2
      rw [if_neg (by omega)]
      exact ⟨_, e1, isQ.n, Or.inl ⟨rfl, rfl, set_same e1, rfl⟩⟩
    rcases r.e with e1 | ⟨j, e1, c⟩
    · have q : drp (m + 1) ρ = ρ ∨ ∃ z v ρ', ρ = .nest z (.append v ρ') := by
        unfold drp
        split
        · next e => cases e
        · exact Or.inr ⟨_, _, _, rfl⟩
        · exact Or.inl rfl
      rw [e1] at r
      rcases q with q | ⟨z, v, ρ', rfl⟩
      · rw [q]; exact stop ρ e1 r
      · obtain ⟨i, e2, -⟩ := r; cases e2
    · have q : ∃ z v ρ', ρ = .nest z (.append v ρ') := by
        exact r.nn e1
      obtain ⟨z, v, ρ', rfl⟩ := q
      obtain ⟨i, e2, c2, a, g, x, w⟩ := r
      rw [e1] at e2
      cases e2
      have S54 : smC n h (hSet h 54 5 (hAt h j 2)) := smC.set (Or.inl (by decide))
      obtain ⟨u, L, q⟩ := ih (x2 + 1) (hSet h 54 5 (hAt h j 2)) ρ' (by omega) (by omega) (by rw [at_eq]; exact w.mv S54 (Nat.le_refl _))
      refine ⟨u, K_Mc_unbind_2 (by unfold rg; omega) (by unfold rg; omega) ?_, ?_⟩
      · unfold B_Mc_unbind_2
        rw [if_neg (by omega)]
        refine ⟨_, e1, isQ.j, Or.inr ⟨j, rfl, _, e1, isQ.j, j, rfl, c.1.1, c.2, _, rfl, w.qe, by unfold rg; omega, ?_⟩⟩
        rw [set_set] at L
        exact L
      · exact q.mv (smC.un S54) (Nat.le_refl _)
end CSML
