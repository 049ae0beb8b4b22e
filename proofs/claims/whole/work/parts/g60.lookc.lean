/-! What is looked at, in the class. -/
def numV : Va → Int
  | .tag 0 (.nest z _) => z
  | .tag 1 (.nest z _) => z
  | _ => 0
/-- item k -/
def itmK : Va → Nat → Option Va
  | .append x _, 0 => some x
  | .append _ w, k + 1 => itmK w k
  | _, _ => none
section LOKC
variable {h h' : mHp} {σ σ' : Mem} {d n : Nat} {P : Tr → Int → Prop} {v w : Va} {x : Int} {u : Value}
/-- a value's cell -/
theorem RPv.ce0 {b : Bool} : ∀ {u : Value}, RPv h P n v b u → b = false → ∃ i, u = .ref i ∧ ceL h n 8 i ∧ hAt h i 0 = vi (knd v) ∧ (0 ≤ knd v ∧ knd v ≤ 4) ∧ (knd v ≤ 1 → hAt h i 1 = vi (numV v) ∧ rg (numV v)) ∧ (knd v = 2 → hAt h i 2 = .double (relV v)) ∧ (knd v = 3 → hAt h i 1 = vi (llen v : Nat) ∧ llen v ≤ n) ∧ (∀ a b, v = vC a b → RPv h P n a false (hAt h i 3) ∧ RPv h P n b false (hAt h i 4)) := by
  fun_induction RPv h P n v b with
  | case1 => intro u r q; cases q
  | case2 => intro u r q; cases q
  | case3 z f =>
    intro u ⟨i, e, c, a, b, g⟩ _
    exact ⟨i, e, c, a, ⟨(show (0 : Int) ≤ 0 by decide), (show (0 : Int) ≤ 4 by decide)⟩, fun _ => ⟨b, g⟩, fun q => absurd q (show ¬ (0 : Int) = 2 by decide), fun q => absurd q (show ¬ (0 : Int) = 3 by decide), fun a b q => by cases q⟩
  | case4 z f =>
    intro u ⟨i, e, c, a, b, g⟩ _
    exact ⟨i, e, c, a, ⟨(show (0 : Int) ≤ 1 by decide), (show (1 : Int) ≤ 4 by decide)⟩, fun _ => ⟨b, g⟩, fun q => absurd q (show ¬ (1 : Int) = 2 by decide), fun q => absurd q (show ¬ (1 : Int) = 3 by decide), fun a b q => by cases q⟩
  | case5 z f =>
    intro u ⟨i, e, c, a, b, g⟩ _
    exact ⟨i, e, c, a, ⟨(show (0 : Int) ≤ 2 by decide), (show (2 : Int) ≤ 4 by decide)⟩, fun q => absurd q (show ¬ (2 : Int) ≤ 1 by decide), fun _ => g, fun q => absurd q (show ¬ (2 : Int) = 3 by decide), fun a b q => by cases q⟩
  | case6 f =>
    intro u ⟨i, e, c, a, b⟩ _
    exact ⟨i, e, c, a, ⟨(show (0 : Int) ≤ 3 by decide), (show (3 : Int) ≤ 4 by decide)⟩, fun q => absurd q (show ¬ (3 : Int) ≤ 1 by decide), fun q => absurd q (show ¬ (3 : Int) = 2 by decide), fun _ => ⟨b, Nat.zero_le _⟩, fun a b q => by cases q⟩
  | case7 x w ih1 ih2 =>
    intro u ⟨i, e, c, a, b, l, x, y⟩ _
    refine ⟨i, e, c, a, ⟨(show (0 : Int) ≤ 3 by decide), (show (3 : Int) ≤ 4 by decide)⟩, fun q => absurd q (show ¬ (3 : Int) ≤ 1 by decide), fun q => absurd q (show ¬ (3 : Int) = 2 by decide), fun _ => ⟨b, ?_⟩, fun a b q => by cases q; exact ⟨x, y⟩⟩
    have := c.1.2
    show llen _ + 1 ≤ n
    omega
  | case8 z f =>
    intro u ⟨i, m, e, c, a, b, g, p⟩ _
    exact ⟨i, e, c, a, ⟨(show (0 : Int) ≤ 4 by decide), (show (4 : Int) ≤ 4 by decide)⟩, fun q => absurd q (show ¬ (4 : Int) ≤ 1 by decide), fun q => absurd q (show ¬ (4 : Int) = 2 by decide), fun q => absurd q (show ¬ (4 : Int) = 3 by decide), fun a b q => by cases q⟩
  | case9 lam ρ ih =>
    intro u ⟨i, m, e, c, a, b, g, p, y⟩ _
    exact ⟨i, e, c, a, ⟨(show (0 : Int) ≤ 4 by decide), (show (4 : Int) ≤ 4 by decide)⟩, fun q => absurd q (show ¬ (4 : Int) ≤ 1 by decide), fun q => absurd q (show ¬ (4 : Int) = 2 by decide), fun q => absurd q (show ¬ (4 : Int) = 3 by decide), fun a b q => by cases q⟩
  | case10 f lam ρ ih =>
    intro u ⟨i, m, s, e, c, a, b, g, p, y⟩ _
    exact ⟨i, e, c, a, ⟨(show (0 : Int) ≤ 4 by decide), (show (4 : Int) ≤ 4 by decide)⟩, fun q => absurd q (show ¬ (4 : Int) ≤ 1 by decide), fun q => absurd q (show ¬ (4 : Int) = 2 by decide), fun q => absurd q (show ¬ (4 : Int) = 3 by decide), fun a b q => by cases q⟩
  | case11 => intro u r _; exact r.elim
theorem RPv.ce (r : RPv h P n v false u) : ∃ i, u = .ref i ∧ ceL h n 8 i ∧ hAt h i 0 = vi (knd v) ∧ (0 ≤ knd v ∧ knd v ≤ 4) ∧ (knd v ≤ 1 → hAt h i 1 = vi (numV v) ∧ rg (numV v)) ∧ (knd v = 2 → hAt h i 2 = .double (relV v)) ∧ (knd v = 3 → hAt h i 1 = vi (llen v : Nat) ∧ llen v ≤ n) ∧ (∀ a b, v = vC a b → RPv h P n a false (hAt h i 3) ∧ RPv h P n b false (hAt h i 4)) := r.ce0 rfl
theorem knd_3 (e : knd v = 3) (n1 : ∀ a b, v ≠ vC a b) : llen v = 0 := by
  unfold llen
  split
  · exact absurd rfl (n1 _ _)
  · rfl
theorem llen_3 (h : llen v ≠ 0) : ∃ a b, v = vC a b := by
  unfold llen at h
  split at h
  · exact ⟨_, _, rfl⟩
  · exact absurd rfl h
/-- value: what the class answers where something is worked out -/
def vlW (v : Va) (x : Int) : Int := if x = 0 then knd v else if x = 1 then numV v else llen v
theorem numV_0 (h : ¬ knd v ≤ 1) : numV v = 0 := by
  unfold numV
  split
  · exact absurd (show (0 : Int) ≤ 1 by decide) h
  · exact absurd (show (1 : Int) ≤ 1 by decide) h
  · rfl
theorem llen_0 (h : knd v ≠ 3) : llen v = 0 := by
  unfold llen
  split
  · exact absurd rfl h
  · rfl
theorem c_vlu (r : RPv h P h.1 v false (hAt h 1 9)) (hh : h.1 ≤ 2000000000) (gx : rg x) (hx : 0 ≤ x ∧ x ≤ 2) : Rh (d + 3) yF_value [.ref 1, vi x] h σ (.inl (some (vi (vlW v x)))) h σ := by
  obtain ⟨i, eu, c, k0, kr, kn, k2, k3, -⟩ := r.ce
  refine M_F_value gx ⟨_, rfl, Or.inr ⟨i, eu⟩, Or.inr ⟨i, eu, ?_⟩⟩
  have gk : rg (knd v) := by unfold rg; omega
  unfold vlW
  by_cases a0 : x = 0
  · rw [if_pos a0, if_pos a0]
    exact ⟨c.1.1, c.2, _, k0, gk, rfl, rfl, rfl⟩
  rw [if_neg a0, if_neg a0]
  by_cases a1 : x = 1
  · rw [if_pos a1, if_pos a1]
    refine ⟨c.1.1, c.2, _, k0, gk, ?_⟩
    by_cases b0 : knd v = 0
    · rw [if_pos b0]
      obtain ⟨e, g⟩ := kn (by omega)
      exact ⟨i, rfl, c.1.1, c.2, _, e, g, rfl, rfl, rfl⟩
    rw [if_neg b0]
    refine ⟨_, k0, gk, ?_⟩
    by_cases b1 : knd v = 1
    · rw [if_neg (fun e => e b1)]
      obtain ⟨e, g⟩ := kn (by omega)
      exact ⟨i, rfl, c.1.1, c.2, _, e, g, rfl, rfl, rfl⟩
    rw [if_pos b1, numV_0 (by omega)]
    exact ⟨rfl, rfl, rfl⟩
  rw [if_neg a1, if_neg a1, if_pos (by omega)]
  refine ⟨c.1.1, c.2, _, k0, gk, ?_⟩
  by_cases b3 : knd v = 3
  · rw [if_neg (fun e => e b3)]
    obtain ⟨e, g⟩ := k3 b3
    exact ⟨_, e, by unfold rg; omega, rfl, rfl, rfl⟩
  rw [if_pos b3, llen_0 b3]
  exact ⟨rfl, rfl, rfl⟩
theorem c_vlu4 (e : ∃ i, hAt h 1 9 = .ref i) (gx : rg x) (hx : x < 0 ∨ 2 < x) : Rh (d + 3) yF_value [.ref 1, vi x] h σ (.inr 4) (hNew h 200 6 (fun _ => .null)) σ := by
  obtain ⟨i, eu⟩ := e
  refine M_F_value gx ⟨_, rfl, Or.inr ⟨i, eu⟩, Or.inr ⟨i, eu, ?_⟩⟩
  rw [if_neg (by omega), if_neg (by omega), if_neg (by omega)]
  exact ⟨rfl, rfl, rfl⟩
theorem c_vlu3 (e : hAt h 1 9 = .null) (gx : rg x) : Rh (d + 3) yF_value [.ref 1, vi x] h σ (.inr 3) (hNew h 200 6 (fun _ => .null)) σ := M_F_value gx ⟨_, rfl, Or.inl e, Or.inl ⟨e, rfl, rfl, rfl⟩⟩
theorem c_rea (r : RPv h P h.1 v false (hAt h 1 9)) : Rh (d + 3) yF_real [.ref 1] h σ (.inl (some (.double (relV v)))) h σ := by
  obtain ⟨i, eu, c, k0, kr, kn, k2, k3, -⟩ := r.ce
  have gk : rg (knd v) := by unfold rg; omega
  refine M_F_real ⟨_, rfl, Or.inr ⟨i, eu⟩, Or.inr ⟨i, eu, c.1.1, c.2, _, k0, gk, ?_⟩⟩
  by_cases b2 : knd v = 2
  · rw [if_neg (fun e => e b2)]
    exact ⟨_, k2 b2, rfl, rfl, rfl⟩
  · rw [if_pos b2]
    have e : relV v = FP.dconst0 := by
      unfold relV
      split
      · exact absurd rfl b2
      · rfl
    rw [e]
    exact ⟨rfl, rfl, rfl⟩
theorem c_rea3 (e : hAt h 1 9 = .null) : Rh (d + 3) yF_real [.ref 1] h σ (.inr 3) (hNew h 200 6 (fun _ => .null)) σ := M_F_real ⟨_, rfl, Or.inl e, Or.inl ⟨e, rfl, rfl, rfl⟩⟩
theorem c_top (e : ∃ i, hAt h 1 9 = .ref i) (q : isQ (hAt h 54 11)) : Rh (d + 3) yF_top [.ref 1] h σ (.inl none) (hSet h 1 9 (hAt h 54 11)) σ := by
  obtain ⟨i, eu⟩ := e
  exact M_F_top ⟨_, rfl, Or.inr ⟨i, eu⟩, Or.inr ⟨i, eu, _, h, σ, M_Mc_result (d := d) ⟨_, rfl, q, rfl, rfl, rfl⟩, q, rfl, rfl, rfl⟩⟩
theorem c_top3 (e : hAt h 1 9 = .null) : Rh (d + 3) yF_top [.ref 1] h σ (.inr 3) (hNew h 200 6 (fun _ => .null)) σ := M_F_top ⟨_, rfl, Or.inl e, Or.inl ⟨e, rfl, rfl, rfl⟩⟩
/-- a list's item -/
theorem r_itm (gx : rg x) : ∀ (j : Nat) (v : Va) (i : Int) (u : Value), RPv h P n v false u → j < llen v → i + j = x → 0 ≤ i → ∃ w u', itmK v j = some w ∧ Lh (d + 1) yVa_itemAt 26 [(1, vi x), (2, u), (3, vi i)] [] h σ (.inl (some u')) h σ ∧ RPv h P n w false u'
  | 0, v, i, u, r, hl, e, h0 => by
    obtain ⟨a, b, rfl⟩ := llen_3 (v := v) (by omega)
    obtain ⟨c, eu, ce, -, -, -, -, -, ab⟩ := r.ce
    subst eu
    obtain ⟨ra, -⟩ := ab a b rfl
    unfold rg at gx
    refine ⟨a, _, rfl, K_Va_itemAt_26 (by unfold rg; omega) isQ.j (by unfold rg; omega) ?_, ra⟩
    unfold B_Va_itemAt_26
    rw [if_pos (by omega)]
    exact Or.inr ⟨c, rfl, ce.1.1, ce.2, _, rfl, ra.qv, rfl, rfl, rfl⟩
  | j + 1, v, i, u, r, hl, e, h0 => by
    obtain ⟨a, b, rfl⟩ := llen_3 (v := v) (by omega)
    obtain ⟨c, eu, ce, -, -, -, -, -, ab⟩ := r.ce
    subst eu
    obtain ⟨-, rb⟩ := ab a b rfl
    have hl : j + 1 < llen b + 1 := hl
    have gx2 := gx
    unfold rg at gx2
    obtain ⟨w, u', ei, L, rw'⟩ := r_itm gx j b (i + 1) _ rb (by omega) (by omega) (by omega)
    refine ⟨w, u', ei, K_Va_itemAt_26 gx isQ.j (by unfold rg; omega) ?_, rw'⟩
    unfold B_Va_itemAt_26
    rw [if_neg (by omega)]
    exact Or.inr ⟨c, rfl, ce.1.1, ce.2, _, rfl, rb.qv, by unfold rg; omega, L⟩
theorem c_itm (r : RPv h P h.1 v false (hAt h 1 9)) (hh : h.1 ≤ 2000000000) (gx : rg x) (hx : 0 ≤ x ∧ x < llen v) : ∃ w u, itmK v x.toNat = some w ∧ RPv h P h.1 w false u ∧ Rh (d + 3) yF_item [.ref 1, vi x] h σ (.inl none) (hSet h 1 9 u) σ := by
  obtain ⟨w, u, ei, L, rw'⟩ := r_itm (d := d) (σ := σ) gx x.toNat v 0 _ r (by omega) (by omega) (Int.le_refl _)
  refine ⟨w, u, ei, rw', ?_⟩
  obtain ⟨i, eu, c, k0, kr, kn, k2, k3, -⟩ := r.ce
  have gk : rg (knd v) := by unfold rg; omega
  have b3 : knd v = 3 := by
    obtain ⟨a, b, rfl⟩ := llen_3 (v := v) (by omega)
    rfl
  obtain ⟨e, g⟩ := k3 b3
  obtain ⟨j, eu', -⟩ := rw'.ce
  refine M_F_item gx ⟨_, rfl, Or.inr ⟨i, eu⟩, Or.inr ⟨i, eu, c.1.1, c.2, u, h, σ, M_Va_itemAt (d := d) gx ⟨c.1.1, c.2, _, k0, gk, ?_⟩, Or.inr ⟨j, eu'⟩, Or.inr ⟨j, eu', rfl, by rw [eu'], rfl⟩⟩⟩
  rw [if_neg (fun e => e b3), if_neg (by omega)]
  refine ⟨_, e, by unfold rg; omega, ?_⟩
  rw [if_pos (by omega), ← eu]
  exact L
theorem c_itm4 (r : RPv h P h.1 v false (hAt h 1 9)) (hh : h.1 ≤ 2000000000) (gx : rg x) (hx : x < 0 ∨ (llen v : Int) ≤ x) : Rh (d + 3) yF_item [.ref 1, vi x] h σ (.inr 4) (hNew h 200 6 (fun _ => .null)) σ := by
  obtain ⟨i, eu, c, k0, kr, kn, k2, k3, -⟩ := r.ce
  have gk : rg (knd v) := by unfold rg; omega
  refine M_F_item gx ⟨_, rfl, Or.inr ⟨i, eu⟩, Or.inr ⟨i, eu, c.1.1, c.2, .null, h, σ, M_Va_itemAt (d := d) gx ⟨c.1.1, c.2, _, k0, gk, ?_⟩, Or.inl rfl, Or.inl ⟨rfl, rfl, rfl, rfl⟩⟩⟩
  by_cases b3 : knd v = 3
  · rw [if_neg (fun e => e b3)]
    by_cases x0 : x < 0
    · rw [if_pos x0]; exact ⟨rfl, rfl, rfl⟩
    rw [if_neg x0]
    obtain ⟨e, g⟩ := k3 b3
    refine ⟨_, e, by unfold rg; omega, ?_⟩
    rw [if_neg (by omega)]
    exact ⟨rfl, rfl, rfl⟩
  · rw [if_pos b3]; exact ⟨rfl, rfl, rfl⟩
theorem c_itm3 (e : hAt h 1 9 = .null) (gx : rg x) : Rh (d + 3) yF_item [.ref 1, vi x] h σ (.inr 3) (hNew h 200 6 (fun _ => .null)) σ := M_F_item gx ⟨_, rfl, Or.inl e, Or.inl ⟨e, rfl, rfl, rfl⟩⟩
end LOKC
