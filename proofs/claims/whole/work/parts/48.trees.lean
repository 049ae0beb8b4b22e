/-! Trees in rows: what stands at a node; a node is added. -/
theorem rows_at {n i : Nat} {σ : Mem} {z v x : Int} : rows n σ i z v i x = if x = z ∧ 0 ≤ z ∧ z < n then v else σ i x := by
  unfold rows
  by_cases q : 0 ≤ z ∧ z < (n : Int)
  · rw [if_pos q]
    by_cases e : x = z
    · rw [if_pos ⟨e, q⟩, e, mup_eq]
    · rw [if_neg (fun w => e w.1), mup_nk e]
  · rw [if_neg q, if_neg (fun w => q w.2)]
theorem rows_in {n i : Nat} {σ : Mem} {z v : Int} (h0 : 0 ≤ z) (h1 : z < n) : rows n σ i z v = mup σ i z v := if_pos ⟨h0, h1⟩
/-- the tree T stands at the node n, its nodes between lo and hi -/
def isT (σ : Mem) (t : Nat) (lo hi : Int) : Tr → Int → Prop
  | .tag k (.nest z (.append a (.append b c))), n => (lo ≤ n ∧ n < hi) ∧ σ (t + 2) n = k ∧ σ (t + 4) n = z ∧ isT σ t lo hi a (σ (t + 6) n) ∧ isT σ t lo hi b (σ (t + 8) n) ∧ isT σ t lo hi c (σ (t + 10) n)
  | .nil, n => n = -1
  | _, _ => False
theorem isT_nd {σ : Mem} {t : Nat} {lo hi : Int} {k : Nat} {z n : Int} {a b c : Tr} : isT σ t lo hi (nd k z a b c) n ↔ (lo ≤ n ∧ n < hi) ∧ σ (t + 2) n = k ∧ σ (t + 4) n = z ∧ isT σ t lo hi a (σ (t + 6) n) ∧ isT σ t lo hi b (σ (t + 8) n) ∧ isT σ t lo hi c (σ (t + 10) n) := Iff.rfl
theorem isT_nl {σ : Mem} {t : Nat} {lo hi n : Int} : isT σ t lo hi nl n ↔ n = -1 := Iff.rfl
/-- it says nothing of other nodes -/
theorem isT.mv {σ σ' : Mem} {t : Nat} {lo hi lo' hi' : Int} (hl : lo' ≤ lo) (hh : hi ≤ hi') (hs : ∀ x, lo ≤ x → x < hi → σ' (t + 2) x = σ (t + 2) x ∧ σ' (t + 4) x = σ (t + 4) x ∧ σ' (t + 6) x = σ (t + 6) x ∧ σ' (t + 8) x = σ (t + 8) x ∧ σ' (t + 10) x = σ (t + 10) x) : ∀ {T : Tr} {n : Int}, isT σ t lo hi T n → isT σ' t lo' hi' T n := by
  intro T n
  fun_induction isT σ t lo hi T n with
  | case1 k z a b c n iha ihb ihc =>
    intro h
    obtain ⟨h1, h2, h3, h4, h5, h6⟩ := h
    obtain ⟨e1, e2, e3, e4, e5⟩ := hs n h1.1 h1.2
    refine ⟨⟨by omega, by omega⟩, e1.trans h2, e2.trans h3, ?_, ?_, ?_⟩
    · rw [e3]; exact iha h4
    · rw [e4]; exact ihb h5
    · rw [e5]; exact ihc h6
  | case2 n => intro h; exact h
  | case3 => intro h; exact h.elim

/-- what a node's row holds, and what its parts know of it -/
def P0 (σ : Mem) : Prop := ∀ x, 0 ≤ x → x < σ 5 7 → ∀ j, j = 11 ∨ j = 13 ∨ j = 15 → σ j x = -1 ∨ (0 ≤ σ j x ∧ σ j x < σ 5 7 ∧ 0 ≤ σ 17 (σ j x) ∧ σ 17 (σ j x) = if j = 15 ∧ σ 7 x = 17 then σ 17 x else x)
/-- a node is a part of one node at most, at one place -/
def PJ (σ : Mem) : Prop := ∀ x y, (0 ≤ x ∧ x < σ 5 7) → (0 ≤ y ∧ y < σ 5 7) → ∀ i j, (i = 11 ∨ i = 13 ∨ i = 15) → (j = 11 ∨ j = 13 ∨ j = 15) → σ i x = σ j y → σ i x ≠ -1 → x = y ∧ i = j
def PP (σ : Mem) : Prop := P0 σ ∧ PJ σ
/-- no node has a type yet -/
def P19 (σ : Mem) : Prop := ∀ x, 0 ≤ x → x < σ 5 7 → σ 19 x = -1
def PQ (σ : Mem) : Prop := PP σ ∧ P19 σ
/-- three parts differ -/
def df3 (a b c : Int) : Prop := (a = b → a = -1) ∧ (a = c → a = -1) ∧ (b = c → b = -1)
theorem df_1 {a : Int} : df3 a (-1) (-1) := ⟨fun h => h, fun h => h, fun _ => rfl⟩
theorem df_2 {A B : Tr} {a b : Int} {L : List (Tr × Int)} (h : (((B, b) :: (A, a) :: L).map Prod.snd).Nodup) : df3 a b (-1) := by
  have h1 := (List.nodup_cons.mp h).1
  exact ⟨fun e => absurd (List.mem_cons.mpr (Or.inl e.symm)) h1, fun e => e, fun e => e⟩
theorem df_3 {A B C : Tr} {a b c : Int} {L : List (Tr × Int)} (h : (((C, c) :: (B, b) :: (A, a) :: L).map Prod.snd).Nodup) : df3 a b c := by
  have h1 := (List.nodup_cons.mp h).1
  have h2 := (List.nodup_cons.mp (List.nodup_cons.mp h).2).1
  exact ⟨fun e => absurd (List.mem_cons.mpr (Or.inl e.symm)) h2, fun e => absurd (List.mem_cons_of_mem _ (List.mem_cons.mpr (Or.inl e.symm))) h1, fun e => absurd (List.mem_cons.mpr (Or.inl e.symm)) h1⟩
theorem PP.cg {σ σ' : Mem} (G : PP σ) (h5 : σ' 5 7 = σ 5 7) (h7 : σ' 7 = σ 7) (h11 : σ' 11 = σ 11) (h13 : σ' 13 = σ 13) (h15 : σ' 15 = σ 15) (h17 : σ' 17 = σ 17) : PP σ' := by
  have ej : ∀ j, (j = 11 ∨ j = 13 ∨ j = 15) → σ' j = σ j := fun j hj => by rcases hj with rfl | rfl | rfl <;> assumption
  refine ⟨fun x h0 h1 j hj => ?_, fun x y hx hy i j hi hj e => ?_⟩
  · rw [h5] at h1 ⊢
    rw [ej j hj, h17, h7]
    exact G.1 x h0 h1 j hj
  · rw [h5] at hx hy
    rw [ej i hi, ej j hj] at e
    rw [ej i hi]
    exact G.2 x y hx hy i j hi hj e
theorem PQ.cg {σ σ' : Mem} (G : PQ σ) (h5 : σ' 5 7 = σ 5 7) (h7 : σ' 7 = σ 7) (h11 : σ' 11 = σ 11) (h13 : σ' 13 = σ 13) (h15 : σ' 15 = σ 15) (h17 : σ' 17 = σ 17) (h19 : σ' 19 = σ 19) : PQ σ' := ⟨G.1.cg h5 h7 h11 h13 h15 h17, fun x a b => by rw [h19]; exact G.2 x a (by rw [← h5]; exact b)⟩
def trP (i : Nat) : Bool := i == 5 || i == 7 || i == 9 || i == 11 || i == 13 || i == 15 || i == 17 || i == 19
theorem trP_rd {i : Nat} (h : rdP i = false) : trP i = false := by
  unfold rdP at h; unfold trP
  simp only [Bool.or_eq_false_iff] at h ⊢
  simp only [h, and_self]
/-- the rows below m are as they were -/
def kpB (m : Int) (σ σ' : Mem) : Prop := ∀ x, 0 ≤ x → x < m → σ' 7 x = σ 7 x ∧ σ' 9 x = σ 9 x ∧ σ' 11 x = σ 11 x ∧ σ' 13 x = σ 13 x ∧ σ' 15 x = σ 15 x ∧ σ' 17 x = σ 17 x
theorem kpB.rf {m : Int} {σ : Mem} : kpB m σ σ := fun _ _ _ => ⟨rfl, rfl, rfl, rfl, rfl, rfl⟩
theorem kpB.tr {m m' : Int} {σ σ1 σ2 : Mem} (a : kpB m σ σ1) (b : kpB m' σ1 σ2) (h : m ≤ m') : kpB m σ σ2 := fun x h0 h1 => by
  obtain ⟨a1, a2, a3, a4, a5, a6⟩ := a x h0 h1
  obtain ⟨b1, b2, b3, b4, b5, b6⟩ := b x h0 (by omega)
  exact ⟨b1.trans a1, b2.trans a2, b3.trans a3, b4.trans a4, b5.trans a5, b6.trans a6⟩
theorem isT.kp {σ σ' : Mem} {m lo hi hi' : Int} (K : kpB m σ σ') (h0 : 0 ≤ lo) (h1 : hi ≤ m) (h2 : hi ≤ hi') {T : Tr} {n : Int} (h : isT σ 5 lo hi T n) : isT σ' 5 lo hi' T n := isT.mv (Int.le_refl lo) h2 (fun x q w => by
  obtain ⟨a1, a2, a3, a4, a5, a6⟩ := K x (by omega) (by omega)
  exact ⟨a1, a2, a3, a4, a5⟩) h
section ADD
variable {d : Nat} {σ : Mem}
theorem RI.cnt (H : RI σ) {z : Int} (h0 : 0 ≤ z) (h1 : z ≤ 128) : RI (mup σ 5 7 z) := ⟨(frR.mu rfl).li H.1, by rw [mup_ne (by decide), mup_ne (by decide)]; exact H.2.1, by rw [mup_eq]; exact ⟨h0, h1⟩⟩
theorem RI.row (H : RI σ) {n i : Nat} {z v : Int} (hi : rdP i = true) (h2 : i ≠ 35) (h5 : i ≠ 5) : RI (rows n σ i z v) := ⟨(frR.ro hi).li H.1, by
  rw [rows_ne (by omega), show rows n σ i z v 2 1 = σ 2 1 from rows_ne (by intro e; subst e; cases hi)]; exact H.2.1, by
  rw [rows_ne (by omega)]; exact H.2.2⟩
/-- no more nodes -/
theorem add_no {k z a b c : Int} (hk : rg k) (hz : rg z) (ha : rg a) (hb : rg b) (hc : rg c) (h : ¬ σ 5 7 < 128) : Rn (d + 2) yTr_add [.ref 5, vi k, vi z, vi a, vi b, vi c] σ (some (-1)) σ := M_Tr_add hk hz ha hb hc (by
  unfold B_Tr_add; rw [if_neg h]; exact ⟨rfl, rfl⟩)
theorem add_sp {k z a b c : Int} (H : RI σ) (hk : rg k) (hz : rg z) (ha : rg a) (hb : rg b) (hc : rg c) (h : σ 5 7 < 128) : ∃ σ', Rn (d + 2) yTr_add [.ref 5, vi k, vi z, vi a, vi b, vi c] σ (some (σ 5 7)) σ' ∧ RI σ' ∧ (∀ i, trP i = false → σ' i = σ i) ∧ σ' 5 7 = σ 5 7 + 1
    ∧ (σ' 7 (σ 5 7) = k ∧ σ' 9 (σ 5 7) = z ∧ σ' 11 (σ 5 7) = a ∧ σ' 13 (σ 5 7) = b ∧ σ' 15 (σ 5 7) = c)
    ∧ (∀ x, x ≠ σ 5 7 → σ' 7 x = σ 7 x ∧ σ' 9 x = σ 9 x ∧ σ' 11 x = σ 11 x ∧ σ' 13 x = σ 13 x ∧ σ' 15 x = σ 15 x)
    ∧ (∀ x, 0 ≤ x → x < 128 → σ' 17 x = if x = a ∨ x = b ∨ x = c then σ 5 7 else if x = σ 5 7 then -1 else σ 17 x) ∧ (σ' 19 (σ 5 7) = -1 ∧ ∀ x, x ≠ σ 5 7 → σ' 19 x = σ 19 x) := by
  have h0 := H.2.2.1
  have hm : rg (σ 5 7) := ⟨by omega, by omega⟩
  refine ⟨_, M_Tr_add hk hz ha hb hc (by unfold B_Tr_add; rw [if_pos h]; exact ⟨⟨by omega, by omega⟩, rfl, rfl⟩), ?_, ?_, ?_, ?_, ?_, ?_, ?_⟩
  · exact ((((((((((H.cnt (by omega) (by omega)).row rfl (by decide) (by decide)).row rfl (by decide) (by decide)).row rfl (by decide) (by decide)).row rfl (by decide) (by decide)).row rfl (by decide) (by decide)).row rfl (by decide) (by decide)).row rfl (by decide) (by decide)).row rfl (by decide) (by decide)).row rfl (by decide) (by decide)).row rfl (by decide) (by decide)
  · intro i hi
    unfold trP at hi
    simp only [Bool.or_eq_false_iff, beq_eq_false_iff_ne, ne_eq] at hi
    obtain ⟨⟨⟨⟨⟨⟨⟨h5, h7⟩, h9⟩, h11⟩, h13⟩, h15⟩, h17⟩, h19⟩ := hi
    rw [rows_obj h17, rows_obj h17, rows_obj h17, rows_obj h19, rows_obj h17, rows_obj h15, rows_obj h13, rows_obj h11, rows_obj h9, rows_obj h7, mup_obj h5]
  · simp only [rows_ne (show (5 : Nat) ≠ 17 by decide), rows_ne (show (5 : Nat) ≠ 19 by decide), rows_ne (show (5 : Nat) ≠ 15 by decide), rows_ne (show (5 : Nat) ≠ 13 by decide), rows_ne (show (5 : Nat) ≠ 11 by decide), rows_ne (show (5 : Nat) ≠ 9 by decide), rows_ne (show (5 : Nat) ≠ 7 by decide), mup_eq]
  · refine ⟨?_, ?_, ?_, ?_, ?_⟩ <;> simp [rows_ne, mup_ne, rows_at, h0, h]
  · intro x hx
    refine ⟨?_, ?_, ?_, ?_, ?_⟩ <;> simp [rows_ne, mup_ne, rows_at, hx]
  · intro x h1 h2
    simp only [rows_at, rows_ne (show (17 : Nat) ≠ 19 by decide), rows_ne (show (17 : Nat) ≠ 15 by decide), rows_ne (show (17 : Nat) ≠ 13 by decide), rows_ne (show (17 : Nat) ≠ 11 by decide), rows_ne (show (17 : Nat) ≠ 9 by decide), rows_ne (show (17 : Nat) ≠ 7 by decide), mup_ne (show (17 : Nat) ≠ 5 by decide)]
    by_cases q1 : x = a <;> by_cases q2 : x = b <;> by_cases q3 : x = c <;> by_cases q4 : x = σ 5 7 <;> simp only [q1, q2, q3, q4, true_and, false_and, true_or, or_true, or_false, false_or, if_true, if_false] <;> (try rw [if_pos (by omega)]) <;> (try simp_all) <;> omega
  · refine ⟨?_, fun x hx => ?_⟩
    · simp [rows_ne, mup_ne, rows_at, h0, h]
    · simp [rows_ne, mup_ne, rows_at, hx]
end ADD
