/-! The class's checker: a node's own type is set. -/
section CWR
variable {σ σ' σ1 σ2 : Mem} {d : Nat} {h n x r : Int} {E : List (Int × Int)} {M : Int → Prop} {T A B C : Tr} {k : Nat} {z : Int}
def endI (σ1 : Mem) (n r : Int) : Mem := rows 128 (if r ≠ -1 then σ1 else mup σ1 49 6 1) 19 n r
theorem infer_run (hn : rg n) (hx : 0 ≤ x ∧ x ≤ 64) (hi : σ 49 6 = 0) (hr : rg r) (core : (rowv 128 σ 11 n ≠ -1 ∧ Rn (d + 3) yCk_inferWhole [.ref 49, vi n, vi x] σ (some r) σ1) ∨ (rowv 128 σ 11 n = -1 ∧ Rn (d + 3) yCk_leaf [.ref 49, vi n] σ (some r) σ1)) : Rn (d + 4) yCk_infer [.ref 49, vi n, vi x] σ (some r) (endI σ1 n r) := by
  have fin : B_Ck_infer_46 d n r σ1 (some r) (endI σ1 n r) := by
    unfold B_Ck_infer_46 B_Ck_infer_57 endI
    by_cases q : r = -1
    · rw [if_neg (fun w => w q), if_neg (fun w => w q)]
      exact ⟨_, M_Tr_setType (d := d + 1) hn hr ⟨rfl, rfl⟩, rfl, rfl⟩
    · rw [if_pos q, if_pos q]
      exact ⟨_, M_Tr_setType (d := d + 1) hn hr ⟨rfl, rfl⟩, rfl, rfl⟩
  refine M_Ck_infer hn ⟨by omega, by omega⟩ ?_
  unfold B_Ck_infer B_Ck_infer_11
  rw [if_pos hx.2, if_pos hi]
  rcases core with ⟨q, R⟩ | ⟨q, R⟩
  · rw [if_pos q]; exact ⟨r, σ1, R, fin⟩
  · rw [if_neg (fun w => w q)]; exact ⟨r, σ1, R, fin⟩
/-- the types of the parts of a node -/
def ptN (σ σ' : Mem) (A B C : Tr) (n : Int) : Int → Prop := fun p => tyN σ σ' A (σ 11 n) p ∨ tyN σ σ' B (σ 13 n) p ∨ tyN σ σ' C (σ 15 n) p
theorem tyN_nl {m p : Int} : ¬ tyN σ σ' nl m p := fun ⟨_, q, _⟩ => q
theorem tyN_nd (t : isT σ 5 0 (σ 5 7) (nd k z A B C) n) (hk : k ≠ 17) (e : σ' 19 n = r) (o : ∀ x, x ≠ n → σ' 19 x = σ1 19 x) (p : Int) : (ptN σ σ1 A B C n p ∨ p = r) ↔ tyN σ σ' (nd k z A B C) n p := by
  obtain ⟨n1, n2, n3⟩ := iT_no t
  have kn : σ 7 n ≠ 17 := by
    have := t.2.1
    have this : σ 7 n = k := this
    omega
  constructor
  · intro q
    rcases q with (⟨x, a, b, c⟩ | ⟨x, a, b, c⟩ | ⟨x, a, b, c⟩) | q
    · exact ⟨x, Or.inr (Or.inl a), b, (o x (fun w => n1 (w ▸ a))).trans c⟩
    · exact ⟨x, Or.inr (Or.inr (Or.inl a)), b, (o x (fun w => n2 (w ▸ a))).trans c⟩
    · exact ⟨x, Or.inr (Or.inr (Or.inr a)), b, (o x (fun w => n3 (w ▸ a))).trans c⟩
    · exact ⟨n, Or.inl rfl, kn, e.trans q.symm⟩
  · intro ⟨x, a, b, c⟩
    rcases a with a | a | a | a
    · rw [a, e] at c; exact Or.inr c.symm
    · exact Or.inl (Or.inl ⟨x, a, b, (o x (fun w => n1 (w ▸ a))).symm.trans c⟩)
    · exact Or.inl (Or.inr (Or.inl ⟨x, a, b, (o x (fun w => n2 (w ▸ a))).symm.trans c⟩))
    · exact Or.inl (Or.inr (Or.inr ⟨x, a, b, (o x (fun w => n3 (w ▸ a))).symm.trans c⟩))
/-- the core's outcome, with the type set -/
theorem CkC.end (tt : isT σ 5 0 (σ 5 7) (nd k z A B C) n) (hk : k ≠ 17) (hc : σ 5 7 ≤ 128) (H : CkC σ σ1 E M h (nd k z A B C) n r (ptN σ σ1 A B C n)) : CkO σ (endI σ1 n r) E M h (nd k z A B C) n r := by
  have n0 := tt.1
  unfold endI
  rcases H with ⟨⟨f, i, a4, a5, c⟩, no⟩ | ⟨⟨f, T1, ec, a4, a5, a6, o⟩, b, R⟩
  · have kn : ∀ {m : Mem}, frCk σ m → m 7 n ≠ 17 := fun g => by rw [g.1 7 rfl, show σ 7 n = k from tt.2.1]; omega
    have ff : frCk σ (if r ≠ -1 then σ1 else mup σ1 49 6 1) := f.tr (by split; exact frCk.rf; exact frCk.mu rfl)
    refine Or.inl ⟨⟨ff.tr (frCk.ro (kn ff)), ?_, ?_, ?_, ?_⟩, no⟩
    · rw [rows_ne (by decide)]
      split
      · next q => rcases i with i | i
                  · exact i
                  · exact absurd i q
      · rw [mup_eq]; decide
    · rw [rows_ne (by decide)]; split
      · exact a4
      · rw [mup_nk (by decide)]; exact a4
    · rw [rows_ne (by decide)]; split
      · exact a5
      · rw [mup_nk (by decide)]; exact a5
    · rw [rows_ne (by decide)]; split
      · exact c
      · rw [mup_ne (by decide)]; exact c
  · have r0 := R.2.1.1
    rw [if_pos (by omega), rows_in n0.1 (by omega)]
    have oo : ∀ {i : Nat}, i ≠ 19 → (mup σ1 19 n r) i = σ1 i := fun hi => mup_obj hi
    obtain ⟨T2, e2⟩ := T1.cg (σ' := mup σ1 19 n r) (oo (by decide)) (oo (by decide)) (oo (by decide)) (by rw [oo (by decide)])
    have kn : σ1 7 n ≠ 17 := by rw [f.1 7 rfl, show σ 7 n = k from tt.2.1]; omega
    have f19 : frCk σ1 (mup σ1 19 n r) := by rw [← rows_in (n := 128) n0.1 (by omega)]; exact frCk.ro kn
    refine Or.inr ⟨⟨f.tr f19, T2, ec.mv (fun i => ⟨by rw [oo (by decide)], by rw [oo (by decide)]⟩), by rw [oo (by decide)]; exact a4, by rw [oo (by decide)]; exact a5, by rw [oo (by decide)]; exact a6, fun x hx => ?_⟩, ⟨mup_eq, by rw [oo (by decide)]; exact b⟩, ?_⟩
    · have : x ≠ n := fun w => hx (Or.inl w)
      rw [mup_nk this]; exact o x hx
    · rw [e2]
      exact TRP.P R (fun p => tyN_nd tt hk mup_eq (fun x hx => mup_nk hx) p)
/-- a leaf -/
theorem PE.leaf (hk : k ≤ 5) (H : ∀ (d : Nat) (n h : Int) (σ : Mem) (E : List (Int × Int)) (M : Int → Prop), isT σ 5 0 (σ 5 7) (nd k z nl nl nl) n → σ 5 7 ≤ 128 → CkI σ E M h → clo (nd k z nl nl nl) (inE E) = true → σ 38 5 + 44 ≤ 3000 → E.length ≤ 64 → (0 ≤ h ∧ h ≤ 64) → ∃ r σ1, Rn (d + 99) yCk_leaf [.ref 49, vi n] σ (some r) σ1 ∧ rg r ∧ CkC σ σ1 E M h (nd k z nl nl nl) n r (fun _ => False)) : PE (nd k z nl nl nl) := by
  intro kk d n x h σ E M hkk t hc G I hcl ⟨b1, b2, b3, b4⟩
  have w1 : 1 ≤ rwl (nd k z nl nl nl) := by
    match k, hk with
    | 0, _ => show (1 : Int) ≤ 1; decide
    | 1, _ => show (1 : Int) ≤ 3; decide
    | 2, _ => show (1 : Int) ≤ 1; decide
    | 3, _ => show (1 : Int) ≤ 2; decide
    | 4, _ => show (1 : Int) ≤ 1; decide
    | 5, _ => show (1 : Int) ≤ 1; decide
  obtain ⟨r, σ1, R, gr, C⟩ := H (4 * kk + d) n h σ E M t hc I hcl (by omega) (by omega) (by omega)
  have n0 := t.1
  have n11 : σ 11 n = -1 := t.2.2.2.1
  refine ⟨r, endI σ1 n r, infer_run (d := 4 * kk + d + 96) ⟨by omega, by omega⟩ ⟨b4.1, by omega⟩ I.2.2.2.2.2 gr (Or.inr ⟨?_, R⟩), gr, CkC.end t (by omega) hc ?_⟩
  rotate_left
  · rw [show ptN σ σ1 nl nl nl n = fun _ => False from funext (fun p => propext ⟨fun q => by rcases q with q | q | q <;> exact tyN_nl q, False.elim⟩)]
    exact C
  unfold rowv; rw [if_pos ⟨n0.1, by omega⟩]; exact n11
end CWR
