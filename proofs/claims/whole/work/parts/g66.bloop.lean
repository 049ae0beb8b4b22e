/-! Both: load; the law's loop. -/
/-- never too many bindings, whatever program is loaded (D2) -/
def roomB : Prop := ∀ {σ σ' : Mem} {T : Tr}, bLd σ σ' T → rmB T
section BLOO
variable {L : Nat} {xs : Nat → Int32} {h h' h1 : mHp} {σ σ' σ1 : Mem} {d : Nat} {i a : Int} {e : WkE}
theorem b_start (D2 : roomB) {T : Tr} {v : Int64} (A : aSt h σ a e) (S : Sh h) (M : RM σ') (b : bLd σ σ' T) : aSt (hSet (hSet (bgH h) 1 9 .null) 98 0 (.long v)) σ' a (.inl (0, T, [], eN, [], [])) := by
  obtain ⟨-, -, σ1, cs, F, G⟩ := id b
  have st := A.st
  have ha := A.1
  have e10 : σ 54 10 = a := by
    rcases A.2 with ⟨-, -, -, -, q⟩ | ⟨T, σc, σm, s, X⟩
    · exact q
    · exact X.2.1.2.1.2
  have q10 : σ1 54 10 = a := F.2.2.2.2.2.2.2.2.2.2.2.2.2.trans e10
  have q58 : σ1 58 = σ 58 := F.1 58 rfl (by decide) (by decide) (by decide) (by decide) (by omega)
  have q68 : σ' 58 68 = a := by
    rw [G.2.1 68 (by unfold mlK mfP; rintro (q | q | q) <;> revert q <;> decide) (by decide) (by decide) (by decide) (by decide) (by decide) (by decide) (by decide) (by decide) (by decide) (by decide) (by decide) (by decide) (by decide), q58, ← st.2.2.2]
    exact e10
  have C := c_start b F S.1 q10 ha
  have Mm := m_start (h := hSet (hSet (bgH h) 1 9 .null) 98 0 (.long v)) b G M q68
  have o : ∀ i, mlP i = false → i ≠ 63 → i ≠ 64 → i ≠ 65 → i ≠ 75 → i ≠ 68 → i ≠ 69 → i ≠ 88 → σ' i = σ1 i := G.1
  have m2 : ∀ i, 20 ≤ i → i ≤ 34 → mlP i = false := fun i h0 h1 => by
    have h : i = 20 ∨ i = 21 ∨ i = 22 ∨ i = 23 ∨ i = 24 ∨ i = 25 ∨ i = 26 ∨ i = 27 ∨ i = 28 ∨ i = 29 ∨ i = 30 ∨ i = 31 ∨ i = 32 ∨ i = 33 ∨ i = 34 := by omega
    rcases h with rfl | rfl | rfl | rfl | rfl | rfl | rfl | rfl | rfl | rfl | rfl | rfl | rfl | rfl | rfl <;> rfl
  have kc : keC (hSet (bgH h) 1 9 .null) (hSet (hSet (bgH h) 1 9 .null) 98 0 (.long v)) σ1 σ' := ⟨⟨Nat.le_refl _, smC.set (Or.inl (by decide))⟩, fun x => at_ne (by decide) x, fun x => at_ne (by decide) x, fun i h0 h1 => o i (m2 i h0 h1) (by omega) (by omega) (by omega) (by omega) (by omega) (by omega) (by omega), o 54 rfl (by decide) (by decide) (by decide) (by decide) (by decide) (by decide) (by decide)⟩
  refine ⟨ha, Or.inr ⟨T, σ1, σ', 0, ⟨D2 b, fun {v} ⟨m, n, g, ρ, r⟩ => ?_, cs, G.2.2.2.1, G.2.2.2.2.1, G.2.2.2.2.2.1.2⟩, C.ke kc, Mm, (at_ne (by decide) _).trans at_eq⟩⟩
  rcases load_ok b r with ⟨v', e, t⟩ | ⟨nf, -⟩
  · cases e; exact t
  · exact absurd rfl (nf ρ v)
theorem op_2' (D1 : roomT) (D2 : roomB) (I : lpI L xs h σ a e) (Q : mHp → Prop) (K : ∀ h' σ' a' e', lpI L xs h' σ' a' e' → ptA h' a' e' ≤ ptA h a e + 130 → ptB h' a' e' ≤ ptB h a e + 780 → ∃ h2, Q h2 ∧ Go (d + 352) true 229 (438, lwB i, [], put h' σ') (.inl (some (vi 1)), h2)) : ∃ h2, Q h2 ∧ Go (d + 352) true 229 (138, lwB i, [], put h σ) (.inl (some (vi 1)), h2) := by
  obtain ⟨s, S, I, X, M, A⟩ := I
  refine op_2 D1 s I X M S Q (fun h1 σ' S1 s1 I1 X1 M1 alt => ?_)
  rcases alt with ⟨rfl, kp⟩ | ⟨⟨v, rfl⟩, T, b⟩
  · exact K _ _ a e ⟨s1, S1, I1, X1, M1, A.ke (keB.new S.1 kp)⟩ (bRes.new S).pt.1 (bRes.new S).pt.2
  · refine K _ _ a _ ⟨s1, S1, I1, X1, M1, b_start D2 A S M1 b⟩ ?_ ?_
    · have z := (wkI.st b).2
      show (h.1 : Int) + (szT T + 0 + 0 : Nat) + 258 * (1000 - a) ≤ (h.1 : Int) + cQe e + 258 * (1000 - a) + 130
      omega
    · have z := (wkI.st b).2
      show (h.2.1 : Int) + 6 * ((szT T + 0 + 0 : Nat) + 258 * (1000 - a)) ≤ (h.2.1 : Int) + 6 * (cQe e + 258 * (1000 - a)) + 780
      omega
def okQ (h : mHp) : Prop := h.1 ≤ 400000 ∧ h.2.1 ≤ 2600000
theorem law_loop (D1 : roomT) (D2 : roomB) : ∀ (n : Nat) (i : Int) (h : mHp) (σ : Mem) (a : Int) (e : WkE), lpI L xs h σ a e → 0 ≤ i → (L : Int) < i + 2 + 2 * n → i ≤ 1025 → ptA h a e + 130 * n ≤ 400000 → ptB h a e + 780 * n ≤ 2600000 → ∃ h', okQ h' ∧ Go (d + 352) true 229 (28, lwB i, [], put h σ) (.inl (some (vi 1)), h') := by
  intro n
  have stop : ∀ (n : Nat) (i : Int) (h : mHp) (σ : Mem) (a : Int) (e : WkE), lpI L xs h σ a e → 0 ≤ i → (L : Int) < i + 2 → i ≤ 1025 → ptA h a e + 130 * n ≤ 400000 → ptB h a e + 780 * n ≤ 2600000 → ∃ h', okQ h' ∧ Go (d + 352) true 229 (28, lwB i, [], put h σ) (.inl (some (vi 1)), h') := fun n i h σ a e I h0 hL hi pA pB => by
    have ha := I.2.2.2.2.2.1
    refine ⟨put h σ, ⟨?_, ?_⟩, l_stop I.1 ⟨h0, by omega⟩ hL⟩
    · show h.1 ≤ 400000; unfold ptA at pA; omega
    · show h.2.1 ≤ 2600000; unfold ptB at pB; omega
  induction n with
  | zero => intro i h σ a e I h0 hL hi pA pB; exact stop 0 i h σ a e I h0 (by omega) hi pA pB
  | succ n ih =>
    intro i h σ a e I h0 hL hi pA pB
    by_cases q : (L : Int) < i + 2
    · exact stop (n + 1) i h σ a e I h0 q hi pA pB
    have L24 := I.1.1.2.2
    have hL2 : 0 ≤ i ∧ i + 2 ≤ (L : Int) := ⟨h0, by omega⟩
    have hq : ptA h a e ≤ 2000000 := by omega
    -- the rest, from any state
    have nx : ∀ h' σ' a' e', lpI L xs h' σ' a' e' → ptA h' a' e' ≤ ptA h a e + 130 → ptB h' a' e' ≤ ptB h a e + 780 → ∃ h2, okQ h2 ∧ Go (d + 352) true 229 (438, lwB i, [], put h' σ') (.inl (some (vi 1)), h2) := fun h' σ' a' e' I' p1 p2 => by
      obtain ⟨h2, b, G⟩ := ih (i + 2) h' σ' a' e' I' (by omega) (by omega) (by omega) (by omega) (by omega)
      exact ⟨h2, b, l_next lvS.rf G⟩
    have nk : ∀ σ', LnE σ' → TxE σ' → RM σ' → kpW σ σ' → ∃ h2, okQ h2 ∧ Go (d + 352) true 229 (438, lwB i, [], put h σ') (.inl (some (vi 1)), h2) := fun σ' I' X' M' k => nx h σ' a e ⟨I.1, I.2.1, I', X', M', I.2.2.2.2.2.ke (keB.mem k)⟩ (by omega) (by omega)
    obtain ⟨s, S, In, X, M, A⟩ := id I
    obtain ⟨j, hj, ej⟩ := and15 (xs i.toNat)
    have sw : ∀ {t : Nat} {dl : Int}, mBr 44 [.int (Int32.ofNat j)] (.tableswitch 394 0 9 #[56, 83, 94, 138, 163, 188, 213, 269, 334, 370]) = some (some dl, []) → mOff 44 56 (some dl) = some t → (∃ h2, okQ h2 ∧ Go (d + 352) true 229 (t, lwB i, [], put h σ) (.inl (some (vi 1)), h2)) → ∃ h', okQ h' ∧ Go (d + 352) true 229 (28, lwB i, [], put h σ) (.inl (some (vi 1)), h') := fun e1 e2 ⟨h2, b, G⟩ => ⟨h2, b, l_head s hL2 ej (g_b rfl rfl e1 e2 G)⟩
    have df : ∃ h2, okQ h2 ∧ Go (d + 352) true 229 (438, lwB i, [], put h σ) (.inl (some (vi 1)), h2) := nx h σ a e I (by omega) (by omega)
    match j, hj with
    | 0, _ => exact sw rfl rfl (op_0 (d := d + 343) s hL2 In X M S okQ nk)
    | 1, _ => exact sw rfl rfl (op_1 (d := d + 343) In X M S okQ nk)
    | 2, _ => exact sw rfl rfl (op_2' D1 D2 I okQ nx)
    | 3, _ => exact sw rfl rfl (op_3 (d := d + 343) s hL2 In X M S okQ nk)
    | 4, _ => exact sw rfl rfl (op_4 I hL2 hq okQ nx)
    | 5, _ => exact sw rfl rfl (op_5 (d := d + 343) s hL2 A.st In X M S okQ nk)
    | 6, _ => exact sw rfl rfl (op_6 I hL2 hq okQ nx)
    | 7, _ => exact sw rfl rfl (op_7 I hq okQ nx)
    | 8, _ => exact sw rfl rfl (op_8 I hL2 hq okQ nx)
    | 9, _ => exact sw rfl rfl (op_9 I hq okQ nx)
    | 10, _ => exact sw rfl rfl df
    | 11, _ => exact sw rfl rfl df
    | 12, _ => exact sw rfl rfl df
    | 13, _ => exact sw rfl rfl df
    | 14, _ => exact sw rfl rfl df
    | 15, _ => exact sw rfl rfl df
    | n + 16, h => exact absurd h (by omega)
end BLOO
