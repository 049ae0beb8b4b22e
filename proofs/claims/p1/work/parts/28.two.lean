/-! The law on every script of at most two ints. -/
theorem frH_swp {L : Nat} {xs : Nat → Int32} : swp (106, L, fun j => .int (xs j)) frH0 = lawH L xs := by
  unfold swp frH0 lawH
  dsimp only
  congr 2
  funext j
  by_cases q : j = 0
  · rw [if_pos q, if_pos q]
  · rw [if_neg q, if_neg q, if_neg q]
theorem frO_S : stN frC 229 16 (0, [(0, .ref 0)], [], frH0) = some frS := by
  have h := frO_some
  unfold frS
  cases e : frO with
  | none => rw [e] at h; cases h
  | some S => exact e
theorem frS_e : frS = (28, frL, [], frH) := by
  have h := frS_1
  simp only [Prod.mk.injEq] at h
  obtain ⟨h1, h2, h3⟩ := h
  unfold frH
  rw [← h1, ← h2, ← h3]
theorem frB : stN frC 229 16 (0, [(0, .ref 0)], [], frH0) = some (28, frL, [], frH) := by rw [← frS_e]; exact frO_S
theorem frK_g {H : mHp} (eH : H = frH) : (H.1 ≤ 1000 ∧ H.2.1 ≤ 100000 ∧ swI H) ∧ 59 < H.1 ∧ stN frC 229 16 (0, [(0, .ref 0)], [], frH0) = some (28, frL, [], H) := by
  rw [eH]
  have : decide (59 < frH.1) = true := by decide +kernel
  exact ⟨frH_n, of_decide_eq_true this, frB⟩
theorem frX_g {H : mHp} (eH : H = frH) : frX' H 127 5 = true ∧ frX' H 138 14 = true ∧ frX' H 313 14 = true ∧ frX' H 414 10 = true := by rw [eH]; exact ⟨frX_1, frX_2, frX_7, frX_9⟩
/-- the law's run from its start to its loop -/
theorem fr_begin {H : mHp} (eH : H = frH) {L k : Nat} {xs : Nat → Int32} {r : Option (mRes × mHp)} (K : mGo frC true 229 k (28, frL, [], swp (106, L, fun j => .int (xs j)) H) = r) : mGo frC true 229 (16 + k) (0, [(0, .ref 0)], [], lawH L xs) = r := by
  have h := stN_swp (c := (106, L, fun j => .int (xs j))) (swp_ex rfl (F := 99940 + 60) (396 + 4)) (le3.ex (396 + 4)) rfl 16 (S := (0, [(0, .ref 0)], [], frH0)) ⟨rfl, Nat.one_pos⟩ (frK_g eH).2.2
  refine stN_go 16 (S := (0, [(0, .ref 0)], [], lawH L xs)) ?_ K
  rw [← frH_swp]
  exact h.1
theorem fr_hT {H : mHp} (eH : H = frH) {L : Nat} {xs : Nat → Int32} (i : Nat) : hTag (swp (106, L, fun j => .int (xs j)) H) i = hTag H i := swp_tag rfl (frK_g eH).1.2.2 i
/-- nothing more to read: the loop isn't entered -/
theorem fr_none {H : mHp} (eH : H = frH) {L k : Nat} {xs : Nat → Int32} (hL : L < 2) : mGo frC true 229 (k + 20) (28, frL, [], swp (106, L, fun j => .int (xs j)) H) = some (.inl (some (.int 1)), swp (106, L, fun j => .int (xs j)) H) := by
  have ht : hTag (swp (106, L, fun j => .int (xs j)) H) 0 = 106 := (fr_hT eH 0).trans (frK_g eH).1.2.2.1
  have hl : hLen (swp (106, L, fun j => .int (xs j)) H) 0 = L := rfl
  have hq : mCnd 0 (Int32.ofNat L - Int32.ofInt 2) .gt = true := by
    match L, hL with
    | 0, _ => decide
    | 1, _ => decide
  refine sx_l rfl rfl rfl ?_
  refine sx_l rfl rfl rfl ?_
  refine sx_sl rfl ht hl ?_
  refine sx_p rfl rfl rfl ?_
  refine sx_p rfl rfl rfl ?_
  refine sx_c rfl (by decide) hq rfl ?_
  refine sx_p rfl rfl rfl ?_
  exact sx_r rfl rfl rfl
theorem and15 (x : Int32) : ∃ j, j < 16 ∧ x &&& (Int8.ofInt 15).toInt32 = Int32.ofNat j := by
  have h : (x &&& (Int8.ofInt 15).toInt32).toBitVec.toNat ≤ 15 := by
    rw [Int32.toBitVec_and, BitVec.toNat_and]
    exact Nat.and_le_right
  refine ⟨(x &&& (Int8.ofInt 15).toInt32).toBitVec.toNat, Nat.lt_succ_of_le h, ?_⟩
  apply Int32.toBitVec_inj.mp
  apply BitVec.eq_of_toNat_eq
  have e : ∀ m : Nat, (Int32.ofNat m).toBitVec.toNat = m % 4294967296 := fun m => rfl
  rw [e]
  omega
/-- the loop's head with a call to make -/
theorem fr_head {H : mHp} (eH : H = frH) {k j : Nat} {xs : Nat → Int32} {r : Option (mRes × mHp)} (hj : xs 0 &&& (Int8.ofInt 15).toInt32 = Int32.ofNat j)
    (K : mGo frC true 229 (k + 11) (44, frL, [.int (Int32.ofNat j)], swp (106, 2, fun j => .int (xs j)) H) = r) : mGo frC true 229 (k + 22) (28, frL, [], swp (106, 2, fun j => .int (xs j)) H) = r := by
  have ht : hTag (swp (106, 2, fun j => .int (xs j)) H) 0 = 106 := (fr_hT eH 0).trans (frK_g eH).1.2.2.1
  have hl : hLen (swp (106, 2, fun j => .int (xs j)) H) 0 = 2 := rfl
  refine sx_l rfl rfl rfl ?_
  refine sx_l rfl rfl rfl ?_
  refine sx_sl rfl ht hl ?_
  refine sx_p rfl rfl rfl ?_
  refine sx_p rfl rfl rfl ?_
  refine sx_c (q := false) rfl (by decide) (by decide) rfl ?_
  refine sx_l rfl rfl rfl ?_
  refine sx_l rfl rfl rfl ?_
  refine sx_s0 (x := 0) (v := xs 0) rfl ht (show ¬ ((0 : Int32) < 0 ∨ 2 ≤ (0 : Int32).toNatClampNeg) by decide) rfl ?_
  refine sx_p rfl rfl rfl ?_
  refine sx_p rfl rfl rfl ?_
  rw [hj]
  exact K
theorem frK_of {H : mHp} (eH : H = frH) {xs : Nat → Int32} : frK (swp (106, 2, fun j => .int (xs j)) H) (xs 1) := by
  refine ⟨⟨(frK_g eH).1.2.2.2, (fr_hT eH 0).trans (frK_g eH).1.2.2.1, rfl, rfl⟩, ?_, (frK_g eH).1.1, (frK_g eH).1.2.1, fun i hi x => (swp_get hi).trans (by rw [eH]), fun i => (fr_hT eH i).trans (by rw [eH]), fun i hi => (swp_len hi).trans (by rw [eH])⟩
  exact (frK_g eH).2.1
/-- the calls that read nothing -/
theorem fr_closed {H : mHp} (eH : H = frH) {pc n k : Nat} {xs : Nat → Int32} (hx : frX' H pc n = true) : ∃ h2, mGo frC true 229 (n + (k + 20)) (pc, frL, [], swp (106, 2, fun j => .int (xs j)) H) = some (.inl (some (.int 1)), h2) ∧ h2.1 ≤ 1000 ∧ h2.2.1 ≤ 100000 := by
  unfold frX' at hx
  split at hx
  · next S hS =>
    simp only [Bool.and_eq_true, decide_eq_true_eq] at hx
    obtain ⟨⟨⟨⟨⟨e1, e2⟩, e3⟩, e4⟩, e5⟩, e6⟩ := hx
    have h := stN_swp (c := (106, 2, fun j => .int (xs j))) (swp_ex rfl (F := 99940 + 60) (396 + 4)) (le3.ex (396 + 4)) rfl n (S := (pc, frL, [], H)) (frK_g eH).1.2.2 hS
    refine ⟨swp (106, 2, fun j => .int (xs j)) S.2.2.2, ?_, e5, e6⟩
    refine stN_go n (S := (pc, frL, [], swp (106, 2, fun j => .int (xs j)) H)) h.1 ?_
    have ht : hTag (swp (106, 2, fun j => .int (xs j)) S.2.2.2) 0 = 106 := (swp_tag rfl h.2 0).trans h.2.1
    unfold swS
    rw [e1, e4]
    exact fin2 ht rfl e2 e3
  · cases hx
theorem frG_le {h h2 : mHp} {w : Int32} (H : frK h w) (G : frG h h2) : h2.1 ≤ 1001 ∧ h2.2.1 ≤ 100006 := ⟨Nat.le_trans G.1 (Nat.succ_le_succ H.2.2.1), Nat.le_trans G.2 (Nat.add_le_add_right H.2.2.2.1 6)⟩
/-- one call -/
theorem fr_one {H : mHp} (eH : H = frH) {xs : Nat → Int32} {j : Nat} (hj : j < 16) : ∃ h2, mGo frC true 229 (99962 + 11) (44, frL, [.int (Int32.ofNat j)], swp (106, 2, fun j => .int (xs j)) H) = some (.inl (some (.int 1)), h2) ∧ h2.1 ≤ 1001 ∧ h2.2.1 ≤ 100006 := by
  have HK := frK_of eH (xs := xs)
  have grow : ∀ {pc k : Nat}, (∃ h2, mGo frC true 229 (k + 60) (pc, frL, [], swp (106, 2, fun j => .int (xs j)) H) = some (.inl (some (.int 1)), h2) ∧ frG (swp (106, 2, fun j => .int (xs j)) H) h2) → ∃ h2, mGo frC true 229 (k + 60) (pc, frL, [], swp (106, 2, fun j => .int (xs j)) H) = some (.inl (some (.int 1)), h2) ∧ h2.1 ≤ 1001 ∧ h2.2.1 ≤ 100006 := fun ⟨h2, g1, g2⟩ => ⟨h2, g1, frG_le HK g2⟩
  have wide : ∀ {pc k : Nat}, (∃ h2, mGo frC true 229 k (pc, frL, [], swp (106, 2, fun j => .int (xs j)) H) = some (.inl (some (.int 1)), h2) ∧ h2.1 ≤ 1000 ∧ h2.2.1 ≤ 100000) → ∃ h2, mGo frC true 229 k (pc, frL, [], swp (106, 2, fun j => .int (xs j)) H) = some (.inl (some (.int 1)), h2) ∧ h2.1 ≤ 1001 ∧ h2.2.1 ≤ 100006 := fun ⟨h2, g1, g2, g3⟩ => ⟨h2, g1, by omega, by omega⟩
  have sw : ∀ {t : Nat} {d : Int}, mBr 44 [.int (Int32.ofNat j)] (.tableswitch 394 0 9 #[56, 83, 94, 138, 163, 188, 213, 269, 334, 370]) = some (some d, []) → mOff 44 56 (some d) = some t → (∃ h2, mGo frC true 229 (99912 + 60) (t, frL, [], swp (106, 2, fun j => .int (xs j)) H) = some (.inl (some (.int 1)), h2) ∧ h2.1 ≤ 1001 ∧ h2.2.1 ≤ 100006) → ∃ h2, mGo frC true 229 (99962 + 11) (44, frL, [.int (Int32.ofNat j)], swp (106, 2, fun j => .int (xs j)) H) = some (.inl (some (.int 1)), h2) ∧ h2.1 ≤ 1001 ∧ h2.2.1 ≤ 100006 := fun e1 e2 ⟨h2, g1, g2⟩ => ⟨h2, sx_b (k := 99912 + 60) rfl rfl e1 e2 g1, g2⟩
  have dflt : ∃ h2, mGo frC true 229 (99912 + 60) (438, frL, [], swp (106, 2, fun j => .int (xs j)) H) = some (.inl (some (.int 1)), h2) ∧ h2.1 ≤ 1001 ∧ h2.2.1 ≤ 100006 := ⟨_, fin2 HK.1.2.1 HK.1.2.2.1 rfl rfl, Nat.le_succ_of_le (frK_g eH).1.1, Nat.le_trans (frK_g eH).1.2.1 (by decide)⟩
  match j, hj with
  | 0, _ =>
    refine sw rfl rfl (grow ?_)
    by_cases q : ((xs 1).toUInt32 % 65536).toInt32 < 32 ∨ ((xs 1).toUInt32 % 65536).toInt32 > 126
    · exact op0_t q HK
    · exact op0_f q HK
  | 1, _ => exact sw rfl rfl (wide (fr_closed eH (n := 5) (k := 99947) (frX_g eH).1))
  | 2, _ => exact sw rfl rfl (wide (fr_closed eH (n := 14) (k := 99938) (frX_g eH).2.1))
  | 3, _ => exact sw rfl rfl (grow (op3 HK))
  | 4, _ => exact sw rfl rfl (grow (op4 HK))
  | 5, _ =>
    refine sw rfl rfl (grow ?_)
    by_cases q0 : xs 1 = 0
    · exact op5_0 (q0 ▸ HK)
    by_cases q1 : xs 1 = 1
    · exact op5_1 (q1 ▸ HK)
    by_cases q2 : xs 1 = 2
    · exact op5_2 (q2 ▸ HK)
    by_cases q3 : xs 1 = 3
    · exact op5_3 (q3 ▸ HK)
    exact op5_d q0 q1 q2 q3 HK
  | 6, _ => exact sw rfl rfl (grow (op6 HK))
  | 7, _ => exact sw rfl rfl (wide (fr_closed eH (n := 14) (k := 99938) (frX_g eH).2.2.1))
  | 8, _ => exact sw rfl rfl (grow (op8 HK))
  | 9, _ => exact sw rfl rfl (wide (fr_closed eH (n := 10) (k := 99942) (frX_g eH).2.2.2))
  | 10, _ => exact sw rfl rfl dflt
  | 11, _ => exact sw rfl rfl dflt
  | 12, _ => exact sw rfl rfl dflt
  | 13, _ => exact sw rfl rfl dflt
  | 14, _ => exact sw rfl rfl dflt
  | 15, _ => exact sw rfl rfl dflt
  | n + 16, h => exact absurd h (by omega)
theorem fr_two' {H : mHp} (eH : H = frH) (L : Nat) (xs : Nat → Int32) (hL : L ≤ 2) : ∃ (F : Nat) (h' : mHp), mGo (mEx F 400) true 229 F (0, [(0, .ref 0)], [], lawH L xs) = some (.inl (some (.int 1)), h') ∧ h'.1 ≤ 1001 ∧ h'.2.1 ≤ 100006 := by
  by_cases q : L < 2
  · exact ⟨99940 + 60, _, fr_begin eH (k := 99964 + 20) (fr_none eH q), Nat.le_succ_of_le (frK_g eH).1.1, Nat.le_trans (frK_g eH).1.2.1 (by decide)⟩
  · have e : L = 2 := by omega
    subst e
    obtain ⟨j, hj, e⟩ := and15 (xs 0)
    obtain ⟨h2, g1, g2⟩ := fr_one eH (xs := xs) hj
    exact ⟨99940 + 60, h2, fr_begin eH (k := 99984) (fr_head eH (k := 99962) e g1), g2⟩
theorem fr_two (L : Nat) (xs : Nat → Int32) (hL : L ≤ 2) : ∃ (F : Nat) (h' : mHp), mGo (mEx F 400) true 229 F (0, [(0, .ref 0)], [], lawH L xs) = some (.inl (some (.int 1)), h') ∧ h'.1 ≤ 1001 ∧ h'.2.1 ≤ 100006 := fr_two' rfl L xs hL
