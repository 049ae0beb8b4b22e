/-! The model's reader: numerals. -/
section NUM
variable {σ : Mem} {D q b : Int} {E : Int → Option (Tr × Int)}
theorem dgf_inM (n : Nat) : ∀ (v c p : Int), p ≤ σ 58 2 → (dgf (mch σ) n v c p).2.2 ≤ σ 58 2 := by
  induction n with
  | zero => intro v c p h; exact h
  | succ n ih =>
    intro v c p h
    unfold dgf
    split
    · next w =>
      have := mch_lt (σ := σ) (x := p) (by omega)
      exact ih _ _ _ (by omega)
    · exact h
theorem l140 (H : GI σ 6) {x3 : Int} (h3 : 0 ≤ x3 ∧ x3 ≤ 100000) : ∀ (n : Nat) (x5 x6 : Int), (n : Int) = (if x6 ≥ 3 then 0 else 3 - x6) → rg x6 → 0 ≤ x5 → x5 * 10 ^ n ≤ 100000000 → Lb 14 yMo_atom 140 [(0, .ref 58), (3, vi x3), (5, vi x5), (6, vi x6)] [] (Zm σ q b) none (mup (dft (Zm σ q b) 2 (1000 * x3 + x5 * 10 ^ n) 0) 58 21 (σ 58 21 - 1)) := by
  intro n
  induction n with
  | zero =>
    intro x5 x6 hn r6 h0 hb
    have e : x5 * 10 ^ 0 = x5 := by rw [Int.pow_zero, Int.mul_one]
    rw [e] at hb ⊢
    refine K_Mo_atom_140 (d := 11) ⟨by omega, by omega⟩ ⟨by omega, by omega⟩ r6 ?_
    unfold B_Mo_atom_140
    split at hn
    · next w =>
      rw [if_pos w]
      exact a360 H (rgk rfl) ⟨by omega, by omega⟩ (rgk rfl)
    · omega
  | succ n ih =>
    intro x5 x6 hn r6 h0 hb
    have e : x5 * 10 ^ (n + 1) = 10 * x5 * 10 ^ n := by rw [Int.pow_succ, Int.mul_comm (10 ^ n) 10, ← Int.mul_assoc, Int.mul_comm x5 10]
    rw [e] at hb ⊢
    have p0 : (1 : Int) ≤ 10 ^ n := by
      have h : 0 < 10 ^ n := Nat.pow_pos (by decide)
      have e : ((10 ^ n : Nat) : Int) = (10 : Int) ^ n := by simp
      omega
    have p1 : 10 * x5 ≤ 10 * x5 * 10 ^ n := by
      have := Int.mul_le_mul_of_nonneg_left p0 (show (0 : Int) ≤ 10 * x5 by omega)
      rwa [Int.mul_one] at this
    refine K_Mo_atom_140 (d := 11) ⟨by omega, by omega⟩ ⟨by omega, by omega⟩ r6 ?_
    unfold B_Mo_atom_140
    split at hn
    · omega
    · next w =>
      rw [if_neg w]
      refine ⟨⟨by omega, by omega⟩, ⟨by have := r6.1; omega, by omega⟩, ih (10 * x5) (x6 + 1) ?_ ⟨by have := r6.1; omega, by omega⟩ (by omega) hb⟩
      split <;> omega
theorem dgB_0 {m : Nat} {r : Int × Int × Int} : dgB m r 0 = if r.2.1 = 0 ∨ (m : Int) < r.2.1 then 1 else 0 := by
  unfold dgB
  by_cases w : r.2.1 = 0 ∨ (m : Int) < r.2.1
  · rw [if_pos w, if_neg (fun h => h.2 w)]
  · rw [if_neg w, if_pos ⟨rfl, w⟩]
theorem dgB_1 {m : Nat} {r : Int × Int × Int} : dgB m r 1 = 1 := by
  unfold dgB; rw [if_neg (fun h => by have := h.1; omega)]
theorem moplain_d (H : GI σ 6) (hd : 48 ≤ nx (mch σ) (σ 58 3) ∧ nx (mch σ) (σ 58 3) ≤ 57) : DnM (pPlain (mch σ) E (σ 58 3)) σ := by
  have K := at0 H
  have HM := H.1
  have h60 := HM.2.1
  have hat := H.2.2.1
  have ge := sk_ge (ch := mch σ) (p := σ 58 3)
  have sl := mch_lt (σ := σ) (x := sk (mch σ) (σ 58 3)) (fun w => by have w' : nx (mch σ) (σ 58 3) = -1 := w; omega)
  have eh : hr (nx (mch σ) (σ 58 3)) = nx (mch σ) (σ 58 3) := by unfold hr; rw [if_neg (by omega)]
  have st : stb (nx (mch σ) (σ 58 3)) = true := by unfold stb; rw [decide_eq_true_eq]; omega
  rw [eh, if_pos st] at K
  have eP : pPlain (mch σ) E (σ 58 3) = pNum (mch σ) (sk (mch σ) (σ 58 3)) := by
    unfold pPlain; rw [if_neg (by omega), if_pos hd]
  rw [eP]
  have D1 := s_modigits (d := 9) (x1 := 4) (most := 4) (q := sk (mch σ) (σ 58 3)) (b := 0) rfl (by decide) HM ⟨by omega, by omega⟩
  have e5 : (4 : Nat) + 1 = 5 := rfl
  rw [e5] at D1
  obtain ⟨c1, c2⟩ := dgf_ps (ch := mch σ) 5 0 0 (sk (mch σ) (σ 58 3))
  have c3 := dgf_inM (σ := σ) 5 0 0 (sk (mch σ) (σ 58 3)) (by omega)
  obtain ⟨k1, b1, b2, b3, b4⟩ := dgf_val (ch := mch σ) 5 0 0 0 (sk (mch σ) (σ 58 3)) (by omega) (by decide) rfl
  have p1 := ten_pow (k := k1) (by omega)
  unfold pNum pDg
  rw [e5]
  generalize dgf (mch σ) 5 0 0 (sk (mch σ) (σ 58 3)) = r at *
  have Hh := s_here (d := 10) (q := r.2.2) (b := dgB 4 r 0) HM (by omega)
  have go : ∀ m, (if hr (mch σ r.2.2) = 46 then (rg (r.2.2 + 1) ∧ ∃ (v15 : Int) (m15 : Mem), Rn 14 yMo_digits [.ref 58, vi 3] (Zm σ (r.2.2 + 1) (dgB 4 r 0)) (some v15) m15 ∧ rg (m15 58 3 - (r.2.2 + 1)) ∧ Lb 14 yMo_atom 140 [(0, .ref 58), (3, vi r.1), (5, vi v15), (6, vi (m15 58 3 - (r.2.2 + 1)))] [] m15 none m) else B_Mo_atom_360 11 0 r.1 0 (Zm σ r.2.2 (dgB 4 r 0)) none m) → Sim σ m := by
    intro m hm
    refine K m ⟨Or.inl rfl, ?_⟩
    rw [dgt_1 hd, if_neg (by decide), Zm_24]
    refine ⟨_, _, D1, _, _, Hh, ?_⟩
    by_cases w : hr (mch σ r.2.2) = 46
    · rw [if_pos w] at hm ⊢
      rw [Zm_at, Zm_3]; exact hm
    · rw [if_neg w] at hm ⊢
      exact hm
  by_cases w : mch σ r.2.2 = 46
  · have go := fun m hm => go m (Eq.mpr (if_pos ((HM.hr_eq (by decide) (by decide)).mpr w)) hm)
    have l2 := mch_lt (σ := σ) (x := r.2.2) (by omega)
    have D2 := s_modigits (d := 9) (x1 := 3) (most := 3) (q := r.2.2 + 1) (b := dgB 4 r 0) rfl (by decide) HM ⟨by omega, by omega⟩
    have e4 : (3 : Nat) + 1 = 4 := rfl
    rw [e4] at D2
    obtain ⟨c4, c5⟩ := dgf_ps (ch := mch σ) 4 0 0 (r.2.2 + 1)
    have c6 := dgf_inM (σ := σ) 4 0 0 (r.2.2 + 1) (by omega)
    obtain ⟨k2, b5, b6, b7, b8⟩ := dgf_val (ch := mch σ) 4 0 0 0 (r.2.2 + 1) (by omega) (by decide) rfl
    have p2 : (10 : Int) ^ k2 ≤ 10000 := by
      have : k2 = 0 ∨ k2 = 1 ∨ k2 = 2 ∨ k2 = 3 ∨ k2 = 4 := by omega
      rcases this with rfl | rfl | rfl | rfl | rfl <;> decide
    have eD : pDg (mch σ) 3 (r.2.2 + 1) = if (dgf (mch σ) 4 0 0 (r.2.2 + 1)).2.1 = 0 ∨ 3 < (dgf (mch σ) 4 0 0 (r.2.2 + 1)).2.1 then none else some ((dgf (mch σ) 4 0 0 (r.2.2 + 1)).1, (dgf (mch σ) 4 0 0 (r.2.2 + 1)).2.2) := rfl
    generalize dgf (mch σ) 4 0 0 (r.2.2 + 1) = r2 at *
    have fin : ∀ n : Nat, (n : Int) = (if r2.2.2 - (r.2.2 + 1) ≥ 3 then 0 else 3 - (r2.2.2 - (r.2.2 + 1))) → Sim σ (mup (dft (Zm σ r2.2.2 (dgB 3 r2 (dgB 4 r 0))) 2 (1000 * r.1 + r2.1 * 10 ^ n) 0) 58 21 (σ 58 21 - 1)) := by
      intro n hn
      have n3 : n = 0 ∨ n = 1 ∨ n = 2 ∨ n = 3 := by split at hn <;> omega
      refine go _ ⟨⟨by omega, by omega⟩, _, _, D2, ?_, ?_⟩
      · rw [Zm_at]; exact ⟨by omega, by omega⟩
      · rw [Zm_at]
        refine l140 H ⟨by omega, by omega⟩ n r2.1 _ hn ⟨by omega, by omega⟩ b7 ?_
        have x1 : (10 : Int) ^ 0 = 1 := rfl
        have x2 : (10 : Int) ^ 1 = 10 := rfl
        have x3 : (10 : Int) ^ 2 = 100 := rfl
        have x4 : (10 : Int) ^ 3 = 1000 := rfl
        rcases n3 with rfl | rfl | rfl | rfl
        · rw [x1]; omega
        · rw [x2]; omega
        · rw [x3]; omega
        · rw [x4]; omega
    have ex : ∃ n : Nat, (n : Int) = (if r2.2.2 - (r.2.2 + 1) ≥ 3 then 0 else 3 - (r2.2.2 - (r.2.2 + 1))) := by
      split
      · exact ⟨0, rfl⟩
      · exact ⟨(3 - (r2.2.2 - (r.2.2 + 1))).toNat, by omega⟩
    obtain ⟨n, hn⟩ := ex
    have F := fin n hn
    by_cases bad1 : r.2.1 = 0 ∨ 4 < r.2.1
    · have e : dgB 4 r 0 = 1 := by rw [dgB_0]; exact if_pos bad1
      rw [e, dgB_1] at F
      have : (if r.2.1 = 0 ∨ ((4 : Nat) : Int) < r.2.1 then (none : Option (Int × Int)) else some (r.1, r.2.2)) = none := if_pos bad1
      rw [this]
      exact a_bad F
    · have e : dgB 4 r 0 = 0 := by rw [dgB_0]; exact if_neg bad1
      have eq : (if r.2.1 = 0 ∨ ((4 : Nat) : Int) < r.2.1 then (none : Option (Int × Int)) else some (r.1, r.2.2)) = some (r.1, r.2.2) := if_neg bad1
      rw [e, dgB_0] at F
      rw [eq]
      dsimp only
      rw [if_pos w]
      change DnM (match pDg (mch σ) 3 (r.2.2 + 1) with
        | none => none
        | some (t, r') => some (nd 1 (r.1 * 1000 + ten t (r' - (r.2.2 + 1))) nl nl nl, r')) σ
      rw [eD]
      by_cases bad2 : r2.2.1 = 0 ∨ 3 < r2.2.1
      · have e' : (if r2.2.1 = 0 ∨ ((3 : Nat) : Int) < r2.2.1 then (1 : Int) else 0) = 1 := if_pos bad2
        rw [e'] at F
        rw [if_pos bad2]
        exact a_bad F
      · have e' : (if r2.2.1 = 0 ∨ ((3 : Nat) : Int) < r2.2.1 then (1 : Int) else 0) = 0 := if_neg bad2
        rw [e'] at F
        rw [if_neg bad2]
        dsimp only
        refine ⟨_, F, a_leaf H ⟨by omega, by omega⟩ (by decide) (fun ρ a s k => ?_)⟩
        have ev : 1000 * r.1 + r2.1 * 10 ^ n = r.1 * 1000 + ten r2.1 (r2.2.2 - (r.2.2 + 1)) := by
          unfold ten
          have x1 : (10 : Int) ^ 0 = 1 := rfl
          have x2 : (10 : Int) ^ 1 = 10 := rfl
          have x3 : (10 : Int) ^ 2 = 100 := rfl
          have n3 : r2.2.2 - (r.2.2 + 1) = 1 ∨ r2.2.2 - (r.2.2 + 1) = 2 ∨ r2.2.2 - (r.2.2 + 1) = 3 := by omega
          rcases n3 with z | z | z
          · rw [if_pos z]
            rw [z] at hn
            have : n = 2 := by rw [if_neg (by decide)] at hn; omega
            rw [this, x3]; omega
          · rw [if_neg (by omega), if_pos z]
            rw [z] at hn
            have : n = 1 := by rw [if_neg (by decide)] at hn; omega
            rw [this, x2]; omega
          · rw [if_neg (by omega), if_neg (by omega)]
            rw [z] at hn
            have : n = 0 := by rw [if_pos (by decide)] at hn; omega
            rw [this, x1]; omega
        rw [ev] at k
        exact k
  · have go := fun m hm => go m (Eq.mpr (if_neg (fun h => w ((HM.hr_eq (by decide) (by decide)).mp h))) hm)
    by_cases bad1 : r.2.1 = 0 ∨ 4 < r.2.1
    · have e : dgB 4 r 0 = 1 := by rw [dgB_0]; exact if_pos bad1
      have : (if r.2.1 = 0 ∨ ((4 : Nat) : Int) < r.2.1 then (none : Option (Int × Int)) else some (r.1, r.2.2)) = none := if_pos bad1
      rw [this]
      rw [e] at go
      exact a_bad (go _ (a360 H (rgk rfl) ⟨by omega, by omega⟩ (rgk rfl)))
    · have e : dgB 4 r 0 = 0 := by rw [dgB_0]; exact if_neg bad1
      have eq : (if r.2.1 = 0 ∨ ((4 : Nat) : Int) < r.2.1 then (none : Option (Int × Int)) else some (r.1, r.2.2)) = some (r.1, r.2.2) := if_neg bad1
      rw [eq]
      dsimp only
      rw [if_neg w]
      rw [e] at go
      exact ⟨_, go _ (a360 H (rgk rfl) ⟨by omega, by omega⟩ (rgk rfl)), a_leaf H ⟨by omega, by omega⟩ (by decide) (fun ρ a s k => k)⟩
end NUM
