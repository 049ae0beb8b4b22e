/-! The program is a copy of the tree that was read. -/
section CPY
variable {σ : Mem} {d : Nat}
/-- cells of a row from another -/
def cpR (σ σ' : Mem) (a b : Nat) : Prop := (∀ i, i ≠ a → σ' i = σ i) ∧ ∀ x, 0 ≤ x → x < 128 → σ' a x = σ b x
theorem cp_l21 : ∀ (k : Nat) (x : Int) (σ : Mem), (k : Int) + x = 128 → 0 ≤ x → ∃ σ', Lb (d + 1) yRw_copy 2 [(0, .ref 21), (1, .ref 6), (2, vi x)] [] σ none σ' ∧ (∀ i, i ≠ 22 → σ' i = σ i) ∧ (∀ y, x ≤ y → y < 128 → σ' 22 y = σ 7 y) ∧ ∀ y, y < x → σ' 22 y = σ 22 y
  | 0, x, σ, hk, h0 => by
    refine ⟨σ, K_Rw_copy21_2 ⟨by omega, by omega⟩ ?_, fun _ _ => rfl, fun y h1 h2 => by omega, fun _ _ => rfl⟩
    unfold B_Rw_copy21_2
    rw [if_pos (by omega)]
    exact ⟨rfl, rfl⟩
  | k + 1, x, σ, hk, h0 => by
    have e : rowv 128 σ 7 x = σ 7 x := if_pos ⟨h0, by show x < 128; omega⟩
    obtain ⟨σ', l, f, g, w⟩ := cp_l21 k (x + 1) (mup σ 22 x (σ 7 x)) (by omega) (by omega)
    refine ⟨σ', K_Rw_copy21_2 ⟨by omega, by omega⟩ ?_, fun i h => (f i h).trans (mup_obj h), fun y h1 h2 => ?_, fun y h => (w y (by omega)).trans (mup_nk (by omega))⟩
    · unfold B_Rw_copy21_2
      rw [if_neg (by omega), e]
      exact ⟨by omega, ⟨by omega, by omega⟩, l⟩
    · by_cases c : y = x
      · rw [c, w x (by omega), mup_eq]
      · rw [g y (by omega) h2, mup_ne (by decide)]
theorem s_cp21 (σ : Mem) : ∃ σ', Rn (d + 2) yRw_copy [.ref 21, .ref 6] σ none σ' ∧ cpR σ σ' 22 7 := by
  obtain ⟨σ', l, f, g, -⟩ := cp_l21 (d := d) 128 0 σ (by decide) (Int.le_refl _)
  exact ⟨σ', M_Rw_copy21 l, f, fun x h0 h1 => g x h0 h1⟩
theorem cp_l23 : ∀ (k : Nat) (x : Int) (σ : Mem), (k : Int) + x = 128 → 0 ≤ x → ∃ σ', Lb (d + 1) yRw_copy 2 [(0, .ref 23), (1, .ref 8), (2, vi x)] [] σ none σ' ∧ (∀ i, i ≠ 24 → σ' i = σ i) ∧ (∀ y, x ≤ y → y < 128 → σ' 24 y = σ 9 y) ∧ ∀ y, y < x → σ' 24 y = σ 24 y
  | 0, x, σ, hk, h0 => by
    refine ⟨σ, K_Rw_copy23_2 ⟨by omega, by omega⟩ ?_, fun _ _ => rfl, fun y h1 h2 => by omega, fun _ _ => rfl⟩
    unfold B_Rw_copy23_2
    rw [if_pos (by omega)]
    exact ⟨rfl, rfl⟩
  | k + 1, x, σ, hk, h0 => by
    have e : rowv 128 σ 9 x = σ 9 x := if_pos ⟨h0, by show x < 128; omega⟩
    obtain ⟨σ', l, f, g, w⟩ := cp_l23 k (x + 1) (mup σ 24 x (σ 9 x)) (by omega) (by omega)
    refine ⟨σ', K_Rw_copy23_2 ⟨by omega, by omega⟩ ?_, fun i h => (f i h).trans (mup_obj h), fun y h1 h2 => ?_, fun y h => (w y (by omega)).trans (mup_nk (by omega))⟩
    · unfold B_Rw_copy23_2
      rw [if_neg (by omega), e]
      exact ⟨by omega, ⟨by omega, by omega⟩, l⟩
    · by_cases c : y = x
      · rw [c, w x (by omega), mup_eq]
      · rw [g y (by omega) h2, mup_ne (by decide)]
theorem s_cp23 (σ : Mem) : ∃ σ', Rn (d + 2) yRw_copy [.ref 23, .ref 8] σ none σ' ∧ cpR σ σ' 24 9 := by
  obtain ⟨σ', l, f, g, -⟩ := cp_l23 (d := d) 128 0 σ (by decide) (Int.le_refl _)
  exact ⟨σ', M_Rw_copy23 l, f, fun x h0 h1 => g x h0 h1⟩
theorem cp_l25 : ∀ (k : Nat) (x : Int) (σ : Mem), (k : Int) + x = 128 → 0 ≤ x → ∃ σ', Lb (d + 1) yRw_copy 2 [(0, .ref 25), (1, .ref 10), (2, vi x)] [] σ none σ' ∧ (∀ i, i ≠ 26 → σ' i = σ i) ∧ (∀ y, x ≤ y → y < 128 → σ' 26 y = σ 11 y) ∧ ∀ y, y < x → σ' 26 y = σ 26 y
  | 0, x, σ, hk, h0 => by
    refine ⟨σ, K_Rw_copy25_2 ⟨by omega, by omega⟩ ?_, fun _ _ => rfl, fun y h1 h2 => by omega, fun _ _ => rfl⟩
    unfold B_Rw_copy25_2
    rw [if_pos (by omega)]
    exact ⟨rfl, rfl⟩
  | k + 1, x, σ, hk, h0 => by
    have e : rowv 128 σ 11 x = σ 11 x := if_pos ⟨h0, by show x < 128; omega⟩
    obtain ⟨σ', l, f, g, w⟩ := cp_l25 k (x + 1) (mup σ 26 x (σ 11 x)) (by omega) (by omega)
    refine ⟨σ', K_Rw_copy25_2 ⟨by omega, by omega⟩ ?_, fun i h => (f i h).trans (mup_obj h), fun y h1 h2 => ?_, fun y h => (w y (by omega)).trans (mup_nk (by omega))⟩
    · unfold B_Rw_copy25_2
      rw [if_neg (by omega), e]
      exact ⟨by omega, ⟨by omega, by omega⟩, l⟩
    · by_cases c : y = x
      · rw [c, w x (by omega), mup_eq]
      · rw [g y (by omega) h2, mup_ne (by decide)]
theorem s_cp25 (σ : Mem) : ∃ σ', Rn (d + 2) yRw_copy [.ref 25, .ref 10] σ none σ' ∧ cpR σ σ' 26 11 := by
  obtain ⟨σ', l, f, g, -⟩ := cp_l25 (d := d) 128 0 σ (by decide) (Int.le_refl _)
  exact ⟨σ', M_Rw_copy25 l, f, fun x h0 h1 => g x h0 h1⟩
theorem cp_l27 : ∀ (k : Nat) (x : Int) (σ : Mem), (k : Int) + x = 128 → 0 ≤ x → ∃ σ', Lb (d + 1) yRw_copy 2 [(0, .ref 27), (1, .ref 12), (2, vi x)] [] σ none σ' ∧ (∀ i, i ≠ 28 → σ' i = σ i) ∧ (∀ y, x ≤ y → y < 128 → σ' 28 y = σ 13 y) ∧ ∀ y, y < x → σ' 28 y = σ 28 y
  | 0, x, σ, hk, h0 => by
    refine ⟨σ, K_Rw_copy27_2 ⟨by omega, by omega⟩ ?_, fun _ _ => rfl, fun y h1 h2 => by omega, fun _ _ => rfl⟩
    unfold B_Rw_copy27_2
    rw [if_pos (by omega)]
    exact ⟨rfl, rfl⟩
  | k + 1, x, σ, hk, h0 => by
    have e : rowv 128 σ 13 x = σ 13 x := if_pos ⟨h0, by show x < 128; omega⟩
    obtain ⟨σ', l, f, g, w⟩ := cp_l27 k (x + 1) (mup σ 28 x (σ 13 x)) (by omega) (by omega)
    refine ⟨σ', K_Rw_copy27_2 ⟨by omega, by omega⟩ ?_, fun i h => (f i h).trans (mup_obj h), fun y h1 h2 => ?_, fun y h => (w y (by omega)).trans (mup_nk (by omega))⟩
    · unfold B_Rw_copy27_2
      rw [if_neg (by omega), e]
      exact ⟨by omega, ⟨by omega, by omega⟩, l⟩
    · by_cases c : y = x
      · rw [c, w x (by omega), mup_eq]
      · rw [g y (by omega) h2, mup_ne (by decide)]
theorem s_cp27 (σ : Mem) : ∃ σ', Rn (d + 2) yRw_copy [.ref 27, .ref 12] σ none σ' ∧ cpR σ σ' 28 13 := by
  obtain ⟨σ', l, f, g, -⟩ := cp_l27 (d := d) 128 0 σ (by decide) (Int.le_refl _)
  exact ⟨σ', M_Rw_copy27 l, f, fun x h0 h1 => g x h0 h1⟩
theorem cp_l29 : ∀ (k : Nat) (x : Int) (σ : Mem), (k : Int) + x = 128 → 0 ≤ x → ∃ σ', Lb (d + 1) yRw_copy 2 [(0, .ref 29), (1, .ref 14), (2, vi x)] [] σ none σ' ∧ (∀ i, i ≠ 30 → σ' i = σ i) ∧ (∀ y, x ≤ y → y < 128 → σ' 30 y = σ 15 y) ∧ ∀ y, y < x → σ' 30 y = σ 30 y
  | 0, x, σ, hk, h0 => by
    refine ⟨σ, K_Rw_copy29_2 ⟨by omega, by omega⟩ ?_, fun _ _ => rfl, fun y h1 h2 => by omega, fun _ _ => rfl⟩
    unfold B_Rw_copy29_2
    rw [if_pos (by omega)]
    exact ⟨rfl, rfl⟩
  | k + 1, x, σ, hk, h0 => by
    have e : rowv 128 σ 15 x = σ 15 x := if_pos ⟨h0, by show x < 128; omega⟩
    obtain ⟨σ', l, f, g, w⟩ := cp_l29 k (x + 1) (mup σ 30 x (σ 15 x)) (by omega) (by omega)
    refine ⟨σ', K_Rw_copy29_2 ⟨by omega, by omega⟩ ?_, fun i h => (f i h).trans (mup_obj h), fun y h1 h2 => ?_, fun y h => (w y (by omega)).trans (mup_nk (by omega))⟩
    · unfold B_Rw_copy29_2
      rw [if_neg (by omega), e]
      exact ⟨by omega, ⟨by omega, by omega⟩, l⟩
    · by_cases c : y = x
      · rw [c, w x (by omega), mup_eq]
      · rw [g y (by omega) h2, mup_ne (by decide)]
theorem s_cp29 (σ : Mem) : ∃ σ', Rn (d + 2) yRw_copy [.ref 29, .ref 14] σ none σ' ∧ cpR σ σ' 30 15 := by
  obtain ⟨σ', l, f, g, -⟩ := cp_l29 (d := d) 128 0 σ (by decide) (Int.le_refl _)
  exact ⟨σ', M_Rw_copy29 l, f, fun x h0 h1 => g x h0 h1⟩
theorem cp_l31 : ∀ (k : Nat) (x : Int) (σ : Mem), (k : Int) + x = 128 → 0 ≤ x → ∃ σ', Lb (d + 1) yRw_copy 2 [(0, .ref 31), (1, .ref 16), (2, vi x)] [] σ none σ' ∧ (∀ i, i ≠ 32 → σ' i = σ i) ∧ (∀ y, x ≤ y → y < 128 → σ' 32 y = σ 17 y) ∧ ∀ y, y < x → σ' 32 y = σ 32 y
  | 0, x, σ, hk, h0 => by
    refine ⟨σ, K_Rw_copy31_2 ⟨by omega, by omega⟩ ?_, fun _ _ => rfl, fun y h1 h2 => by omega, fun _ _ => rfl⟩
    unfold B_Rw_copy31_2
    rw [if_pos (by omega)]
    exact ⟨rfl, rfl⟩
  | k + 1, x, σ, hk, h0 => by
    have e : rowv 128 σ 17 x = σ 17 x := if_pos ⟨h0, by show x < 128; omega⟩
    obtain ⟨σ', l, f, g, w⟩ := cp_l31 k (x + 1) (mup σ 32 x (σ 17 x)) (by omega) (by omega)
    refine ⟨σ', K_Rw_copy31_2 ⟨by omega, by omega⟩ ?_, fun i h => (f i h).trans (mup_obj h), fun y h1 h2 => ?_, fun y h => (w y (by omega)).trans (mup_nk (by omega))⟩
    · unfold B_Rw_copy31_2
      rw [if_neg (by omega), e]
      exact ⟨by omega, ⟨by omega, by omega⟩, l⟩
    · by_cases c : y = x
      · rw [c, w x (by omega), mup_eq]
      · rw [g y (by omega) h2, mup_ne (by decide)]
theorem s_cp31 (σ : Mem) : ∃ σ', Rn (d + 2) yRw_copy [.ref 31, .ref 16] σ none σ' ∧ cpR σ σ' 32 17 := by
  obtain ⟨σ', l, f, g, -⟩ := cp_l31 (d := d) 128 0 σ (by decide) (Int.le_refl _)
  exact ⟨σ', M_Rw_copy31 l, f, fun x h0 h1 => g x h0 h1⟩
theorem cp_l33 : ∀ (k : Nat) (x : Int) (σ : Mem), (k : Int) + x = 128 → 0 ≤ x → ∃ σ', Lb (d + 1) yRw_copy 2 [(0, .ref 33), (1, .ref 18), (2, vi x)] [] σ none σ' ∧ (∀ i, i ≠ 34 → σ' i = σ i) ∧ (∀ y, x ≤ y → y < 128 → σ' 34 y = σ 19 y) ∧ ∀ y, y < x → σ' 34 y = σ 34 y
  | 0, x, σ, hk, h0 => by
    refine ⟨σ, K_Rw_copy33_2 ⟨by omega, by omega⟩ ?_, fun _ _ => rfl, fun y h1 h2 => by omega, fun _ _ => rfl⟩
    unfold B_Rw_copy33_2
    rw [if_pos (by omega)]
    exact ⟨rfl, rfl⟩
  | k + 1, x, σ, hk, h0 => by
    have e : rowv 128 σ 19 x = σ 19 x := if_pos ⟨h0, by show x < 128; omega⟩
    obtain ⟨σ', l, f, g, w⟩ := cp_l33 k (x + 1) (mup σ 34 x (σ 19 x)) (by omega) (by omega)
    refine ⟨σ', K_Rw_copy33_2 ⟨by omega, by omega⟩ ?_, fun i h => (f i h).trans (mup_obj h), fun y h1 h2 => ?_, fun y h => (w y (by omega)).trans (mup_nk (by omega))⟩
    · unfold B_Rw_copy33_2
      rw [if_neg (by omega), e]
      exact ⟨by omega, ⟨by omega, by omega⟩, l⟩
    · by_cases c : y = x
      · rw [c, w x (by omega), mup_eq]
      · rw [g y (by omega) h2, mup_ne (by decide)]
theorem s_cp33 (σ : Mem) : ∃ σ', Rn (d + 2) yRw_copy [.ref 33, .ref 18] σ none σ' ∧ cpR σ σ' 34 19 := by
  obtain ⟨σ', l, f, g, -⟩ := cp_l33 (d := d) 128 0 σ (by decide) (Int.le_refl _)
  exact ⟨σ', M_Rw_copy33 l, f, fun x h0 h1 => g x h0 h1⟩
/-- the whole tree -/
theorem s_trcopy (σ : Mem) : ∃ σ', Rn (d + 3) yTr_copy [.ref 20, .ref 5] σ none σ' ∧ (∀ i, i ≠ 20 → i ≠ 22 → i ≠ 24 → i ≠ 26 → i ≠ 28 → i ≠ 30 → i ≠ 32 → i ≠ 34 → σ' i = σ i) ∧ σ' 20 7 = σ 5 7 ∧ σ' 20 8 = σ 5 8 ∧ ∀ x, 0 ≤ x → x < 128 → σ' 22 x = σ 7 x ∧ σ' 24 x = σ 9 x ∧ σ' 26 x = σ 11 x ∧ σ' 28 x = σ 13 x ∧ σ' 30 x = σ 15 x ∧ σ' 32 x = σ 17 x ∧ σ' 34 x = σ 19 x := by
  generalize h0 : mup (mup σ 20 7 (σ 5 7)) 20 8 (σ 5 8) = τ0
  have ob : ∀ i, i ≠ 20 → τ0 i = σ i := fun i h => by rw [← h0, mup_obj h, mup_obj h]
  have t7 : τ0 20 7 = σ 5 7 := by rw [← h0, mup_nk (by decide), mup_eq]
  have t8 : τ0 20 8 = σ 5 8 := by rw [← h0, mup_eq]
  obtain ⟨τ1, R1, f1, g1⟩ := s_cp21 (d := d) τ0
  obtain ⟨τ2, R2, f2, g2⟩ := s_cp23 (d := d) τ1
  obtain ⟨τ3, R3, f3, g3⟩ := s_cp25 (d := d) τ2
  obtain ⟨τ4, R4, f4, g4⟩ := s_cp27 (d := d) τ3
  obtain ⟨τ5, R5, f5, g5⟩ := s_cp29 (d := d) τ4
  obtain ⟨τ6, R6, f6, g6⟩ := s_cp31 (d := d) τ5
  obtain ⟨τ7, R7, f7, g7⟩ := s_cp33 (d := d) τ6
  refine ⟨τ7, M_Tr_copy (d := d) ?_, fun i a b c e f g h k => ?_, ?_, ?_, fun x p q => ?_⟩
  · unfold B_Tr_copy
    rw [h0]
    exact ⟨τ1, R1, τ2, R2, τ3, R3, τ4, R4, τ5, R5, τ6, R6, τ7, R7, rfl, rfl⟩
  · rw [f7 i k, f6 i h, f5 i g, f4 i f, f3 i e, f2 i c, f1 i b]; exact ob i a
  · rw [f7 20 (by decide), f6 20 (by decide), f5 20 (by decide), f4 20 (by decide), f3 20 (by decide), f2 20 (by decide), f1 20 (by decide)]; exact t7
  · rw [f7 20 (by decide), f6 20 (by decide), f5 20 (by decide), f4 20 (by decide), f3 20 (by decide), f2 20 (by decide), f1 20 (by decide)]; exact t8
  · exact ⟨by rw [f7 22 (by decide), f6 22 (by decide), f5 22 (by decide), f4 22 (by decide), f3 22 (by decide), f2 22 (by decide), g1 x p q]; exact congrFun (ob 7 (by decide)) x, by rw [f7 24 (by decide), f6 24 (by decide), f5 24 (by decide), f4 24 (by decide), f3 24 (by decide), g2 x p q, f1 9 (by decide)]; exact congrFun (ob 9 (by decide)) x, by rw [f7 26 (by decide), f6 26 (by decide), f5 26 (by decide), f4 26 (by decide), g3 x p q, f2 11 (by decide), f1 11 (by decide)]; exact congrFun (ob 11 (by decide)) x, by rw [f7 28 (by decide), f6 28 (by decide), f5 28 (by decide), g4 x p q, f3 13 (by decide), f2 13 (by decide), f1 13 (by decide)]; exact congrFun (ob 13 (by decide)) x, by rw [f7 30 (by decide), f6 30 (by decide), g5 x p q, f4 15 (by decide), f3 15 (by decide), f2 15 (by decide), f1 15 (by decide)]; exact congrFun (ob 15 (by decide)) x, by rw [f7 32 (by decide), g6 x p q, f5 17 (by decide), f4 17 (by decide), f3 17 (by decide), f2 17 (by decide), f1 17 (by decide)]; exact congrFun (ob 17 (by decide)) x, by rw [g7 x p q, f6 19 (by decide), f5 19 (by decide), f4 19 (by decide), f3 19 (by decide), f2 19 (by decide), f1 19 (by decide)]; exact congrFun (ob 19 (by decide)) x⟩
end CPY
