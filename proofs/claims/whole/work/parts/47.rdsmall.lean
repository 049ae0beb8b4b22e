/-! The class's reader: its small methods. -/
theorem mup_id {σ : Mem} {i : Nat} {k : Int} : mup σ i k (σ i k) = σ := by
  funext a b
  unfold mup
  split
  · next e => split
              · next q => rw [e, q]
              · rfl
  · rfl
theorem mup_mup {σ : Mem} {i : Nat} {k u v : Int} : mup (mup σ i k u) i k v = mup σ i k v := by
  funext a b
  unfold mup
  split
  · split <;> rfl
  · rfl
theorem mup_obj {σ : Mem} {i j : Nat} {k z : Int} (h : j ≠ i) : mup σ i k z j = σ j := by
  funext x; exact mup_ne h
theorem rows_obj {σ : Mem} {n i j : Nat} {k z : Int} (h : j ≠ i) : rows n σ i k z j = σ j := by
  funext x; exact rows_ne h
theorem chr_of {σ σ' : Mem} (h2 : σ' 2 = σ 2) (h4 : σ' 4 = σ 4) : chr σ' = chr σ := by
  funext z; unfold chr rowv; rw [h2, h4]
/-- the line is one -/
def LI (σ : Mem) : Prop := 0 ≤ σ 2 1 ∧ σ 2 1 ≤ 60 ∧ ∀ p, 0 ≤ p → p < σ 2 1 → 32 ≤ σ 4 p ∧ σ 4 p ≤ 126
def rdP (i : Nat) : Bool := i == 35 || i == 37 || i == 5 || i == 7 || i == 9 || i == 11 || i == 13 || i == 15 || i == 17 || i == 19
/-- what the reader may write -/
def frR (σ σ' : Mem) : Prop := ∀ i, rdP i = false → σ' i = σ i
def RI (σ : Mem) : Prop := LI σ ∧ (0 ≤ σ 35 3 ∧ σ 35 3 ≤ σ 2 1) ∧ (0 ≤ σ 5 7 ∧ σ 5 7 ≤ 128)
section SK
variable {ch : Int → Int}
theorem skf_ge : ∀ (n : Nat) (p : Int), p ≤ skf ch n p
  | 0, p => Int.le_refl p
  | n + 1, p => by
    unfold skf
    split
    · have := skf_ge n (p + 1); omega
    · exact Int.le_refl p
theorem skf_in {m : Int} (H : ∀ x, ch x = 32 → x < m) : ∀ (n : Nat) (p : Int), p ≤ m → skf ch n p ≤ m
  | 0, p, hp => hp
  | n + 1, p, hp => by
    unfold skf
    split
    · next e => have := H p e; exact skf_in H n (p + 1) (by omega)
    · exact hp
theorem sk_ge {p : Int} : p ≤ sk ch p := skf_ge 60 p
end SK
theorem frR.rf {σ : Mem} : frR σ σ := fun _ _ => rfl
theorem frR.tr {σ σ1 σ2 : Mem} (a : frR σ σ1) (b : frR σ1 σ2) : frR σ σ2 := fun i h => (b i h).trans (a i h)
theorem frR.mu {σ : Mem} {i : Nat} {k z : Int} (h : rdP i = true) : frR σ (mup σ i k z) := fun j hj => mup_obj (fun e => by rw [e, h] at hj; cases hj)
theorem frR.ro {σ : Mem} {n i : Nat} {k z : Int} (h : rdP i = true) : frR σ (rows n σ i k z) := fun j hj => rows_obj (fun e => by rw [e, h] at hj; cases hj)
theorem frR.chr {σ σ' : Mem} (a : frR σ σ') : chr σ' = chr σ := chr_of (a 2 rfl) (a 4 rfl)
theorem frR.li {σ σ' : Mem} (a : frR σ σ') (h : LI σ) : LI σ' := by
  unfold LI at h ⊢
  rw [a 2 rfl, a 4 rfl]; exact h
section SM
variable {d : Nat} {σ : Mem}
theorem LI.chr_lt (H : LI σ) {x : Int} (h : chr σ x ≠ -1) : 0 ≤ x ∧ x < σ 2 1 := by
  unfold chr rowv at h
  split at h
  · exact absurd rfl h
  · split at h
    · next q w => exact ⟨w.1, by omega⟩
    · exact absurd rfl h
theorem LI.chr_rg (H : LI σ) {x : Int} : chr σ x = -1 ∨ (32 ≤ chr σ x ∧ chr σ x ≤ 126) := by
  by_cases h : chr σ x = -1
  · exact Or.inl h
  · right
    obtain ⟨h1, h2⟩ := H.chr_lt h
    have e : chr σ x = σ 4 x := by
      unfold chr rowv
      rw [if_neg (by omega), if_pos ⟨h1, by have := H.2.1; omega⟩]
    rw [e]; exact H.2.2 x h1 h2
theorem LI.chr_end (H : LI σ) {x : Int} (h : σ 2 1 ≤ x) : chr σ x = -1 := by
  unfold chr; rw [if_pos h]
theorem LI.sk_in (H : LI σ) {p : Int} (hp : p ≤ σ 2 1) : sk (chr σ) p ≤ σ 2 1 := skf_in (fun x e => (H.chr_lt (by omega)).2) 60 p hp
theorem RI.at (H : RI σ) {q : Int} (h0 : 0 ≤ q) (h1 : q ≤ σ 2 1) : RI (mup σ 35 3 q) := by
  refine ⟨(frR.mu rfl).li H.1, ?_, ?_⟩
  · rw [mup_eq, mup_ne (by decide)]; exact ⟨h0, h1⟩
  · rw [mup_ne (by decide)]; exact H.2.2
theorem RI.br (H : RI σ) : RI (mup σ 35 4 1) := by
  refine ⟨(frR.mu rfl).li H.1, ?_, ?_⟩
  · rw [mup_nk (by decide), mup_ne (by decide)]; exact H.2.1
  · rw [mup_ne (by decide)]; exact H.2.2
theorem RI.skb (H : RI σ) : 0 ≤ sk (chr σ) (σ 35 3) ∧ sk (chr σ) (σ 35 3) ≤ σ 2 1 := ⟨Int.le_trans H.2.1.1 sk_ge, H.1.sk_in H.2.1.2⟩
/-- the place behind a character that is met -/
theorem RI.skn (H : RI σ) (h : nx (chr σ) (σ 35 3) ≠ -1) : 0 ≤ sk (chr σ) (σ 35 3) + 1 ∧ sk (chr σ) (σ 35 3) + 1 ≤ σ 2 1 := by
  have h1 := H.1.chr_lt h
  have h2 := H.skb
  exact ⟨by omega, by omega⟩
def nxv (σ : Mem) : Int := if σ 35 4 = 0 then nx (chr σ) (σ 35 3) else -1
theorem next_l : ∀ (n : Nat) (x : Int) (σ : Mem), x = 60 - n → 0 ≤ x → RI σ → Lb (d + 3) yRd_next 2 [(0, .ref 35), (1, vi x)] [] σ (some (if σ 35 4 = 0 then chr σ (skf (chr σ) n (σ 35 3)) else -1)) (mup σ 35 3 (skf (chr σ) n (σ 35 3)))
  | 0, x, σ, hx, h0, H => by
    refine K_Rd_next_2 ⟨by omega, by omega⟩ ?_
    unfold B_Rd_next_2 B_Rd_next_40
    rw [if_pos (by omega)]
    have e2 : skf (chr σ) 0 (σ 35 3) = σ 35 3 := rfl
    rw [e2, mup_id]
    split <;> exact ⟨rfl, rfl⟩
  | n + 1, x, σ, hx, h0, H => by
    refine K_Rd_next_2 ⟨by omega, by omega⟩ ?_
    unfold B_Rd_next_2 B_Rd_next_40
    rw [if_neg (by omega)]
    by_cases c : chr σ (σ 35 3) = 32
    · rw [if_neg (by omega)]
      have h1 := H.1.chr_lt (x := σ 35 3) (by omega)
      have h2 := H.1.2.1
      refine ⟨⟨by omega, by omega⟩, ⟨by omega, by omega⟩, ?_⟩
      have ih := next_l n (x + 1) (mup σ 35 3 (σ 35 3 + 1)) (by omega) (by omega) (H.at (by omega) (by omega))
      have e : chr (mup σ 35 3 (σ 35 3 + 1)) = chr σ := (frR.mu rfl).chr
      rw [e, mup_eq, mup_mup, mup_nk (by decide)] at ih
      have e2 : skf (chr σ) (n + 1) (σ 35 3) = skf (chr σ) n (σ 35 3 + 1) := by rw [skf, if_pos c]
      rw [e2]; exact ih
    · rw [if_pos (by omega)]
      have e2 : skf (chr σ) (n + 1) (σ 35 3) = σ 35 3 := by rw [skf, if_neg c]
      rw [e2, mup_id]
      split <;> exact ⟨rfl, rfl⟩
theorem s_next (H : RI σ) : Rn (d + 4) yRd_next [.ref 35] σ (some (nxv σ)) (mup σ 35 3 (sk (chr σ) (σ 35 3))) := M_Rd_next (next_l 60 0 σ rfl (by decide) H)
theorem nxv_u (h : σ 35 4 = 0) : nxv σ = nx (chr σ) (σ 35 3) := if_pos h
theorem nxv_b (h : σ 35 4 ≠ 0) : nxv σ = -1 := if_neg h
theorem takes_y {c : Int} (H : RI σ) (hc : rg c) (h0 : c ≠ -1) (h : nxv σ = c) : Rn (d + 5) yRd_takes [.ref 35, vi c] σ (some 1) (mup σ 35 3 (sk (chr σ) (σ 35 3) + 1)) := by
  have hb : σ 35 4 = 0 := by
    by_cases q : σ 35 4 = 0
    · exact q
    · rw [nxv_b q] at h; exact absurd h.symm h0
  have h1 := H.skn (by rw [← nxv_u hb, h]; exact h0)
  have h2 := H.1.2.1
  have h3 := H.skb
  refine (M_Rd_takes (d := d + 1) hc ⟨nxv σ, _, s_next H, ?_⟩)
  rw [if_pos h, mup_eq, mup_mup]
  exact ⟨⟨by omega, by omega⟩, rfl, rfl⟩
theorem takes_n {c : Int} (H : RI σ) (hc : rg c) (h : nxv σ ≠ c) : Rn (d + 5) yRd_takes [.ref 35, vi c] σ (some 0) (mup σ 35 3 (sk (chr σ) (σ 35 3))) := by
  refine (M_Rd_takes (d := d + 1) hc ⟨nxv σ, _, s_next H, ?_⟩)
  rw [if_neg h]
  exact ⟨rfl, rfl⟩
theorem expect_y {c : Int} (H : RI σ) (hc : rg c) (h0 : c ≠ -1) (h : nxv σ = c) : Rn (d + 6) yRd_expect [.ref 35, vi c] σ none (mup σ 35 3 (sk (chr σ) (σ 35 3) + 1)) := by
  refine (M_Rd_expect (d := d + 2) hc ⟨1, _, takes_y H hc h0 h, ?_⟩)
  rw [if_pos (by decide)]
  exact ⟨rfl, rfl⟩
theorem expect_n {c : Int} (H : RI σ) (hc : rg c) (h : nxv σ ≠ c) : Rn (d + 6) yRd_expect [.ref 35, vi c] σ none (mup (mup σ 35 3 (sk (chr σ) (σ 35 3))) 35 4 1) := by
  refine (M_Rd_expect (d := d + 2) hc ⟨0, _, takes_n H hc h, ?_⟩)
  rw [if_neg (by decide)]
  exact ⟨rfl, rfl⟩
theorem s_breakOff : Rn (d + 4) yRd_breakOff [.ref 35] σ (some (-1)) (mup σ 35 4 1) := M_Rd_breakOff ⟨rfl, rfl⟩
theorem name_y (H : RI σ) (hb : σ 35 4 = 0) (h : 97 ≤ nx (chr σ) (σ 35 3) ∧ nx (chr σ) (σ 35 3) ≤ 122) : Rn (d + 5) yRd_name [.ref 35] σ (some (nx (chr σ) (σ 35 3))) (mup σ 35 3 (sk (chr σ) (σ 35 3) + 1)) := by
  have h1 := H.skn (by omega)
  have h2 := H.1.2.1
  have h3 := H.skb
  refine (M_Rd_name (d := d + 1) ⟨nxv σ, _, s_next H, ?_⟩)
  rw [nxv_u hb, if_neg (by omega), if_pos h.2, mup_eq, mup_mup]
  exact ⟨⟨by omega, by omega⟩, rfl, rfl⟩
theorem name_n (H : RI σ) (h : σ 35 4 ≠ 0 ∨ ¬ (97 ≤ nx (chr σ) (σ 35 3) ∧ nx (chr σ) (σ 35 3) ≤ 122)) : Rn (d + 5) yRd_name [.ref 35] σ (some (-1)) (mup (mup σ 35 3 (sk (chr σ) (σ 35 3))) 35 4 1) := by
  have h9 : nxv σ < 97 ∨ 122 < nxv σ := by
    by_cases q : σ 35 4 = 0
    · rw [nxv_u q]; rcases h with h | h
      · exact absurd q h
      · omega
    · rw [nxv_b q]; exact Or.inl (by decide)
  refine (M_Rd_name (d := d + 1) ⟨nxv σ, _, s_next H, ?_⟩)
  by_cases q : nxv σ < 97
  · rw [if_pos q]
    exact ⟨-1, _, s_breakOff, rfl, rfl⟩
  · rw [if_neg q, if_neg (by omega)]
    exact ⟨-1, _, s_breakOff, rfl, rfl⟩
end SM
