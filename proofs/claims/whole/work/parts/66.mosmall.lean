/-! The model's reader: small methods. Zm: the place and the broken flag are set. -/
def MI (σ : Mem) : Prop := 0 ≤ σ 58 2 ∧ σ 58 2 ≤ 60 ∧ ∀ p, 0 ≤ p → p < σ 58 2 → 32 ≤ σ 59 p ∧ σ 59 p ≤ 126
def mch (σ : Mem) (p : Int) : Int := if 0 ≤ p ∧ p < σ 58 2 then σ 59 p else -1
def hr (c : Int) : Int := if c = -1 then 10 else c
def Zm (σ : Mem) (q b : Int) : Mem := mup (mup σ 58 3 q) 58 24 b
section MS
variable {d : Nat} {σ : Mem} {q b : Int}
theorem MI.cr (H : MI σ) (x : Int) : mch σ x = -1 ∨ (32 ≤ mch σ x ∧ mch σ x ≤ 126) := by
  unfold mch
  split
  · next h => exact Or.inr (H.2.2 x h.1 h.2)
  · exact Or.inl rfl
theorem mch_lt {x : Int} (h : mch σ x ≠ -1) : 0 ≤ x ∧ x < σ 58 2 := by
  unfold mch at h
  split at h
  · next q => exact q
  · exact absurd rfl h
theorem mch_end {x : Int} (h : σ 58 2 ≤ x) : mch σ x = -1 := by
  unfold mch; rw [if_neg (by omega)]
theorem Zm_at : Zm σ q b 58 3 = q := by unfold Zm; rw [mup_nk (by decide), mup_eq]
theorem Zm_bad : Zm σ q b 58 24 = b := mup_eq
theorem Zm_o {j : Nat} (h : j ≠ 58) : Zm σ q b j = σ j := (mup_obj h).trans (mup_obj h)
theorem Zm_f {k : Int} (h3 : k ≠ 3) (h24 : k ≠ 24) : Zm σ q b 58 k = σ 58 k := (mup_nk h24).trans (mup_nk h3)
theorem Zm_3 {z : Int} : mup (Zm σ q b) 58 3 z = Zm σ z b := by
  unfold Zm
  rw [mup_cm (by decide), mup_mup]
theorem Zm_24 {z : Int} : mup (Zm σ q b) 58 24 z = Zm σ q z := mup_mup
theorem Zm_Zm {q' b' : Int} : Zm (Zm σ q b) q' b' = Zm σ q' b' := by
  show mup (mup (Zm σ q b) 58 3 q') 58 24 b' = _
  rw [Zm_3, Zm_24]
theorem Zm_id : Zm σ (σ 58 3) (σ 58 24) = σ := by
  unfold Zm; rw [mup_id, mup_id]
theorem Zm_ch : mch (Zm σ q b) = mch σ := by
  funext x; unfold mch; rw [Zm_f (by decide) (by decide), Zm_o (by decide)]
theorem MI.Z (H : MI σ) : MI (Zm σ q b) := by
  unfold MI
  rw [Zm_f (by decide) (by decide), Zm_o (by decide)]; exact H
theorem MI.hr_rg (H : MI σ) (x : Int) : 10 ≤ hr (mch σ x) ∧ hr (mch σ x) ≤ 126 := by
  unfold hr
  rcases H.cr x with h | h
  · rw [if_pos h]; omega
  · rw [if_neg (by omega)]; omega
theorem MI.hr_eq (H : MI σ) {x t : Int} (h1 : t ≠ -1) (h2 : t ≠ 10) : hr (mch σ x) = t ↔ mch σ x = t := by
  unfold hr
  split
  · omega
  · exact Iff.rfl
theorem s_here (H : MI σ) (hq : 0 ≤ q) : Rn (d + 4) yMo_here [.ref 58] (Zm σ q b) (some (hr (mch σ q))) (Zm σ q b) := by
  refine M_Mo_here ?_
  unfold B_Mo_here
  rw [Zm_at, Zm_f (by decide) (by decide), Zm_o (by decide)]
  by_cases c : q ≥ σ 58 2
  · rw [if_pos c, mch_end c]
    exact ⟨⟨by decide, by decide⟩, rfl, rfl⟩
  · rw [if_neg c]
    have h := H.2.2 q hq (by omega)
    have h2 := H.2.1
    have e : mch σ q = σ 59 q := if_pos ⟨hq, by omega⟩
    have e2 : hr (mch σ q) = σ 59 q := by unfold hr; rw [e, if_neg (by omega)]
    exact ⟨⟨hq, by omega⟩, ⟨by omega, by omega⟩, by rw [e2], rfl⟩
theorem skf_le {ch : Int → Int} : ∀ (n : Nat) (p : Int), skf ch n p ≤ p + n
  | 0, p => by show p ≤ p + 0; omega
  | n + 1, p => by
    unfold skf
    split
    · have := skf_le (ch := ch) n (p + 1); omega
    · omega
theorem sk_le {ch : Int → Int} {p : Int} : sk ch p ≤ p + 60 := skf_le 60 p
theorem peek_b (H : MI σ) : ∀ (n : Nat) (q : Int), 0 ≤ q → q ≤ 100000 → σ 58 2 - q ≤ n → B_Mo_peek_0 (d + 1) (Zm σ q b) (some (hr (mch σ (skf (mch σ) n q)))) (Zm σ (skf (mch σ) n q) b)
  | 0, q, h0, h1, hn => by
    have e : mch σ q = -1 := mch_end (by omega)
    refine ⟨_, _, s_here (d := d) H h0, ?_⟩
    have e2 : hr (mch σ q) = 10 := by rw [e]; rfl
    rw [if_pos (by omega)]
    refine ⟨_, _, s_here (d := d) H h0, ⟨by omega, by omega⟩, rfl, rfl⟩
  | n + 1, q, h0, h1, hn => by
    have hg := H.hr_rg q
    refine ⟨_, _, s_here (d := d) H h0, ?_⟩
    by_cases c : mch σ q = 32
    · have e2 : hr (mch σ q) = 32 := by rw [c]; rfl
      have l := mch_lt (σ := σ) (x := q) (by omega)
      have h2 := H.2.1
      have e3 : skf (mch σ) (n + 1) q = skf (mch σ) n (q + 1) := by rw [skf, if_pos c]
      rw [if_neg (by omega), Zm_at, Zm_3, e3]
      exact ⟨⟨by omega, by omega⟩, K_Mo_peek_0 (peek_b H n (q + 1) (by omega) (by omega) (by omega))⟩
    · have e3 : skf (mch σ) (n + 1) q = q := by rw [skf, if_neg c]
      have e2 : hr (mch σ q) ≠ 32 := fun e => c ((H.hr_eq (by decide) (by decide)).mp e)
      rw [if_pos e2, e3]
      exact ⟨_, _, s_here (d := d) H h0, ⟨by omega, by omega⟩, rfl, rfl⟩
theorem s_peek (H : MI σ) (hq : 0 ≤ q ∧ q ≤ 1000) : Rn (d + 5) yMo_peek [.ref 58] (Zm σ q b) (some (hr (nx (mch σ) q))) (Zm σ (sk (mch σ) q) b) :=
  M_Mo_peek (d := d + 1) (peek_b H 60 q hq.1 (by omega) (by have := H.2.1; omega))
theorem s_eat {c : Int} (H : MI σ) (hq : 0 ≤ q ∧ q ≤ 1000) (hc : rg c) (h1 : c ≠ -1) (h2 : c ≠ 10) : Rn (d + 6) yMo_eat [.ref 58, vi c] (Zm σ q b) (some (if nx (mch σ) q = c then 1 else 0)) (Zm σ (if nx (mch σ) q = c then sk (mch σ) q + 1 else sk (mch σ) q) b) := by
  have l1 := sk_ge (ch := mch σ) (p := q)
  have l2 := sk_le (ch := mch σ) (p := q)
  refine M_Mo_eat (d := d + 2) hc ⟨_, _, s_peek H hq, ?_⟩
  have e : hr (nx (mch σ) q) = c ↔ nx (mch σ) q = c := H.hr_eq h1 h2
  by_cases k : nx (mch σ) q = c
  · rw [if_neg (by rw [e.mpr k]; exact fun h => h rfl), if_pos k, if_pos k]
    unfold B_Mo_eat_13
    rw [if_neg (by decide), Zm_at]
    exact ⟨⟨by omega, by omega⟩, Or.inr rfl, rfl, Zm_3.symm⟩
  · rw [if_pos (fun h => k (e.mp h)), if_neg k, if_neg k]
    unfold B_Mo_eat_13
    rw [if_pos rfl, Zm_at]
    exact ⟨Or.inl rfl, rfl, Zm_3.symm⟩
theorem s_want {c : Int} (H : MI σ) (hq : 0 ≤ q ∧ q ≤ 1000) (hc : rg c) (h1 : c ≠ -1) (h2 : c ≠ 10) : Rn (d + 7) yMo_want [.ref 58, vi c] (Zm σ q b) none (Zm σ (if nx (mch σ) q = c then sk (mch σ) q + 1 else sk (mch σ) q) (if nx (mch σ) q = c ∧ b = 0 then 0 else 1)) := by
  refine M_Mo_want (d := d + 3) hc ⟨_, _, s_eat H hq hc h1 h2, ?_⟩
  by_cases k : nx (mch σ) q = c
  · rw [if_pos k, if_pos k, if_neg (by decide), Zm_bad]
    by_cases w : b = 0
    · rw [if_pos w, if_pos ⟨k, w⟩]
      exact ⟨Or.inl rfl, rfl, Zm_24.symm⟩
    · rw [if_neg w, if_neg (fun h => w h.2)]
      exact ⟨Or.inr rfl, rfl, Zm_24.symm⟩
  · rw [if_neg k, if_neg k, if_pos rfl, if_neg (fun h => k h.1)]
    exact ⟨Or.inr rfl, rfl, Zm_24.symm⟩
theorem ltr_1 {c : Int} (h : 97 ≤ c ∧ c ≤ 122) : ltr c = 1 := by
  unfold ltr; rw [if_neg (by omega), if_neg (by omega)]
theorem ltr_0 {c : Int} (h : ¬(97 ≤ c ∧ c ≤ 122)) : ltr c = 0 := by
  unfold ltr
  split
  · rfl
  · rw [if_pos (by omega)]
theorem s_name (H : MI σ) (hq : 0 ≤ q ∧ q ≤ 1000) : Rn (d + 6) yMo_name [.ref 58] (Zm σ q b) (some (hr (nx (mch σ) q))) (Zm σ (sk (mch σ) q + 1) (if b = 0 ∧ (97 ≤ nx (mch σ) q ∧ nx (mch σ) q ≤ 122) then 0 else 1)) := by
  have l1 := sk_ge (ch := mch σ) (p := q)
  have l2 := sk_le (ch := mch σ) (p := q)
  have hg := H.hr_rg (sk (mch σ) q)
  have br : ∀ {z : Int}, z = 0 ∨ z = 1 → B_Mo_name_25 (d + 2) (hr (nx (mch σ) q)) z (Zm σ (sk (mch σ) q) b) (some (hr (nx (mch σ) q))) (Zm σ (sk (mch σ) q + 1) z) := by
    intro z hz
    refine ⟨hz, ?_⟩
    rw [Zm_at, Zm_24, Zm_3]
    exact ⟨⟨by omega, by omega⟩, rfl, rfl⟩
  have e : (97 ≤ hr (nx (mch σ) q) ∧ hr (nx (mch σ) q) ≤ 122) ↔ (97 ≤ nx (mch σ) q ∧ nx (mch σ) q ≤ 122) := by
    unfold hr
    split
    · omega
    · exact Iff.rfl
  refine M_Mo_name (d := d + 2) ⟨_, _, s_peek H hq, ?_⟩
  rw [Zm_bad]
  by_cases w : b = 0
  · rw [if_neg (fun h => h w)]
    by_cases k : 97 ≤ nx (mch σ) q ∧ nx (mch σ) q ≤ 122
    · rw [if_pos (by rw [ltr_1 (e.mpr k)]; decide), if_pos ⟨w, k⟩]; exact br (Or.inl rfl)
    · rw [if_neg (by rw [ltr_0 (fun h => k (e.mp h))]; exact fun h => h rfl), if_neg (fun h => k h.2)]; exact br (Or.inr rfl)
  · rw [if_pos w, if_neg (fun h => w h.1)]; exact br (Or.inr rfl)
end MS
