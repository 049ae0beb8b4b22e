/-! The model's reader: what begins a function, a let, a recursion. -/
section MNM
variable {σ : Mem} {D q b : Int}
def nmB (ch : Int → Int) (b p : Int) : Int := if b = 0 ∧ (97 ≤ nx ch p ∧ nx ch p ≤ 122) then 0 else 1
def wtP (ch : Int → Int) (t p : Int) : Int := if nx ch p = t then sk ch p + 1 else sk ch p
def wtB (ch : Int → Int) (t b p : Int) : Int := if nx ch p = t ∧ b = 0 then 0 else 1
/-- behind the sign and the name and the mark t -/
theorem eb_name {c t : Int} (H : GI σ 0) (hc : nx (mch σ) (σ 58 3) = c) (h : (c = 92 ∧ t = 46) ∨ (c = 33 ∧ t = 61) ∨ (c = 64 ∧ t = 61)) {p1 p2 p3 b1 b2 n : Int} (e1 : p1 = sk (mch σ) (σ 58 3) + 1) (e2 : p2 = sk (mch σ) p1 + 1) (e3 : p3 = wtP (mch σ) t p2) (f1 : b1 = nmB (mch σ) (dpb σ) p1) (f2 : b2 = wtB (mch σ) t b1 p2) (en : n = hr (nx (mch σ) p1)) :
    ∀ m, (if c ≠ 64 then B_Mo_exprBegins_168 11 (σ 58 21 - 1) c n (mup (Zm (dp1 σ) p3 b2) 72 (σ 58 21 - 1) n) none m else if b2 ≠ 0 then B_Mo_exprBegins_151 11 (σ 58 21 - 1) c n (mup (Zm (dp1 σ) p3 b2) 72 (σ 58 21 - 1) n) none m else ∃ (v5 : Int) (m5 : Mem), Rn 14 yMo_peek [.ref 58] (mup (Zm (dp1 σ) p3 b2) 72 (σ 58 21 - 1) n) (some v5) m5 ∧ (if v5 = 92 then B_Mo_exprBegins_156 11 (σ 58 21 - 1) c n 0 m5 none m else B_Mo_exprBegins_151 11 (σ 58 21 - 1) c n m5 none m)) → Sim σ m := by
  intro m hm
  have K := eb0 H m
  have HM := H.1
  have h60 := H.1.2.1
  obtain ⟨-, h24, h3, h7, h14, h22, h21, h70, h71, -⟩ := H
  have ug := gu_0
  have ge := sk_ge (ch := mch σ) (p := σ 58 3)
  have le := sk_le (ch := mch σ) (p := σ 58 3)
  have ge1 := sk_ge (ch := mch σ) (p := p1)
  have le1 := sk_le (ch := mch σ) (p := p1)
  have N := s_name (d := 8) (b := dpb σ) (σ := dp1 σ) (q := p1) (dp1_f.mi HM) ⟨by omega, by omega⟩
  rw [dp1_f.ch, ← en, ← e2] at N
  have W := s_want (d := 7) (b := b1) (σ := dp1 σ) (q := p2) (c := t) (dp1_f.mi HM) ⟨by omega, by omega⟩ ⟨by omega, by omega⟩ (by omega) (by omega)
  rw [dp1_f.ch] at W
  have W' : Rn 14 yMo_want [.ref 58, vi t] (Zm (dp1 σ) p2 b1) none (Zm (dp1 σ) p3 b2) := by rw [e3, f2]; exact W
  have N' : Rn 14 yMo_name [.ref 58] (Zm (dp1 σ) p1 (dpb σ)) (some n) (Zm (dp1 σ) p2 b1) := by rw [f1]; exact N
  have B117 : B_Mo_exprBegins_117 11 (σ 58 21 - 1) c n t (Zm (dp1 σ) p2 b1) none m := by
    refine ⟨_, W', ⟨by omega, by omega⟩, ?_⟩
    rw [Zm_bad]
    exact hm
  have B44 : B_Mo_exprBegins_44 11 (σ 58 21 - 1) c 1 (Zm (dp1 σ) (sk (mch σ) (σ 58 3)) (dpb σ)) none m := by
    unfold B_Mo_exprBegins_44
    rw [if_pos (by decide), Zm_at, Zm_3, ← e1]
    refine ⟨⟨by omega, by omega⟩, ?_⟩
    rw [if_neg (by omega), if_pos (by omega)]
    refine ⟨n, _, N', ?_⟩
    rcases h with ⟨rfl, rfl⟩ | ⟨rfl, rfl⟩ | ⟨rfl, rfl⟩
    · rw [if_neg (by decide)]; exact B117
    · rw [if_pos (by decide)]; exact B117
    · rw [if_pos (by decide)]; exact B117
  have eh : hr (nx (mch σ) (σ 58 3)) = c := by rw [hc]; unfold hr; rw [if_neg (by omega)]
  rw [eh] at K
  refine K ?_
  rcases h with ⟨rfl, rfl⟩ | ⟨rfl, rfl⟩ | ⟨rfl, rfl⟩
  · rw [if_pos rfl]; exact B44
  · rw [if_neg (by decide), if_pos rfl]; exact B44
  · rw [if_neg (by decide), if_neg (by decide), if_pos rfl]; exact B44
end MNM
