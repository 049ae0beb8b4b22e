/-! The model's reader: atoms of one sign are the grammar's. -/
section PLS
variable {σ : Mem} {D : Int} {E : Int → Option (Tr × Int)}
theorem pl_sign {c : Int} (h : stb c = true) (h1 : ¬(48 ≤ c ∧ c ≤ 57)) (h2 : c ≠ 126) (h3 : c ≠ 40) (h4 : c ≠ 91) : ∃ (K : Nat) (W : Int), K ≤ 5 ∧ (∀ ch E p, nx ch p = c → pPlain ch E p = some (nd K W nl nl nl, sk ch p + 1)) ∧ ∀ ρ a s, cell ρ a (cl c).1 (cl c).2.1 (cl c).2.2 → isC ρ (nd K W nl nl nl) a s := by
  unfold stb at h
  rw [decide_eq_true_eq] at h
  by_cases l : 97 ≤ c ∧ c ≤ 122
  · refine ⟨5, c, by decide, fun ch E p e => ?_, fun ρ a s k => ?_⟩
    · unfold pPlain; rw [e, if_pos l]
    · unfold cl at k
      rw [if_neg (by omega), if_neg (by omega), if_neg (by omega), if_neg (by omega)] at k
      exact ⟨k.1, k.2.2⟩
  have hc : c = 82 ∨ c = 73 ∨ c = 84 ∨ c = 70 := by omega
  rcases hc with rfl | rfl | rfl | rfl
  · refine ⟨4, 82, by decide, fun ch E p e => ?_, fun ρ a s k => k⟩
    unfold pPlain; rw [e, if_neg (by decide), if_neg (by decide), if_pos rfl]
  · refine ⟨4, 73, by decide, fun ch E p e => ?_, fun ρ a s k => k⟩
    unfold pPlain; rw [e, if_neg (by decide), if_neg (by decide), if_neg (by decide), if_pos rfl]
  · refine ⟨2, 1, by decide, fun ch E p e => ?_, fun ρ a s k => k⟩
    unfold pPlain pCon; rw [e, if_neg (by decide), if_neg (by decide), if_neg (by decide), if_neg (by decide), if_neg (by decide), if_pos rfl]
  · refine ⟨2, 0, by decide, fun ch E p e => ?_, fun ρ a s k => k⟩
    unfold pPlain pCon; rw [e, if_neg (by decide), if_neg (by decide), if_neg (by decide), if_neg (by decide), if_neg (by decide), if_neg (by decide), if_pos rfl]
theorem pl_none {c : Int} (h : ¬ stb c = true) {ch : Int → Int} {p : Int} (e : nx ch p = c) : pPlain ch E p = none := by
  unfold stb at h
  rw [decide_eq_true_eq] at h
  unfold pPlain pCon
  rw [e, if_neg (by omega), if_neg (by omega), if_neg (by omega), if_neg (by omega), if_neg (by omega), if_neg (by omega), if_neg (by omega), if_neg (by omega)]
theorem cl_rg {c : Int} (h : 0 ≤ c ∧ c ≤ 1000) : rg (cl c).1 ∧ rg (cl c).2.1 ∧ rg (cl c).2.2 := by
  unfold cl
  split
  · exact ⟨rgk rfl, rgk rfl, rgk rfl⟩
  split
  · exact ⟨rgk rfl, rgk rfl, rgk rfl⟩
  split
  · exact ⟨rgk rfl, rgk rfl, rgk rfl⟩
  split
  · exact ⟨rgk rfl, ⟨by dsimp only; omega, by dsimp only; omega⟩, rgk rfl⟩
  · exact ⟨rgk rfl, rgk rfl, ⟨by dsimp only; omega, by dsimp only; omega⟩⟩
/-- a sign that is no digit, no ~, no bracket -/
theorem moplain_s (H : GI σ 6) (h1 : ¬(48 ≤ nx (mch σ) (σ 58 3) ∧ nx (mch σ) (σ 58 3) ≤ 57)) (h2 : nx (mch σ) (σ 58 3) ≠ 126) (h3 : nx (mch σ) (σ 58 3) ≠ 40) (h4 : nx (mch σ) (σ 58 3) ≠ 91) : DnM (pPlain (mch σ) E (σ 58 3)) σ := by
  have K := at0 H
  have HM := H.1
  have h60 := HM.2.1
  have hat := H.2.2.1
  have ge := sk_ge (ch := mch σ) (p := σ 58 3)
  have sin : sk (mch σ) (σ 58 3) ≤ σ 58 2 := skf_in (fun x e => (mch_lt (by omega)).2) 60 (σ 58 3) hat.2
  have hg := HM.hr_rg (sk (mch σ) (σ 58 3))
  have hcr : nx (mch σ) (σ 58 3) = -1 ∨ (32 ≤ nx (mch σ) (σ 58 3) ∧ nx (mch σ) (σ 58 3) ≤ 126) := HM.cr (sk (mch σ) (σ 58 3))
  have er : ∀ {t : Int}, t ≠ -1 → t ≠ 10 → (hr (nx (mch σ) (σ 58 3)) = t ↔ nx (mch σ) (σ 58 3) = t) := fun a b => HM.hr_eq a b
  have nd' : dgt (hr (nx (mch σ) (σ 58 3))) = 0 := dgt_0 (by unfold hr; split <;> omega)
  have crg := cl_rg (c := hr (nx (mch σ) (σ 58 3))) ⟨by have : 10 ≤ hr (nx (mch σ) (σ 58 3)) := hg.1; omega, by have : hr (nx (mch σ) (σ 58 3)) ≤ 126 := hg.2; omega⟩
  have go : ∀ {b : Int}, b = 0 ∨ b = 1 → ∀ m, B_Mo_atom_275 11 (hr (nx (mch σ) (σ 58 3))) (Zm σ (sk (mch σ) (σ 58 3) + 1) b) none m → B_Mo_atom_73 11 (hr (nx (mch σ) (σ 58 3))) b (Zm σ (sk (mch σ) (σ 58 3)) 0) none m := by
    intro b hb m hm
    refine ⟨hb, ?_⟩
    rw [if_pos nd', Zm_at, Zm_24, Zm_3]
    refine ⟨⟨by omega, by omega⟩, ?_⟩
    rw [if_neg (fun w => h2 ((er (by decide) (by decide)).mp w)), if_pos (fun w => h3 ((er (by decide) (by decide)).mp w)), if_pos (fun w => h4 ((er (by decide) (by decide)).mp w))]
    exact hm
  by_cases k : stb (nx (mch σ) (σ 58 3)) = true
  · rw [if_pos k] at K
    obtain ⟨K1, W, kk, e, c⟩ := pl_sign k h1 h2 h3 h4
    rw [e (mch σ) E (σ 58 3) rfl]
    have ne : nx (mch σ) (σ 58 3) ≠ -1 := fun w => by rw [w] at k; exact absurd k (by decide)
    have sl := mch_lt (σ := σ) (x := sk (mch σ) (σ 58 3)) ne
    have eh : hr (nx (mch σ) (σ 58 3)) = nx (mch σ) (σ 58 3) := by unfold hr; rw [if_neg ne]
    rw [eh] at crg go K
    exact ⟨_, K _ (go (Or.inl rfl) _ (a275 (a360 H crg.1 crg.2.1 crg.2.2))), a_leaf H ⟨by omega, by omega⟩ kk c⟩
  · rw [if_neg k] at K
    rw [pl_none k rfl]
    exact a_bad (K _ (go (Or.inr rfl) _ (a275 (a360 H crg.1 crg.2.1 crg.2.2))))
/-- the empty list -/
theorem moplain_e (H : GI σ 6) (h4 : nx (mch σ) (σ 58 3) = 91) : DnM (pPlain (mch σ) E (σ 58 3)) σ := by
  have K := at0 H
  have HM := H.1
  have h60 := HM.2.1
  have hat := H.2.2.1
  have ge := sk_ge (ch := mch σ) (p := σ 58 3)
  have sl := mch_lt (σ := σ) (x := sk (mch σ) (σ 58 3)) (fun w => by have w' : nx (mch σ) (σ 58 3) = -1 := w; omega)
  have eh : hr (nx (mch σ) (σ 58 3)) = 91 := by rw [h4]; rfl
  rw [eh, h4, if_pos (by decide)] at K
  have Hh := s_here (d := 10) (q := sk (mch σ) (σ 58 3) + 1) (b := 0) HM (by omega)
  have go : ∀ m, (∃ (v9 : Int) (m9 : Mem), Rn 14 yMo_here [.ref 58] (Zm σ (sk (mch σ) (σ 58 3) + 1) 0) (some v9) m9 ∧ (if v9 = 93 then (B_Mo_atom_262 11 91 0 m9 none m) else (B_Mo_atom_257 11 91 m9 none m))) → B_Mo_atom_73 11 91 0 (Zm σ (sk (mch σ) (σ 58 3)) 0) none m := by
    intro m hm
    refine ⟨Or.inl rfl, ?_⟩
    rw [if_pos (dgt_0 (by decide)), Zm_at, Zm_24, Zm_3]
    refine ⟨⟨by omega, by omega⟩, ?_⟩
    rw [if_neg (by decide), if_pos (by decide), if_neg (by decide), if_neg (by decide)]
    exact hm
  have eP : pPlain (mch σ) E (σ 58 3) = if mch σ (sk (mch σ) (σ 58 3) + 1) = 93 then some (nd 3 0 nl nl nl, sk (mch σ) (σ 58 3) + 2) else none := by
    unfold pPlain pCon
    rw [h4, if_neg (by decide), if_neg (by decide), if_neg (by decide), if_neg (by decide), if_neg (by decide), if_neg (by decide), if_neg (by decide)]
    by_cases w : mch σ (sk (mch σ) (σ 58 3) + 1) = 93
    · rw [if_pos w, if_pos ⟨rfl, w⟩]
    · rw [if_neg w, if_neg (fun h => w h.2)]
  have e2 : sk (mch σ) (σ 58 3) + 1 + 1 = sk (mch σ) (σ 58 3) + 2 := by omega
  have r3 : B_Mo_atom_360 11 (cl 91).1 (cl 91).2.1 (cl 91).2.2 = B_Mo_atom_360 11 3 0 0 := rfl
  rw [eP]
  by_cases w : mch σ (sk (mch σ) (σ 58 3) + 1) = 93
  · rw [if_pos w]
    have l2 := mch_lt (σ := σ) (x := sk (mch σ) (σ 58 3) + 1) (by rw [w]; decide)
    refine ⟨_, K _ (go (mup (dft (Zm σ (sk (mch σ) (σ 58 3) + 2) 0) 3 0 0) 58 21 (σ 58 21 - 1)) ⟨_, _, Hh, ?_⟩), a_leaf H ⟨by omega, by omega⟩ (by decide) (fun ρ a s k => k)⟩
    rw [if_pos ((HM.hr_eq (by decide) (by decide)).mpr w)]
    refine ⟨Or.inl rfl, ?_⟩
    rw [Zm_at, Zm_24, Zm_3, e2]
    exact ⟨⟨by omega, by omega⟩, a275 (by rw [r3]; exact a360 H (rgk rfl) (rgk rfl) (rgk rfl))⟩
  · rw [if_neg w]
    refine a_bad (K _ (go (mup (dft (Zm σ (sk (mch σ) (σ 58 3) + 2) 1) 3 0 0) 58 21 (σ 58 21 - 1)) ⟨_, _, Hh, ?_⟩))
    rw [if_neg (fun h => w ((HM.hr_eq (by decide) (by decide)).mp h))]
    refine ⟨Or.inr rfl, ?_⟩
    rw [Zm_at, Zm_24, Zm_3, e2]
    exact ⟨⟨by omega, by omega⟩, a275 (by rw [r3]; exact a360 H (rgk rfl) (rgk rfl) (rgk rfl))⟩
end PLS
