/-! The model's reader: atoms that are one sign. -/
section LEAF
variable {σ : Mem} {q b D : Int}
/-- the draft of a sign -/
def cl (c : Int) : Int × Int × Int := if c = 84 then (1, 1, 0) else if c = 70 then (1, 0, 0) else if c = 91 then (3, 0, 0) else if c = 82 ∨ c = 73 then (4, c, 0) else (5, 0, c)
theorem a275 {c : Int} {ρ m : Mem} (h : B_Mo_atom_360 11 (cl c).1 (cl c).2.1 (cl c).2.2 ρ none m) : B_Mo_atom_275 11 c ρ none m := by
  unfold cl at h
  unfold B_Mo_atom_275 B_Mo_atom_287 B_Mo_atom_313 B_Mo_atom_318 B_Mo_atom_350
  by_cases c1 : c = 84
  · rw [if_pos c1] at h
    rw [if_pos c1, if_neg (by decide), if_neg (fun w => w c1), if_pos (by decide)]; exact h
  rw [if_neg c1] at h
  rw [if_neg c1]
  by_cases c2 : c = 70
  · rw [if_pos c2] at h
    rw [if_neg (fun w => w c2), if_neg (by decide), if_pos c1, if_pos (by decide)]; exact h
  rw [if_neg c2] at h
  rw [if_pos c2]
  by_cases c3 : c = 91
  · rw [if_pos c3] at h
    rw [if_neg (fun w => w c3), if_pos (by decide), if_pos (by decide), if_pos (by decide)]; exact h
  rw [if_neg c3] at h
  rw [if_pos c3]
  by_cases c4 : c = 82
  · rw [if_pos (Or.inl c4)] at h
    rw [if_pos c4, if_pos (by decide), if_neg (by decide), if_pos (by decide)]; exact h
  rw [if_neg c4]
  by_cases c5 : c = 73
  · rw [if_pos (Or.inr c5)] at h
    rw [if_neg (fun w => w c5), if_pos (by decide), if_neg (by decide), if_pos (by decide)]; exact h
  · rw [if_neg (by omega)] at h
    rw [if_pos c5, if_pos (by decide), if_pos (by decide), if_neg (by decide)]; exact h
/-- a draft is put, and the goal is taken away -/
theorem a360 {x y z : Int} (H : GI σ 6) (hx : rg x) (hy : rg y) (hz : rg z) : B_Mo_atom_360 11 x y z (Zm σ q b) none (mup (dft (Zm σ q b) x y z) 58 21 (σ 58 21 - 1)) := by
  have h60 := H.1.2.1
  obtain ⟨-, h24, h3, h7, h14, h22, h21, -⟩ := H
  have e7 : (Zm σ q b) 58 7 = σ 58 7 := Zm_f (by decide) (by decide)
  have ug : gu 6 = 0 := rfl
  have e21 : (dft (Zm σ q b) x y z) 58 21 = σ 58 21 := (dft_at.1 21 (by decide)).trans (Zm_f (by decide) (by decide))
  refine ⟨_, s_put (d := 10) hx hy hz (by omega), ?_⟩
  rw [e21]
  exact ⟨⟨by omega, by omega⟩, rfl, rfl⟩
/-- broken off at a draft -/
theorem a_bad {x y z : Int} (h : Sim σ (mup (dft (Zm σ q 1) x y z) 58 21 (σ 58 21 - 1))) : Fl σ := by
  refine Fl.of h ((frM.Z.tr frM.dft).tr (frM.m8 (by unfold mfP; omega))) (Fl.bad ?_)
  rw [mup_nk (by decide), dft_at.1 24 (by decide), Zm_bad]; decide
/-- the draft is the leaf -/
theorem a_leaf {k : Nat} {w x y z : Int} (H : GI σ 6) (hq : σ 58 3 ≤ q ∧ q ≤ σ 58 2) (hk : k ≤ 5) (hc : ∀ ρ a s, cell ρ a x y z → isC ρ (nd k w nl nl nl) a s) : Dn σ (mup (dft (Zm σ q 0) x y z) 58 21 (σ 58 21 - 1)) (nd k w nl nl nl) q := by
  have S := (H.pg.Z (q' := q) hq).put (x := x) (y := y) (z := z) (Int.le_refl 0)
  obtain ⟨l1, l2⟩ := lf_l (k := k) (z := w) hk
  have e7 : (Zm σ q 0) 58 7 = σ 58 7 := Zm_f (by decide) (by decide)
  have c := (dft_at (τ := Zm σ q 0) (x := x) (y := y) (z := z)).2.2.1
  rw [e7] at c
  have e21 : (dft (Zm σ q 0) x y z) 58 21 = σ 58 21 := S.2.2.2.2.1
  rw [show (0 : Int) + 1 = 1 from rfl] at S
  have S' : Pg σ (dft (Zm σ q 0) x y z) q 0 (ln (nd k w nl nl nl)) (sn (nd k w nl nl nl)) := by rw [l1, l2]; exact S
  have h := S'.pop (hc _ _ _ c)
  rwa [e21] at h
/-- how an atom begins -/
theorem at0 (H : GI σ 6) : ∀ m, B_Mo_atom_73 11 (hr (nx (mch σ) (σ 58 3))) (if stb (nx (mch σ) (σ 58 3)) = true then 0 else 1) (Zm σ (sk (mch σ) (σ 58 3)) 0) none m → Sim σ m := by
  intro m hm
  have HH := H
  have HM := H.1
  have h60 := H.1.2.1
  obtain ⟨-, h24, h3, h7, h14, h22, h21, h70, h71, -⟩ := H
  have ug : gu 6 = 0 := rfl
  refine Sim.go (g := 6) (s := 0) h24 (by omega) h70 h71 ?_
  have N := s_peek (d := 9) (b := 0) (σ := σ) (q := σ 58 3) HM ⟨by omega, by omega⟩
  rw [HH.pg.id] at N
  have Bg := s_begins (d := 10) HM (sk (mch σ) (σ 58 3)) (τ := Zm σ (sk (mch σ) (σ 58 3)) 0)
  have e71 : (Zm σ (sk (mch σ) (σ 58 3)) 0) 71 (σ 58 21 - 1) = 0 := by rw [Zm_o (by decide)]; exact h71
  show Rn 15 yMo_atom [.ref 58, vi (σ 58 21 - 1)] σ none m
  refine M_Mo_atom (d := 11) ⟨by omega, by omega⟩ ⟨_, _, N, ⟨by omega, by omega⟩, ?_⟩
  rw [e71, if_pos (by decide), Zm_bad, if_neg (fun h => h rfl)]
  refine ⟨_, _, Bg, ?_⟩
  rw [show mch σ (sk (mch σ) (σ 58 3)) = nx (mch σ) (σ 58 3) from rfl]
  by_cases k : stb (nx (mch σ) (σ 58 3)) = true
  · rw [if_pos k] at hm ⊢
    rw [if_pos (by decide)]; exact hm
  · rw [if_neg k] at hm ⊢
    rw [if_neg (by decide)]; exact hm
end LEAF
