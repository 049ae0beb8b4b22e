/-! The model's reader: how a let and a recursion go on. -/
section MLT
variable {σ τ : Mem} {D q u v n s : Int}
theorem eg23 {τ2 : Mem} (hs : s = 2 ∨ s = 3) (H : GI σ 0) (S : Pg σ τ2 q 1 u v) (h71 : τ2 71 (σ 58 21 - 1) = s) (h72 : τ2 72 (σ 58 21 - 1) = n) (hn : rg n) (hu : 0 ≤ u) (h7 : σ 58 7 + u + 1 ≤ 2 * q) : Sim τ2 (aft (dft (Zm τ2 (wtP (mch σ) 59 q) (wtB (mch σ) 59 0 q)) (8 + s) 0 n) 4 0) := by
  have HM := H.1
  have h60 := H.1.2.1
  obtain ⟨-, h24, h3, h7', h14, h22, h21, h70, -⟩ := H
  have ug := gu_0
  have q0 := S.2.2.2.1
  have e21 : τ2 58 21 = σ 58 21 := S.2.2.2.2.1
  have e7 := S.2.2.2.2.2.2.2.2.2.1
  have e70 : τ2 70 (σ 58 21 - 1) = 0 := S.2.2.2.2.2.2.2.2.2.2.2.trans h70
  refine Sim.go (g := 0) (s := s) S.2.1 (by omega) (by rw [e21]; exact e70) (by rw [e21]; exact h71) ?_
  have eg : goM 0 s = yMo_exprGoesOn := by unfold goM; rw [if_pos rfl, if_neg (by omega)]
  rw [e21, eg]
  have W := s_want (d := 7) (b := 0) (σ := τ2) (q := q) (c := 59) (S.1.mi HM) ⟨by omega, by omega⟩ (rgk rfl) (by decide) (by decide)
  rw [S.id, S.1.ch] at W
  have z7 : (Zm τ2 (wtP (mch σ) 59 q) (wtB (mch σ) 59 0 q)) 58 7 = σ 58 7 + u := (Zm_f (by decide) (by decide)).trans e7
  have z72 : (Zm τ2 (wtP (mch σ) 59 q) (wtB (mch σ) 59 0 q)) 72 (σ 58 21 - 1) = n := by rw [Zm_o (by decide)]; exact h72
  have d21 : (dft (Zm τ2 (wtP (mch σ) 59 q) (wtB (mch σ) 59 0 q)) (8 + s) 0 n) 58 21 = σ 58 21 := (dft_at.1 21 (by decide)).trans ((Zm_f (by decide) (by decide)).trans e21)
  have B : B_Mo_exprGoesOn_17 11 (σ 58 21 - 1) s τ2 none (aft (dft (Zm τ2 (wtP (mch σ) 59 q) (wtB (mch σ) 59 0 q)) (8 + s) 0 n) 4 0) := by
    unfold B_Mo_exprGoesOn_17 B_Mo_exprGoesOn_62
    rw [if_neg (by decide)]
    refine ⟨_, W, ?_⟩
    show B_Mo_exprGoesOn_74 11 (σ 58 21 - 1) s (Zm τ2 (wtP (mch σ) 59 q) (wtB (mch σ) 59 0 q)) none _
    unfold B_Mo_exprGoesOn_74
    rw [if_pos (by omega), if_pos (by omega)]
    unfold B_Mo_exprGoesOn_107
    rw [if_neg (by omega), if_pos (by omega), if_neg (by omega)]
    refine ⟨⟨by omega, by omega⟩, ?_⟩
    unfold B_Mo_exprGoesOn_150
    rw [if_pos (by omega)]
    unfold B_Mo_exprGoesOn_160
    rw [z72]
    refine ⟨⟨by omega, by omega⟩, _, s_put (d := 10) ⟨by omega, by omega⟩ (rgk rfl) hn (by rw [z7]; omega), ?_⟩
    unfold B_Mo_exprGoesOn_169
    rw [if_neg (by omega), if_pos (by omega)]
    unfold B_Mo_exprGoesOn_195
    rw [if_neg (by omega), if_pos (by omega)]
    unfold B_Mo_exprGoesOn_218
    rw [if_pos (by omega)]
    unfold B_Mo_exprGoesOn_239
    rw [if_pos (by omega), if_neg (by omega), if_neg (by omega), if_neg (by omega), if_pos (by omega), if_neg (by omega)]
    unfold B_Mo_exprGoesOn_295
    exact ⟨_, s_after (d := 9) (rgk rfl) (rgk rfl) (by rw [d21]; omega), rfl, rfl⟩
  refine M_Mo_exprGoesOn (d := 11) ⟨by omega, by omega⟩ ⟨⟨by omega, by omega⟩, ?_⟩
  rw [h71]
  rcases hs with rfl | rfl
  · rw [if_pos rfl]; exact B
  · rw [if_neg (by decide), if_neg (by decide)]; exact B
theorem eg4 {τ2 : Mem} (H : GI σ 0) (S : Pg σ τ2 q 1 u v) (h71 : τ2 71 (σ 58 21 - 1) = 4) (h72 : τ2 72 (σ 58 21 - 1) = n) (hn : rg n) (hu : 0 ≤ u) (h7 : σ 58 7 + u + 1 ≤ 2 * q) : Sim τ2 (eDp (dft τ2 12 1 n)) := by
  have h60 := H.1.2.1
  obtain ⟨-, h24, h3, h7', h14, h22, h21, h70, -⟩ := H
  have ug := gu_0
  have q0 := S.2.2.2.1
  have e21 : τ2 58 21 = σ 58 21 := S.2.2.2.2.1
  have e22 : τ2 58 22 = σ 58 22 + 1 := S.2.2.2.2.2.1
  have e7 := S.2.2.2.2.2.2.2.2.2.1
  have e70 : τ2 70 (σ 58 21 - 1) = 0 := S.2.2.2.2.2.2.2.2.2.2.2.trans h70
  refine Sim.go (g := 0) (s := 4) S.2.1 (by omega) (by rw [e21]; exact e70) (by rw [e21]; exact h71) ?_
  rw [e21]
  show Rn 15 yMo_exprGoesOn [.ref 58, vi (σ 58 21 - 1)] τ2 none _
  refine M_Mo_exprGoesOn (d := 11) ⟨by omega, by omega⟩ ⟨⟨by omega, by omega⟩, ?_⟩
  rw [h71, if_neg (by decide), if_pos (by decide), if_neg (by decide), if_pos (by decide), if_pos (by decide), if_pos (by decide)]
  unfold B_Mo_exprGoesOn_62
  rw [if_pos rfl]
  unfold B_Mo_exprGoesOn_74
  rw [if_pos (by decide), if_pos (by decide)]
  unfold B_Mo_exprGoesOn_107
  rw [if_neg (by decide), if_pos (by decide), if_neg (by decide)]
  refine ⟨rgk rfl, ?_⟩
  unfold B_Mo_exprGoesOn_150
  rw [if_neg (by decide)]
  unfold B_Mo_exprGoesOn_160
  rw [h72]
  refine ⟨⟨by omega, by omega⟩, _, s_put (d := 10) (rgk rfl) (rgk rfl) hn (by omega), ?_⟩
  unfold B_Mo_exprGoesOn_169
  rw [if_neg (by decide), if_pos (by decide)]
  unfold B_Mo_exprGoesOn_195
  rw [if_neg (by decide), if_pos (by decide)]
  unfold B_Mo_exprGoesOn_218
  rw [if_pos (by decide)]
  unfold B_Mo_exprGoesOn_239
  rw [if_pos (by decide), if_neg (by decide), if_pos rfl]
  unfold B_Mo_exprGoesOn_275
  have f21 : (dft τ2 (8 + 4) 1 n) 58 21 = σ 58 21 := (dft_at.1 21 (by decide)).trans e21
  have f22 : (dft τ2 (8 + 4) 1 n) 58 22 = σ 58 22 + 1 := (dft_at.1 22 (by decide)).trans e22
  exact ⟨_, s_endsDeep (d := 10) (by omega) (by omega), rfl, rfl⟩
end MLT
