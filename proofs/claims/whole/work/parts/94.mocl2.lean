/-! The model's reader: how a choice goes on. -/
section CLG
variable {σ τ ρ : Mem} {D q a b k u v w z : Int}
theorem eg8 {τ2 : Mem} (H : GI σ 0) (S : Pg σ τ2 q 1 u v) (h71 : τ2 71 (σ 58 21 - 1) = 8) (h72 : τ2 72 (σ 58 21 - 1) = 0) (hu : 0 ≤ u) (h7 : σ 58 7 + u + 1 ≤ 2 * q) : ∀ m, (∀ d : Nat, Rn (d + 6) yMo_clauseBegins [.ref 58, vi (σ 58 21 - 1)] (dft (Zm τ2 (wtP (mch σ) 123 q) (wtB (mch σ) 123 0 q)) 15 0 0) none m) → Sim τ2 m := by
  intro m hm
  have HM := H.1
  have h60 := H.1.2.1
  obtain ⟨-, h24, h3, h7', h14, h22, h21, h70, -⟩ := H
  have ug := gu_0
  have q0 := S.2.2.2.1
  have e21 : τ2 58 21 = σ 58 21 := S.2.2.2.2.1
  have e7 := S.2.2.2.2.2.2.2.2.2.1
  have e70 : τ2 70 (σ 58 21 - 1) = 0 := S.2.2.2.2.2.2.2.2.2.2.2.trans h70
  refine Sim.go (g := 0) (s := 8) S.2.1 (by omega) (by rw [e21]; exact e70) (by rw [e21]; exact h71) ?_
  rw [e21]
  show Rn 15 yMo_exprGoesOn [.ref 58, vi (σ 58 21 - 1)] τ2 none _
  have W := s_want (d := 7) (b := 0) (σ := τ2) (q := q) (c := 123) (S.1.mi HM) ⟨by omega, by omega⟩ (rgk rfl) (by decide) (by decide)
  rw [S.id, S.1.ch] at W
  have z7 : (Zm τ2 (wtP (mch σ) 123 q) (wtB (mch σ) 123 0 q)) 58 7 = σ 58 7 + u := (Zm_f (by decide) (by decide)).trans e7
  have z72 : (Zm τ2 (wtP (mch σ) 123 q) (wtB (mch σ) 123 0 q)) 72 (σ 58 21 - 1) = 0 := by rw [Zm_o (by decide)]; exact h72
  refine M_Mo_exprGoesOn (d := 11) ⟨by omega, by omega⟩ ⟨⟨by omega, by omega⟩, ?_⟩
  rw [h71, if_neg (by decide), if_pos (by decide), if_neg (by decide), if_pos (by decide), if_pos (by decide), if_neg (by decide)]
  unfold B_Mo_exprGoesOn_62
  rw [if_neg (by decide)]
  refine ⟨_, W, ?_⟩
  show B_Mo_exprGoesOn_74 11 (σ 58 21 - 1) 8 (Zm τ2 (wtP (mch σ) 123 q) (wtB (mch σ) 123 0 q)) none _
  unfold B_Mo_exprGoesOn_74
  rw [if_pos (by decide), if_pos (by decide)]
  unfold B_Mo_exprGoesOn_107
  rw [if_neg (by decide), if_pos (by decide), if_pos (by decide), if_pos (by decide)]
  unfold B_Mo_exprGoesOn_150
  rw [if_pos (by decide)]
  unfold B_Mo_exprGoesOn_160
  rw [z72]
  refine ⟨⟨by omega, by omega⟩, _, s_put (d := 10) (rgk rfl) (rgk rfl) (rgk rfl) (by rw [z7]; omega), ?_⟩
  unfold B_Mo_exprGoesOn_169
  rw [if_neg (by decide), if_pos (by decide)]
  unfold B_Mo_exprGoesOn_195
  rw [if_neg (by decide), if_pos (by decide)]
  unfold B_Mo_exprGoesOn_218
  rw [if_pos (by decide)]
  unfold B_Mo_exprGoesOn_239
  rw [if_neg (by decide)]
  exact ⟨_, hm 8, rfl, rfl⟩
theorem eg10 {τ2 : Mem} (H : GI σ 0) (S : Pg σ τ2 q 1 u v) (h71 : τ2 71 (σ 58 21 - 1) = 10) (h72 : τ2 72 (σ 58 21 - 1) = w) (hw : 0 ≤ w ∧ w < σ 58 7 + u) (h7 : σ 58 7 + u + 1 ≤ 2 * q) : Sim τ2 (aft (mup (Zm τ2 (wtP (mch σ) 58 q) (wtB (mch σ) 58 0 q)) 62 w (σ 58 14 + v)) 11 0) := by
  have HM := H.1
  have h60 := H.1.2.1
  obtain ⟨-, h24, h3, h7', h14, h22, h21, h70, -⟩ := H
  have ug := gu_0
  have q0 := S.2.2.2.1
  have e21 : τ2 58 21 = σ 58 21 := S.2.2.2.2.1
  have e14 : τ2 58 14 = σ 58 14 + v := S.2.2.2.2.2.2.2.2.2.2.1
  have e70 : τ2 70 (σ 58 21 - 1) = 0 := S.2.2.2.2.2.2.2.2.2.2.2.trans h70
  refine Sim.go (g := 0) (s := 10) S.2.1 (by omega) (by rw [e21]; exact e70) (by rw [e21]; exact h71) ?_
  rw [e21]
  show Rn 15 yMo_exprGoesOn [.ref 58, vi (σ 58 21 - 1)] τ2 none _
  have W := s_want (d := 7) (b := 0) (σ := τ2) (q := q) (c := 58) (S.1.mi HM) ⟨by omega, by omega⟩ (rgk rfl) (by decide) (by decide)
  rw [S.id, S.1.ch] at W
  have z14 : (Zm τ2 (wtP (mch σ) 58 q) (wtB (mch σ) 58 0 q)) 58 14 = σ 58 14 + v := (Zm_f (by decide) (by decide)).trans e14
  have z72 : (Zm τ2 (wtP (mch σ) 58 q) (wtB (mch σ) 58 0 q)) 72 (σ 58 21 - 1) = w := by rw [Zm_o (by decide)]; exact h72
  have f21 : (mup (Zm τ2 (wtP (mch σ) 58 q) (wtB (mch σ) 58 0 q)) 62 w (σ 58 14 + v)) 58 21 = σ 58 21 := (mup_ne (by decide)).trans ((Zm_f (by decide) (by decide)).trans e21)
  refine M_Mo_exprGoesOn (d := 11) ⟨by omega, by omega⟩ ⟨⟨by omega, by omega⟩, ?_⟩
  rw [h71, if_neg (by decide), if_pos (by decide), if_neg (by decide), if_neg (by decide)]
  unfold B_Mo_exprGoesOn_33 B_Mo_exprGoesOn_62
  rw [if_neg (by decide)]
  refine ⟨_, W, ?_⟩
  show B_Mo_exprGoesOn_74 11 (σ 58 21 - 1) 10 (Zm τ2 (wtP (mch σ) 58 q) (wtB (mch σ) 58 0 q)) none _
  unfold B_Mo_exprGoesOn_74
  rw [if_pos (by decide), if_pos (by decide)]
  unfold B_Mo_exprGoesOn_107
  rw [if_pos (by decide)]
  unfold B_Mo_exprGoesOn_169
  rw [if_neg (by decide), if_pos (by decide)]
  unfold B_Mo_exprGoesOn_195
  rw [if_neg (by decide), if_pos (by decide)]
  unfold B_Mo_exprGoesOn_218
  rw [if_neg (by decide), z72, z14]
  refine ⟨⟨by omega, by omega⟩, ⟨by omega, by omega⟩, ?_⟩
  unfold B_Mo_exprGoesOn_239
  rw [if_pos (by decide), if_neg (by decide), if_neg (by decide), if_neg (by decide), if_pos (by decide), if_pos (by decide)]
  refine ⟨rgk rfl, ?_⟩
  unfold B_Mo_exprGoesOn_295
  exact ⟨_, s_after (d := 9) (rgk rfl) (rgk rfl) (by rw [f21]; omega), rfl, rfl⟩
theorem eg11 {τ2 : Mem} (H : GI σ 0) (S : Pg σ τ2 q 1 u v) (h71 : τ2 71 (σ 58 21 - 1) = 11) : ∀ m, Rn 14 yMo_clauseEnds [.ref 58, vi (σ 58 21 - 1)] τ2 none m → Sim τ2 m := by
  intro m hm
  have h60 := H.1.2.1
  obtain ⟨-, h24, h3, h7', h14, h22, h21, h70, -⟩ := H
  have ug := gu_0
  have e21 : τ2 58 21 = σ 58 21 := S.2.2.2.2.1
  have e70 : τ2 70 (σ 58 21 - 1) = 0 := S.2.2.2.2.2.2.2.2.2.2.2.trans h70
  refine Sim.go (g := 0) (s := 11) S.2.1 (by omega) (by rw [e21]; exact e70) (by rw [e21]; exact h71) ?_
  rw [e21]
  show Rn 15 yMo_exprGoesOn [.ref 58, vi (σ 58 21 - 1)] τ2 none _
  refine M_Mo_exprGoesOn (d := 11) ⟨by omega, by omega⟩ ⟨⟨by omega, by omega⟩, ?_⟩
  rw [h71, if_neg (by decide), if_pos (by decide), if_neg (by decide), if_pos (by decide), if_pos (by decide), if_pos (by decide)]
  unfold B_Mo_exprGoesOn_62
  rw [if_pos rfl]
  unfold B_Mo_exprGoesOn_74
  rw [if_neg (by decide)]
  exact ⟨_, hm, rfl, rfl⟩
end CLG
