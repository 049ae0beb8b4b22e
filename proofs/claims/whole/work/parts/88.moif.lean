/-! The model's reader: conditions; how a condition and a choice begin. -/
section MIF
variable {σ τ : Mem} {D q u v w s : Int}
theorem Zm_kD {n b : Int} : kpD n τ (Zm τ q b) := fun x _ _ => by
  rw [Zm_o (by decide), Zm_o (by decide), Zm_o (by decide), Zm_o (by decide)]; exact ⟨rfl, rfl, rfl, rfl⟩
theorem Zm_kS {n b : Int} : kpS n τ (Zm τ q b) := fun x _ _ => by
  rw [Zm_o (by decide), Zm_o (by decide)]; exact ⟨rfl, rfl⟩
theorem own_kD {n : Int} {j : Nat} {k z : Int} (hj : j = 71 ∨ j = 72 ∨ j = 73) : kpD n τ (mup τ j k z) := fun x _ _ => by
  rw [mup_ne (by omega), mup_ne (by omega), mup_ne (by omega), mup_ne (by omega)]; exact ⟨rfl, rfl, rfl, rfl⟩
theorem own_kS {n : Int} {j : Nat} {k z : Int} (hj : j = 71 ∨ j = 72 ∨ j = 73) : kpS n τ (mup τ j k z) := fun x _ _ => by
  rw [mup_ne (by omega), mup_ne (by omega)]; exact ⟨rfl, rfl⟩
theorem fix_kD {n x z : Int} (h : n ≤ x) : kpD n τ (mup τ 61 x z) := fun y _ h1 => by
  rw [mup_ne (j := 60) (by decide), mup_ne (j := 62) (by decide), mup_ne (j := 74) (by decide), mup_nk (show y ≠ x by omega)]; exact ⟨rfl, rfl, rfl, rfl⟩
theorem fix_kS {n x z : Int} : kpS n τ (mup τ 61 x z) := fun y _ _ => by
  rw [mup_ne (by decide), mup_ne (by decide)]; exact ⟨rfl, rfl⟩
/-- how a condition and a choice begin -/
theorem eb_ask {c : Int} (H : GI σ 0) (hc : nx (mch σ) (σ 58 3) = c) (h : (c = 63 ∧ s = 5) ∨ (c = 35 ∧ s = 8)) : Sim σ (aft (Zm (dp1 σ) (sk (mch σ) (σ 58 3) + 1) (dpb σ)) s 0) := by
  have K := eb0 H
  have HM := H.1
  have h60 := H.1.2.1
  obtain ⟨-, h24, h3, h7, h14, h22, h21, h70, h71, -⟩ := H
  have ug := gu_0
  have ge := sk_ge (ch := mch σ) (p := σ 58 3)
  have le := sk_le (ch := mch σ) (p := σ 58 3)
  have eh : hr (nx (mch σ) (σ 58 3)) = c := by rw [hc]; unfold hr; rw [if_neg (by omega)]
  have t21 : (Zm (dp1 σ) (sk (mch σ) (σ 58 3) + 1) (dpb σ)) 58 21 = σ 58 21 := (Zm_f (by decide) (by decide)).trans (mup_nk (by decide))
  have B : B_Mo_exprBegins_44 11 (σ 58 21 - 1) c 1 (Zm (dp1 σ) (sk (mch σ) (σ 58 3)) (dpb σ)) none (aft (Zm (dp1 σ) (sk (mch σ) (σ 58 3) + 1) (dpb σ)) s 0) := by
    unfold B_Mo_exprBegins_44
    rw [if_pos (by decide), Zm_at, Zm_3]
    refine ⟨⟨by omega, by omega⟩, ?_⟩
    rcases h with ⟨rfl, rfl⟩ | ⟨rfl, rfl⟩
    · rw [if_pos rfl]
      unfold B_Mo_exprBegins_79
      rw [if_neg (by decide)]
      exact ⟨_, s_after (d := 9) (rgk rfl) (rgk rfl) (by rw [t21]; omega), rfl, rfl⟩
    · rw [if_neg (by decide), if_neg (by decide)]
      unfold B_Mo_exprBegins_79
      rw [if_pos (by decide)]
      exact ⟨_, s_after (d := 9) (rgk rfl) (rgk rfl) (by rw [t21]; omega), rfl, rfl⟩
  rw [eh] at K
  refine K _ ?_
  rcases h with ⟨rfl, rfl⟩ | ⟨rfl, rfl⟩
  · rw [if_neg (by decide), if_neg (by decide), if_neg (by decide), if_pos rfl]; exact B
  · rw [if_neg (by decide), if_neg (by decide), if_neg (by decide), if_neg (by decide), if_neg (by decide)]; exact B
theorem eg5 {τ2 : Mem} (H : GI σ 0) (S : Pg σ τ2 q 1 u v) (h71 : τ2 71 (σ 58 21 - 1) = 5) (h72 : τ2 72 (σ 58 21 - 1) = 0) (hu : 0 ≤ u) (h7 : σ 58 7 + u + 1 ≤ 2 * q) : Sim τ2 (aft (mup (dft (Zm τ2 (wtP (mch σ) 58 q) (wtB (mch σ) 58 0 q)) 13 0 0) 72 (σ 58 21 - 1) (σ 58 7 + u)) 6 0) := by
  have HM := H.1
  have h60 := H.1.2.1
  obtain ⟨-, h24, h3, h7', h14, h22, h21, h70, -⟩ := H
  have ug := gu_0
  have q0 := S.2.2.2.1
  have e21 : τ2 58 21 = σ 58 21 := S.2.2.2.2.1
  have e7 := S.2.2.2.2.2.2.2.2.2.1
  have e70 : τ2 70 (σ 58 21 - 1) = 0 := S.2.2.2.2.2.2.2.2.2.2.2.trans h70
  refine Sim.go (g := 0) (s := 5) S.2.1 (by omega) (by rw [e21]; exact e70) (by rw [e21]; exact h71) ?_
  rw [e21]
  show Rn 15 yMo_exprGoesOn [.ref 58, vi (σ 58 21 - 1)] τ2 none _
  have W := s_want (d := 7) (b := 0) (σ := τ2) (q := q) (c := 58) (S.1.mi HM) ⟨by omega, by omega⟩ (rgk rfl) (by decide) (by decide)
  rw [S.id, S.1.ch] at W
  have z7 : (Zm τ2 (wtP (mch σ) 58 q) (wtB (mch σ) 58 0 q)) 58 7 = σ 58 7 + u := (Zm_f (by decide) (by decide)).trans e7
  have z72 : (Zm τ2 (wtP (mch σ) 58 q) (wtB (mch σ) 58 0 q)) 72 (σ 58 21 - 1) = 0 := by rw [Zm_o (by decide)]; exact h72
  have d7 : (dft (Zm τ2 (wtP (mch σ) 58 q) (wtB (mch σ) 58 0 q)) 13 0 0) 58 7 - 1 = σ 58 7 + u := by rw [dft_at.2.1, z7]; omega
  have d21 : (mup (dft (Zm τ2 (wtP (mch σ) 58 q) (wtB (mch σ) 58 0 q)) 13 0 0) 72 (σ 58 21 - 1) (σ 58 7 + u)) 58 21 = σ 58 21 := (mup_ne (by decide)).trans ((dft_at.1 21 (by decide)).trans ((Zm_f (by decide) (by decide)).trans e21))
  refine M_Mo_exprGoesOn (d := 11) ⟨by omega, by omega⟩ ⟨⟨by omega, by omega⟩, ?_⟩
  rw [h71, if_neg (by decide), if_pos (by decide), if_pos rfl]
  unfold B_Mo_exprGoesOn_33 B_Mo_exprGoesOn_62
  rw [if_neg (by decide)]
  refine ⟨_, W, ?_⟩
  show B_Mo_exprGoesOn_74 11 (σ 58 21 - 1) 5 (Zm τ2 (wtP (mch σ) 58 q) (wtB (mch σ) 58 0 q)) none _
  unfold B_Mo_exprGoesOn_74
  rw [if_pos (by decide), if_pos (by decide)]
  unfold B_Mo_exprGoesOn_107
  rw [if_neg (by decide), if_pos (by decide), if_neg (by decide)]
  refine ⟨rgk rfl, ?_⟩
  unfold B_Mo_exprGoesOn_150
  rw [if_pos (by decide)]
  unfold B_Mo_exprGoesOn_160
  rw [z72]
  refine ⟨⟨by omega, by omega⟩, _, s_put (d := 10) (rgk rfl) (rgk rfl) (rgk rfl) (by rw [z7]; omega), ?_⟩
  unfold B_Mo_exprGoesOn_169
  rw [if_neg (by decide), if_pos (by decide)]
  unfold B_Mo_exprGoesOn_195
  rw [if_pos rfl]
  unfold B_Mo_exprGoesOn_206
  rw [show (8 : Int) + 5 = 13 from rfl, d7]
  refine ⟨⟨by omega, by omega⟩, ⟨by omega, by omega⟩, ?_⟩
  unfold B_Mo_exprGoesOn_218
  rw [if_pos (by decide)]
  unfold B_Mo_exprGoesOn_239
  rw [if_pos (by decide), if_neg (by decide), if_neg (by decide), if_neg (by decide), if_pos (by decide), if_pos (by decide)]
  refine ⟨rgk rfl, ?_⟩
  unfold B_Mo_exprGoesOn_295
  exact ⟨_, s_after (d := 9) (rgk rfl) (rgk rfl) (by rw [d21]; omega), rfl, rfl⟩
theorem eg6 {τ2 : Mem} (H : GI σ 0) (S : Pg σ τ2 q 1 u v) (h71 : τ2 71 (σ 58 21 - 1) = 6) (h72 : τ2 72 (σ 58 21 - 1) = w) (hw : 0 ≤ w ∧ w < σ 58 7 + u) (h7 : σ 58 7 + u + 1 ≤ 2 * q) : Sim τ2 (aft (mup (mup (dft (Zm τ2 (wtP (mch σ) 124 q) (wtB (mch σ) 124 0 q)) 14 0 w) 61 w (σ 58 7 + u + 1)) 72 (σ 58 21 - 1) (σ 58 7 + u)) 7 0) := by
  have HM := H.1
  have h60 := H.1.2.1
  obtain ⟨-, h24, h3, h7', h14, h22, h21, h70, -⟩ := H
  have ug := gu_0
  have q0 := S.2.2.2.1
  have e21 : τ2 58 21 = σ 58 21 := S.2.2.2.2.1
  have e7 := S.2.2.2.2.2.2.2.2.2.1
  have e70 : τ2 70 (σ 58 21 - 1) = 0 := S.2.2.2.2.2.2.2.2.2.2.2.trans h70
  refine Sim.go (g := 0) (s := 6) S.2.1 (by omega) (by rw [e21]; exact e70) (by rw [e21]; exact h71) ?_
  rw [e21]
  show Rn 15 yMo_exprGoesOn [.ref 58, vi (σ 58 21 - 1)] τ2 none _
  have W := s_want (d := 7) (b := 0) (σ := τ2) (q := q) (c := 124) (S.1.mi HM) ⟨by omega, by omega⟩ (rgk rfl) (by decide) (by decide)
  rw [S.id, S.1.ch] at W
  have z7 : (Zm τ2 (wtP (mch σ) 124 q) (wtB (mch σ) 124 0 q)) 58 7 = σ 58 7 + u := (Zm_f (by decide) (by decide)).trans e7
  have z72 : (Zm τ2 (wtP (mch σ) 124 q) (wtB (mch σ) 124 0 q)) 72 (σ 58 21 - 1) = w := by rw [Zm_o (by decide)]; exact h72
  have d7 : (dft (Zm τ2 (wtP (mch σ) 124 q) (wtB (mch σ) 124 0 q)) 14 0 w) 58 7 = σ 58 7 + u + 1 := by rw [dft_at.2.1, z7]
  have d72 : (dft (Zm τ2 (wtP (mch σ) 124 q) (wtB (mch σ) 124 0 q)) 14 0 w) 72 (σ 58 21 - 1) = w := by rw [dft_at.2.2.2.2 72 (by decide) (by decide) (by decide) (by decide)]; exact z72
  have f7 : (mup (dft (Zm τ2 (wtP (mch σ) 124 q) (wtB (mch σ) 124 0 q)) 14 0 w) 61 w (σ 58 7 + u + 1)) 58 7 - 1 = σ 58 7 + u := by rw [mup_ne (by decide), d7]; omega
  have f21 : (mup (mup (dft (Zm τ2 (wtP (mch σ) 124 q) (wtB (mch σ) 124 0 q)) 14 0 w) 61 w (σ 58 7 + u + 1)) 72 (σ 58 21 - 1) (σ 58 7 + u)) 58 21 = σ 58 21 := (mup_ne (by decide)).trans ((mup_ne (by decide)).trans ((dft_at.1 21 (by decide)).trans ((Zm_f (by decide) (by decide)).trans e21)))
  refine M_Mo_exprGoesOn (d := 11) ⟨by omega, by omega⟩ ⟨⟨by omega, by omega⟩, ?_⟩
  rw [h71, if_neg (by decide), if_pos (by decide), if_neg (by decide), if_pos (by decide), if_neg (by decide)]
  unfold B_Mo_exprGoesOn_62
  rw [if_neg (by decide)]
  refine ⟨_, W, ?_⟩
  show B_Mo_exprGoesOn_74 11 (σ 58 21 - 1) 6 (Zm τ2 (wtP (mch σ) 124 q) (wtB (mch σ) 124 0 q)) none _
  unfold B_Mo_exprGoesOn_74
  rw [if_pos (by decide), if_pos (by decide)]
  unfold B_Mo_exprGoesOn_107
  rw [if_neg (by decide), if_pos (by decide), if_neg (by decide)]
  refine ⟨rgk rfl, ?_⟩
  unfold B_Mo_exprGoesOn_150
  rw [if_pos (by decide)]
  unfold B_Mo_exprGoesOn_160
  rw [z72]
  refine ⟨⟨by omega, by omega⟩, _, s_put (d := 10) (rgk rfl) (rgk rfl) ⟨by omega, by omega⟩ (by rw [z7]; omega), ?_⟩
  unfold B_Mo_exprGoesOn_169
  rw [if_neg (by decide), if_neg (by decide)]
  unfold B_Mo_exprGoesOn_180
  rw [show (8 : Int) + 6 = 14 from rfl, d72, d7]
  refine ⟨⟨by omega, by omega⟩, ⟨by omega, by omega⟩, ?_⟩
  unfold B_Mo_exprGoesOn_195
  rw [if_neg (by decide), if_neg (by decide)]
  unfold B_Mo_exprGoesOn_206
  rw [f7]
  refine ⟨⟨by omega, by omega⟩, ⟨by omega, by omega⟩, ?_⟩
  unfold B_Mo_exprGoesOn_218
  rw [if_pos (by decide)]
  unfold B_Mo_exprGoesOn_239
  rw [if_pos (by decide), if_neg (by decide), if_neg (by decide), if_neg (by decide), if_pos (by decide), if_pos (by decide)]
  refine ⟨rgk rfl, ?_⟩
  unfold B_Mo_exprGoesOn_295
  exact ⟨_, s_after (d := 9) (rgk rfl) (rgk rfl) (by rw [f21]; omega), rfl, rfl⟩
theorem eg7 {τ2 : Mem} (H : GI σ 0) (S : Pg σ τ2 q 1 u v) (h71 : τ2 71 (σ 58 21 - 1) = 7) (h72 : τ2 72 (σ 58 21 - 1) = w) (hw : 0 ≤ w ∧ w < σ 58 7 + u) (h7 : σ 58 7 + u + 1 ≤ 2 * q) : Sim τ2 (eDp (dft (mup τ2 61 w (σ 58 7 + u)) 18 0 w)) := by
  have HM := H.1
  have h60 := H.1.2.1
  obtain ⟨-, h24, h3, h7', h14, h22, h21, h70, -⟩ := H
  have ug := gu_0
  have q0 := S.2.2.2.1
  have e21 : τ2 58 21 = σ 58 21 := S.2.2.2.2.1
  have e22 : τ2 58 22 = σ 58 22 + 1 := S.2.2.2.2.2.1
  have e7 := S.2.2.2.2.2.2.2.2.2.1
  have e70 : τ2 70 (σ 58 21 - 1) = 0 := S.2.2.2.2.2.2.2.2.2.2.2.trans h70
  refine Sim.go (g := 0) (s := 7) S.2.1 (by omega) (by rw [e21]; exact e70) (by rw [e21]; exact h71) ?_
  rw [e21]
  show Rn 15 yMo_exprGoesOn [.ref 58, vi (σ 58 21 - 1)] τ2 none _
  have f7 : (mup τ2 61 w (σ 58 7 + u)) 58 7 = σ 58 7 + u := (mup_ne (by decide)).trans e7
  have f72 : (mup τ2 61 w (σ 58 7 + u)) 72 (σ 58 21 - 1) = w := (mup_ne (by decide)).trans h72
  have f21 : (dft (mup τ2 61 w (σ 58 7 + u)) 18 0 w) 58 21 = σ 58 21 := (dft_at.1 21 (by decide)).trans ((mup_ne (by decide)).trans e21)
  have f22 : (dft (mup τ2 61 w (σ 58 7 + u)) 18 0 w) 58 22 = σ 58 22 + 1 := (dft_at.1 22 (by decide)).trans ((mup_ne (by decide)).trans e22)
  refine M_Mo_exprGoesOn (d := 11) ⟨by omega, by omega⟩ ⟨⟨by omega, by omega⟩, ?_⟩
  rw [h71, if_neg (by decide), if_pos (by decide), if_neg (by decide), if_pos (by decide), if_pos (by decide), if_pos (by decide)]
  unfold B_Mo_exprGoesOn_62
  rw [if_pos rfl]
  unfold B_Mo_exprGoesOn_74
  rw [if_pos (by decide), if_neg (by decide), h72, e7]
  refine ⟨⟨by omega, by omega⟩, ⟨by omega, by omega⟩, ?_⟩
  unfold B_Mo_exprGoesOn_107
  rw [if_neg (by decide), if_pos (by decide), if_pos (by decide), if_neg (by decide)]
  unfold B_Mo_exprGoesOn_150
  rw [if_pos (by decide)]
  unfold B_Mo_exprGoesOn_160
  rw [f72]
  refine ⟨⟨by omega, by omega⟩, _, s_put (d := 10) (rgk rfl) (rgk rfl) ⟨by omega, by omega⟩ (by rw [f7]; omega), ?_⟩
  unfold B_Mo_exprGoesOn_169
  rw [if_neg (by decide), if_pos (by decide)]
  unfold B_Mo_exprGoesOn_195
  rw [if_neg (by decide), if_pos (by decide)]
  unfold B_Mo_exprGoesOn_218
  rw [if_pos (by decide)]
  unfold B_Mo_exprGoesOn_239
  rw [if_pos (by decide), if_neg (by decide), if_neg (by decide), if_pos rfl]
  unfold B_Mo_exprGoesOn_275
  exact ⟨_, s_endsDeep (d := 10) (by omega) (by omega), rfl, rfl⟩
end MIF
