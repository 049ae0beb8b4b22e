/-! The model's reader: functions. -/
section MFN
variable {σ τ : Mem} {D q dp a b : Int}
/-- a jump is filled in -/
theorem Pg.fix {x z : Int} (S : Pg σ τ q dp a b) (hx : σ 58 7 ≤ x) : Pg σ (mup τ 61 x z) q dp a b := by
  obtain ⟨f, s24, s3, s3b, s21, s22, k1, k2, k3, s7, s14, s70⟩ := S
  have o : ∀ {i : Nat}, i ≠ 61 → (mup τ 61 x z) i = τ i := fun h => mup_obj h
  refine ⟨f.tr (frM.mu rfl (by decide)), ?_, ?_, s3b, ?_, ?_, ?_, ?_, ?_, ?_, ?_, ?_⟩
  · rw [o (by decide)]; exact s24
  · rw [o (by decide)]; exact s3
  · rw [o (by decide)]; exact s21
  · rw [o (by decide)]; exact s22
  · intro y h0 h1; rw [o (by decide), o (by decide), o (by decide), o (by decide)]; exact k1 y h0 h1
  · intro y h0 h1; rw [o (i := 60) (by decide), o (i := 62) (by decide), o (i := 74) (by decide), mup_nk (show y ≠ x by omega)]; exact k2 y h0 h1
  · intro y h0 h1; rw [o (by decide), o (by decide)]; exact k3 y h0 h1
  · rw [o (by decide)]; exact s7
  · rw [o (by decide)]; exact s14
  · rw [o (by decide)]; exact s70
theorem isC.fix {x z u v : Int} {T : Tr} (hx : x < u ∨ u + ln T ≤ x) (C : isC τ T u v) : isC (mup τ 61 x z) T u v :=
  isC.mv (fun y h0 h1 => by unfold Da; rw [mup_ne (j := 60) (by decide), mup_ne (j := 62) (by decide), mup_ne (j := 74) (by decide), mup_nk (show y ≠ x by omega)]; exact ⟨rfl, fun _ => rfl, rfl, rfl⟩) (fun y _ _ => by rw [mup_ne (by decide), mup_ne (by decide)]; exact ⟨rfl, rfl⟩) C
theorem cell.fix {x z u i j k : Int} (hx : x ≠ u) (C : cell τ u i j k) : cell (mup τ 61 x z) u i j k :=
  ⟨(mup_ne (by decide)).trans C.1, (mup_nk (fun e => hx e.symm)).trans C.2.1, (mup_ne (by decide)).trans C.2.2⟩
theorem cell.set {z u i j k : Int} (C : cell τ u i j k) : cell (mup τ 61 u z) u i z k :=
  ⟨(mup_ne (by decide)).trans C.1, mup_eq, (mup_ne (by decide)).trans C.2.2⟩
theorem cell.kp {τ2 : Mem} {n u i j k : Int} (h : kpD n τ τ2) (h0 : 0 ≤ u) (h1 : u < n) (C : cell τ u i j k) : cell τ2 u i j k := by
  obtain ⟨e1, e2, e3, -⟩ := h u h0 h1
  exact ⟨e1.trans C.1, e2.trans C.2.1, e3.trans C.2.2⟩
/-- a function's body is read -/
theorem eg1 {τ2 : Mem} {u s : Int} (H : GI σ 0) (S : Pg σ τ2 q 1 u s) (h71 : τ2 71 (σ 58 21 - 1) = 1) (h72 : τ2 72 (σ 58 21 - 1) = σ 58 7) (hu : 0 ≤ u) (h7 : σ 58 7 + u + 1 ≤ 2 * q) : Sim τ2 (eDp (mup (dft τ2 7 0 (σ 58 7)) 61 (σ 58 7) ((dft τ2 7 0 (σ 58 7)) 58 7))) := by
  have h60 := H.1.2.1
  obtain ⟨-, h24, h3, h7', h14, h22, h21, h70, -⟩ := H
  have ug := gu_0
  have q0 := S.2.2.2.1
  have e21 : τ2 58 21 = σ 58 21 := S.2.2.2.2.1
  have e22 : τ2 58 22 = σ 58 22 + 1 := S.2.2.2.2.2.1
  have e7 := S.2.2.2.2.2.2.2.2.2.1
  have e70 : τ2 70 (σ 58 21 - 1) = 0 := S.2.2.2.2.2.2.2.2.2.2.2.trans h70
  refine Sim.go (g := 0) (s := 1) S.2.1 (by omega) (by rw [e21]; exact e70) (by rw [e21]; exact h71) ?_
  rw [e21]
  show Rn 15 yMo_exprGoesOn [.ref 58, vi (σ 58 21 - 1)] τ2 none _
  refine M_Mo_exprGoesOn (d := 11) ⟨by omega, by omega⟩ ⟨⟨by omega, by omega⟩, ?_⟩
  rw [h71, if_neg (by decide), if_pos (by decide), if_neg (by decide), if_pos (by decide), if_pos (by decide), if_pos (by decide)]
  unfold B_Mo_exprGoesOn_62
  rw [if_pos rfl]
  unfold B_Mo_exprGoesOn_74
  rw [if_pos (by decide), if_pos (by decide)]
  unfold B_Mo_exprGoesOn_107
  rw [if_neg (by decide), if_neg (by decide)]
  unfold B_Mo_exprGoesOn_150
  rw [if_pos (by decide)]
  unfold B_Mo_exprGoesOn_160
  rw [h72]
  refine ⟨⟨by omega, by omega⟩, _, s_put (d := 10) (rgk rfl) (rgk rfl) ⟨by omega, by omega⟩ (by omega), ?_⟩
  have d72 : (dft τ2 7 0 (σ 58 7)) 72 (σ 58 21 - 1) = σ 58 7 := by rw [dft_at.2.2.2.2 72 (by decide) (by decide) (by decide) (by decide)]; exact h72
  unfold B_Mo_exprGoesOn_169
  rw [if_pos rfl]
  unfold B_Mo_exprGoesOn_180
  rw [d72]
  refine ⟨⟨by omega, by omega⟩, ⟨by omega, by omega⟩, ?_⟩
  unfold B_Mo_exprGoesOn_195
  rw [if_neg (by decide), if_pos (by decide)]
  unfold B_Mo_exprGoesOn_218
  rw [if_pos (by decide)]
  unfold B_Mo_exprGoesOn_239
  rw [if_pos (by decide), if_pos rfl]
  unfold B_Mo_exprGoesOn_275
  have f21 : (mup (dft τ2 7 0 (σ 58 7)) 61 (σ 58 7) ((dft τ2 7 0 (σ 58 7)) 58 7)) 58 21 = σ 58 21 := (mup_ne (by decide)).trans ((dft_at.1 21 (by decide)).trans e21)
  have f22 : (mup (dft τ2 7 0 (σ 58 7)) 61 (σ 58 7) ((dft τ2 7 0 (σ 58 7)) 58 7)) 58 22 = σ 58 22 + 1 := (mup_ne (by decide)).trans ((dft_at.1 22 (by decide)).trans e22)
  exact ⟨_, s_endsDeep (d := 10) (by omega) (by omega), rfl, rfl⟩
end MFN
