/-! The model's reader: an expression that is a list. -/
section SKG
variable {ch : Int → Int} {p : Int} {F : Int → Option (Tr × Int)}
theorem pPlain_G (hs : sk ch (sk ch p) = sk ch p) : pPlain ch F (sk ch p) = pPlain ch F p := by
  unfold pPlain pCon nx; rw [hs]
theorem pAtom_G (hs : sk ch (sk ch p) = sk ch p) {n : Nat} : pAtom ch F n (sk ch p) = pAtom ch F n p := by
  cases n with
  | zero => exact pPlain_G hs
  | succ n => rw [pAtom, pAtom, pPlain_G hs]; unfold nx; rw [hs]
theorem pApp_G (hs : sk ch (sk ch p) = sk ch p) : pApp ch F (sk ch p) = pApp ch F p := by unfold pApp; rw [pAtom_G hs]
theorem pProd_G (hs : sk ch (sk ch p) = sk ch p) : pProd ch F (sk ch p) = pProd ch F p := by unfold pProd; rw [pApp_G hs]
theorem pSum_G (hs : sk ch (sk ch p) = sk ch p) : pSum ch F (sk ch p) = pSum ch F p := by unfold pSum; rw [pProd_G hs]
theorem pCmp_G (hs : sk ch (sk ch p) = sk ch p) : pCmp ch F (sk ch p) = pCmp ch F p := by unfold pCmp; rw [pSum_G hs]
theorem pList_G (hs : sk ch (sk ch p) = sk ch p) {n : Nat} : pList ch F n (sk ch p) = pList ch F n p := by
  cases n with
  | zero => rfl
  | succ n => rw [pList, pList, pCmp_G hs]
end SKG
section MEX
variable {σ : Mem} {D q b : Int}
/-- one deeper, the place still the same -/
def dp1 (σ : Mem) : Mem := mup σ 58 22 (σ 58 22 + 1)
def dpb (σ : Mem) : Int := if σ 58 22 < 16 then 0 else 1
theorem dpr_Z (h : σ 58 24 = 0) : dpr σ = Zm (dp1 σ) (σ 58 3) (dpb σ) := by
  unfold dpr Zm dp1 dpb
  have e : mup (mup σ 58 22 (σ 58 22 + 1)) 58 3 (σ 58 3) = mup σ 58 22 (σ 58 22 + 1) := by
    rw [mup_cm (by decide), mup_id]
  rw [e]
  by_cases w : σ 58 22 < 16
  · rw [if_pos ⟨h, w⟩, if_pos w]
  · rw [if_neg (fun x => w x.2), if_neg w]
theorem dp1_f : frM σ (dp1 σ) := frM.m8 (by unfold mfP; omega)
/-- how an expression begins -/
theorem eb0 (H : GI σ 0) : ∀ m, (if hr (nx (mch σ) (σ 58 3)) = 92 then B_Mo_exprBegins_44 11 (σ 58 21 - 1) (hr (nx (mch σ) (σ 58 3))) 1 (Zm (dp1 σ) (sk (mch σ) (σ 58 3)) (dpb σ)) none m else if hr (nx (mch σ) (σ 58 3)) = 33 then B_Mo_exprBegins_44 11 (σ 58 21 - 1) (hr (nx (mch σ) (σ 58 3))) 1 (Zm (dp1 σ) (sk (mch σ) (σ 58 3)) (dpb σ)) none m else if hr (nx (mch σ) (σ 58 3)) = 64 then B_Mo_exprBegins_44 11 (σ 58 21 - 1) (hr (nx (mch σ) (σ 58 3))) 1 (Zm (dp1 σ) (sk (mch σ) (σ 58 3)) (dpb σ)) none m else if hr (nx (mch σ) (σ 58 3)) = 63 then B_Mo_exprBegins_44 11 (σ 58 21 - 1) (hr (nx (mch σ) (σ 58 3))) 1 (Zm (dp1 σ) (sk (mch σ) (σ 58 3)) (dpb σ)) none m else if hr (nx (mch σ) (σ 58 3)) ≠ 35 then B_Mo_exprBegins_44 11 (σ 58 21 - 1) (hr (nx (mch σ) (σ 58 3))) 0 (Zm (dp1 σ) (sk (mch σ) (σ 58 3)) (dpb σ)) none m else B_Mo_exprBegins_44 11 (σ 58 21 - 1) (hr (nx (mch σ) (σ 58 3))) 1 (Zm (dp1 σ) (sk (mch σ) (σ 58 3)) (dpb σ)) none m) → Sim σ m := by
  intro m hm
  have HM := H.1
  have h60 := H.1.2.1
  obtain ⟨-, h24, h3, h7, h14, h22, h21, h70, h71, -⟩ := H
  have ug := gu_0
  refine Sim.go (g := 0) (s := 0) h24 (by omega) h70 h71 ?_
  show Rn 15 yMo_exprBegins [.ref 58, vi (σ 58 21 - 1)] σ none m
  have N := s_peek (d := 9) (b := dpb σ) (σ := dp1 σ) (q := σ 58 3) (dp1_f.mi HM) ⟨by omega, by omega⟩
  rw [dp1_f.ch] at N
  refine M_Mo_exprBegins (d := 11) ⟨by omega, by omega⟩ ⟨_, s_deeper (d := 10) (by omega), ?_⟩
  rw [dpr_Z h24]
  exact ⟨_, _, N, hm⟩
/-- the expression is a list, one deeper -/
theorem eb_list (H : GI σ 0) (h : ∀ t : Int, t = 92 ∨ t = 33 ∨ t = 64 ∨ t = 63 ∨ t = 35 → nx (mch σ) (σ 58 3) ≠ t) : Sim σ (aft (Zm (dp1 σ) (sk (mch σ) (σ 58 3)) (dpb σ)) 12 1) := by
  have K := eb0 H
  have HM := H.1
  have h60 := H.1.2.1
  obtain ⟨-, h24, h3, h7, h14, h22, h21, h70, h71, -⟩ := H
  have ug := gu_0
  have er : ∀ {t : Int}, t = 92 ∨ t = 33 ∨ t = 64 ∨ t = 63 ∨ t = 35 → hr (nx (mch σ) (σ 58 3)) ≠ t := fun {t} ht w => h t ht ((HM.hr_eq (by omega) (by omega)).mp w)
  have t21 : (Zm (dp1 σ) (sk (mch σ) (σ 58 3)) (dpb σ)) 58 21 = σ 58 21 := (Zm_f (by decide) (by decide)).trans (mup_nk (by decide))
  refine K _ ?_
  rw [if_neg (er (by decide)), if_neg (er (by decide)), if_neg (er (by decide)), if_neg (er (by decide)), if_pos (er (by decide))]
  unfold B_Mo_exprBegins_44
  rw [if_neg (by decide)]
  exact ⟨_, s_after (d := 9) (rgk rfl) (rgk rfl) (by rw [t21]; omega), rfl, rfl⟩
theorem dp1_pg (H : GI σ 0) (hq : σ 58 3 ≤ q ∧ q ≤ σ 58 2) : Pg σ (Zm (dp1 σ) q 0) q 1 0 0 := by
  have o : ∀ {i : Nat}, i ≠ 58 → (Zm (dp1 σ) q 0) i = σ i := fun h => (Zm_o h).trans (mup_obj h)
  have u : ∀ {k : Int}, k ≠ 3 → k ≠ 22 → k ≠ 24 → (Zm (dp1 σ) q 0) 58 k = σ 58 k := fun h1 h2 h3 => (Zm_f h1 h3).trans (mup_nk h2)
  refine ⟨dp1_f.tr frM.Z, Zm_bad, Zm_at, hq, u (by decide) (by decide) (by decide), (Zm_f (by decide) (by decide)).trans mup_eq, ?_, ?_, ?_, ?_, ?_, ?_⟩
  · intro x _ _; rw [o (by decide), o (by decide), o (by decide), o (by decide)]; exact ⟨rfl, rfl, rfl, rfl⟩
  · intro x _ _; rw [o (by decide), o (by decide), o (by decide), o (by decide)]; exact ⟨rfl, rfl, rfl, rfl⟩
  · intro x _ _; rw [o (by decide), o (by decide)]; exact ⟨rfl, rfl⟩
  · rw [u (by decide) (by decide) (by decide)]; omega
  · rw [u (by decide) (by decide) (by decide)]; omega
  · rw [o (by decide)]
/-- it has broken off: too deep -/
theorem eb_deep {s g : Int} (h : ¬ σ 58 22 < 16) (S : Sim σ (aft (Zm (dp1 σ) q (dpb σ)) s g)) : Fl σ := by
  refine Fl.of S ((dp1_f.tr frM.Z).tr frM.aft) (Fl.bad ?_)
  rw [aft_at.1 24 (by decide), Zm_bad]
  unfold dpb
  rw [if_neg h]; decide
/-- the list is read -/
theorem eg12 {τ2 : Mem} {a c : Int} (H : GI σ 0) (S : Pg σ τ2 q 1 a c) (h71 : τ2 71 (σ 58 21 - 1) = 12) : Sim τ2 (eDp τ2) := by
  have h60 := H.1.2.1
  obtain ⟨-, h24, h3, h7, h14, h22, h21, h70, -⟩ := H
  have ug := gu_0
  have e21 : τ2 58 21 = σ 58 21 := S.2.2.2.2.1
  have e22 : τ2 58 22 = σ 58 22 + 1 := S.2.2.2.2.2.1
  have e70 : τ2 70 (σ 58 21 - 1) = 0 := S.2.2.2.2.2.2.2.2.2.2.2.trans h70
  refine Sim.go (g := 0) (s := 12) S.2.1 (by omega) (by rw [e21]; exact e70) (by rw [e21]; exact h71) ?_
  rw [e21]
  show Rn 15 yMo_exprGoesOn [.ref 58, vi (σ 58 21 - 1)] τ2 none _
  refine M_Mo_exprGoesOn (d := 11) ⟨by omega, by omega⟩ ⟨⟨by omega, by omega⟩, ?_⟩
  rw [h71, if_neg (by decide), if_pos (by decide), if_neg (by decide), if_pos (by decide), if_pos (by decide), if_pos (by decide)]
  unfold B_Mo_exprGoesOn_62
  rw [if_pos rfl]
  unfold B_Mo_exprGoesOn_74
  rw [if_pos (by decide), if_pos (by decide)]
  unfold B_Mo_exprGoesOn_107
  rw [if_pos (by decide)]
  unfold B_Mo_exprGoesOn_169
  rw [if_neg (by decide), if_pos (by decide)]
  unfold B_Mo_exprGoesOn_195
  rw [if_neg (by decide), if_pos (by decide)]
  unfold B_Mo_exprGoesOn_218
  rw [if_pos (by decide)]
  unfold B_Mo_exprGoesOn_239
  rw [if_pos (by decide), if_neg (by decide), if_neg (by decide), if_neg (by decide), if_neg (by decide)]
  unfold B_Mo_exprGoesOn_275
  exact ⟨_, s_endsDeep (d := 10) (by omega) (by omega), rfl, rfl⟩
theorem mo_list {k : Nat} (H : GI σ 0) (hD : σ 58 22 = D) (h16 : σ 58 22 < 16) (hL : GSp (D + 1) 1 (fun ch => pList ch (pE ch k) 60)) (h : ∀ t : Int, t = 92 ∨ t = 33 ∨ t = 64 ∨ t = 63 ∨ t = 35 → nx (mch σ) (σ 58 3) ≠ t) : DnM (pList (mch σ) (pE (mch σ) k) 60 (σ 58 3)) σ := by
  have Sm := eb_list H h
  have HM := H.1
  have h60 := HM.2.1
  have HH := H
  obtain ⟨-, h24, h3, h7, h14, h22, h21, h70, h71, -⟩ := H
  have ug := gu_0
  have u1 : gu 1 = -5 := rfl
  have ge := sk_ge (ch := mch σ) (p := σ 58 3)
  have sin : sk (mch σ) (σ 58 3) ≤ σ 58 2 := skf_in (fun x e => (mch_lt (by omega)).2) 60 (σ 58 3) (by omega)
  have eb : dpb σ = 0 := if_pos h16
  rw [eb] at Sm
  have S := dp1_pg HH (q := sk (mch σ) (σ 58 3)) ⟨ge, sin⟩
  have gi := S.gi (s := 12) (g := 1) HM (by omega) (by omega) (by omega) (by omega) (by omega)
  have B := S.begun (Int.le_refl 0) (Int.le_refl 0) h21.1 gi (by omega) hL
  rw [pList_G (HM.sk_sk h3.1)] at B
  cases hU : pList (mch σ) (pE (mch σ) k) 60 (σ 58 3) with
  | none =>
    rw [hU] at B
    exact Fl.of Sm ((dp1_f.tr frM.Z).tr frM.aft) B
  | some t =>
    obtain ⟨U, q2⟩ := t
    rw [hU] at B
    obtain ⟨τ2, sm2, S3, b1, b2, ⟨b3, b4, b5⟩, C3, kD, kS⟩ := B
    rw [Int.zero_add, Int.zero_add] at S3
    rw [Int.add_zero, Int.add_zero] at C3
    exact ⟨_, (Sm.tr sm2).tr (eg12 HH S3 b3), S3.popD C3⟩
end MEX
