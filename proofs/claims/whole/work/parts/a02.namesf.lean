/-! The model's names: each is found, or one isn't bound. -/
section NF
variable {σ τ : Mem} {d : Nat} {p a b z : Int} {G : List Int}
abbrev nfL (p : Int) (σ : Mem) (o : Option Int) (s' : Mem) : Prop := Lb 6 yMo_namesFound 7 [(0, .ref 58), (1, vi p)] [] σ o s'
theorem sc78 {n : Int} (h : 0 ≤ σ 58 30 ∧ σ 58 30 ≤ 1000) (hn : 0 ≤ n ∧ n ≤ 1000) : B_Mo_scope_78 (d + 2) (σ 58 30) n σ none (unM σ n) :=
  ⟨⟨by omega, by omega⟩, rfl, rfl⟩
theorem s_scope_plain (hp : 0 ≤ p ∧ p < 124) (h : 0 ≤ σ 58 30 ∧ σ 58 30 ≤ 1000) (hc : σ 60 p ≠ 6 ∧ σ 60 p ≠ 7 ∧ σ 60 p ≠ 10 ∧ σ 60 p ≠ 12 ∧ σ 60 p ≠ 16 ∧ σ 60 p ≠ 19) : Rn (d + 6) yMo_scope [.ref 58, vi p] σ none σ := by
  refine M_Mo_scope (d := d + 2) ⟨by omega, by omega⟩ ⟨hp, ?_⟩
  rw [if_neg hc.1, if_neg hc.2.2.1, if_pos hc.2.2.2.2.2]
  unfold B_Mo_scope_36
  rw [if_pos hc.2.2.2.2.1]
  unfold B_Mo_scope_47
  rw [if_pos hc.2.1, if_pos hc.2.2.2.1]
  have := sc78 (d := d) (n := 0) h (by decide)
  rwa [unM_0] at this
theorem s_scope_bind (hp : 0 ≤ p ∧ p < 124) (h : 0 ≤ σ 58 30 ∧ σ 58 30 < 64) (hc : σ 60 p = 6 ∨ σ 60 p = 10 ∨ σ 60 p = 19) (hz : σ 62 p = z) (rz : rg z) : Rn (d + 6) yMo_scope [.ref 58, vi p] σ none (bnM σ z) := by
  refine M_Mo_scope (d := d + 2) ⟨by omega, by omega⟩ ⟨hp, ?_⟩
  have e30 : (bnM σ z) 58 30 = σ 58 30 + 1 := mup_eq
  have B : B_Mo_scope_25 (d + 2) p (σ 60 p) σ none (bnM σ z) := by
    refine ⟨hp, bnM σ z, by rw [hz]; exact s_bind0 (d := d + 1) rz h, ?_⟩
    unfold B_Mo_scope_36
    rw [if_pos (by omega)]
    unfold B_Mo_scope_47
    rw [if_pos (by omega), if_pos (by omega)]
    have := sc78 (d := d) (σ := bnM σ z) (n := 0) (by omega) (by decide)
    rwa [unM_0] at this
  by_cases c1 : σ 60 p = 6
  · rw [if_pos c1]; exact B
  rw [if_neg c1]
  by_cases c2 : σ 60 p = 10
  · rw [if_pos c2]; exact B
  rw [if_neg c2, if_neg (fun w => w (by omega))]; exact B
theorem s_scope_un {n : Int} (hp : 0 ≤ p ∧ p < 124) (h : 0 ≤ σ 58 30 ∧ σ 58 30 ≤ 1000) (hn : 0 ≤ n ∧ n ≤ 1000) (hc : (σ 60 p = 7 ∧ n = 1) ∨ (σ 60 p = 12 ∧ σ 61 p = n)) : Rn (d + 6) yMo_scope [.ref 58, vi p] σ none (unM σ n) := by
  refine M_Mo_scope (d := d + 2) ⟨by omega, by omega⟩ ⟨hp, ?_⟩
  rw [if_neg (by omega), if_neg (by omega), if_pos (by omega)]
  unfold B_Mo_scope_36
  rw [if_pos (by omega)]
  unfold B_Mo_scope_47
  rcases hc with ⟨h7, rfl⟩ | ⟨h12, h61⟩
  · rw [if_neg (fun w => w h7)]
    exact sc78 h hn
  · rw [if_pos (by omega), if_neg (fun w => w h12), h61]
    exact ⟨hp, sc78 h hn⟩
theorem nf_step {σ1 : Mem} {o : Option Int} {s' : Mem} (hp : 0 ≤ p ∧ p < σ 58 7) (h7 : σ 58 7 ≤ 124) (hc : σ 60 p ≠ 5) (hS : Rn 6 yMo_scope [.ref 58, vi p] σ none σ1) (hL : nfL (p + 1) σ1 o s') : nfL p σ o s' := by
  refine K_Mo_namesFound_7 (d := 3) ⟨by omega, by omega⟩ ?_
  unfold B_Mo_namesFound_7
  rw [if_neg (by omega), if_pos hc]
  exact ⟨⟨by omega, by omega⟩, σ1, hS, ⟨by omega, by omega⟩, hL⟩
/-- the names are looked through, from the innermost one -/
theorem nf_look {x : Int} {o : Option Int} {s' : Mem} (hp : 0 ≤ p ∧ p < 124) (hz : σ 62 p = z) : ∀ (G : List Int), nmR σ G → (G.length : Int) ≤ 60 → x = (if z ∈ G then (G.length : Int) - 1 - ix z G else -1) → B_Mo_namesFound_57 3 p x σ o s' → Lb 6 yMo_namesFound 32 [(0, .ref 58), (1, vi p), (2, vi ((G.length : Int) - 1))] [] σ o s'
  | [], _, _, hx, hB => by
    rw [if_neg (by simp)] at hx
    subst hx
    refine K_Mo_namesFound_32 (d := 3) ⟨by omega, by omega⟩ (rgk rfl) ?_
    unfold B_Mo_namesFound_32
    rw [if_pos (by decide)]
    exact hB
  | y :: G, hn, hl, hx, hB => by
    have el : ((y :: G).length : Int) = G.length + 1 := by simp
    rw [el] at hx hl ⊢
    refine K_Mo_namesFound_32 (d := 3) ⟨by omega, by omega⟩ ⟨by omega, by omega⟩ ?_
    unfold B_Mo_namesFound_32
    rw [if_neg (by omega)]
    have e0 : (G.length : Int) + 1 - 1 = G.length := by omega
    rw [e0, hn.1, hz]
    refine ⟨⟨by omega, by omega⟩, hp, ?_⟩
    by_cases c : y = z
    · rw [if_pos c]
      have ei : ix z (y :: G) = 0 := if_pos c
      rw [if_pos (by rw [c]; exact List.mem_cons_self ..), ei] at hx
      have : x = G.length := by omega
      rw [← this]; exact hB
    · rw [if_neg c]
      have ei : ix z (y :: G) = 1 + ix z G := if_neg c
      refine ⟨⟨by omega, by omega⟩, ?_⟩
      rw [show (G.length : Int) + (-1) = (G.length : Int) - 1 by omega]
      refine nf_look hp hz G hn.2 (by omega) ?_ hB
      by_cases m : z ∈ G
      · rw [if_pos (List.mem_cons_of_mem _ m), ei] at hx
        rw [if_pos m]; omega
      · rw [if_neg (fun h => by rcases List.mem_cons.mp h with e | e; exact c e.symm; exact m e)] at hx
        rw [if_neg m]; exact hx
theorem ix_rg : ∀ {G : List Int}, z ∈ G → 0 ≤ ix z G ∧ ix z G < G.length
  | [], h => by cases h
  | y :: G, h => by
    have el : ((y :: G).length : Int) = G.length + 1 := by simp
    rw [el]
    unfold ix
    by_cases c : y = z
    · rw [if_pos c]; omega
    · rw [if_neg c]
      have : z ∈ G := by rcases List.mem_cons.mp h with e | e; exact absurd e.symm c; exact e
      have := ix_rg this
      omega
theorem nf_name (hp : 0 ≤ p ∧ p < σ 58 7) (h7 : σ 58 7 ≤ 124) (hc : σ 60 p = 5) (hz : σ 62 p = z) (hE : nmE σ G) (hl : (G.length : Int) ≤ 60) : (z ∈ G → ∀ o s', nfL (p + 1) (mup σ 61 p (ix z G)) o s' → nfL p σ o s') ∧ (z ∉ G → nfL p σ (some 0) σ) := by
  have e30 := hE.1
  have go : ∀ o s', Lb 6 yMo_namesFound 32 [(0, .ref 58), (1, vi p), (2, vi ((G.length : Int) - 1))] [] σ o s' → nfL p σ o s' := by
    intro o s' hL
    refine K_Mo_namesFound_7 (d := 3) ⟨by omega, by omega⟩ ?_
    unfold B_Mo_namesFound_7
    rw [if_neg (by omega), if_neg (fun w => w hc), e30]
    exact ⟨⟨by omega, by omega⟩, ⟨by omega, by omega⟩, hL⟩
  refine ⟨fun hm o s' hL => ?_, fun hm => ?_⟩
  · have ir := ix_rg hm
    refine go o s' (nf_look (x := (G.length : Int) - 1 - ix z G) ⟨by omega, by omega⟩ hz G hE.2 hl (by rw [if_pos hm]) ?_)
    unfold B_Mo_namesFound_57
    rw [if_pos (by omega), e30, show (G.length : Int) - 1 - ((G.length : Int) - 1 - ix z G) = ix z G by omega]
    refine ⟨⟨by omega, by omega⟩, ⟨by omega, by omega⟩, ?_⟩
    have e60 : (mup σ 61 p (ix z G)) 60 = σ 60 := mup_obj (by decide)
    have e58 : (mup σ 61 p (ix z G)) 58 30 = σ 58 30 := mup_ne (by decide)
    exact ⟨_, s_scope_plain (d := 0) ⟨by omega, by omega⟩ (by rw [e58, e30]; omega) (by rw [e60, hc]; decide), ⟨by omega, by omega⟩, hL⟩
  · refine go _ _ (nf_look (x := -1) ⟨by omega, by omega⟩ hz G hE.2 hl (by rw [if_neg hm]) ?_)
    unfold B_Mo_namesFound_57
    rw [if_neg (by decide)]
    exact ⟨rfl, rfl⟩
/-- from the draft a to the draft b -/
def NFt (σ σ' : Mem) (a b : Int) : Prop := frN σ σ' ∧ (∀ x, (x < a ∨ b ≤ x ∨ σ 60 x ≠ 5) → σ' 61 x = σ 61 x) ∧ ∀ o s', nfL b σ' o s' → nfL a σ o s'
def NFz (σ : Mem) (a : Int) : Prop := ∃ s', nfL a σ (some 0) s' ∧ frN σ s'
theorem frN.r60 (f : frN σ τ) : τ 60 = σ 60 ∧ τ 62 = σ 62 ∧ τ 66 = σ 66 ∧ τ 67 = σ 67 ∧ τ 74 = σ 74 := ⟨f.1 60 (by decide) (by decide) (by decide) (by decide) (by decide), f.1 62 (by decide) (by decide) (by decide) (by decide) (by decide), f.1 66 (by decide) (by decide) (by decide) (by decide) (by decide), f.1 67 (by decide) (by decide) (by decide) (by decide) (by decide), f.1 74 (by decide) (by decide) (by decide) (by decide) (by decide)⟩
theorem NFt.tr {σ2 : Mem} {c : Int} (h1 : NFt σ τ a b) (h2 : NFt τ σ2 b c) (hab : a ≤ b) (hbc : b ≤ c) : NFt σ σ2 a c := by
  refine ⟨h1.1.tr h2.1, fun x hx => ?_, fun o s' h => h1.2.2 o s' (h2.2.2 o s' h)⟩
  have e := h1.1.r60.1
  rw [h2.2.1 x (by rw [e]; omega), h1.2.1 x (by omega)]
theorem NFt.zz (h1 : NFt σ τ a b) (h2 : NFz τ b) : NFz σ a := by
  obtain ⟨s', h, f⟩ := h2
  exact ⟨s', h1.2.2 _ _ h, h1.1.tr f⟩
theorem NFt.isC {T : Tr} {u v : Int} (h : NFt σ τ a b) (c : isC σ T u v) : isC τ T u v := by
  obtain ⟨e1, e2, e3, e4, e5⟩ := h.1.r60
  exact isC.mv (fun x _ _ => ⟨by rw [e1], fun hx => h.2.1 x (Or.inr (Or.inr hx)), by rw [e2], by rw [e5]⟩) (fun x _ _ => by rw [e3, e4]; exact ⟨rfl, rfl⟩) c
theorem NFt.cell {u x y z : Int} (h : NFt σ τ a b) (hx : x ≠ 5) (c : cell σ u x y z) : cell τ u x y z := by
  obtain ⟨e1, e2, e3, e4, e5⟩ := h.1.r60
  exact ⟨by rw [e1]; exact c.1, (h.2.1 u (Or.inr (Or.inr (by rw [c.1]; exact hx)))).trans c.2.1, by rw [e2]; exact c.2.2⟩
theorem NFt.s7 (h : NFt σ τ a b) : τ 58 7 = σ 58 7 := h.1.2 7 (by decide)
/-- one draft that is no name -/
theorem nf_one {σ1 : Mem} (hp : 0 ≤ p ∧ p < σ 58 7) (h7 : σ 58 7 ≤ 124) (hc : σ 60 p ≠ 5) (hS : Rn 6 yMo_scope [.ref 58, vi p] σ none σ1) (f : frN σ σ1) (e61 : σ1 61 = σ 61) : NFt σ σ1 p (p + 1) :=
  ⟨f, fun x _ => by rw [e61], fun _ _ h => nf_step hp h7 hc hS h⟩
theorem nf_plain (hp : 0 ≤ p ∧ p < σ 58 7) (h7 : σ 58 7 ≤ 124) (hE : nmE σ G) (hl : (G.length : Int) ≤ 60) (hc : σ 60 p ≠ 5 ∧ σ 60 p ≠ 6 ∧ σ 60 p ≠ 7 ∧ σ 60 p ≠ 10 ∧ σ 60 p ≠ 12 ∧ σ 60 p ≠ 16 ∧ σ 60 p ≠ 19) : NFt σ σ p (p + 1) :=
  nf_one hp h7 hc.1 (s_scope_plain (d := 0) ⟨by omega, by omega⟩ (by rw [hE.1]; omega) hc.2) frN.rf rfl
theorem nf_bind (hp : 0 ≤ p ∧ p < σ 58 7) (h7 : σ 58 7 ≤ 124) (hE : nmE σ G) (hl : (G.length : Int) ≤ 60) (hc : σ 60 p = 6 ∨ σ 60 p = 10 ∨ σ 60 p = 19) (hz : σ 62 p = z) (rz : rg z) : NFt σ (bnM σ z) p (p + 1) ∧ nmE (bnM σ z) (z :: G) :=
  ⟨nf_one hp h7 (by omega) (s_scope_bind (d := 0) ⟨by omega, by omega⟩ (by rw [hE.1]; omega) hc hz rz) bnM_f bnM_61, bnM_E hE⟩
theorem nf_un {n : Int} {L : List Int} (hp : 0 ≤ p ∧ p < σ 58 7) (h7 : σ 58 7 ≤ 124) (hE : nmE σ (L ++ G)) (hl : ((L ++ G).length : Int) ≤ 60) (hn : n = L.length) (hc : (σ 60 p = 7 ∧ n = 1) ∨ (σ 60 p = 12 ∧ σ 61 p = n)) : NFt σ (unM σ n) p (p + 1) ∧ nmE (unM σ n) G := by
  have el : ((L ++ G).length : Int) = L.length + G.length := by simp
  exact ⟨nf_one hp h7 (by omega) (s_scope_un (d := 0) ⟨by omega, by omega⟩ (by rw [hE.1]; omega) (by omega) hc) unM_f unM_61, unM_E hE hn⟩
end NF
