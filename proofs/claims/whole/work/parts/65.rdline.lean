/-! The class's reader: level by level, and a whole line. -/
theorem clo_leaf {k : Nat} {z : Int} {e : Int → Bool} (h5 : k ≠ 5) : clo (nd k z nl nl nl) e = true := by
  rw [clo_nd, if_neg h5]; simp [clo_nl]
theorem pCon_clo {ch : Int → Int} {p : Int} {t : Tr × Int} (h : pCon ch p = some t) (e : Int → Bool) : clo t.1 e = true := by
  unfold pCon at h
  split at h
  · cases h; exact clo_leaf (by decide)
  split at h
  · cases h; exact clo_leaf (by decide)
  split at h
  · cases h; exact clo_leaf (by decide)
  · cases h
theorem pPart_clo {ch : Int → Int} {P : Int → List Int → PaR} (hP : ∀ p L t, P p L = some t → ∀ e, clo t.1 e = true) {p : Int} {L : List Int} {t : Tr × Int × List Int} (h : pPart ch P p L = some t) (e : Int → Bool) : clo t.1 e = true := by
  unfold pPart at h
  split at h
  · split at h
    · cases h
    · cases h; exact clo_leaf (by decide)
  split at h
  · obtain ⟨s, h1, rfl⟩ := Option.map_eq_some_iff.mp h
    exact clo_leaf (by decide)
  split at h
  · cases h; exact clo_leaf (by decide)
  split at h
  · obtain ⟨s, h1, h⟩ := Option.bind_eq_some_iff.mp h
    obtain ⟨r, h2, rfl⟩ := Option.map_eq_some_iff.mp h
    exact hP _ _ _ h1 e
  · obtain ⟨s, h1, rfl⟩ := Option.map_eq_some_iff.mp h
    exact pCon_clo h1 e
theorem pPat_clo {ch : Int → Int} : ∀ (k : Nat) (p : Int) (L : List Int) (t : Tr × Int × List Int), pPat ch k p L = some t → ∀ e, clo t.1 e = true
  | 0, _, _, _, h => by cases h
  | k + 1, p, L, t, h => by
    intro e
    rw [pPat] at h
    obtain ⟨s, h1, h⟩ := Option.bind_eq_some_iff.mp h
    have a := pPart_clo (pPat_clo k) h1 e
    split at h
    · obtain ⟨r, h2, rfl⟩ := Option.map_eq_some_iff.mp h
      have b := pPat_clo k _ _ _ h2 e
      dsimp only
      rw [clo_nd]; simp [clo_nl, a, b]
    · cases h; exact a
section LV
variable {d : Nat}
theorem brk_at {σ : Mem} (H : OK σ) {P : Option (Tr × Int)} (hP : P = none) : EO P σ (mup σ 35 4 1) (-1) := by
  have := EO.brk (P := P) (v := -1) H.1 H.1.inl (rgk rfl) (fun _ => hP)
  rwa [W_id] at this
theorem s_pat : ∀ (k : Nat) (x : Int), x = 17 - k → k ≤ 16 → PSp yRd_pattern (2 * k + 8) x (fun ch => pPat ch k)
  | 0, x, hx, _ => by
    intro σ L H hm
    refine ⟨-1, _, M_Rd_pattern (d := 4) ⟨by omega, by omega⟩ ?_, brk_at H rfl, fun t _ h => by cases h⟩
    unfold B_Rd_pattern
    rw [if_neg (by omega)]
    exact ⟨-1, _, s_breakOff (d := 3), rfl, rfl⟩
  | k + 1, x, hx, hk => by
    have ih := s_pat k (x + 1) (by omega) (by omega)
    have a := s_part (d := 2 * k + 2) (x := x) (by omega) ih
    exact s_pattern (d := 2 * k + 3) (x := x) (by omega) a (ih.deep (by omega))
theorem s_expr : ∀ (k : Nat) (x e : Int), x = 17 - k → e = 16 - k → k ≤ 16 → LSp yRd_expression (8 * k + 8) x e (fun ch => pE ch k)
  | 0, x, e, hx, _, _ => by
    intro σ H hC
    refine ⟨-1, _, M_Rd_expression (d := 4) ⟨by omega, by omega⟩ ?_, brk_at H rfl⟩
    unfold B_Rd_expression
    rw [if_neg (by omega)]
    exact ⟨-1, _, s_breakOff (d := 3), rfl, rfl⟩
  | k + 1, x, e, hx, he, hk => by
    have ih := s_expr k (x + 1) (e + 1) (by omega) (by omega) (by omega)
    have ip := (s_pat k (x + 1) (by omega) (by omega)).deep (show 2 * k + 8 ≤ 8 * k + 8 by omega)
    have hB : BrS (8 * k + 9) x e (fun ch => pE ch k) (fun ch => pPat ch k) := s_branch (d := 8 * k + 2) (x := x) (e := e) (by omega) (by omega) (fun {d m σ} hm => s_bitCount hm) ih ip (fun ch p L t h => pPat_clo k p L t h)
    exact s_expression (d := 8 * k + 2) (x := x) (e := e) (by omega) (by omega) ih hB
/-- a row of zeros -/
theorem fill_l : ∀ (n : Nat) (x : Int) (σ : Mem), x + n = 26 → 0 ≤ x → ∃ σ', Lb (d + 1) yRw_fill 2 [(0, .ref 36), (1, vi 0), (2, vi x)] [] σ none σ' ∧ (∀ i, i ≠ 37 → σ' i = σ i) ∧ ∀ k, σ' 37 k = if x ≤ k ∧ k < 26 then 0 else σ 37 k
  | 0, x, σ, hn, h0 => by
    refine ⟨σ, K_Rw_fill_2 (rgk rfl) ⟨by omega, by omega⟩ ?_, fun _ _ => rfl, fun k => by rw [if_neg (by omega)]⟩
    unfold B_Rw_fill_2
    rw [if_pos (by omega)]
    exact ⟨rfl, rfl⟩
  | n + 1, x, σ, hn, h0 => by
    obtain ⟨σ', r, f, z⟩ := fill_l n (x + 1) (mup σ 37 x 0) (by omega) (by omega)
    refine ⟨σ', K_Rw_fill_2 (rgk rfl) ⟨by omega, by omega⟩ ?_, fun i hi => (f i hi).trans (mup_obj hi), fun k => ?_⟩
    · unfold B_Rw_fill_2
      rw [if_neg (by omega)]
      exact ⟨⟨h0, by omega⟩, ⟨by omega, by omega⟩, r⟩
    · rw [z k]
      by_cases q : k = x
      · subst q
        rw [if_neg (by omega), mup_eq, if_pos (by omega)]
      · rw [mup_nk q]
        by_cases w : x + 1 ≤ k ∧ k < 26
        · rw [if_pos w, if_pos (by omega)]
        · rw [if_neg w, if_neg (by omega)]
/-- how a line is read -/
def RdOk (Q : Option Tr) (σ' : Mem) (b : Int) : Prop := match Q with
  | none => b = 0
  | some T => b = 1 ∧ isT σ' 5 0 (σ' 5 7) T (σ' 5 8) ∧ (0 ≤ σ' 5 8 ∧ σ' 5 8 < σ' 5 7) ∧ PQ σ' ∧ σ' 17 (σ' 5 8) = -1 ∧ (σ' 35 5 ≠ 0 ↔ clo T (fun _ => false) = false)
theorem s_reads {σ : Mem} (H : LI σ) (h37 : ∀ k, k < 0 ∨ 26 ≤ k → σ 37 k = 0) : ∃ b σ', Rn 140 yRd_reads [.ref 35] σ (some b) σ' ∧ frR σ σ' ∧ (∀ k, σ' 37 k = 0) ∧ RI σ' ∧ RdOk (pLine (chr σ)) σ' b := by
  obtain ⟨m1, r1, f1, z1⟩ := fill_l (d := 0) 26 0 (mup (mup (mup σ 35 3 0) 35 4 0) 35 5 0) rfl (by decide)
  have e5 : ∀ k, (mup (mup m1 5 7 0) 5 8 (-1)) 35 k = (mup (mup (mup σ 35 3 0) 35 4 0) 35 5 0) 35 k := fun k => by
    rw [show (mup (mup m1 5 7 0) 5 8 (-1)) 35 = m1 35 from (mup_obj (by decide)).trans (mup_obj (by decide)), f1 35 (by decide)]
  have e3 : (mup (mup m1 5 7 0) 5 8 (-1)) 35 3 = 0 := by rw [e5, mup_nk (by decide), mup_nk (by decide), mup_eq]
  have e4 : (mup (mup m1 5 7 0) 5 8 (-1)) 35 4 = 0 := by rw [e5, mup_nk (by decide), mup_eq]
  have e55 : (mup (mup m1 5 7 0) 5 8 (-1)) 35 5 = 0 := by rw [e5, mup_eq]
  have e7 : (mup (mup m1 5 7 0) 5 8 (-1)) 5 7 = 0 := by rw [mup_nk (by decide), mup_eq]
  have e37 : ∀ k, (mup (mup m1 5 7 0) 5 8 (-1)) 37 k = 0 := fun k => by
    rw [show (mup (mup m1 5 7 0) 5 8 (-1)) 37 = m1 37 from (mup_obj (by decide)).trans (mup_obj (by decide)), z1 k]
    split
    · rfl
    · next q => rw [show (mup (mup (mup σ 35 3 0) 35 4 0) 35 5 0) 37 = σ 37 from (mup_obj (by decide)).trans ((mup_obj (by decide)).trans (mup_obj (by decide)))]; exact h37 k (by omega)
  have fr : frR σ (mup (mup m1 5 7 0) 5 8 (-1)) := by
    have g : frR (mup (mup (mup σ 35 3 0) 35 4 0) 35 5 0) m1 := fun i hi => f1 i (fun e => by rw [e] at hi; cases hi)
    exact (((((frR.mu rfl).tr (frR.mu rfl)).tr (frR.mu rfl)).tr g).tr (frR.mu rfl)).tr (frR.mu rfl)
  have hm2 : Rn 5 yTr_clear [.ref 5] m1 none (mup (mup m1 5 7 0) 5 8 (-1)) := M_Tr_clear (d := 3) ⟨rfl, rfl⟩
  generalize mup (mup m1 5 7 0) 5 8 (-1) = m2 at *
  have I2 : RI m2 := ⟨fr.li H, by rw [e3]; have := (fr.li H).1; omega, by rw [e7]; omega⟩
  have O2 : OK m2 := ⟨I2, fun _ => ⟨by rw [e7, e3]; decide, ⟨fun x h0 h1 => by rw [e7] at h1; omega, fun x y hx => by rw [e7] at hx; omega⟩, fun x h0 h1 => by rw [e7] at h1; omega⟩⟩
  obtain ⟨v, m3, r3, E⟩ := s_expr 16 1 0 rfl rfl (by decide) m2 O2 (fun x _ _ => by rw [e37 x]; decide)
  obtain ⟨gv, f3, I3, z3, -, E⟩ := E
  have E := E e4 (O2.2 e4)
  rw [fr.chr, e3] at E
  dsimp only at E
  have hm4 : Rn 5 yTr_setRoot [.ref 5, vi v] m3 none (mup m3 5 8 v) := M_Tr_setRoot (d := 3) gv ⟨rfl, rfl⟩
  have f4 : frR σ (mup m3 5 8 v) := (fr.tr f3).tr (frR.mu rfl)
  have I4 : RI (mup m3 5 8 v) := ⟨f4.li H, by rw [show (mup m3 5 8 v) 35 = m3 35 from mup_obj (by decide), show (mup m3 5 8 v) 2 = m3 2 from mup_obj (by decide)]; exact I3.2.1, by rw [mup_nk (by decide)]; exact I3.2.2⟩
  have z4 : ∀ k, (mup m3 5 8 v) 37 k = 0 := fun k => by rw [mup_ne (by decide), z3]; exact e37 k
  have R1 : ∀ {b : Int} {σ' : Mem}, (if (mup m3 5 8 v) 35 4 ≠ 0 then (some b = some 0 ∧ σ' = mup m3 5 8 v) else (∃ (v6 : Int) (m6 : Mem), Rn 139 yRd_next [.ref 35] (mup m3 5 8 v) (some v6) m6 ∧ (if v6 ≠ (-1) then (some b = some 0 ∧ σ' = m6) else (some b = some 1 ∧ σ' = m6)))) → Rn 140 yRd_reads [.ref 35] σ (some b) σ' := by
    intro b σ' h
    refine M_Rd_reads (d := 136) ⟨m1, (M_Rw_fill (d := 0) (rgk rfl) r1).deep (by decide), m2, hm2.deep (by decide), v, m3, r3.deep (by decide), _, hm4.deep (by decide), h⟩
  have b4 : (mup m3 5 8 v) 35 4 = m3 35 4 := mup_ne (by decide)
  unfold pLine
  cases hE : pE (chr σ) 16 0 with
  | none =>
    rw [hE] at E
    refine ⟨0, _, R1 ?_, f4, z4, I4, rfl⟩
    rw [if_pos (by rw [b4]; exact E)]
    exact ⟨rfl, rfl⟩
  | some t =>
    obtain ⟨T, q⟩ := t
    rw [hE] at E
    obtain ⟨q4, q3, q0, ⟨t1, t2, t3, t4, t5, t6⟩, q5⟩ := E
    have N := s_next (d := 135) I4
    rw [nxv_u (b4.trans q4), f4.chr, show (mup m3 5 8 v) 35 3 = m3 35 3 from mup_ne (by decide), q3] at N
    have sI := I4.at (q := sk (chr σ) q) (by have := sk_ge (ch := chr σ) (p := q); rw [e3] at q0; omega) (by
      have := (f4.li H).sk_in (p := q) (by have := I4.2.1.2; rw [show (mup m3 5 8 v) 35 3 = m3 35 3 from mup_ne (by decide), q3] at this; exact this)
      rwa [f4.chr] at this)
    refine ⟨if nx (chr σ) q = -1 then 1 else 0, _, R1 (σ' := Wq (mup m3 5 8 v) (sk (chr σ) q)) ?_, f4.tr (frR.mu rfl), fun k => ?_, sI, ?_⟩
    · rw [if_neg (by rw [b4]; exact fun h => h q4)]
      refine ⟨_, _, N, ?_⟩
      by_cases c : nx (chr σ) q = -1
      · rw [if_neg (fun h => h c), if_pos c]; exact ⟨rfl, rfl⟩
      · rw [if_pos c, if_neg c]; exact ⟨rfl, rfl⟩
    · exact (mup_ne (by decide)).trans (z4 k)
    · dsimp only
      by_cases c : nx (chr σ) q = -1
      · rw [if_pos c, if_pos c]
        have o : ∀ {i : Nat}, i ≠ 5 → i ≠ 35 → (Wq (mup m3 5 8 v) (sk (chr σ) q)) i = m3 i := fun h5 h35 => (mup_obj h35).trans (mup_obj h5)
        have k7 : (Wq (mup m3 5 8 v) (sk (chr σ) q)) 5 7 = m3 5 7 := (mup_ne (by decide)).trans (mup_nk (by decide))
        have k8 : (Wq (mup m3 5 8 v) (sk (chr σ) q)) 5 8 = v := (mup_ne (by decide)).trans mup_eq
        have k5 : (Wq (mup m3 5 8 v) (sk (chr σ) q)) 35 5 = m3 35 5 := (mup_nk (by decide)).trans (mup_ne (by decide))
        refine ⟨rfl, ?_, ?_, ?_, ?_, ?_⟩
        · rw [k7, k8]
          rw [e7] at t3
          exact isT.mv (Int.le_refl _) (Int.le_refl _) (fun x _ _ => ⟨congrFun (o (i := 7) (by decide) (by decide)) x, congrFun (o (i := 9) (by decide) (by decide)) x, congrFun (o (i := 11) (by decide) (by decide)) x, congrFun (o (i := 13) (by decide) (by decide)) x, congrFun (o (i := 15) (by decide) (by decide)) x⟩) t3
        · rw [k7, k8]; omega
        · exact t5.cg k7 (o (by decide) (by decide)) (o (by decide) (by decide)) (o (by decide) (by decide)) (o (by decide) (by decide)) (o (by decide) (by decide)) (o (by decide) (by decide))
        · rw [k8, o (i := 17) (by decide) (by decide)]; exact t4
        · rw [k5, q5, e55]
          have : bd m2 = fun _ => false := by
            funext y; unfold bd; rw [e37]; rfl
          rw [this]; simp
      · rw [if_neg c, if_neg c]; rfl
theorem s_allBound {σ : Mem} : Rn (d + 4) yRd_allBound [.ref 35] σ (some (if σ 35 5 ≠ 0 then 0 else 1)) σ := by
  refine M_Rd_allBound ?_
  unfold B_Rd_allBound
  split
  · exact ⟨rfl, rfl⟩
  · exact ⟨rfl, rfl⟩
end LV
