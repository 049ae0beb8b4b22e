/-! The class's load against the grammar and the types. -/
def shf (σ : Mem) : Mem := fun i => σ (i + 15)
theorem PP.mv {σ σ' : Mem} (H : PP σ) (h5 : σ' 5 7 = σ 5 7) (e : ∀ x, 0 ≤ x → x < σ 5 7 → ∀ j, (j = 7 ∨ j = 11 ∨ j = 13 ∨ j = 15 ∨ j = 17) → σ' j x = σ j x) : PP σ' := by
  refine ⟨fun x x0 x1 j hj => ?_, fun x y hx hy i j hi hj q n => ?_⟩
  · rw [h5] at x1 ⊢
    have ej := e x x0 x1 j (by omega)
    rw [ej]
    rcases H.1 x x0 x1 j hj with a | ⟨a, b, c, d⟩
    · exact Or.inl a
    · refine Or.inr ⟨a, b, ?_⟩
      rw [e _ a b 17 (by omega), e x x0 x1 7 (by omega), e x x0 x1 17 (by omega)]
      exact ⟨c, d⟩
  · rw [h5] at hx hy
    rw [e x hx.1 hx.2 i (by omega)] at q n
    rw [e y hy.1 hy.2 j (by omega)] at q
    exact H.2 x y hx hy i j hi hj q n
/-- the program T is kept -/
def PGm (σ : Mem) (T : Tr) : Prop := isT (shf σ) 5 0 (shf σ 5 7) T (shf σ 5 8) ∧ PP (shf σ) ∧ (0 ≤ σ 20 8 ∧ σ 20 8 < σ 20 7) ∧ σ 20 7 ≤ 128 ∧ σ 32 (σ 20 8) = -1
/-- cs is the text of T's type -/
def TYP (T : Tr) (cs : List Int) : Prop := ∃ S n, SO S ∧ (∃ ρ, VS S.1 S.2.1 ρ) ∧ (0 ≤ n ∧ n < S.2.1) ∧ (∀ s, tyE T false [] s ↔ ∃ ρ, VS S.1 S.2.1 ρ ∧ ρ n = s) ∧ TxT S.1 n cs
theorem TYP.eq {T : Tr} {cs cs' : List Int} (a : TYP T cs) (b : TYP T cs') : cs = cs' := by
  obtain ⟨S, n, W, I, hn, H, t⟩ := a
  obtain ⟨S', n', W', I', hn', H', t'⟩ := b
  exact txt_eq W W' I I' hn hn' (fun g => (H g).symm.trans (H' g)) t t'
def ldP (i : Nat) : Bool := rdP i || ckP i
def frL0 (σ σ' : Mem) : Prop := ∀ i, ldP i = false → σ' i = σ i
/-- what the class holds after a load -/
def cLd (σ σ' : Mem) (T : Tr) (cs : List Int) : Prop := (∀ i, ldP i = false → i ≠ 1 → i ≠ 2 → i ≠ 54 → i ≠ 57 → (i < 20 ∨ 34 < i) → σ' i = σ i) ∧ σ' 2 1 = 0 ∧ σ' 1 8 = cs.length ∧ (∀ i : Nat, i < cs.length → σ' 57 i = cs.getD i 0) ∧ (1 ≤ cs.length ∧ cs.length ≤ 80) ∧ TYP T cs ∧ PGm σ' T ∧ σ' 54 2 = 0 ∧ σ' 54 3 = σ' 20 8 ∧ σ' 54 4 = 0 ∧ σ' 54 7 = 1 ∧ σ' 54 8 = 0 ∧ σ' 54 9 = 0 ∧ σ' 54 10 = σ 54 10
theorem chr_end {σ : Mem} (H : LI σ) : endN (chr σ) (σ 2 1) := fun z hz => by unfold chr; exact if_pos hz
theorem PGm.of {σ2 σ4 σ5 : Mem} {T : Tr} (t : isT σ2 5 0 (σ2 5 7) T (σ2 5 8)) (r : 0 ≤ σ2 5 8 ∧ σ2 5 8 < σ2 5 7) (c : σ2 5 7 ≤ 128) (G : PP σ2) (k : σ2 17 (σ2 5 8) = -1) (e7 : σ4 20 7 = σ2 5 7) (e8 : σ4 20 8 = σ2 5 8) (e : ∀ x, 0 ≤ x → x < 128 → σ4 22 x = σ2 7 x ∧ σ4 24 x = σ2 9 x ∧ σ4 26 x = σ2 11 x ∧ σ4 28 x = σ2 13 x ∧ σ4 30 x = σ2 15 x ∧ σ4 32 x = σ2 17 x ∧ σ4 34 x = σ2 19 x) (o : ∀ i, 20 ≤ i → i ≤ 34 → σ5 i = σ4 i) : PGm σ5 T := by
  have s57 : shf σ5 5 7 = σ2 5 7 := (congrFun (o 20 (by decide) (by decide)) 7).trans e7
  have s58 : shf σ5 5 8 = σ2 5 8 := (congrFun (o 20 (by decide) (by decide)) 8).trans e8
  have ro : ∀ x, 0 ≤ x → x < σ2 5 7 → (shf σ5 7 x = σ2 7 x ∧ shf σ5 9 x = σ2 9 x ∧ shf σ5 11 x = σ2 11 x ∧ shf σ5 13 x = σ2 13 x ∧ shf σ5 15 x = σ2 15 x ∧ shf σ5 17 x = σ2 17 x) := fun x x0 x1 => by
    obtain ⟨a1, a2, a3, a4, a5, a6, -⟩ := e x x0 (by omega)
    exact ⟨(congrFun (o 22 (by decide) (by decide)) x).trans a1, (congrFun (o 24 (by decide) (by decide)) x).trans a2, (congrFun (o 26 (by decide) (by decide)) x).trans a3, (congrFun (o 28 (by decide) (by decide)) x).trans a4, (congrFun (o 30 (by decide) (by decide)) x).trans a5, (congrFun (o 32 (by decide) (by decide)) x).trans a6⟩
  have q7 : σ5 20 7 = σ2 5 7 := s57
  have q8 : σ5 20 8 = σ2 5 8 := s58
  refine ⟨?_, ?_, ?_, ?_, ?_⟩
  · rw [s57, s58]
    exact isT.mv (Int.le_refl _) (Int.le_refl _) (fun x x0 x1 => by
      obtain ⟨a1, a2, a3, a4, a5, -⟩ := ro x x0 x1
      exact ⟨a1, a2, a3, a4, a5⟩) t
  · refine G.mv s57 (fun x x0 x1 j hj => ?_)
    obtain ⟨a1, a2, a3, a4, a5, a6⟩ := ro x x0 x1
    rcases hj with rfl | rfl | rfl | rfl | rfl
    · exact a1
    · exact a3
    · exact a4
    · exact a5
    · exact a6
  · rw [q7, q8]; exact r
  · rw [q7]; exact c
  · rw [q8]
    exact ((ro _ r.1 r.2).2.2.2.2.2).trans k
section CLD
variable {d : Nat} {h : mHp} {σ : Mem}
theorem c_load (H : LI σ) (h37 : ∀ k, k < 0 ∨ 26 ≤ k → σ 37 k = 0) (M : RM σ) (S : Sh h) : ∃ σ', (∀ k, σ' 37 k = 0) ∧ RM σ' ∧ match pLine (chr σ) with
    | none => Ru (d + 351) yF_load [.ref 1] (put h σ) (.inr 0, put (hNew h 200 6 (fun _ => .null)) σ') ∧ frL0 σ σ'
    | some T => (clo T (fun _ => false) = false ∧ Ru (d + 351) yF_load [.ref 1] (put h σ) (.inr 1, put (hNew h 200 6 (fun _ => .null)) σ') ∧ frL0 σ σ') ∨ (clo T (fun _ => false) = true ∧ (∀ s, ¬ tyE T true [] s) ∧ Ru (d + 351) yF_load [.ref 1] (put h σ) (.inr 2, put (hNew h 200 6 (fun _ => .null)) σ') ∧ frL0 σ σ') ∨ (clo T (fun _ => false) = true ∧ (∃ s, tyE T true [] s) ∧ ∃ cs : List Int, Ru (d + 351) yF_load [.ref 1] (put h σ) (.inl (some (vi cs.length)), put (hSet (bgH h) 1 9 .null) σ') ∧ cLd σ σ' T cs) := by
  obtain ⟨b, σ1, R1, f1, z1, I1, ok⟩ := s_reads H h37
  have R1 : Rn (d + 350) yRd_reads [.ref 35] σ (some b) σ1 := R1.deep (by omega)
  have M1 := (R1 M).1
  have F1 : frL0 σ σ1 := fun i hi => f1 i (by unfold ldP at hi; rw [Bool.or_eq_false_iff] at hi; exact hi.1)
  have en := chr_end H
  cases hp : pLine (chr σ) with
  | none =>
    rw [hp] at ok
    cases (show b = 0 from ok)
    exact ⟨σ1, z1, M1, fl_0 M S R1, F1⟩
  | some T =>
    rw [hp] at ok
    obtain ⟨rfl, t, r, G, k, u⟩ := (show b = 1 ∧ isT σ1 5 0 (σ1 5 7) T (σ1 5 8) ∧ (0 ≤ σ1 5 8 ∧ σ1 5 8 < σ1 5 7) ∧ PQ σ1 ∧ σ1 17 (σ1 5 8) = -1 ∧ (σ1 35 5 ≠ 0 ↔ clo T (fun _ => false) = false) from ok)
    obtain ⟨he, hw, h5, hl, -, -⟩ := pLine_all en H.1 H.2.1 hp
    cases hc : clo T (fun _ => false) with
    | false => exact ⟨σ1, z1, M1, Or.inl ⟨hc, fl_1 M S R1 (u.mpr hc), F1⟩⟩
    | true =>
      have b5 : σ1 35 5 = 0 := by
        by_cases q : σ1 35 5 = 0
        · exact q
        · have := u.mp q; rw [hc] at this; cases this
      have c8 := I1.2.2.2
      obtain ⟨b2, σ2, R2, f2, res⟩ := s_accepts (d := d) t c8 G hw h5 he hc hl (fun _ => M1 44 _)
      have M2 := (R2 M1).1
      have F2 : frL0 σ σ2 := fun i hi => (f2.1 i (by unfold ldP at hi; rw [Bool.or_eq_false_iff] at hi; exact hi.2)).trans (F1 i hi)
      have z2 : ∀ k, σ2 37 k = 0 := fun k => by rw [f2.1 37 rfl]; exact z1 k
      rcases res with ⟨rfl, no⟩ | ⟨rfl, T2, rt, ex, iff, wd⟩
      · exact ⟨σ2, z2, M2, Or.inr (Or.inl ⟨hc, no, fl_2 M S R1 b5 R2, F2⟩)⟩
      · obtain ⟨t5, t7, t9, t11, t13, t15, t17⟩ := f2.tre
        have x8 : σ2 5 8 = σ1 5 8 := by rw [t5]
        have x7 : σ2 5 7 = σ1 5 7 := by rw [t5]
        have er : rowv 128 σ2 19 (σ2 5 8) = σ2 19 (σ1 5 8) := by rw [x8]; exact if_pos ⟨r.1, by omega⟩
        obtain ⟨σ3, cs, R3, f3, g3, tx, lc, tc⟩ := s_write (d := d + 300) T2 rt wd
        have R3 : Rn (d + 350) yTy_write [.ref 38, vi (rowv 128 σ2 19 (σ2 5 8)), .ref 56] σ2 (some (cs.length : Int)) σ3 := by rw [er]; exact R3
        obtain ⟨σ4, R4, f4, e7, e8, e⟩ := s_trcopy (d := d + 347) (mup σ3 1 8 cs.length)
        have run := fl_3 (h := h) M S R1 b5 R2 (M2 5 8) R3 R4
        have M3 := (R3 M2).1
        have gn : rg (cs.length : Int) := (R3 M2).2.1 _ rfl
        have M4 := (R4 (M3.up gn)).1
        have ob : ∀ i, i ≠ 54 → i ≠ 2 → (mup (bgM σ4) 2 1 0) i = σ4 i := fun i h1 h2 => by
          rw [mup_obj h2]
          unfold bgM
          rw [mup_obj h1, mup_obj h1, mup_obj h1, mup_obj h1, mup_obj h1, mup_obj h1]
        have nx : ∀ i, (i < 20 ∨ 34 < i) → i ≠ 1 → i ≠ 2 → i ≠ 54 → i ≠ 38 → i ≠ 46 → i ≠ 48 → i ≠ 57 → (mup (bgM σ4) 2 1 0) i = σ2 i := fun i h1 h2 h3 h4 h5 h6 h7 h8 => by
          rw [ob i h4 h3, f4 i (by omega) (by omega) (by omega) (by omega) (by omega) (by omega) (by omega) (by omega), mup_obj h2]
          exact f3 i h5 h6 h7 h8
        have a18 : (mup (bgM σ4) 2 1 0) 1 8 = cs.length := by
          rw [ob 1 (by decide) (by decide), f4 1 (by decide) (by decide) (by decide) (by decide) (by decide) (by decide) (by decide) (by decide), mup_eq]
        rw [a18] at run
        have b5' : ∀ k, k ≠ 2 → k ≠ 3 → k ≠ 4 → k ≠ 7 → k ≠ 8 → k ≠ 9 → (mup (bgM σ4) 2 1 0) 54 k = σ2 54 k := fun k h2 h3 h4 h7 h8 h9 => by
          rw [mup_obj (by decide)]
          unfold bgM
          rw [mup_nk h9, mup_nk h8, mup_nk h7, mup_nk h4, mup_nk h3, mup_nk h2, f4 54 (by decide) (by decide) (by decide) (by decide) (by decide) (by decide) (by decide) (by decide), mup_obj (by decide), f3 54 (by decide) (by decide) (by decide) (by decide)]
        have m5 : ∀ i, i ≠ 1 → i ≠ 38 → i ≠ 46 → i ≠ 48 → i ≠ 57 → (mup σ3 1 8 (cs.length : Int)) i = σ2 i := fun i h1 h2 h3 h4 h5 => (mup_obj h1).trans (f3 i h2 h3 h4 h5)
        have pg : PGm (mup (bgM σ4) 2 1 0) T := by
          refine PGm.of (σ2 := mup σ3 1 8 (cs.length : Int)) (σ4 := σ4) ?_ ?_ ?_ ?_ ?_ e7 e8 e (fun i h1 h2 => ob i (by omega) (by omega))
          · rw [m5 5 (by decide) (by decide) (by decide) (by decide) (by decide), x7, x8]
            exact isT.mv (Int.le_refl _) (Int.le_refl _) (fun x _ _ => ⟨by rw [m5 7 (by decide) (by decide) (by decide) (by decide) (by decide), t7], by rw [m5 9 (by decide) (by decide) (by decide) (by decide) (by decide), t9], by rw [m5 11 (by decide) (by decide) (by decide) (by decide) (by decide), t11], by rw [m5 13 (by decide) (by decide) (by decide) (by decide) (by decide), t13], by rw [m5 15 (by decide) (by decide) (by decide) (by decide) (by decide), t15]⟩) t
          · rw [m5 5 (by decide) (by decide) (by decide) (by decide) (by decide), x7, x8]; exact r
          · rw [m5 5 (by decide) (by decide) (by decide) (by decide) (by decide), x7]; exact c8
          · refine G.1.mv (by rw [m5 5 (by decide) (by decide) (by decide) (by decide) (by decide), t5]) (fun x _ _ j hj => ?_)
            rcases hj with rfl | rfl | rfl | rfl | rfl
            · rw [m5 7 (by decide) (by decide) (by decide) (by decide) (by decide), t7]
            · rw [m5 11 (by decide) (by decide) (by decide) (by decide) (by decide), t11]
            · rw [m5 13 (by decide) (by decide) (by decide) (by decide) (by decide), t13]
            · rw [m5 15 (by decide) (by decide) (by decide) (by decide) (by decide), t15]
            · rw [m5 17 (by decide) (by decide) (by decide) (by decide) (by decide), t17]
          · rw [m5 5 (by decide) (by decide) (by decide) (by decide) (by decide), x8, m5 17 (by decide) (by decide) (by decide) (by decide) (by decide), t17]; exact k
        refine ⟨mup (bgM σ4) 2 1 0, fun k => ?_, (bg_M M4).up (rgk rfl), Or.inr (Or.inr ⟨hc, ex, cs, run, ?_⟩)⟩
        · rw [nx 37 (by decide) (by decide) (by decide) (by decide) (by decide) (by decide) (by decide) (by decide)]; exact z2 k
        refine ⟨fun i hi h1 h2 h54 h57 h20 => ?_, mup_eq, a18, fun i hi => ?_, lc, ?_, pg, ?_, ?_, ?_, ?_, ?_, ?_, ?_⟩
        · have q : ∀ j, ldP j = true → i ≠ j := fun j hj e => by rw [e, hj] at hi; cases hi
          rw [nx i h20 h1 h2 h54 (q 38 rfl) (q 46 rfl) (q 48 rfl) h57]
          exact F2 i hi
        · rw [ob 57 (by decide) (by decide), f4 57 (by decide) (by decide) (by decide) (by decide) (by decide) (by decide) (by decide) (by decide), mup_obj (by decide)]
          exact tc i hi
        · exact ⟨tS σ2, _, T2.so, T2.1.2.2.2.2.2, rt, iff, tx⟩
        · rw [mup_obj (by decide)]; unfold bgM
          rw [mup_nk (by decide), mup_nk (by decide), mup_nk (by decide), mup_nk (by decide), mup_nk (by decide), mup_eq]
        · rw [ob 20 (by decide) (by decide), mup_obj (by decide)]; unfold bgM
          rw [mup_nk (by decide), mup_nk (by decide), mup_nk (by decide), mup_nk (by decide), mup_eq]
        · rw [mup_obj (by decide)]; unfold bgM
          rw [mup_nk (by decide), mup_nk (by decide), mup_nk (by decide), mup_eq]
        · rw [mup_obj (by decide)]; unfold bgM
          rw [mup_nk (by decide), mup_nk (by decide), mup_eq]
        · rw [mup_obj (by decide)]; unfold bgM
          rw [mup_nk (by decide), mup_eq]
        · rw [mup_obj (by decide)]; unfold bgM
          rw [mup_eq]
        · rw [b5' 10 (by decide) (by decide) (by decide) (by decide) (by decide) (by decide), F2 54 rfl]
end CLD
