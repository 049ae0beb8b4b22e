/-! The model's program: what was read is kept, and shown. -/
section MSP
variable {σ : Mem} {d : Nat}
theorem sp_l : ∀ (k : Nat) (x : Int) (σ : Mem), (k : Int) + x = σ 58 7 → 0 ≤ x → σ 58 7 ≤ 124 → ∃ σ', (∀ o s', Lb (d + 3) yMo_startProgram 74 [(0, .ref 58), (1, vi 0)] [] σ' o s' → Lb (d + 3) yMo_startProgram 10 [(0, .ref 58), (1, vi x)] [] σ o s') ∧ (∀ i, i ≠ 63 → i ≠ 64 → i ≠ 65 → i ≠ 75 → σ' i = σ i) ∧ (∀ y, x ≤ y → y < σ 58 7 → σ' 63 y = σ 60 y ∧ σ' 64 y = σ 61 y ∧ σ' 65 y = σ 62 y ∧ σ' 75 y = σ 74 y) ∧ ∀ y, y < x → σ' 63 y = σ 63 y ∧ σ' 64 y = σ 64 y ∧ σ' 65 y = σ 65 y ∧ σ' 75 y = σ 75 y
  | 0, x, σ, hk, h0, h1 => by
    refine ⟨σ, fun o s' h => K_Mo_startProgram_10 ⟨by omega, by omega⟩ ?_, fun _ _ _ _ _ => rfl, fun y a b => by omega, fun _ _ => ⟨rfl, rfl, rfl, rfl⟩⟩
    unfold B_Mo_startProgram_10
    rw [if_pos (by omega)]
    exact h
  | k + 1, x, σ, hk, h0, h1 => by
    generalize hτ : mup (mup (mup (mup σ 63 x (σ 60 x)) 64 x (σ 61 x)) 65 x (σ 62 x)) 75 x (σ 74 x) = τ
    have ob : ∀ i, i ≠ 63 → i ≠ 64 → i ≠ 65 → i ≠ 75 → τ i = σ i := fun i a b c e => by rw [← hτ, mup_obj e, mup_obj c, mup_obj b, mup_obj a]
    have o58 := ob 58 (by decide) (by decide) (by decide) (by decide)
    obtain ⟨σ', l, f, g, w⟩ := sp_l k (x + 1) τ (by rw [o58]; omega) (by omega) (by rw [o58]; exact h1)
    refine ⟨σ', fun o s' h => K_Mo_startProgram_10 ⟨by omega, by omega⟩ ?_, fun i a b c e => (f i a b c e).trans (ob i a b c e), fun y a b => ?_, fun y a => ?_⟩
    · unfold B_Mo_startProgram_10
      rw [if_neg (by omega)]
      exact ⟨by omega, by omega, by omega, by omega, by omega, by omega, by omega, by omega, ⟨by omega, by omega⟩, by rw [hτ]; exact l o s' h⟩
    · by_cases c : y = x
      · obtain ⟨w1, w2, w3, w4⟩ := w x (by omega)
        rw [c, w1, w2, w3, w4, ← hτ]
        refine ⟨?_, ?_, ?_, ?_⟩
        · rw [mup_ne (by decide), mup_ne (by decide), mup_ne (by decide), mup_eq]
        · rw [mup_ne (by decide), mup_ne (by decide), mup_eq]
        · rw [mup_ne (by decide), mup_eq]
        · rw [mup_eq]
      · have q := g y (by omega) (by rw [o58]; exact b)
        rw [ob 60 (by decide) (by decide) (by decide) (by decide), ob 61 (by decide) (by decide) (by decide) (by decide), ob 62 (by decide) (by decide) (by decide) (by decide), ob 74 (by decide) (by decide) (by decide) (by decide)] at q
        exact q
    · obtain ⟨w1, w2, w3, w4⟩ := w y (by omega)
      rw [w1, w2, w3, w4, ← hτ]
      refine ⟨?_, ?_, ?_, ?_⟩
      · rw [mup_ne (by decide), mup_ne (by decide), mup_ne (by decide), mup_nk (by omega)]
      · rw [mup_ne (by decide), mup_ne (by decide), mup_nk (by omega), mup_ne (by decide)]
      · rw [mup_ne (by decide), mup_nk (by omega), mup_ne (by decide), mup_ne (by decide)]
      · rw [mup_nk (by omega), mup_ne (by decide), mup_ne (by decide), mup_ne (by decide)]
theorem sq_l : ∀ (k : Nat) (x : Int) (σ : Mem), (k : Int) + x = σ 58 14 → 0 ≤ x → σ 58 14 ≤ 80 → ∃ σ', (∀ o s', Lb (d + 3) yMo_startProgram 74 [(0, .ref 58), (1, vi (σ 58 14))] [] σ' o s' → Lb (d + 3) yMo_startProgram 74 [(0, .ref 58), (1, vi x)] [] σ o s') ∧ (∀ i, i ≠ 68 → i ≠ 69 → σ' i = σ i) ∧ (∀ y, x ≤ y → y < σ 58 14 → σ' 68 y = σ 66 y ∧ σ' 69 y = σ 67 y) ∧ ∀ y, y < x → σ' 68 y = σ 68 y ∧ σ' 69 y = σ 69 y
  | 0, x, σ, hk, h0, h1 => by
    have e : x = σ 58 14 := by omega
    exact ⟨σ, fun o s' h => by rw [e]; exact h, fun _ _ _ => rfl, fun y a b => by omega, fun _ _ => ⟨rfl, rfl⟩⟩
  | k + 1, x, σ, hk, h0, h1 => by
    generalize hτ : mup (mup σ 68 x (σ 66 x)) 69 x (σ 67 x) = τ
    have ob : ∀ i, i ≠ 68 → i ≠ 69 → τ i = σ i := fun i a b => by rw [← hτ, mup_obj b, mup_obj a]
    have o58 := ob 58 (by decide) (by decide)
    obtain ⟨σ', l, f, g, w⟩ := sq_l k (x + 1) τ (by rw [o58]; omega) (by omega) (by rw [o58]; exact h1)
    refine ⟨σ', fun o s' h => K_Mo_startProgram_74 ⟨by omega, by omega⟩ ?_, fun i a b => (f i a b).trans (ob i a b), fun y a b => ?_, fun y a => ?_⟩
    · unfold B_Mo_startProgram_74
      rw [if_neg (by omega)]
      exact ⟨by omega, by omega, by omega, by omega, ⟨by omega, by omega⟩, by rw [hτ]; exact l o s' (by rw [o58]; exact h)⟩
    · by_cases c : y = x
      · obtain ⟨w1, w2⟩ := w x (by omega)
        rw [c, w1, w2, ← hτ]
        refine ⟨?_, ?_⟩
        · rw [mup_ne (by decide), mup_eq]
        · rw [mup_eq]
      · have q := g y (by omega) (by rw [o58]; exact b)
        rw [ob 66 (by decide) (by decide), ob 67 (by decide) (by decide)] at q
        exact q
    · obtain ⟨w1, w2⟩ := w y (by omega)
      rw [w1, w2, ← hτ]
      refine ⟨?_, ?_⟩
      · rw [mup_ne (by decide), mup_nk (by omega)]
      · rw [mup_nk (by omega), mup_ne (by decide)]
/-- the program that the model keeps -/
theorem s_start (H : MT σ) (hr : 0 ≤ σ 83 0 ∧ σ 83 0 < σ 58 35) (hw : shN (mS σ) (σ 83 0)) (h7 : 0 ≤ σ 58 7 ∧ σ 58 7 ≤ 124) (h14 : 0 ≤ σ 58 14 ∧ σ 58 14 ≤ 80) : ∃ σ' cs, Rn (d + 9) yMo_startProgram [.ref 58] σ none σ' ∧ TxT (mS σ).1 (σ 83 0) cs ∧ (1 ≤ cs.length ∧ cs.length ≤ 80) ∧ (σ' 58 49 = cs.length ∧ ∀ i : Nat, i < cs.length → σ' 88 i = cs.getD i 0) ∧ (∀ i, i ≠ 58 → i ≠ 63 → i ≠ 64 → i ≠ 65 → i ≠ 75 → i ≠ 68 → i ≠ 69 → i ≠ 82 → i ≠ 86 → i ≠ 88 → σ' i = σ i) ∧ (∀ k, k ≠ 2 → k ≠ 11 → k ≠ 49 → k ≠ 51 → k ≠ 54 → k ≠ 57 → k ≠ 58 → k ≠ 61 → k ≠ 63 → k ≠ 64 → k ≠ 65 → k ≠ 66 → k ≠ 67 → σ' 58 k = σ 58 k) ∧ (σ' 58 11 = σ 58 7 ∧ ∀ y, 0 ≤ y → y < σ 58 7 → σ' 63 y = σ 60 y ∧ σ' 64 y = σ 61 y ∧ σ' 65 y = σ 62 y ∧ σ' 75 y = σ 74 y) ∧ (∀ y, 0 ≤ y → y < σ 58 14 → σ' 68 y = σ 66 y ∧ σ' 69 y = σ 67 y) ∧ σ' 58 2 = 0 ∧ σ' 58 51 = 0 ∧ σ' 58 54 = 0 ∧ σ' 58 57 = 0 ∧ σ' 58 58 = 0 ∧ σ' 58 61 = 0 ∧ σ' 58 63 = 0 ∧ σ' 58 64 = 0 ∧ σ' 58 65 = 1 ∧ σ' 58 66 = 0 ∧ σ' 58 67 = 0 := by
  generalize h0 : mup σ 58 11 (σ 58 7) = τ0
  have o0 : ∀ i, i ≠ 58 → τ0 i = σ i := fun i h => by rw [← h0, mup_obj h]
  have k0 : ∀ k, k ≠ 11 → τ0 58 k = σ 58 k := fun k h => by rw [← h0, mup_nk h]
  have e11 : τ0 58 11 = σ 58 7 := by rw [← h0, mup_eq]
  obtain ⟨τ1, l1, f1, g1, -⟩ := sp_l (d := d + 5) (σ 58 7).toNat 0 τ0 (by rw [k0 7 (by decide)]; omega) (Int.le_refl _) (by rw [k0 7 (by decide)]; exact h7.2)
  have t158 : τ1 58 = τ0 58 := f1 58 (by decide) (by decide) (by decide) (by decide)
  obtain ⟨τ2, l2, f2, g2, -⟩ := sq_l (d := d + 5) (σ 58 14).toNat 0 τ1 (by rw [t158, k0 14 (by decide)]; omega) (Int.le_refl _) (by rw [t158, k0 14 (by decide)]; exact h14.2)
  have t258 : τ2 58 = τ0 58 := (f2 58 (by decide) (by decide)).trans t158
  have o2 : ∀ i, i ≠ 58 → i ≠ 63 → i ≠ 64 → i ≠ 65 → i ≠ 75 → i ≠ 68 → i ≠ 69 → τ2 i = σ i := fun i h1 h2 h3 h4 h5 h6 h7 => (f2 i h6 h7).trans ((f1 i h2 h3 h4 h5).trans (o0 i h1))
  obtain ⟨H2, e2⟩ : MT τ2 ∧ mS τ2 = mS σ := H.cg (o2 79 (by decide) (by decide) (by decide) (by decide) (by decide) (by decide) (by decide)) (o2 80 (by decide) (by decide) (by decide) (by decide) (by decide) (by decide) (by decide)) (o2 81 (by decide) (by decide) (by decide) (by decide) (by decide) (by decide) (by decide)) (o2 82 (by decide) (by decide) (by decide) (by decide) (by decide) (by decide) (by decide)) (by rw [t258, k0 35 (by decide)])
  have e83 : τ2 83 0 = σ 83 0 := by rw [o2 83 (by decide) (by decide) (by decide) (by decide) (by decide) (by decide) (by decide)]
  obtain ⟨m3, cs, R3, s1, s2, tx, lc, l49, t88⟩ := s_show (d := d + 3) (n := σ 83 0) H2 (by rw [t258, k0 35 (by decide)]; exact hr) (by rw [e2]; exact hw)
  rw [e2] at tx
  generalize hτ : mup (mup (mup (mup (mup (mup (mup (mup (mup (mup (mup m3 58 2 0) 58 51 0) 58 54 0) 58 57 0) 58 58 0) 58 61 0) 58 63 0) 58 64 0) 58 65 1) 58 66 0) 58 67 0 = σ'
  have ob : ∀ i, i ≠ 58 → σ' i = m3 i := fun i h => by rw [← hτ, mup_obj h, mup_obj h, mup_obj h, mup_obj h, mup_obj h, mup_obj h, mup_obj h, mup_obj h, mup_obj h, mup_obj h, mup_obj h]
  have kb : ∀ k, k ≠ 2 → k ≠ 51 → k ≠ 54 → k ≠ 57 → k ≠ 58 → k ≠ 61 → k ≠ 63 → k ≠ 64 → k ≠ 65 → k ≠ 66 → k ≠ 67 → σ' 58 k = m3 58 k := fun k a1 a2 a3 a4 a5 a6 a7 a8 a9 a10 a11 => by rw [← hτ, mup_nk a11, mup_nk a10, mup_nk a9, mup_nk a8, mup_nk a7, mup_nk a6, mup_nk a5, mup_nk a4, mup_nk a3, mup_nk a2, mup_nk a1]
  refine ⟨σ', cs, M_Mo_startProgram (d := d + 5) ?_, tx, lc, ⟨(kb 49 (by decide) (by decide) (by decide) (by decide) (by decide) (by decide) (by decide) (by decide) (by decide) (by decide) (by decide)).trans l49, fun i hi => by rw [ob 88 (by decide)]; exact t88 i hi⟩, fun i a1 a2 a3 a4 a5 a6 a7 a8 a9 a10 => by rw [ob i a1, s1 i a1 a8 a9 a10]; exact o2 i a1 a2 a3 a4 a5 a6 a7, fun k a1 a2 a3 a4 a5 a6 a7 a8 a9 a10 a11 a12 a13 => by rw [kb k a1 a4 a5 a6 a7 a8 a9 a10 a11 a12 a13, s2 k a3, t258, k0 k a2], ⟨?_, fun y p q => ?_⟩, fun y p q => ?_, ?_⟩
  · unfold B_Mo_startProgram
    rw [h0]
    refine l1 _ _ (l2 _ _ (K_Mo_startProgram_74 (d := d + 5) ⟨by rw [t158, k0 14 (by decide)]; omega, by rw [t158, k0 14 (by decide)]; omega⟩ ?_))
    unfold B_Mo_startProgram_74
    rw [if_pos (by rw [t258, t158]; exact Int.le_refl _)]
    exact ⟨by decide, m3, by rw [e83]; exact R3, rfl, hτ.symm⟩
  · rw [kb 11 (by decide) (by decide) (by decide) (by decide) (by decide) (by decide) (by decide) (by decide) (by decide) (by decide) (by decide), s2 11 (by decide), t258]; exact e11
  · have q1 := g1 y p (by rw [k0 7 (by decide)]; exact q)
    rw [o0 60 (by decide), o0 61 (by decide), o0 62 (by decide), o0 74 (by decide)] at q1
    rw [ob 63 (by decide), ob 64 (by decide), ob 65 (by decide), ob 75 (by decide), s1 63 (by decide) (by decide) (by decide) (by decide), s1 64 (by decide) (by decide) (by decide) (by decide), s1 65 (by decide) (by decide) (by decide) (by decide), s1 75 (by decide) (by decide) (by decide) (by decide), f2 63 (by decide) (by decide), f2 64 (by decide) (by decide), f2 65 (by decide) (by decide), f2 75 (by decide) (by decide)]
    exact q1
  · have q1 := g2 y p (by rw [t158, k0 14 (by decide)]; exact q)
    rw [f1 66 (by decide) (by decide) (by decide) (by decide), f1 67 (by decide) (by decide) (by decide) (by decide), o0 66 (by decide), o0 67 (by decide)] at q1
    rw [ob 68 (by decide), ob 69 (by decide), s1 68 (by decide) (by decide) (by decide) (by decide), s1 69 (by decide) (by decide) (by decide) (by decide)]
    exact q1
  · rw [← hτ]
    simp [mup]
end MSP
