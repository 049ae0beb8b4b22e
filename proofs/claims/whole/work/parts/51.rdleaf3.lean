/-! The class's reader: numerals, names that are used, signs. -/
theorem mup_cm {σ : Mem} {i : Nat} {k l u v : Int} (h : k ≠ l) : mup (mup σ i k u) i l v = mup (mup σ i l v) i k u := by
  funext a b
  unfold mup
  by_cases e : a = i
  · simp only [if_pos e]
    by_cases q : b = l
    · rw [if_pos q, if_neg (by omega), if_pos q]
    · rw [if_neg q]
      split
      · rfl
      · rfl
  · simp only [if_neg e]
theorem pow_one_le (n : Nat) : (1 : Int) ≤ 10 ^ n := by
  have e : ((10 ^ n : Nat) : Int) = (10 : Int) ^ n := by simp
  have : 0 < 10 ^ n := Nat.pow_pos (by decide)
  omega
section NUM
variable {d : Nat} {σ : Mem}
/-- a leaf over any memory that is broken -/
theorem leaf_on {m : Mem} {ki z : Int} {P : Option (Tr × Int)} (f : frR σ m) (i : RI m) (h37 : m 37 = σ 37) (hb : m 35 4 ≠ 0) (rk : rg ki) (hz : rg z) (hP : σ 35 4 = 0 → P = none) : ∃ v σ', Rn (d + 3) yTr_addLeaf [.ref 5, vi ki, vi z] m (some v) σ' ∧ EO P σ σ' v := by
  obtain ⟨v, σ', r, i1, f1, gv⟩ := leaf_any (d := d) i rk hz
  have f35 : σ' 35 = m 35 := f1 35 rfl
  have hb' : σ' 35 4 ≠ 0 := by rw [f35]; exact hb
  exact ⟨v, σ', r, gv, f.tr (fun i hi => f1 i (trP_rd hi)), i1, (f1 37 rfl).trans h37, fun _ => hb', fun h _ => by rw [hP h]; exact hb'⟩
theorem num_l {m s' : Mem} {x1 v : Int} (hx : 0 ≤ x1 ∧ x1 ≤ 100000) : ∀ (n : Nat) (t i : Int), (i + n = 3 ∨ (n = 0 ∧ 3 ≤ i)) → 0 ≤ i ∧ i ≤ 5 → 0 ≤ t → t * 10 ^ n ≤ 100000 → Rn (d + 3) yTr_addLeaf [.ref 5, vi 1, vi (x1 * 1000 + t * 10 ^ n)] m (some v) s' → Lb (d + 3) yRd_numeral 61 [(0, .ref 35), (1, vi x1), (3, vi t), (4, vi i)] [] m (some v) s'
  | 0, t, i, hi, h5, ht, hb, hr => by
    rw [Int.pow_zero, Int.mul_one] at hb hr
    refine K_Rd_numeral_61 ⟨by omega, by omega⟩ ⟨by omega, by omega⟩ ⟨by omega, by omega⟩ ?_
    unfold B_Rd_numeral_61
    rw [if_pos (by omega)]
    exact ⟨v, s', hr, rfl, rfl⟩
  | n + 1, t, i, hi, h5, ht, hb, hr => by
    have e : t * 10 ^ (n + 1) = (t * 10) * 10 ^ n := by rw [Int.pow_succ, Int.mul_comm (10 ^ n) 10, Int.mul_assoc]
    rw [e] at hb hr
    have p1 : (1 : Int) ≤ 10 ^ n := pow_one_le n
    have p2 : t * 10 * 1 ≤ t * 10 * 10 ^ n := Int.mul_le_mul_of_nonneg_left p1 (by omega)
    refine K_Rd_numeral_61 ⟨by omega, by omega⟩ ⟨by omega, by omega⟩ ⟨by omega, by omega⟩ ?_
    unfold B_Rd_numeral_61
    rw [if_neg (by omega)]
    exact ⟨⟨by omega, by omega⟩, ⟨by omega, by omega⟩, num_l hx n (t * 10) (i + 1) (by omega) (by omega) (by omega) hb hr⟩
theorem dgM_ok {most : Int} {r : Int × Int × Int} (h : ¬ (r.2.1 = 0 ∨ most < r.2.1)) : dgM σ most r = Wq σ r.2.2 := if_neg h
theorem dgM_no {most : Int} {r : Int × Int × Int} (h : r.2.1 = 0 ∨ most < r.2.1) : dgM σ most r = mup (Wq σ r.2.2) 35 4 1 := if_pos h
theorem brk_b {q : Int} : mup (Wq σ q) 35 4 1 = Wq (mup σ 35 4 1) q := mup_cm (by decide)
theorem chr_b : chr (mup σ 35 4 1) = chr σ := (frR.mu rfl).chr
theorem dgM_f {most : Int} {r : Int × Int × Int} (H : RI σ) (h : inL σ r.2.2) : frR σ (dgM σ most r) ∧ RI (dgM σ most r) ∧ (dgM σ most r) 37 = σ 37 ∧ (σ 35 4 ≠ 0 → (dgM σ most r) 35 4 ≠ 0) ∧ (dgM σ most r) 35 3 = r.2.2 := by
  unfold dgM
  split
  · refine ⟨Wq_f.tr (frR.mu rfl), (H.at h.1 h.2).br, ?_, ?_, ?_⟩
    · rw [mup_obj (by decide)]; exact Wq_o (by decide)
    · intro _; rw [mup_eq]; decide
    · rw [mup_nk (by decide)]; exact Wq_at
  · refine ⟨Wq_f, H.at h.1 h.2, Wq_o (by decide), ?_, Wq_at⟩
    intro h; rw [Wq_k (by decide)]; exact h
theorem s_numeral (H : RI σ) : ∃ v σ', Rn (d + 6) yRd_numeral [.ref 35] σ (some v) σ' ∧ EO (pNum (chr σ) (σ 35 3)) σ σ' v := by
  have L := H.1
  have h0 := H.inl
  have mm := L.2.1
  obtain ⟨a1, a2, a3⟩ := dgf_in L 5 0 0 (σ 35 3) h0
  obtain ⟨k1, b1, b2, b3, b4⟩ := dgf_val (ch := chr σ) 5 0 0 0 (σ 35 3) (by omega) (by decide) rfl
  have D1 := s_digits (d := d) (x1 := 4) (most := 4) rfl (by omega) H h0
  rw [W_id] at D1
  have e1 : (4 : Nat) + 1 = 5 := rfl
  rw [e1] at D1
  have p1 := ten_pow (k := k1) (by omega)
  generalize hr1 : dgf (chr σ) 5 0 0 (σ 35 3) = r1 at *
  have P0 : pDg (chr σ) 4 (σ 35 3) = if r1.2.1 = 0 ∨ 4 < r1.2.1 then none else some (r1.1, r1.2.2) := by
    unfold pDg; rw [e1, hr1]; rfl
  obtain ⟨f1, i1, z1, w1, q1⟩ := dgM_f (most := 4) (r := r1) H a1
  have ch1 : chr (dgM σ 4 r1) = chr σ := f1.chr
  have PE : ∀ (c46 : chr σ r1.2.2 = 46), (r1.2.1 = 0 ∨ 4 < r1.2.1) → pNum (chr σ) (σ 35 3) = none := fun c46 c => by
    unfold pNum; rw [P0, if_pos c]
  by_cases c46 : chr σ r1.2.2 = 46
  · have hn := inL.cn L (q := r1.2.2) (by rw [c46]; decide)
    -- the memory that the second row of digits begins with, as base and place
    have base : ∃ β : Mem, mup (dgM σ 4 r1) 35 3 (r1.2.2 + 1) = Wq β (r1.2.2 + 1) ∧ RI β ∧ frR σ β ∧ β 37 = σ 37 ∧ chr β = chr σ ∧ ((r1.2.1 = 0 ∨ 4 < r1.2.1) → β 35 4 ≠ 0) ∧ (¬ (r1.2.1 = 0 ∨ 4 < r1.2.1) → β = σ) ∧ (σ 35 4 ≠ 0 → β 35 4 ≠ 0) := by
      by_cases c : r1.2.1 = 0 ∨ 4 < r1.2.1
      · refine ⟨mup σ 35 4 1, ?_, H.br, frR.mu rfl, mup_obj (by decide), chr_b, fun _ => by rw [mup_eq]; decide, fun h => absurd c h, fun _ => by rw [mup_eq]; decide⟩
        rw [dgM_no c, brk_b, mup_mup]
      · refine ⟨σ, ?_, H, frR.rf, rfl, rfl, fun h => absurd h c, fun _ => rfl, id⟩
        rw [dgM_ok c, mup_mup]
    obtain ⟨β, eB, iB, fB, zB, cB, bB, oB, kB⟩ := base
    have hnB : inL β (r1.2.2 + 1) := by
      have := fB 2 rfl
      exact ⟨hn.1, by rw [this]; exact hn.2⟩
    have D2 := s_digits (d := d) (x1 := 3) (most := 3) rfl (by omega) iB hnB
    have e2 : (3 : Nat) + 1 = 4 := rfl
    rw [e2, cB] at D2
    obtain ⟨a4, a5, a6⟩ := dgf_in iB.1 4 0 0 (r1.2.2 + 1) hnB
    obtain ⟨k2, b5, b6, b7, b8⟩ := dgf_val (ch := chr σ) 4 0 0 0 (r1.2.2 + 1) (by omega) (by decide) rfl
    rw [cB] at a4 a5 a6
    have p2 := ten_pow (k := k2) (by omega)
    generalize hr2 : dgf (chr σ) 4 0 0 (r1.2.2 + 1) = r2 at *
    have P1 : pDg (chr σ) 3 (r1.2.2 + 1) = if r2.2.1 = 0 ∨ 3 < r2.2.1 then none else some (r2.1, r2.2.2) := by
      unfold pDg; rw [e2, hr2]; rfl
    obtain ⟨f2, i2, z2, w2, q2⟩ := dgM_f (most := 3) (r := r2) iB a4
    -- how many tens
    have hk : ∃ n : Nat, ((r2.2.1 + n = 3 ∨ (n = 0 ∧ 3 ≤ r2.2.1)) ∧ r2.1 * 10 ^ n ≤ 100000 ∧ (¬ (r2.2.1 = 0 ∨ 3 < r2.2.1) → r2.1 * 10 ^ n = ten r2.1 r2.2.1)) := by
      have hk4 : k2 ≤ 4 := by omega
      rcases Nat.lt_or_ge k2 3 with hlt | hge
      · refine ⟨3 - k2, Or.inl (by rw [b5]; omega), ?_, ?_⟩
        · have : k2 = 0 ∨ k2 = 1 ∨ k2 = 2 := by omega
          rcases this with rfl | rfl | rfl <;> simp at b8 ⊢ <;> omega
        · intro _
          rw [b5]
          have : k2 = 0 ∨ k2 = 1 ∨ k2 = 2 := by omega
          rcases this with rfl | rfl | rfl
          · simp at b8; have : r2.1 = 0 := by omega
            rw [this]; rfl
          · unfold ten; simp
          · unfold ten; simp
      · refine ⟨0, Or.inr ⟨rfl, by omega⟩, by rw [Int.pow_zero, Int.mul_one]; omega, ?_⟩
        intro _
        rw [Int.pow_zero, Int.mul_one, b5]
        unfold ten
        rw [if_neg (by omega), if_neg (by omega)]
    obtain ⟨n, hn1, hn2, hn3⟩ := hk
    have hz : rg (r1.1 * 1000 + r2.1 * 10 ^ n) := by
      have : 0 ≤ r2.1 * 10 ^ n := Int.mul_nonneg b7 (by have := pow_one_le n; omega)
      exact ⟨by omega, by omega⟩
    have key : ∃ v σ', Rn (d + 3) yTr_addLeaf [.ref 5, vi 1, vi (r1.1 * 1000 + r2.1 * 10 ^ n)] (dgM β 3 r2) (some v) σ' ∧ EO (pNum (chr σ) (σ 35 3)) σ σ' v := by
      by_cases c : r1.2.1 = 0 ∨ 4 < r1.2.1
      · exact leaf_on (fB.tr f2) i2 (z2.trans zB) (w2 (bB c)) (rgk rfl) hz (fun _ => PE c46 c)
      · have eβ := oB c
        subst eβ
        by_cases c2 : r2.2.1 = 0 ∨ 3 < r2.2.1
        · refine leaf_on f2 i2 z2 (by rw [dgM_no c2, mup_eq]; decide) (rgk rfl) hz (fun _ => ?_)
          unfold pNum; rw [P0, if_neg c]; dsimp only; rw [if_pos c46, P1, if_pos c2]
        · rw [dgM_ok c2]
          refine EO.leaf (k := 1) (ki := 1) H a4 (by omega) rfl (rgk rfl) hz (fun _ => ?_) (by decide) (by decide)
          unfold pNum; rw [P0, if_neg c]; dsimp only; rw [if_pos c46, P1, if_neg c2]; dsimp only
          rw [hn3 c2, show r2.2.2 - (r1.2.2 + 1) = r2.2.1 by omega]
    obtain ⟨v, σ', r, E⟩ := key
    refine ⟨v, σ', (M_Rd_numeral (d := d + 1) ⟨r1.1, dgM σ 4 r1, D1, ?_⟩).deep (by omega), E⟩
    rw [ch1, q1, if_pos c46, eB]
    refine ⟨⟨by have := hn.1; omega, by have := hn.2; omega⟩, r2.1, dgM β 3 r2, D2, ?_⟩
    rw [q2]
    refine ⟨⟨by omega, by omega⟩, num_l (d := d + 1) ⟨b3, by omega⟩ n r2.1 (r2.2.2 - (r1.2.2 + 1)) (by omega) (by omega) b7 hn2 (r.deep (by omega))⟩
  · have key : ∃ v σ', Rn (d + 3) yTr_addLeaf [.ref 5, vi 0, vi r1.1] (dgM σ 4 r1) (some v) σ' ∧ EO (pNum (chr σ) (σ 35 3)) σ σ' v := by
      by_cases c : r1.2.1 = 0 ∨ 4 < r1.2.1
      · exact leaf_on f1 i1 z1 (by rw [dgM_no c, mup_eq]; decide) (rgk rfl) ⟨by omega, by omega⟩ (fun _ => by unfold pNum; rw [P0, if_pos c])
      · rw [dgM_ok c]
        refine EO.leaf (k := 0) (ki := 0) H a1 (by omega) rfl (rgk rfl) ⟨by omega, by omega⟩ (fun _ => ?_) (by decide) (by decide)
        unfold pNum; rw [P0, if_neg c]; dsimp only; rw [if_neg c46]
    obtain ⟨v, σ', r, E⟩ := key
    refine ⟨v, σ', (M_Rd_numeral (d := d + 1) ⟨r1.1, dgM σ 4 r1, D1, ?_⟩).deep (by omega), E⟩
    rw [ch1, q1, if_neg c46]
    exact ⟨v, σ', r.deep (by omega), rfl, rfl⟩
theorem s_startsAtom {c : Int} (hc : rg c) : Rn (d + 4) yRd_startsAtom [vi c] σ (some (if stb c = true then 1 else 0)) σ := by
  refine M_Rd_startsAtom hc ?_
  have y : (c = 84 ∨ c = 70 ∨ c = 82 ∨ c = 73 ∨ c = 126 ∨ c = 91 ∨ c = 40 ∨ (48 ≤ c ∧ c ≤ 57) ∨ (97 ≤ c ∧ c ≤ 122)) → (some (if stb c = true then 1 else 0) : Option Int) = some 1 ∧ σ = σ := fun h => ⟨by rw [show stb c = true from decide_eq_true h]; rfl, rfl⟩
  have n : ¬ (c = 84 ∨ c = 70 ∨ c = 82 ∨ c = 73 ∨ c = 126 ∨ c = 91 ∨ c = 40 ∨ (48 ≤ c ∧ c ≤ 57) ∨ (97 ≤ c ∧ c ≤ 122)) → (some (if stb c = true then 1 else 0) : Option Int) = some 0 ∧ σ = σ := fun h => ⟨by rw [show stb c = false from decide_eq_false h]; rfl, rfl⟩
  unfold B_Rd_startsAtom B_Rd_startsAtom_89
  split
  · exact y (by omega)
  split
  · exact y (by omega)
  split
  · exact y (by omega)
  split
  · exact y (by omega)
  split
  · exact y (by omega)
  split
  · exact y (by omega)
  split
  · exact y (by omega)
  by_cases w : 48 ≤ c ∧ c ≤ 57
  · rw [dgt_1 w, if_pos (by decide)]; exact y (by omega)
  rw [dgt_0 w, if_neg (by decide)]
  split
  · exact n (by omega)
  split
  · exact n (by omega)
  · exact y (by omega)
section OP
variable {q u v : Int}
theorem op_n (H : RI σ) (h : inL σ q) (hu : rg u) (hv : rg v) (h1 : nv σ q ≠ u) (h2 : nv σ q ≠ v) : Rn (d + 5) yRd_operator [.ref 35, vi u, vi v] (Wq σ q) (some (-1)) (Wq σ (sk (chr σ) q)) := by
  refine M_Rd_operator (d := d + 1) hu hv ⟨nv σ q, _, next_W H h, ?_⟩
  rw [if_neg h1, if_neg h2]
  split <;> exact ⟨rfl, rfl⟩
theorem op_y (H : RI σ) (h : inL σ q) (hu : rg u) (hv : rg v) (hb : σ 35 4 = 0) (h0 : nx (chr σ) q ≠ -1) (he : nx (chr σ) q = u ∨ nx (chr σ) q = v) : Rn (d + 5) yRd_operator [.ref 35, vi u, vi v] (Wq σ q) (some (if chr σ (sk (chr σ) q + 1) = 46 then nx (chr σ) q + 128 else nx (chr σ) q)) (Wq σ (if chr σ (sk (chr σ) q + 1) = 46 then sk (chr σ) q + 1 + 1 else sk (chr σ) q + 1)) := by
  have L := H.1
  have mm := L.2.1
  have h1 := h.sn L h0
  have rc : -1 ≤ nx (chr σ) q ∧ nx (chr σ) q ≤ 126 := by
    have : nx (chr σ) q = -1 ∨ (32 ≤ nx (chr σ) q ∧ nx (chr σ) q ≤ 126) := L.chr_rg
    omega
  have g : B_Rd_operator_22 (d + 1) (nx (chr σ) q) (Wq σ (sk (chr σ) q)) (some (if chr σ (sk (chr σ) q + 1) = 46 then nx (chr σ) q + 128 else nx (chr σ) q)) (Wq σ (if chr σ (sk (chr σ) q + 1) = 46 then sk (chr σ) q + 1 + 1 else sk (chr σ) q + 1)) := by
    unfold B_Rd_operator_22
    rw [Wq_at, mup_mup, W_chr]
    refine ⟨⟨by have := h1.1; omega, by have := h1.2; omega⟩, ?_⟩
    by_cases c : chr σ (sk (chr σ) q + 1) = 46
    · have h2 := inL.cn L (q := sk (chr σ) q + 1) (by rw [c]; decide)
      rw [if_pos c, if_pos c, if_pos c, mup_mup]
      exact ⟨⟨by have := h2.1; omega, by have := h2.2; omega⟩, ⟨by omega, by omega⟩, rfl, rfl⟩
    · rw [if_neg c, if_neg c, if_neg c]
      exact ⟨rfl, rfl⟩
  refine M_Rd_operator (d := d + 1) hu hv ⟨nv σ q, _, next_W H h, ?_⟩
  rw [nv_u hb, if_neg h0]
  by_cases e : nx (chr σ) q = u
  · rw [if_pos e]; exact g
  · rw [if_neg e, if_pos (by rcases he with w | w; exact absurd w e; exact w)]; exact g
end OP
end NUM
