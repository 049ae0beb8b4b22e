/-! The class's reader: constants, numbers, names, signs. -/
section AT
variable {σ σ' : Mem} {q v : Int} {P : Option (Tr × Int)}
theorem PQ.wq (G : PQ σ) : PQ (Wq σ q) := G.cg (mup_ne (by decide)) (mup_obj (by decide)) (mup_obj (by decide)) (mup_obj (by decide)) (mup_obj (by decide)) (mup_obj (by decide)) (mup_obj (by decide))
theorem GC.wq (G : GC σ) (h : σ 35 3 ≤ q) : GC (Wq σ q) := by
  refine ⟨?_, G.2.wq⟩
  have := G.1
  rw [Wq_at, Wq_o (show 5 ≠ 35 by decide)]; omega
theorem bd_of (h : σ' 37 = σ 37) : bd σ' = bd σ := by unfold bd; rw [h]
/-- the part may begin behind blanks or a sign -/
theorem EO.at (h : EO P (Wq σ q) σ' v) (hq : σ 35 3 ≤ q) : EO P σ σ' v := by
  obtain ⟨h0, h1, h2, h3, h4, h5⟩ := h
  refine ⟨h0, Wq_f.tr h1, h2, h3.trans (Wq_o (by decide)), ?_, ?_⟩
  · intro hb; exact h4 (by rw [Wq_k (by decide)]; exact hb)
  · intro hb g
    have := h5 (by rw [Wq_k (by decide)]; exact hb) (g.wq hq)
    cases P with
    | none => exact this
    | some x =>
      obtain ⟨T, r⟩ := x
      obtain ⟨a1, a2, a3, ⟨b1, b2, b3, b4, b5, b6⟩, a5⟩ := this
      rw [Wq_at] at a3 b1
      rw [Wq_o (show 5 ≠ 35 by decide)] at b1 b2 b3 b6
      rw [bd_of (Wq_o (by decide)), Wq_k (by decide)] at a5
      refine ⟨a1, a2, by omega, ⟨by omega, b2, b3, b4, b5, ?_⟩, a5⟩
      intro x h0 h1
      obtain ⟨c1, c2, c3, c4, c5, c6⟩ := b6 x h0 h1
      exact ⟨c1.trans (mup_ne (by decide)), c2.trans (mup_ne (by decide)), c3.trans (mup_ne (by decide)), c4.trans (mup_ne (by decide)), c5.trans (mup_ne (by decide)), c6.trans (mup_ne (by decide))⟩
/-- a leaf when all is broken already -/
theorem leaf_brk {d : Nat} {ki z : Int} (H : RI σ) (hq : inL σ q) (rk : rg ki) (hz : rg z) (hP : σ 35 4 = 0 → P = none) : ∃ v σ', Rn (d + 3) yTr_addLeaf [.ref 5, vi ki, vi z] (mup (Wq σ q) 35 4 1) (some v) σ' ∧ EO P σ σ' v := by
  obtain ⟨v, σ', r, i1, f1, gv⟩ := leaf_any (d := d) (H.at hq.1 hq.2).br rk hz
  have f35 : σ' 35 = (mup (Wq σ q) 35 4 1) 35 := f1 35 rfl
  have hb : σ' 35 4 ≠ 0 := by rw [f35, mup_eq]; decide
  refine ⟨v, σ', r, gv, ?_, i1, ?_, fun _ => hb, ?_⟩
  · intro i hi
    rw [f1 i (trP_rd hi)]
    exact (Wq_f.tr (frR.mu rfl)) i hi
  · rw [f1 37 rfl, mup_obj (by decide)]; exact Wq_o (by decide)
  · intro h _; rw [hP h]; exact hb
theorem nv_u (h : σ 35 4 = 0) : nv σ q = nx (chr σ) q := if_pos h
theorem nv_b (h : σ 35 4 ≠ 0) : nv σ q = -1 := if_neg h
theorem nv_ne {c : Int} (h : nv σ q = c) (h0 : c ≠ -1) : σ 35 4 = 0 ∧ nx (chr σ) q = c := by
  by_cases hb : σ 35 4 = 0
  · exact ⟨hb, (nv_u hb).symm.trans h⟩
  · rw [nv_b hb] at h; exact absurd h.symm h0
end AT
section CO
variable {d : Nat} {σ : Mem}
theorem sk_lt (H : LI σ) {p : Int} (h : nx (chr σ) p ≠ -1) : p < sk (chr σ) p + 1 := by have := sk_ge (ch := chr σ) (p := p); omega
theorem nv_sk (H : LI σ) {p : Int} (hp : 0 ≤ p) : nv σ (sk (chr σ) p) = nv σ p := by unfold nv; rw [H.nx_sk hp]
theorem s_constant6 (H : RI σ) : ∃ v σ', Rn (d + 6) yRd_constant [.ref 35] σ (some v) σ' ∧ EO (pCon (chr σ) (σ 35 3)) σ σ' v ∧ σ' 35 6 = σ 35 6 := by
  have L := H.1
  have h0 := H.inl
  have hs := h0.skb L
  have ss := L.sk_sk h0.1
  have ns := nv_sk L h0.1
  by_cases c1 : nv σ (σ 35 3) = 84
  · obtain ⟨hb, e⟩ := nv_ne c1 (by decide)
    obtain ⟨v, σ', r, E⟩ := EO.leaf6 (d := d + 2) (k := 2) (ki := 2) (z := 1) (P := pCon (chr σ) (σ 35 3)) H (h0.sn L (by rw [e]; decide)) (sk_lt L (by rw [e]; decide)) rfl (rgk rfl) (rgk rfl) (fun _ => by unfold pCon; rw [if_pos e]) (by decide) (by decide)
    have t1 := takes_yW (d := d) H h0 (c := 84) (rgk rfl) (by decide) c1
    rw [W_id] at t1
    refine ⟨v, σ', M_Rd_constant (d := d + 2) ⟨1, _, t1, ?_⟩, E⟩
    rw [if_neg (by decide)]; exact ⟨v, σ', r, rfl, rfl⟩
  have t1 := takes_nW (d := d) H h0 (c := 84) (rgk rfl) c1
  rw [W_id] at t1
  by_cases c2 : nv σ (σ 35 3) = 70
  · obtain ⟨hb, e⟩ := nv_ne c2 (by decide)
    obtain ⟨v, σ', r, E⟩ := EO.leaf6 (d := d + 2) (k := 2) (ki := 2) (z := 0) (P := pCon (chr σ) (σ 35 3)) H (h0.sn L (by rw [e]; decide)) (sk_lt L (by rw [e]; decide)) rfl (rgk rfl) (rgk rfl) (fun _ => by unfold pCon; rw [if_neg (by rw [e]; decide), if_pos e]) (by decide) (by decide)
    have t2 := takes_yW (d := d) H hs (c := 70) (rgk rfl) (by decide) (ns.trans c2)
    rw [ss] at t2
    refine ⟨v, σ', M_Rd_constant (d := d + 2) ⟨0, _, t1, ?_⟩, E⟩
    rw [if_pos rfl]
    refine ⟨1, _, t2, ?_⟩
    rw [if_neg (by decide)]; exact ⟨v, σ', r, rfl, rfl⟩
  have t2 := takes_nW (d := d) H hs (c := 70) (rgk rfl) (by rw [ns]; exact c2)
  rw [ss] at t2
  by_cases c3 : nv σ (σ 35 3) = 91
  · obtain ⟨hb, e⟩ := nv_ne c3 (by decide)
    have t3 := takes_yW (d := d) H hs (c := 91) (rgk rfl) (by decide) (ns.trans c3)
    rw [ss] at t3
    have h1 := h0.sn L (by rw [e]; decide)
    by_cases c4 : chr σ (sk (chr σ) (σ 35 3) + 1) = 93
    · have h2 := inL.cn L (q := sk (chr σ) (σ 35 3) + 1) (by rw [c4]; decide)
      have lt := sk_lt L (p := σ 35 3) (by rw [e]; decide)
      obtain ⟨v, σ', r, E⟩ := EO.leaf6 (d := d + 2) (k := 3) (ki := 3) (z := 0) (P := pCon (chr σ) (σ 35 3)) H h2 (by omega) rfl (rgk rfl) (rgk rfl) (fun _ => by unfold pCon; rw [if_neg (by rw [e]; decide), if_neg (by rw [e]; decide), if_pos ⟨e, c4⟩, Int.add_assoc]; rfl) (by decide) (by decide)
      refine ⟨v, σ', M_Rd_constant (d := d + 2) ⟨0, _, t1, ?_⟩, E⟩
      rw [if_pos rfl]
      refine ⟨0, _, t2, ?_⟩
      rw [if_pos rfl]
      refine ⟨1, _, t3, ?_⟩
      rw [if_neg (by decide), W_chr, Wq_at, if_neg (by omega)]
      have mm := L.2.1
      refine ⟨⟨by have := h1.1; omega, by have := h1.2; omega⟩, v, σ', ?_, rfl, rfl⟩
      rw [mup_mup]; exact r
    · refine ⟨-1, _, M_Rd_constant (d := d + 2) ⟨0, _, t1, ?_⟩, EO.brk H h1 (rgk rfl) (fun _ => by unfold pCon; rw [if_neg (by rw [e]; decide), if_neg (by rw [e]; decide), if_neg (fun w => c4 w.2)]), (mup_nk (by decide)).trans (Wq_k (by decide))⟩
      rw [if_pos rfl]
      refine ⟨0, _, t2, ?_⟩
      rw [if_pos rfl]
      refine ⟨1, _, t3, ?_⟩
      rw [if_neg (by decide), W_chr, Wq_at, if_pos c4]
      exact ⟨-1, _, s_breakOff (d := d + 1), rfl, rfl⟩
  have t3 := takes_nW (d := d) H hs (c := 91) (rgk rfl) (by rw [ns]; exact c3)
  rw [ss] at t3
  refine ⟨-1, _, M_Rd_constant (d := d + 2) ⟨0, _, t1, ?_⟩, EO.brk H hs (rgk rfl) (fun hb => by rw [nv_u hb] at c1 c2 c3; unfold pCon; rw [if_neg c1, if_neg c2, if_neg (fun w => c3 w.1)]), (mup_nk (by decide)).trans (Wq_k (by decide))⟩
  rw [if_pos rfl]
  refine ⟨0, _, t2, ?_⟩
  rw [if_pos rfl]
  refine ⟨0, _, t3, ?_⟩
  rw [if_pos rfl]
  exact ⟨-1, _, s_breakOff (d := d + 1), rfl, rfl⟩
theorem s_constant (H : RI σ) : ∃ v σ', Rn (d + 6) yRd_constant [.ref 35] σ (some v) σ' ∧ EO (pCon (chr σ) (σ 35 3)) σ σ' v := by
  obtain ⟨v, σ', r, E, -⟩ := s_constant6 (d := d) H
  exact ⟨v, σ', r, E⟩
theorem dgt_1 {c : Int} (h : 48 ≤ c ∧ c ≤ 57) : dgt c = 1 := by unfold dgt; rw [if_neg (by omega), if_neg (by omega)]
theorem dgt_0 {c : Int} (h : ¬ (48 ≤ c ∧ c ≤ 57)) : dgt c = 0 := by
  unfold dgt
  split
  · rfl
  · rw [if_pos (by omega)]
/-- what digits leaves behind -/
def dgM (σ : Mem) (most : Int) (r : Int × Int × Int) : Mem := if r.2.1 = 0 ∨ most < r.2.1 then mup (Wq σ r.2.2) 35 4 1 else Wq σ r.2.2
theorem ten_pow {k : Nat} (h : k ≤ 5) : (10 : Int) ^ k ≤ 100000 := by
  have : (10 : Nat) ^ k ≤ 10 ^ 5 := Nat.pow_le_pow_right (by decide) h
  have e : ((10 ^ k : Nat) : Int) = (10 : Int) ^ k := by simp
  omega
theorem dgf_in (L : LI σ) : ∀ (n : Nat) (v c p : Int), inL σ p → inL σ (dgf (chr σ) n v c p).2.2 ∧ p ≤ (dgf (chr σ) n v c p).2.2 ∧ (dgf (chr σ) n v c p).2.1 = c + ((dgf (chr σ) n v c p).2.2 - p)
  | 0, v, c, p, h => ⟨h, Int.le_refl p, by show c = c + (p - p); omega⟩
  | n + 1, v, c, p, h => by
    unfold dgf
    split
    · next w =>
      obtain ⟨a1, a2, a3⟩ := dgf_in L n (v * 10 + chr σ p - 48) (c + 1) (p + 1) (inL.cn L (by omega))
      exact ⟨a1, by omega, by rw [a3]; omega⟩
    · exact ⟨h, Int.le_refl p, by show c = c + (p - p); omega⟩
theorem dgf_val {ch : Int → Int} : ∀ (n k : Nat) (v c p : Int), 0 ≤ v → v + 1 ≤ 10 ^ k → c = k → ∃ k' : Nat, (dgf ch n v c p).2.1 = k' ∧ k' ≤ k + n ∧ 0 ≤ (dgf ch n v c p).1 ∧ (dgf ch n v c p).1 + 1 ≤ 10 ^ k'
  | 0, k, v, c, p, h0, h1, hc => ⟨k, hc, by omega, h0, h1⟩
  | n + 1, k, v, c, p, h0, h1, hc => by
    unfold dgf
    split
    · next w =>
      obtain ⟨k', a1, a2, a3, a4⟩ := dgf_val n (k + 1) (v * 10 + ch p - 48) (c + 1) (p + 1) (by omega) (by rw [Int.pow_succ]; omega) (by omega)
      exact ⟨k', a1, by omega, a3, a4⟩
    · exact ⟨k, hc, by omega, h0, h1⟩
theorem digits_l {x1 : Int} {most : Nat} (hm : x1 = most) (h4 : most ≤ 4) (H : RI σ) : ∀ (n k : Nat) (v c p : Int), n + k = most + 1 → 0 ≤ v → v + 1 ≤ 10 ^ k → c = k → inL σ p → Lb (d + 3) yRd_digits 4 [(0, .ref 35), (1, vi x1), (2, vi v), (3, vi c)] [] (Wq σ p) (some (dgf (chr σ) n v c p).1) (dgM σ x1 (dgf (chr σ) n v c p))
  | 0, k, v, c, p, hn, h0, h1, hc, hp => by
    have tp := ten_pow (k := k) (by omega)
    refine K_Rd_digits_4 ⟨by omega, by omega⟩ ⟨by omega, by omega⟩ ⟨by omega, by omega⟩ ?_
    unfold B_Rd_digits_4 B_Rd_digits_62 B_Rd_digits_71
    rw [if_pos (by omega), if_neg (by omega), if_neg (by omega)]
    refine ⟨rfl, ?_⟩
    unfold dgM
    rw [if_pos (Or.inr (by show x1 < c; omega))]; rfl
  | n + 1, k, v, c, p, hn, h0, h1, hc, hp => by
    have tp := ten_pow (k := k) (by omega)
    have mm := H.1.2.1
    refine K_Rd_digits_4 ⟨by omega, by omega⟩ ⟨by omega, by omega⟩ ⟨by omega, by omega⟩ ?_
    unfold B_Rd_digits_4 B_Rd_digits_62 B_Rd_digits_71
    rw [if_neg (by omega), W_chr, Wq_at]
    by_cases w : 48 ≤ chr σ p ∧ chr σ p ≤ 57
    · rw [dgt_1 w, if_neg (by decide)]
      have hp1 := inL.cn H.1 (q := p) (by omega)
      have e : dgf (chr σ) (n + 1) v c p = dgf (chr σ) n (v * 10 + chr σ p - 48) (c + 1) (p + 1) := by rw [dgf, if_pos w]
      have ih := digits_l hm h4 H n (k + 1) (v * 10 + chr σ p - 48) (c + 1) (p + 1) (by omega) (by omega) (by rw [Int.pow_succ]; omega) (by omega) hp1
      rw [e, mup_mup]
      exact ⟨⟨by have := hp1.1; omega, by have := hp1.2; omega⟩, ⟨by omega, by omega⟩, ⟨by omega, by omega⟩, ih⟩
    · rw [dgt_0 w, if_pos rfl]
      have e : dgf (chr σ) (n + 1) v c p = (v, c, p) := by rw [dgf, if_neg w]
      rw [e]
      unfold dgM
      by_cases q : c = 0
      · rw [if_pos q, if_pos (Or.inl q)]; exact ⟨rfl, rfl⟩
      · rw [if_neg q, if_pos (by omega), if_neg (by show ¬ (c = 0 ∨ x1 < c); omega)]; exact ⟨rfl, rfl⟩
theorem s_digits {x1 : Int} {most : Nat} (hm : x1 = most) (h4 : most ≤ 4) (H : RI σ) {p : Int} (hp : inL σ p) : Rn (d + 4) yRd_digits [.ref 35, vi x1] (Wq σ p) (some (dgf (chr σ) (most + 1) 0 0 p).1) (dgM σ x1 (dgf (chr σ) (most + 1) 0 0 p)) :=
  M_Rd_digits ⟨by omega, by omega⟩ (digits_l hm h4 H (most + 1) 0 0 0 p (by omega) (by omega) (by decide) rfl hp)
end CO
