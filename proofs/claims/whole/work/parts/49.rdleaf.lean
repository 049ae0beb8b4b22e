/-! The class's reader: what a part comes to (EO); leaves. -/
/-- names of a pattern, from the left -/
def bnd : Tr → List Int
  | .tag k (.nest z (.append a (.append b _))) => if k = 6 then [z] else bnd a ++ bnd b
  | _ => []
def adde (e : Int → Bool) (z : Int) : Int → Bool := fun c => decide (c = z) || e c
def addl (e : Int → Bool) (L : List Int) : Int → Bool := fun c => L.contains c || e c
/-- every name is bound -/
def clo : Tr → (Int → Bool) → Bool
  | .tag k (.nest z (.append a (.append b c))), e =>
    if k = 5 then e z
    else if k = 12 then clo a (adde e z)
    else if k = 13 then clo a e && clo b (adde e z)
    else if k = 14 then clo a (adde e z) && clo b (adde e z)
    else if k = 17 then clo b (addl e (bnd a)) && clo c e
    else clo a e && (clo b e && clo c e)
  | _, _ => true
theorem clo_nd {k : Nat} {z : Int} {a b c : Tr} {e : Int → Bool} : clo (nd k z a b c) e = if k = 5 then e z
    else if k = 12 then clo a (adde e z)
    else if k = 13 then clo a e && clo b (adde e z)
    else if k = 14 then clo a (adde e z) && clo b (adde e z)
    else if k = 17 then clo b (addl e (bnd a)) && clo c e
    else clo a e && (clo b e && clo c e) := rfl
theorem clo_nl {e : Int → Bool} : clo nl e = true := rfl
def bd (σ : Mem) : Int → Bool := fun c => decide (1 ≤ σ 37 (c - 97))
def CB (e : Int) (σ : Mem) : Prop := ∀ x, 0 ≤ x → x < 26 → 0 ≤ σ 37 x ∧ σ 37 x ≤ e
def rt (σ : Mem) (lo x : Int) : Prop := x = -1 ∨ (lo ≤ x ∧ x < σ 5 7 ∧ σ 17 x = -1)
def GC (σ : Mem) : Prop := σ 5 7 ≤ 2 * σ 35 3 ∧ PQ σ
/-- the tree T was read, it stands at v -/
def TO (σ σ' : Mem) (T : Tr) (v : Int) : Prop := σ' 5 7 - 2 * σ' 35 3 ≤ σ 5 7 - 2 * σ 35 3 - 1 ∧ (σ 5 7 ≤ v ∧ v < σ' 5 7) ∧ isT σ' 5 (σ 5 7) (σ' 5 7) T v ∧ σ' 17 v = -1 ∧ PQ σ' ∧ kpB (σ 5 7) σ σ'
def EOm (P : Option (Tr × Int)) (σ σ' : Mem) (v : Int) : Prop := match P with
  | none => σ' 35 4 ≠ 0
  | some (T, q) => σ' 35 4 = 0 ∧ σ' 35 3 = q ∧ σ 35 3 ≤ q ∧ TO σ σ' T v ∧ (σ' 35 5 ≠ 0 ↔ (σ 35 5 ≠ 0 ∨ clo T (bd σ) = false))
def EO (P : Option (Tr × Int)) (σ σ' : Mem) (v : Int) : Prop := rg v ∧ frR σ σ' ∧ RI σ' ∧ σ' 37 = σ 37 ∧ (σ 35 4 ≠ 0 → σ' 35 4 ≠ 0) ∧ (σ 35 4 = 0 → GC σ → EOm P σ σ' v)
abbrev Wq (σ : Mem) (q : Int) : Mem := mup σ 35 3 q
def nv (σ : Mem) (q : Int) : Int := if σ 35 4 = 0 then nx (chr σ) q else -1
section SK2
variable {ch : Int → Int}
theorem skf_stop {m : Int} (H : ∀ x, m ≤ x → ch x ≠ 32) : ∀ (n : Nat) (p : Int), m - p ≤ n → ch (skf ch n p) ≠ 32
  | 0, p, h => H p (by omega)
  | n + 1, p, h => by
    unfold skf
    split
    · exact skf_stop H n (p + 1) (by omega)
    · next e => exact e
end SK2
section WW
variable {d : Nat} {σ : Mem} {q : Int}
theorem LI.stop (H : LI σ) {p : Int} (hp : 0 ≤ p) : nx (chr σ) p ≠ 32 := skf_stop (m := σ 2 1) (fun x hx => by rw [H.chr_end hx]; decide) 60 p (by have := H.2.1; omega)
theorem LI.sk_sk (H : LI σ) {p : Int} (hp : 0 ≤ p) : sk (chr σ) (sk (chr σ) p) = sk (chr σ) p := by
  have h : chr σ (sk (chr σ) p) ≠ 32 := H.stop hp
  show skf (chr σ) 60 (sk (chr σ) p) = _
  rw [skf, if_neg h]
theorem LI.nx_sk (H : LI σ) {p : Int} (hp : 0 ≤ p) : nx (chr σ) (sk (chr σ) p) = nx (chr σ) p := by
  unfold nx; rw [H.sk_sk hp]
theorem Wq_at : Wq σ q 35 3 = q := mup_eq
theorem Wq_k {k : Int} (h : k ≠ 3) : Wq σ q 35 k = σ 35 k := mup_nk h
theorem Wq_o {j : Nat} (h : j ≠ 35) : Wq σ q j = σ j := mup_obj h
theorem Wq_f : frR σ (Wq σ q) := frR.mu rfl
theorem W_chr : chr (Wq σ q) = chr σ := (frR.mu rfl).chr
theorem W_nv : nxv (Wq σ q) = nv σ q := by
  unfold nxv nv
  rw [W_chr, Wq_at, Wq_k (by decide)]
def inL (σ : Mem) (q : Int) : Prop := 0 ≤ q ∧ q ≤ σ 2 1
theorem RI.inl (H : RI σ) : inL σ (σ 35 3) := H.2.1
theorem inL.skb (H : LI σ) (h : inL σ q) : inL σ (sk (chr σ) q) := ⟨Int.le_trans h.1 sk_ge, H.sk_in h.2⟩
theorem inL.sn (H : LI σ) (h : inL σ q) (hn : nx (chr σ) q ≠ -1) : inL σ (sk (chr σ) q + 1) := by
  have h1 := H.chr_lt hn
  exact ⟨by omega, by omega⟩
theorem inL.cn (H : LI σ) (hn : chr σ q ≠ -1) : inL σ (q + 1) := by
  have h1 := H.chr_lt hn
  exact ⟨by omega, by omega⟩
theorem next_W (H : RI σ) (h : inL σ q) : Rn (d + 4) yRd_next [.ref 35] (Wq σ q) (some (nv σ q)) (Wq σ (sk (chr σ) q)) := by
  have := s_next (d := d) (H.at h.1 h.2)
  rwa [W_nv, W_chr, mup_eq, mup_mup] at this
theorem takes_yW {c : Int} (H : RI σ) (h : inL σ q) (hc : rg c) (h0 : c ≠ -1) (he : nv σ q = c) : Rn (d + 5) yRd_takes [.ref 35, vi c] (Wq σ q) (some 1) (Wq σ (sk (chr σ) q + 1)) := by
  have := takes_y (d := d) (H.at h.1 h.2) hc h0 (W_nv.trans he)
  rwa [W_chr, mup_eq, mup_mup] at this
theorem takes_nW {c : Int} (H : RI σ) (h : inL σ q) (hc : rg c) (he : nv σ q ≠ c) : Rn (d + 5) yRd_takes [.ref 35, vi c] (Wq σ q) (some 0) (Wq σ (sk (chr σ) q)) := by
  have := takes_n (d := d) (H.at h.1 h.2) hc (by rw [W_nv]; exact he)
  rwa [W_chr, mup_eq, mup_mup] at this
theorem expect_yW {c : Int} (H : RI σ) (h : inL σ q) (hc : rg c) (h0 : c ≠ -1) (he : nv σ q = c) : Rn (d + 6) yRd_expect [.ref 35, vi c] (Wq σ q) none (Wq σ (sk (chr σ) q + 1)) := by
  have := expect_y (d := d) (H.at h.1 h.2) hc h0 (W_nv.trans he)
  rwa [W_chr, mup_eq, mup_mup] at this
theorem expect_nW {c : Int} (H : RI σ) (h : inL σ q) (hc : rg c) (he : nv σ q ≠ c) : Rn (d + 6) yRd_expect [.ref 35, vi c] (Wq σ q) none (mup (Wq σ (sk (chr σ) q)) 35 4 1) := by
  have := expect_n (d := d) (H.at h.1 h.2) hc (by rw [W_nv]; exact he)
  rwa [W_chr, mup_eq, mup_mup] at this
theorem W_id : Wq σ (σ 35 3) = σ := mup_id
/-- broken off -/
theorem EO.brk {P : Option (Tr × Int)} {v : Int} (H : RI σ) (h : inL σ q) (hv : rg v) (hP : σ 35 4 = 0 → P = none) : EO P σ (mup (Wq σ q) 35 4 1) v := by
  refine ⟨hv, (frR.mu rfl).tr (frR.mu rfl), (H.at h.1 h.2).br, ?_, ?_, ?_⟩
  · rw [mup_obj (by decide), Wq_o (by decide)]
  · intro _; rw [mup_eq]; decide
  · intro hb _
    rw [hP hb]
    show mup (Wq σ q) 35 4 1 35 4 ≠ 0
    rw [mup_eq]; decide
end WW
section ADDT
variable {d : Nat} {σ : Mem}
theorem add_TX {k : Nat} {ki z a b c lo : Int} {A B C : Tr} (H : RI σ) (hk : ki = k) (rk : rg ki) (hz : rg z) (ha : rg a) (hb : rg b) (hc : rg c) (h : σ 5 7 < 128) (G : PQ σ) (h0 : 0 ≤ lo) (hl : lo ≤ σ 5 7) (tA : isT σ 5 lo (σ 5 7) A a) (tB : isT σ 5 lo (σ 5 7) B b) (tC : isT σ 5 lo (σ 5 7) C c) (ra : rt σ lo a) (rb : rt σ lo b) (rc : rt σ lo c) (h17 : k = 17 → c = -1) (hd : df3 a b c) :
    ∃ σ', Rn (d + 2) yTr_add [.ref 5, vi ki, vi z, vi a, vi b, vi c] σ (some (σ 5 7)) σ' ∧ RI σ' ∧ (∀ i, trP i = false → σ' i = σ i) ∧ σ' 5 7 = σ 5 7 + 1 ∧ PQ σ' ∧ isT σ' 5 lo (σ 5 7 + 1) (nd k z A B C) (σ 5 7) ∧ σ' 17 (σ 5 7) = -1 ∧ kpB lo σ σ' ∧ (σ' 7 (σ 5 7) = k ∧ σ' 9 (σ 5 7) = z ∧ σ' 11 (σ 5 7) = a ∧ σ' 13 (σ 5 7) = b ∧ σ' 15 (σ 5 7) = c) ∧ (∀ x, x ≠ σ 5 7 → σ' 7 x = σ 7 x ∧ σ' 9 x = σ 9 x ∧ σ' 11 x = σ 11 x ∧ σ' 13 x = σ 13 x ∧ σ' 15 x = σ 15 x) ∧ (∀ x, 0 ≤ x → x < 128 → σ' 17 x = if x = a ∨ x = b ∨ x = c then σ 5 7 else if x = σ 5 7 then -1 else σ 17 x) := by
  obtain ⟨σ', r, i1, f1, n1, ⟨e1, e2, e3, e4, e5⟩, o1, p1, p19⟩ := add_sp (d := d) H rk hz ha hb hc h
  have hm := H.2.2.1
  have na : a ≠ σ 5 7 := by rcases ra with q | q <;> omega
  have nb : b ≠ σ 5 7 := by rcases rb with q | q <;> omega
  have nc : c ≠ σ 5 7 := by rcases rc with q | q <;> omega
  have T' : ∀ {T : Tr} {n : Int}, isT σ 5 lo (σ 5 7) T n → isT σ' 5 lo (σ 5 7 + 1) T n := fun {T n} t => isT.mv (Int.le_refl lo) (by omega) (fun x q w => o1 x (by omega)) t
  refine ⟨σ', r, i1, f1, n1, ?_, ?_, ?_, ?_, ⟨e1.trans hk, e2, e3, e4, e5⟩, o1, p1⟩
  refine ⟨⟨?_, ?_⟩, ?_⟩
  · intro x hx0 hx1 j hj
    rw [n1] at hx1 ⊢
    by_cases q : x = σ 5 7
    · subst q
      have one : ∀ y, rt σ lo y → (y = a ∨ y = b ∨ y = c) → y = -1 ∨ (0 ≤ y ∧ y < σ 5 7 + 1 ∧ 0 ≤ σ' 17 y ∧ σ' 17 y = σ 5 7) := by
        intro y ry hy
        rcases ry with q | ⟨q1, q2, q3⟩
        · exact Or.inl q
        · right
          have := p1 y (by omega) (by omega)
          rw [if_pos hy] at this
          exact ⟨by omega, by omega, by omega, this⟩
      rcases hj with rfl | rfl | rfl
      · rw [e3, if_neg (by omega)]; exact one a ra (Or.inl rfl)
      · rw [e4, if_neg (by omega)]; exact one b rb (Or.inr (Or.inl rfl))
      · rw [e5]
        by_cases w : k = 17
        · exact Or.inl (h17 w)
        · rw [if_neg (by rw [e1]; omega)]; exact one c rc (Or.inr (Or.inr rfl))
    · obtain ⟨o7, o9, o11, o13, o15⟩ := o1 x q
      have ej : σ' j x = σ j x := by rcases hj with rfl | rfl | rfl <;> assumption
      rw [ej, o7]
      rcases G.1.1 x hx0 (by omega) j hj with w | ⟨w1, w2, w3, w4⟩
      · exact Or.inl w
      · right
        have nr : ∀ y, rt σ lo y → σ j x ≠ y := by
          intro y ry e
          rcases ry with q | ⟨_, _, q⟩
          · omega
          · rw [e, q] at w3; omega
        have P1 := p1 (σ j x) w1 (by omega)
        rw [if_neg (by intro e; rcases e with e | e | e; exact nr a ra e; exact nr b rb e; exact nr c rc e), if_neg (by omega)] at P1
        refine ⟨w1, by omega, by omega, ?_⟩
        rw [P1, w4]
        split
        · next s =>
          rw [if_pos s] at w4
          have P2 := p1 x hx0 (by omega)
          have nx' : ∀ y, rt σ lo y → x ≠ y := by
            intro y ry e
            rcases ry with q | ⟨_, _, q⟩
            · omega
            · rw [← e] at q; rw [w4, q] at w3; omega
          rw [if_neg (by intro e; rcases e with e | e | e; exact nx' a ra e; exact nx' b rb e; exact nx' c rc e), if_neg q] at P2
          exact P2.symm
        · rfl
  · -- parts of one node at most
    have slot : ∀ i, (i = 11 ∨ i = 13 ∨ i = 15) → σ' i (σ 5 7) = (if i = 11 then a else if i = 13 then b else c) := fun i hi => by
      rcases hi with rfl | rfl | rfl
      · exact e3
      · exact e4
      · exact e5
    have old : ∀ i x, (i = 11 ∨ i = 13 ∨ i = 15) → x ≠ σ 5 7 → σ' i x = σ i x := fun i x hi hx => by
      obtain ⟨-, -, o11, o13, o15⟩ := o1 x hx
      rcases hi with rfl | rfl | rfl <;> assumption
    have nr : ∀ y, rt σ lo y → ∀ x i, (i = 11 ∨ i = 13 ∨ i = 15) → 0 ≤ x → x < σ 5 7 → σ i x ≠ -1 → σ i x ≠ y := by
      intro y ry x i hi x0 x1 ne e
      rcases G.1.1 x x0 x1 i hi with w | ⟨w1, w2, w3, -⟩
      · exact ne w
      · rcases ry with q | ⟨_, _, q⟩
        · omega
        · rw [e, q] at w3; omega
    have rr : ∀ i, (i = 11 ∨ i = 13 ∨ i = 15) → rt σ lo (if i = 11 then a else if i = 13 then b else c) := fun i hi => by
      rcases hi with rfl | rfl | rfl
      · exact ra
      · exact rb
      · exact rc
    intro x y hx hy i j hi hj e ne
    rw [n1] at hx hy
    by_cases qx : x = σ 5 7
    · by_cases qy : y = σ 5 7
      · subst qx
        rw [qy] at e
        rw [slot i hi] at e ne
        rw [slot j hj] at e
        refine ⟨qy.symm, ?_⟩
        obtain ⟨d1, d2, d3⟩ := hd
        rcases hi with rfl | rfl | rfl <;> rcases hj with rfl | rfl | rfl <;> simp at e ne ⊢
        · exact ne (d1 e)
        · exact ne (d2 e)
        · exact ne (e.trans (d1 e.symm))
        · exact ne (d3 e)
        · exact ne (e.trans (d2 e.symm))
        · exact ne (e.trans (d3 e.symm))
      · exfalso
        rw [old j y hj qy] at e
        rw [qx, slot i hi] at e ne
        exact nr _ (rr i hi) y j hj hy.1 (by omega) (by rw [← e]; exact ne) e.symm
    · rw [old i x hi qx] at e ne
      by_cases qy : y = σ 5 7
      · exfalso
        rw [qy, slot j hj] at e
        exact nr _ (rr j hj) x i hi hx.1 (by omega) ne e
      · rw [old j y hj qy] at e
        exact G.1.2 x y ⟨hx.1, by omega⟩ ⟨hy.1, by omega⟩ i j hi hj e ne
  · intro x hx0 hx1
    rw [n1] at hx1
    by_cases q : x = σ 5 7
    · rw [q]; exact p19.1
    · rw [p19.2 x q]; exact G.2 x hx0 (by omega)
  · refine isT_nd.mpr ⟨⟨hl, by omega⟩, e1.trans hk, e2, ?_, ?_, ?_⟩
    · show isT σ' 5 lo (σ 5 7 + 1) A (σ' 11 (σ 5 7)); rw [e3]; exact T' tA
    · show isT σ' 5 lo (σ 5 7 + 1) B (σ' 13 (σ 5 7)); rw [e4]; exact T' tB
    · show isT σ' 5 lo (σ 5 7 + 1) C (σ' 15 (σ 5 7)); rw [e5]; exact T' tC
  · have P1 := p1 (σ 5 7) hm (by omega)
    rw [if_neg (by omega), if_pos rfl] at P1
    exact P1
  · intro x hx0 hx1
    obtain ⟨o7, o9, o11, o13, o15⟩ := o1 x (by omega)
    refine ⟨o7, o9, o11, o13, o15, ?_⟩
    have P1 := p1 x hx0 (by omega)
    have nr : ∀ y, rt σ lo y → x ≠ y := by
      intro y ry e
      rcases ry with q | ⟨q, _⟩ <;> omega
    rw [if_neg (by intro e; rcases e with e | e | e; exact nr a ra e; exact nr b rb e; exact nr c rc e), if_neg (by omega)] at P1
    exact P1
theorem add_T {k : Nat} {ki z a b c lo : Int} {A B C : Tr} (H : RI σ) (hk : ki = k) (rk : rg ki) (hz : rg z) (ha : rg a) (hb : rg b) (hc : rg c) (h : σ 5 7 < 128) (G : PQ σ) (h0 : 0 ≤ lo) (hl : lo ≤ σ 5 7) (tA : isT σ 5 lo (σ 5 7) A a) (tB : isT σ 5 lo (σ 5 7) B b) (tC : isT σ 5 lo (σ 5 7) C c) (ra : rt σ lo a) (rb : rt σ lo b) (rc : rt σ lo c) (h17 : k = 17 → c = -1) (hd : df3 a b c) :
    ∃ σ', Rn (d + 2) yTr_add [.ref 5, vi ki, vi z, vi a, vi b, vi c] σ (some (σ 5 7)) σ' ∧ RI σ' ∧ (∀ i, trP i = false → σ' i = σ i) ∧ σ' 5 7 = σ 5 7 + 1 ∧ PQ σ' ∧ isT σ' 5 lo (σ 5 7 + 1) (nd k z A B C) (σ 5 7) ∧ σ' 17 (σ 5 7) = -1 ∧ kpB lo σ σ' := by
  obtain ⟨σ', r, i1, f1, n1, p1, t1, r1, k1, -⟩ := add_TX (d := d) H hk rk hz ha hb hc h G h0 hl tA tB tC ra rb rc h17 hd
  exact ⟨σ', r, i1, f1, n1, p1, t1, r1, k1⟩
/-- whatever is added -/
theorem add_any {k z a b c : Int} (H : RI σ) (hk : rg k) (hz : rg z) (ha : rg a) (hb : rg b) (hc : rg c) : ∃ v σ', Rn (d + 2) yTr_add [.ref 5, vi k, vi z, vi a, vi b, vi c] σ (some v) σ' ∧ RI σ' ∧ (∀ i, trP i = false → σ' i = σ i) ∧ rg v := by
  by_cases h : σ 5 7 < 128
  · obtain ⟨σ', r, i1, f1, -⟩ := add_sp (d := d) H hk hz ha hb hc h
    exact ⟨_, σ', r, i1, f1, ⟨by have := H.2.2.1; omega, by omega⟩⟩
  · exact ⟨-1, σ, add_no hk hz ha hb hc h, H, fun _ _ => rfl, rgk rfl⟩
theorem leaf_any {k z : Int} (H : RI σ) (hk : rg k) (hz : rg z) : ∃ v σ', Rn (d + 3) yTr_addLeaf [.ref 5, vi k, vi z] σ (some v) σ' ∧ RI σ' ∧ (∀ i, trP i = false → σ' i = σ i) ∧ rg v := by
  obtain ⟨v, σ', r, h⟩ := add_any (d := d) (a := -1) (b := -1) (c := -1) H hk hz (rgk rfl) (rgk rfl) (rgk rfl)
  exact ⟨v, σ', M_Tr_addLeaf hk hz ⟨v, σ', r, rfl, rfl⟩, h⟩
/-- a leaf behind the place q -/
theorem EO.leaf6 {k : Nat} {ki z q : Int} (H : RI σ) (hq : inL σ q) (h1 : σ 35 3 < q) (hk : ki = k) (rk : rg ki) (hz : rg z) {P : Option (Tr × Int)} (hP : σ 35 4 = 0 → P = some (nd k z nl nl nl, q)) (h5 : k ≠ 5) (h17 : k ≠ 17) : ∃ v σ', Rn (d + 3) yTr_addLeaf [.ref 5, vi ki, vi z] (Wq σ q) (some v) σ' ∧ EO P σ σ' v ∧ σ' 35 6 = σ 35 6 := by
  by_cases g : σ 35 4 = 0 ∧ GC σ
  · obtain ⟨hb, gc⟩ := g
    have e5 : (Wq σ q) 5 7 = σ 5 7 := mup_ne (by decide)
    have m0 := H.2.2.1
    have mm := H.1.2.1
    have PW : PQ (Wq σ q) := gc.2.cg e5 (mup_obj (by decide)) (mup_obj (by decide)) (mup_obj (by decide)) (mup_obj (by decide)) (mup_obj (by decide)) (mup_obj (by decide))
    have hcr := gc.1
    obtain ⟨σ', r, i1, f1, n1, p1, t1, r1, k1⟩ := add_T (d := d) (σ := Wq σ q) (lo := σ 5 7) (A := nl) (B := nl) (C := nl) (H.at hq.1 hq.2) hk rk hz (rgk rfl) (rgk rfl) (rgk rfl) (by rw [e5]; have := hq.2; omega) PW m0 (by rw [e5]; omega) rfl rfl rfl (Or.inl rfl) (Or.inl rfl) (Or.inl rfl) (fun e => absurd e h17) df_1
    rw [e5] at r n1 t1 r1
    have f35 : σ' 35 = (Wq σ q) 35 := f1 35 rfl
    refine ⟨_, σ', M_Tr_addLeaf rk hz ⟨_, σ', r, rfl, rfl⟩, ⟨⟨by omega, by have := H.2.2.2; omega⟩, ?_, i1, ?_, ?_, ?_⟩, by rw [f35]; exact Wq_k (by decide)⟩
    · intro i hi
      rw [f1 i (trP_rd hi)]
      exact Wq_f i hi
    · rw [f1 37 rfl]; exact Wq_o (by decide)
    · intro h; exact absurd hb h
    · intro _ _
      rw [hP hb]
      refine ⟨?_, ?_, by omega, ⟨?_, ⟨by omega, by omega⟩, ?_, r1, p1, ?_⟩, ?_⟩
      · rw [f35, Wq_k (by decide)]; exact hb
      · rw [f35, Wq_at]
      · rw [f35, Wq_at, n1]; omega
      · rw [n1]; exact t1
      · intro x h0 h2
        obtain ⟨a1, a2, a3, a4, a5, a6⟩ := k1 x h0 h2
        refine ⟨a1.trans (mup_ne (by decide)), a2.trans (mup_ne (by decide)), a3.trans (mup_ne (by decide)), a4.trans (mup_ne (by decide)), a5.trans (mup_ne (by decide)), a6.trans (mup_ne (by decide))⟩
      · rw [f35, Wq_k (by decide)]
        have : clo (nd k z nl nl nl) (bd σ) = true := by
          rw [clo_nd, if_neg h5]
          simp [clo_nl]
        rw [this]
        simp
  · obtain ⟨v, σ', r, i1, f1, gv⟩ := leaf_any (d := d) (σ := Wq σ q) (H.at hq.1 hq.2) rk hz
    have f35 : σ' 35 = (Wq σ q) 35 := f1 35 rfl
    refine ⟨v, σ', r, ⟨gv, ?_, i1, ?_, ?_, ?_⟩, by rw [f35]; exact Wq_k (by decide)⟩
    · intro i hi
      rw [f1 i (trP_rd hi)]
      exact Wq_f i hi
    · rw [f1 37 rfl]; exact Wq_o (by decide)
    · intro h; rw [f35, Wq_k (by decide)]; exact h
    · intro h1 h2; exact absurd ⟨h1, h2⟩ g
theorem EO.leaf {k : Nat} {ki z q : Int} (H : RI σ) (hq : inL σ q) (h1 : σ 35 3 < q) (hk : ki = k) (rk : rg ki) (hz : rg z) {P : Option (Tr × Int)} (hP : σ 35 4 = 0 → P = some (nd k z nl nl nl, q)) (h5 : k ≠ 5) (h17 : k ≠ 17) : ∃ v σ', Rn (d + 3) yTr_addLeaf [.ref 5, vi ki, vi z] (Wq σ q) (some v) σ' ∧ EO P σ σ' v := by
  obtain ⟨v, σ', r, E, -⟩ := EO.leaf6 (d := d) H hq h1 hk rk hz hP h5 h17
  exact ⟨v, σ', r, E⟩
end ADDT
