/-! The class's reader: how far it has come (ST), a row a kind of call. -/
abbrev PRG : Type := Option (Nat × List (Tr × Int) × Bool × Int)
def PG (σ σ' : Mem) (c : Nat) (Ts : List (Tr × Int)) (u : Bool) (q : Int) : Prop :=
  (σ 35 4 = 0 ∧ 0 ≤ σ 5 7 ∧ GC σ) ∧ σ' 35 4 = 0 ∧ σ' 35 3 = q ∧ σ 35 3 ≤ q ∧ σ' 5 7 - 2 * q ≤ σ 5 7 - 2 * σ 35 3 - c ∧ σ 5 7 ≤ σ' 5 7 ∧ PQ σ' ∧ kpB (σ 5 7) σ σ' ∧ ((∀ x ∈ Ts, isT σ' 5 (σ 5 7) (σ' 5 7) x.1 x.2 ∧ rt σ' (σ 5 7) x.2 ∧ x.2 ≠ -1) ∧ (Ts.map Prod.snd).Nodup) ∧ (σ' 35 5 ≠ 0 ↔ (σ 35 5 ≠ 0 ∨ u = true))
def STm (σ σ' : Mem) (R : PRG) : Prop := match R with
  | none => σ' 35 4 ≠ 0
  | some (c, Ts, u, q) => PG σ σ' c Ts u q
def ST (σ σ' : Mem) (R : PRG) : Prop := frR σ σ' ∧ RI σ' ∧ STm σ σ' R
def OK (σ : Mem) : Prop := RI σ ∧ (σ 35 4 = 0 → GC σ)
def stR (σ : Mem) : PRG := if σ 35 4 = 0 then some (0, [], false, σ 35 3) else none
def LSp (y D : Nat) (x e : Int) (P : (Int → Int) → Int → Option (Tr × Int)) : Prop := ∀ σ, OK σ → CB e σ → ∃ v σ', Rn D y [.ref 35, vi x] σ (some v) σ' ∧ EO (P (chr σ) (σ 35 3)) σ σ' v
def prN (ch : Int → Int) (R : PRG) : Int := match R with
  | none => -1
  | some x => nx ch x.2.2.2
section ST
variable {d : Nat} {σ σ1 : Mem} {R : PRG}
theorem ST.init (H : OK σ) : ST σ σ (stR σ) := by
  refine ⟨frR.rf, H.1, ?_⟩
  unfold stR
  split
  · next hb =>
    refine ⟨⟨hb, H.1.2.2.1, H.2 hb⟩, hb, rfl, Int.le_refl _, ?_, Int.le_refl _, (H.2 hb).2, kpB.rf, ?_, ?_⟩
    · show σ 5 7 - 2 * σ 35 3 ≤ σ 5 7 - 2 * σ 35 3 - ((0 : Nat) : Int); omega
    · exact ⟨fun x hx => (by cases hx), List.nodup_nil⟩
    · simp
  · next hb => exact hb
theorem ST.ok (S : ST σ σ1 R) : OK σ1 := by
  refine ⟨S.2.1, fun hb => ?_⟩
  obtain ⟨f, i, m⟩ := S
  cases R with
  | none => exact absurd hb m
  | some x =>
    obtain ⟨c, Ts, u, q⟩ := x
    obtain ⟨g, h1, h2, h3, h4, h5, h6, -⟩ := m
    refine ⟨?_, h6⟩
    have := g.2.2.1
    rw [h2]; omega
theorem ST.nvx (S : ST σ σ1 R) : nxv σ1 = prN (chr σ) R := by
  obtain ⟨f, i, m⟩ := S
  cases R with
  | none => exact nxv_b m
  | some x =>
    obtain ⟨c, Ts, u, q⟩ := x
    obtain ⟨g, h1, h2, -⟩ := m
    rw [nxv_u h1, h2, f.chr]; rfl
/-- on, over blanks and a sign -/
theorem PG.wq {c : Nat} {Ts : List (Tr × Int)} {u : Bool} {q r : Int} (P : PG σ σ1 c Ts u q) (h : q ≤ r) (c' : Nat) (hc : (c' : Int) ≤ c + 2 * (r - q)) : PG σ (Wq σ1 r) c' Ts u r := by
  obtain ⟨g, h1, h2, h3, h4, h5, h6, h7, h8, h9⟩ := P
  have e5 : (Wq σ1 r) 5 = σ1 5 := Wq_o (by decide)
  have e17 : (Wq σ1 r) 17 = σ1 17 := Wq_o (by decide)
  refine ⟨g, ?_, Wq_at, by omega, ?_, ?_, h6.wq, ?_, ?_, ?_⟩
  · rw [Wq_k (by decide)]; exact h1
  · rw [e5]; omega
  · rw [e5]; exact h5
  · intro x a b
    obtain ⟨c1, c2, c3, c4, c5, c6⟩ := h7 x a b
    exact ⟨(mup_ne (by decide)).trans c1, (mup_ne (by decide)).trans c2, (mup_ne (by decide)).trans c3, (mup_ne (by decide)).trans c4, (mup_ne (by decide)).trans c5, (mup_ne (by decide)).trans c6⟩
  · refine ⟨fun x hx => ?_, h8.2⟩
    obtain ⟨t1, t2, t3⟩ := h8.1 x hx
    refine ⟨?_, ?_, t3⟩
    · rw [e5]
      exact isT.mv (Int.le_refl _) (Int.le_refl _) (fun y _ _ => ⟨mup_ne (by decide), mup_ne (by decide), mup_ne (by decide), mup_ne (by decide), mup_ne (by decide)⟩) t1
    · unfold rt at t2 ⊢
      rw [e5, e17]; exact t2
  · rw [Wq_k (by decide)]; exact h9
theorem ST.in (S : ST σ σ1 R) : inL σ1 (σ1 35 3) := S.2.1.2.1
theorem ST.expect {t : Int} (S : ST σ σ1 R) (ht : rg t) (h0 : t ≠ -1) : ∃ σ2, Rn (d + 6) yRd_expect [.ref 35, vi t] σ1 none σ2 ∧ ST σ σ2 (R.bind fun x => (pEx (chr σ) t x.2.2.2).map fun r => (x.1 + 2, x.2.1, x.2.2.1, r)) ∧ σ2 37 = σ1 37 ∧ σ2 35 6 = σ1 35 6 := by
  have i := S.2.1
  have n := S.nvx
  have f := S.1
  have e5 := S.in.skb i.1
  by_cases c : nxv σ1 = t
  · have hb : σ1 35 4 = 0 := by
      by_cases q : σ1 35 4 = 0
      · exact q
      · rw [nxv_b q] at c; exact absurd c.symm h0
    have e4 := S.in.sn i.1 (by rw [← nxv_u hb, c]; exact h0)
    refine ⟨_, expect_y (d := d) i ht h0 c, ⟨f.tr Wq_f, i.at e4.1 e4.2, ?_⟩, mup_obj (by decide), mup_nk (by decide)⟩
    cases R with
    | none => exact absurd hb S.2.2
    | some x =>
      obtain ⟨k, Ts, u, q⟩ := x
      have P := S.2.2
      have e1 : pEx (chr σ) t q = some (sk (chr σ) q + 1) := by unfold pEx; rw [if_pos (show nx (chr σ) q = t from n.symm.trans c)]
      show STm σ _ ((pEx (chr σ) t q).map _)
      rw [e1, f.chr, P.2.2.1]
      exact PG.wq P (by have := sk_ge (ch := chr σ) (p := q); omega) _ (by have := sk_ge (ch := chr σ) (p := q); push_cast; omega)
  · refine ⟨_, expect_n (d := d) i ht c, ⟨(f.tr Wq_f).tr (frR.mu rfl), (i.at e5.1 e5.2).br, ?_⟩, (mup_obj (by decide)).trans (mup_obj (by decide)), (mup_nk (by decide)).trans (mup_nk (by decide))⟩
    have e : (R.bind fun x => (pEx (chr σ) t x.2.2.2).map fun r => (x.1 + 2, x.2.1, x.2.2.1, r)) = none := by
      cases R with
      | none => rfl
      | some x =>
        show (pEx (chr σ) t x.2.2.2).map _ = none
        unfold pEx; rw [if_neg (by rw [← show nxv σ1 = nx (chr σ) x.2.2.2 from n]; exact c)]; rfl
    rw [e]
    show mup _ 35 4 1 35 4 ≠ 0
    rw [mup_eq]; decide
theorem ST.name (S : ST σ σ1 R) : ∃ v σ2, Rn (d + 5) yRd_name [.ref 35] σ1 (some v) σ2 ∧ ST σ σ2 (R.bind fun x => (pNm (chr σ) x.2.2.2).map fun y => (x.1 + 2, x.2.1, x.2.2.1, y.2)) ∧ σ2 37 = σ1 37 ∧ σ2 35 6 = σ1 35 6 ∧ (v = -1 ∨ (97 ≤ v ∧ v ≤ 122)) ∧ ∀ x y, R = some x → pNm (chr σ) x.2.2.2 = some y → v = y.1 := by
  have i := S.2.1
  have f := S.1
  have e5 := S.in.skb i.1
  by_cases c : σ1 35 4 = 0 ∧ (97 ≤ nx (chr σ1) (σ1 35 3) ∧ nx (chr σ1) (σ1 35 3) ≤ 122)
  · have e4 := S.in.sn i.1 (by omega)
    refine ⟨_, _, name_y (d := d) i c.1 c.2, ⟨f.tr Wq_f, i.at e4.1 e4.2, ?_⟩, mup_obj (by decide), mup_nk (by decide), Or.inr c.2, ?_⟩
    · cases R with
      | none => exact absurd c.1 S.2.2
      | some x =>
        obtain ⟨k, Ts, u, q⟩ := x
        have P := S.2.2
        have c2 := c.2
        rw [f.chr, P.2.2.1] at c2
        have e1 : pNm (chr σ) q = some (nx (chr σ) q, sk (chr σ) q + 1) := by unfold pNm; rw [if_pos c2]
        show STm σ _ ((pNm (chr σ) q).map _)
        rw [e1, f.chr, P.2.2.1]
        exact PG.wq P (by have := sk_ge (ch := chr σ) (p := q); omega) _ (by have := sk_ge (ch := chr σ) (p := q); push_cast; omega)
    · intro x y hx hy
      subst hx
      obtain ⟨k, Ts, u, q⟩ := x
      have P := S.2.2
      have c2 := c.2
      rw [f.chr, P.2.2.1] at c2 ⊢
      unfold pNm at hy
      rw [if_pos c2] at hy
      cases hy; rfl
  · have e : (R.bind fun x => (pNm (chr σ) x.2.2.2).map fun y => (x.1 + 2, x.2.1, x.2.2.1, y.2)) = none := by
      cases R with
      | none => rfl
      | some x =>
        obtain ⟨k, Ts, u, q⟩ := x
        have P := S.2.2
        rw [f.chr, P.2.2.1] at c
        show (pNm (chr σ) q).map _ = none
        unfold pNm; rw [if_neg (fun w => c ⟨P.2.1, w⟩)]; rfl
    refine ⟨-1, _, name_n (d := d) i ?_, ⟨(f.tr Wq_f).tr (frR.mu rfl), (i.at e5.1 e5.2).br, ?_⟩, (mup_obj (by decide)).trans (mup_obj (by decide)), (mup_nk (by decide)).trans (mup_nk (by decide)), Or.inl rfl, ?_⟩
    · by_cases q : σ1 35 4 = 0
      · exact Or.inr (fun w => c ⟨q, w⟩)
      · exact Or.inl q
    · rw [e]
      show mup _ 35 4 1 35 4 ≠ 0
      rw [mup_eq]; decide
    · intro x y hx hy
      subst hx
      rw [show ((some x : PRG).bind fun x => (pNm (chr σ) x.2.2.2).map fun y => (x.1 + 2, x.2.1, x.2.2.1, y.2)) = (pNm (chr σ) x.2.2.2).map fun y => (x.1 + 2, x.2.1, x.2.2.1, y.2) from rfl, hy] at e
      cases e
/-- a part of its own -/
theorem ST.subE {v : Int} {σ2 : Mem} {P : (Int → Int) → Int → Option (Tr × Int)} (S : ST σ σ1 R) (h : EO (P (chr σ1) (σ1 35 3)) σ1 σ2 v) : ST σ σ2 (R.bind fun r => (P (chr σ) r.2.2.2).map fun t => (r.1 + 1, (t.1, v) :: r.2.1, r.2.2.1 || !(clo t.1 (bd σ1)), t.2)) := by
  obtain ⟨gv, f2, i2, z2, b2, m2⟩ := h
  refine ⟨S.1.tr f2, i2, ?_⟩
  cases R with
  | none => exact b2 S.2.2
  | some r =>
    obtain ⟨k, Ts, u, q⟩ := r
    have G := S.2.2
    obtain ⟨g, h1, h2, h3, h4, h5, h6, h7, h8, h9⟩ := G
    have E := m2 h1 (S.ok.2 h1)
    rw [S.1.chr, h2] at E
    show STm σ σ2 ((P (chr σ) q).map _)
    cases hP : P (chr σ) q with
    | none => rw [hP] at E; exact E
    | some t =>
      obtain ⟨T, s⟩ := t
      rw [hP] at E
      obtain ⟨a1, a2, a3, ⟨b1, b2, b3, b4, b5, b6⟩, a5⟩ := E
      show PG σ σ2 (k + 1) ((T, v) :: Ts) (u || !(clo T (bd σ1))) s
      refine ⟨g, a1, a2, by omega, ?_, by omega, b5, h7.tr b6 h5, ?_, ?_⟩
      · rw [a2] at b1; rw [h2] at b1; push_cast; omega
      · refine ⟨fun x hx => ?_, List.nodup_cons.mpr ⟨fun hv => ?_, h8.2⟩⟩
        rotate_left
        · obtain ⟨x, hx, e⟩ := List.mem_map.mp hv
          obtain ⟨-, t2, t3⟩ := h8.1 x hx
          rcases t2 with w | ⟨w1, w2, w3⟩
          · exact t3 w
          · have := b2.1; omega
        rcases List.mem_cons.mp hx with rfl | hx
        · refine ⟨isT.mv h5 (Int.le_refl _) (fun _ _ _ => ⟨rfl, rfl, rfl, rfl, rfl⟩) b3, Or.inr ⟨by omega, b2.2, b4⟩, by have := g.2.1; show v ≠ -1; omega⟩
        · obtain ⟨t1, t2, t3⟩ := h8.1 x hx
          have c0 := S.2.1.2.2.1
          have c1 : 0 ≤ σ 5 7 := g.2.1
          refine ⟨t1.kp b6 c1 (Int.le_refl _) (by omega), ?_, t3⟩
          rcases t2 with w | ⟨w1, w2, w3⟩
          · exact Or.inl w
          · exact Or.inr ⟨w1, by omega, by rw [(b6 x.2 (by omega) w2).2.2.2.2.2]; exact w3⟩
      · rw [a5, h9]
        cases hc : clo T (bd σ1) <;> simp
theorem ST.sub {y D : Nat} {x e : Int} {P : (Int → Int) → Int → Option (Tr × Int)} (S : ST σ σ1 R) (hL : LSp y D x e P) (hC : CB e σ1) : ∃ v σ2, Rn D y [.ref 35, vi x] σ1 (some v) σ2 ∧ rg v ∧ ST σ σ2 (R.bind fun r => (P (chr σ) r.2.2.2).map fun t => (r.1 + 1, (t.1, v) :: r.2.1, r.2.2.1 || !(clo t.1 (bd σ1)), t.2)) ∧ σ2 37 = σ1 37 := by
  obtain ⟨v, σ2, rn, h⟩ := hL σ1 S.ok hC
  exact ⟨v, σ2, rn, h.1, S.subE h, h.2.2.2.1⟩
end ST
