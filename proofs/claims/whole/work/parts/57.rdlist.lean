/-! The class's reader: lists, built from the front. -/
section LI
variable {d : Nat} {σ : Mem}
/-- a part is hung on a node -/
def lnk (σ : Mem) (j : Nat) (l p w : Int) : Mem := rows 128 (rows 128 σ j l p) 17 p w
theorem lnk_f {j : Nat} {l p w : Int} (hj : j = 13 ∨ j = 15) : ∀ i, i ≠ j → i ≠ 17 → (lnk σ j l p w) i = σ i := fun i h1 h2 => by
  unfold lnk; rw [rows_obj h2, rows_obj h1]
theorem lnk_RI {j : Nat} {l p w : Int} (hj : j = 13 ∨ j = 15) (H : RI σ) : RI (lnk σ j l p w) := by
  unfold lnk
  rcases hj with rfl | rfl
  · exact (H.row rfl (by decide) (by decide)).row rfl (by decide) (by decide)
  · exact (H.row rfl (by decide) (by decide)).row rfl (by decide) (by decide)
theorem lnk_fr {j : Nat} {l p w : Int} (hj : j = 13 ∨ j = 15) : frR σ (lnk σ j l p w) := by
  unfold lnk
  rcases hj with rfl | rfl
  · exact (frR.ro rfl).tr (frR.ro rfl)
  · exact (frR.ro rfl).tr (frR.ro rfl)
theorem lnk_j {j : Nat} {l p w x : Int} (hj : j = 13 ∨ j = 15) : lnk σ j l p w j x = if x = l ∧ 0 ≤ l ∧ l < 128 then p else σ j x := by
  unfold lnk; rw [rows_ne (by omega), rows_at]; rfl
theorem lnk_17 {j : Nat} {l p w x : Int} (hj : j = 13 ∨ j = 15) : lnk σ j l p w 17 x = if x = p ∧ 0 ≤ p ∧ p < 128 then w else σ 17 x := by
  unfold lnk; rw [rows_at, rows_ne (by omega)]; rfl
theorem lnk_PQ {j : Nat} {l p w : Int} (hj : j = 13 ∨ j = 15) (H : RI σ) (G : PQ σ) (h1 : 0 ≤ l ∧ l < σ 5 7) (h2 : 0 ≤ p ∧ p < σ 5 7) (h3 : σ 17 p = -1) (h5 : l ≠ p) (h6 : 0 ≤ w) (h7 : w = if j = 15 ∧ σ 7 l = 17 then σ 17 l else l) : PQ (lnk σ j l p w) := by
  have hm := H.2.2.2
  refine ⟨⟨?_, ?_⟩, fun x a b => by rw [lnk_f hj 19 (by omega) (by decide)]; exact G.2 x a (by rw [lnk_f hj 5 (by omega) (by decide)] at b; exact b)⟩
  rotate_left
  · intro x y hx hy i k hi hk e ne
    rw [lnk_f hj 5 (by omega) (by decide)] at hx hy
    have nw : ∀ i x, (i = 11 ∨ i = 13 ∨ i = 15) → (0 ≤ x ∧ x < σ 5 7) → σ i x ≠ p := fun i x hi hx q => by
      rcases G.1.1 x hx.1 hx.2 i hi with w | ⟨w1, w2, w3, -⟩
      · omega
      · rw [q, h3] at w3; omega
    have at1 : ∀ i x, (i = 11 ∨ i = 13 ∨ i = 15) → (i = j ∧ x = l ∧ lnk σ j l p w i x = p) ∨ (¬ (i = j ∧ x = l) ∧ lnk σ j l p w i x = σ i x) := fun i x hi => by
      by_cases q : i = j
      · subst q
        rw [lnk_j hj]
        by_cases q2 : x = l
        · left; rw [if_pos ⟨q2, h1.1, by omega⟩]; exact ⟨rfl, q2, rfl⟩
        · right; rw [if_neg (fun s => q2 s.1)]; exact ⟨fun s => q2 s.2, rfl⟩
      · right; exact ⟨fun s => q s.1, congrFun (lnk_f hj i q (by omega)) x⟩
    rcases at1 i x hi with ⟨a1, a2, a3⟩ | ⟨a1, a2⟩ <;> rcases at1 k y hk with ⟨b1, b2, b3⟩ | ⟨b1, b2⟩
    · exact ⟨a2.trans b2.symm, a1.trans b1.symm⟩
    · rw [a3, b2] at e; exact absurd e.symm (nw k y hk hy)
    · rw [a2, b3] at e; exact absurd e (nw i x hi hx)
    · rw [a2] at e ne; rw [b2] at e; exact G.1.2 x y hx hy i k hi hk e ne
  intro x a b i hi
  rw [lnk_f hj 5 (by omega) (by decide)] at b ⊢
  rw [lnk_f hj 7 (by omega) (by decide)]
  have r17 : ∀ y, y ≠ p → lnk σ j l p w 17 y = σ 17 y := fun y hy => by rw [lnk_17 hj, if_neg (fun q => hy q.1)]
  have old : ∀ i, i = 11 ∨ i = 13 ∨ i = 15 → lnk σ j l p w i x = σ i x → lnk σ j l p w i x = -1 ∨ (0 ≤ lnk σ j l p w i x ∧ lnk σ j l p w i x < σ 5 7 ∧ 0 ≤ lnk σ j l p w 17 (lnk σ j l p w i x) ∧ lnk σ j l p w 17 (lnk σ j l p w i x) = if i = 15 ∧ σ 7 x = 17 then lnk σ j l p w 17 x else x) := by
    intro i hi e
    rw [e]
    rcases G.1.1 x a b i hi with q | ⟨q1, q2, q3, q4⟩
    · exact Or.inl q
    · right
      have n1 : σ i x ≠ p := fun q => by rw [q, h3] at q3; omega
      rw [r17 _ n1]
      refine ⟨q1, q2, q3, ?_⟩
      rw [q4]
      split
      · next s =>
        rw [if_pos s] at q4
        have n2 : x ≠ p := fun q => by rw [q4, q, h3] at q3; omega
        rw [r17 _ n2]
      · rfl
  by_cases e : i = j ∧ x = l
  · obtain ⟨rfl, rfl⟩ := e
    right
    rw [lnk_j hj, if_pos ⟨rfl, h1.1, by omega⟩, lnk_17 hj, if_pos ⟨rfl, h2.1, by omega⟩, r17 _ h5]
    exact ⟨h2.1, h2.2, h6, h7⟩
  · apply old i hi
    by_cases q : i = j
    · subst q; rw [lnk_j hj, if_neg (fun s => e ⟨rfl, s.1⟩)]
    · exact congrFun (lnk_f hj i q (by omega)) x
theorem s_setSecond {l p : Int} (hl : rg l) (hp : rg p) : Rn (d + 2) yTr_setSecond [.ref 5, vi l, vi p] σ none (lnk σ 13 l p l) := M_Tr_setSecond hl hp ⟨rfl, rfl⟩
section PL
variable {x e : Int} {E : (Int → Int) → Int → Option (Tr × Int)}
/-- what the rest of a list leaves behind; l: the cell that it hangs on -/
def LOp (σ σ' : Mem) (l : Int) (T : Tr) : Prop := σ' 5 7 - 2 * σ' 35 3 ≤ σ 5 7 - 2 * σ 35 3 - 1 ∧ (σ 5 7 ≤ σ' 13 l ∧ σ' 13 l < σ' 5 7) ∧ isT σ' 5 (σ 5 7) (σ' 5 7) T (σ' 13 l) ∧ σ' 17 (σ' 13 l) = l ∧ PQ σ' ∧ ∀ x, 0 ≤ x → x < σ 5 7 → σ' 7 x = σ 7 x ∧ σ' 9 x = σ 9 x ∧ σ' 11 x = σ 11 x ∧ (x ≠ l → σ' 13 x = σ 13 x) ∧ σ' 15 x = σ 15 x ∧ σ' 17 x = σ 17 x
def LOm (P : Option (Tr × Int)) (σ σ' : Mem) (l : Int) : Prop := match P with
  | none => σ' 35 4 ≠ 0
  | some (T, q) => σ' 35 4 = 0 ∧ σ' 35 3 = q ∧ σ 35 3 ≤ q ∧ LOp σ σ' l T ∧ (σ' 35 5 ≠ 0 ↔ (σ 35 5 ≠ 0 ∨ clo T (bd σ) = false))
/-- a cell: its part is known, its rest is not -/
theorem cell_add {σ1 : Mem} {a q : Int} {A : Tr} {u : Bool} {c : Nat} (H : OK σ) (S : ST σ σ1 (some (c, [(A, a)], u, q))) (ga : rg a) (hc : 2 ≤ c) : ∃ σ2, Rn (d + 2) yTr_add [.ref 5, vi 10, vi 0, vi a, vi (-1), vi (-1)] σ1 (some (σ1 5 7)) σ2 ∧ frR σ σ2 ∧ RI σ2 ∧ σ2 37 = σ1 37 ∧ σ2 35 = σ1 35 ∧ σ2 5 7 = σ1 5 7 + 1 ∧ σ 5 7 ≤ σ1 5 7 ∧ PQ σ2 ∧ kpB (σ 5 7) σ σ2 ∧ σ2 17 (σ1 5 7) = -1 ∧ (σ2 7 (σ1 5 7) = 10 ∧ σ2 9 (σ1 5 7) = 0 ∧ σ2 11 (σ1 5 7) = a ∧ σ2 13 (σ1 5 7) = -1 ∧ σ2 15 (σ1 5 7) = -1) ∧ isT σ2 5 (σ 5 7) (σ1 5 7) A a := by
  have i := S.2.1
  obtain ⟨lt, z0, le⟩ := PG.cn i S.2.2 hc
  obtain ⟨g, h1, h2, h3, h4, h5, h6, h7, h8, h9⟩ := S.2.2
  obtain ⟨t1, t2, t3⟩ := h8.1 _ List.mem_cons_self
  obtain ⟨σ2, r, i2, f2, n2, p2, -, r2, k2, e2, o2, -⟩ := add_TX (d := d) (k := 10) (ki := 10) (z := 0) (b := -1) (c := -1) (B := nl) (C := nl) i rfl (rgk rfl) (rgk rfl) ga (rgk rfl) (rgk rfl) lt h6 z0 le t1 rfl rfl t2 (Or.inl rfl) (Or.inl rfl) (fun h => by cases h) df_1
  exact ⟨σ2, r, S.1.tr (fun i hi => f2 i (trP_rd hi)), i2, f2 37 rfl, f2 35 rfl, n2, le, p2, h7.tr k2 (Int.le_refl _), r2, e2, isT.mv (Int.le_refl _) (Int.le_refl _) (fun y _ hy => o2 y (by omega)) t1⟩
theorem list_l (hx : 0 ≤ x ∧ x ≤ 100) (hA : LSp yRd_comparison (d + 6) x e (fun ch p => pCmp ch (E ch) p)) : ∀ (n : Nat) (x2 x3 x4 : Int) (σ : Mem), x4 + n = 60 → 0 ≤ x4 → rg x2 → OK σ → CB e σ → σ 35 4 = 0 → (0 ≤ x3 ∧ x3 < σ 5 7) → σ 13 x3 = -1 → σ 7 x3 = 10 →
    ∃ v σ2, Lb (d + 6) yRd_list 7 [(0, .ref 35), (1, vi x), (2, vi x2), (3, vi x3), (4, vi x4)] [] σ (some v) σ2 ∧ rg v ∧ frR σ σ2 ∧ RI σ2 ∧ σ2 37 = σ 37 ∧ (∀ y, pList (chr σ) (E (chr σ)) n (σ 35 3) = some y → v = x2) ∧ LOm (pList (chr σ) (E (chr σ)) n (σ 35 3)) σ σ2 x3
  | 0, x2, x3, x4, σ, hn, h0, g2, H, hC, hb, hl, h13, h7 => by
    have hm := H.1.2.2.2
    refine ⟨-1, _, K_Rd_list_7 ⟨by omega, by omega⟩ g2 ⟨by omega, by omega⟩ ⟨by omega, by omega⟩ ?_, rgk rfl, frR.mu (i := 35) (k := 4) (z := 1) rfl, H.1.br, mup_obj (by decide), (fun y hy => by cases hy), ?_⟩
    · unfold B_Rd_list_7
      rw [if_pos (by omega)]
      exact ⟨-1, _, s_breakOff (d := d + 2), rfl, rfl⟩
    · show mup σ 35 4 1 35 4 ≠ 0
      rw [mup_eq]; decide
  | n + 1, x2, x3, x4, σ, hn, h0, g2, H, hC, hb, hl, h13, h7 => by
    have hm := H.1.2.2.2
    have g3 : rg x3 := ⟨by omega, by omega⟩
    obtain ⟨v1, σ1, r1, E1⟩ := hA σ H hC
    have S1 := E1.st H
    rw [if_pos hb] at S1
    have z1 : σ1 37 = σ 37 := E1.2.2.2.1
    obtain ⟨v2, σ2, r2, z2, -, k2⟩ := S1.takes (d := d + 1) (t := 44) (rgk rfl) (by decide)
    rcases k2 with ⟨rfl, y, hy, ny, S2⟩ | ⟨rfl, ny, S2⟩
    · obtain ⟨t, ht, rfl⟩ := Option.map_eq_some_iff.mp hy
      have ht' : pCmp (chr σ) (E (chr σ)) (σ 35 3) = some t := ht
      have S2 : ST σ σ2 (some (3, [(t.1, v1)], !(clo t.1 (bd σ)), sk (chr σ) t.2 + 1)) := S2
      have ny : nx (chr σ) t.2 = 44 := ny
      obtain ⟨σ3, r3, f3, i3, z3, o3, n3, le3, p3, k3, q3, ⟨e7, e9, e11, e13, e15⟩, t3⟩ := cell_add (d := d + 4) H S2 E1.1 (by decide)
      obtain ⟨g, h1, h2, h3, h4, h5, -, -, -, h9⟩ := S2.2.2
      have lt3 := i3.2.2.2
      -- the cell hangs on the one before it
      have zz : (lnk σ3 13 x3 (σ2 5 7) x3) 37 = σ 37 := (lnk_f (Or.inl rfl) 37 (by decide) (by decide)).trans ((z3.trans z2).trans z1)
      have f35 : (lnk σ3 13 x3 (σ2 5 7) x3) 35 = σ2 35 := (lnk_f (Or.inl rfl) 35 (by decide) (by decide)).trans o3
      have f5 : (lnk σ3 13 x3 (σ2 5 7) x3) 5 = σ3 5 := lnk_f (Or.inl rfl) 5 (by decide) (by decide)
      have p4 : PQ (lnk σ3 13 x3 (σ2 5 7) x3) := lnk_PQ (Or.inl rfl) i3 p3 ⟨hl.1, by rw [n3]; omega⟩ ⟨by omega, by rw [n3]; omega⟩ q3 (by omega) hl.1 (by rw [if_neg (fun h => absurd h.1 (by decide))])
      have H4 : OK (lnk σ3 13 x3 (σ2 5 7) x3) := by
        refine ⟨lnk_RI (Or.inl rfl) i3, fun _ => ⟨?_, p4⟩⟩
        have := g.2.2.1
        rw [f5, f35, n3, h2]; omega
      have hb4 : (lnk σ3 13 x3 (σ2 5 7) x3) 35 4 = 0 := by rw [f35]; exact h1
      have h13' : (lnk σ3 13 x3 (σ2 5 7) x3) 13 (σ2 5 7) = -1 := by rw [lnk_j (Or.inl rfl), if_neg (by omega)]; exact e13
      have h7' : (lnk σ3 13 x3 (σ2 5 7) x3) 7 (σ2 5 7) = 10 := by rw [lnk_f (Or.inl rfl) 7 (by decide) (by decide)]; exact e7
      obtain ⟨w, σ5, L5, g5, f6, i6, z6, w6, m6⟩ := list_l hx hA n x2 (σ2 5 7) (x4 + 1) (lnk σ3 13 x3 (σ2 5 7) x3) (by omega) (by omega) g2 H4 (fun y a b => by rw [zz]; exact hC y a b) hb4 ⟨by omega, by rw [f5, n3]; omega⟩ h13' h7'
      have hch : chr (lnk σ3 13 x3 (σ2 5 7) x3) = chr σ := (f3.tr (lnk_fr (Or.inl rfl))).chr
      have e1 : pList (chr σ) (E (chr σ)) (n + 1) (σ 35 3) = (pList (chr σ) (E (chr σ)) n (sk (chr σ) t.2 + 1)).map (fun r => (nd 10 0 t.1 r.1 nl, r.2)) := by
        rw [pList, ht']; dsimp only [Option.bind_some]; rw [if_pos ny]
      have at4 : (lnk σ3 13 x3 (σ2 5 7) x3) 35 3 = sk (chr σ) t.2 + 1 := by rw [f35]; exact h2
      rw [hch, at4] at w6 m6
      refine ⟨w, σ5, K_Rd_list_7 ⟨by omega, by omega⟩ g2 g3 ⟨by omega, by omega⟩ ?_, g5, (f3.tr (lnk_fr (Or.inl rfl))).tr f6, i6, z6.trans zz, ?_, ?_⟩
      · unfold B_Rd_list_7
        rw [if_neg (by omega)]
        refine ⟨v1, σ1, r1, 1, σ2, r2, ?_⟩
        rw [if_neg (by decide)]
        refine ⟨_, σ3, r3, ?_⟩
        unfold B_Rd_list_50 B_Rd_list_71
        rw [if_pos (by omega)]
        refine ⟨_, s_setSecond (d := d + 4) g3 ⟨by omega, by omega⟩, ?_⟩
        rw [if_pos (by decide)]
        exact ⟨⟨by omega, by omega⟩, L5⟩
      · intro y hy
        rw [e1] at hy
        obtain ⟨s, hs, -⟩ := Option.map_eq_some_iff.mp hy
        exact w6 s hs
      · rw [e1]
        cases hP : pList (chr σ) (E (chr σ)) n (sk (chr σ) t.2 + 1) with
        | none => rw [hP] at m6; exact m6
        | some s =>
          obtain ⟨T, q⟩ := s
          rw [hP] at m6
          obtain ⟨a1, a2, a3, ⟨b1, b2, b3, b4, b5, b6⟩, a5⟩ := m6
          rw [at4] at a3 b1
          rw [f5, n3] at b1 b2 b3 b6
          have low : ∀ y, 0 ≤ y → y < σ2 5 7 + 1 → σ5 7 y = σ3 7 y ∧ σ5 9 y = σ3 9 y ∧ σ5 11 y = σ3 11 y ∧ (y ≠ σ2 5 7 → y ≠ x3 → σ5 13 y = σ3 13 y) ∧ σ5 15 y = σ3 15 y ∧ (y ≠ σ2 5 7 → σ5 17 y = σ3 17 y) := by
            intro y ya yb
            obtain ⟨c1, c2, c3, c4, c5, c6⟩ := b6 y ya yb
            rw [lnk_f (Or.inl rfl) 7 (by decide) (by decide)] at c1
            rw [lnk_f (Or.inl rfl) 9 (by decide) (by decide)] at c2
            rw [lnk_f (Or.inl rfl) 11 (by decide) (by decide)] at c3
            rw [lnk_j (Or.inl rfl)] at c4
            rw [lnk_f (Or.inl rfl) 15 (by decide) (by decide)] at c5
            rw [lnk_17 (Or.inl rfl)] at c6
            refine ⟨c1, c2, c3, fun u1 u2 => ?_, c5, fun u1 => ?_⟩
            · have := c4 u1; rwa [if_neg (fun u => u2 u.1)] at this
            · rwa [if_neg (fun u => u1 u.1)] at c6
          have at13 : σ5 13 x3 = σ2 5 7 := by
            have := (b6 x3 hl.1 (by omega)).2.2.2.1 (by omega)
            rw [lnk_j (Or.inl rfl), if_pos ⟨rfl, hl.1, by omega⟩] at this
            exact this
          have at17 : σ5 17 (σ2 5 7) = x3 := by
            have := (b6 (σ2 5 7) (by omega) (by omega)).2.2.2.2.2
            rw [lnk_17 (Or.inl rfl), if_pos ⟨rfl, by omega, by omega⟩] at this
            exact this
          have lc := low (σ2 5 7) (by omega) (by omega)
          refine ⟨a1, a2, by have := sk_ge (ch := chr σ) (p := t.2); omega, ⟨?_, ?_, ?_, ?_, b5, ?_⟩, ?_⟩
          · rw [a2] at b1 ⊢; omega
          · rw [at13]; omega
          · rw [at13]
            refine isT_nd.mpr ⟨⟨by omega, by omega⟩, lc.1.trans e7, lc.2.1.trans e9, ?_, ?_, ?_⟩
            · show isT σ5 5 (σ 5 7) (σ5 5 7) t.1 (σ5 11 (σ2 5 7))
              rw [lc.2.2.1, e11]
              refine isT.mv (Int.le_refl _) (by omega) (fun y ya yb => ?_) t3
              obtain ⟨c1, c2, c3, c4, c5, c6⟩ := low y (by have := g.2.1; omega) (by omega)
              exact ⟨c1, c2, c3, c4 (by omega) (by omega), c5⟩
            · show isT σ5 5 (σ 5 7) (σ5 5 7) T (σ5 13 (σ2 5 7))
              exact isT.mv (by omega) (Int.le_refl _) (fun _ _ _ => ⟨rfl, rfl, rfl, rfl, rfl⟩) b3
            · show isT σ5 5 (σ 5 7) (σ5 5 7) nl (σ5 15 (σ2 5 7))
              rw [lc.2.2.2.2.1]; exact e15
          · rw [at13]; exact at17
          · intro y ya yb
            obtain ⟨c1, c2, c3, c4, c5, c6⟩ := low y ya (by omega)
            obtain ⟨u1, u2, u3, u4, u5, u6⟩ := k3 y ya yb
            exact ⟨c1.trans u1, c2.trans u2, c3.trans u3, fun q => (c4 (by omega) q).trans u4, c5.trans u5, (c6 (by omega)).trans u6⟩
          · rw [a5, f35, h9, bd_of zz, clo_nd]
            cases clo t.1 (bd σ) <;> cases clo T (bd σ) <;> simp [clo_nl, or_assoc]
    · have zz : (lnk σ2 13 x3 v1 x3) 37 = σ 37 := (lnk_f (Or.inl rfl) 37 (by decide) (by decide)).trans (z2.trans z1)
      have f35 : (lnk σ2 13 x3 v1 x3) 35 = σ2 35 := lnk_f (Or.inl rfl) 35 (by decide) (by decide)
      have f5 : (lnk σ2 13 x3 v1 x3) 5 = σ2 5 := lnk_f (Or.inl rfl) 5 (by decide) (by decide)
      refine ⟨x2, _, K_Rd_list_7 ⟨by omega, by omega⟩ g2 g3 ⟨by omega, by omega⟩ ?_, g2, S2.1.tr (lnk_fr (Or.inl rfl)), lnk_RI (Or.inl rfl) S2.2.1, zz, fun _ _ => rfl, ?_⟩
      · unfold B_Rd_list_7
        rw [if_neg (by omega)]
        refine ⟨v1, σ1, r1, 0, σ2, r2, ?_⟩
        rw [if_pos rfl]
        unfold B_Rd_list_50 B_Rd_list_71
        rw [if_pos (by omega)]
        refine ⟨_, s_setSecond (d := d + 4) g3 E1.1, ?_⟩
        rw [if_neg (by decide)]
        exact ⟨rfl, rfl⟩
      · cases hP : pCmp (chr σ) (E (chr σ)) (σ 35 3) with
        | none =>
          rw [show (fun ch p => pCmp ch (E ch) p) (chr σ) (σ 35 3) = none from hP] at S2
          have e1 : pList (chr σ) (E (chr σ)) (n + 1) (σ 35 3) = none := by rw [pList, hP]; rfl
          rw [e1]
          show lnk σ2 13 x3 v1 x3 35 4 ≠ 0
          rw [f35]; exact S2.2.2
        | some t =>
          rw [show (fun ch p => pCmp ch (E ch) p) (chr σ) (σ 35 3) = some t from hP] at S2 ny
          have ny' : nx (chr σ) t.2 ≠ 44 := ny
          have e1 : pList (chr σ) (E (chr σ)) (n + 1) (σ 35 3) = some (t.1, sk (chr σ) t.2) := by
            rw [pList, hP]; dsimp only [Option.bind_some]; rw [if_neg ny']
          rw [e1]
          obtain ⟨g, h1, h2, h3, h4, h5, h6, h7', h8, h9⟩ := S2.2.2
          obtain ⟨t1, t2, t3⟩ := h8.1 _ List.mem_cons_self
          have hv : σ 5 7 ≤ v1 ∧ v1 < σ2 5 7 ∧ σ2 17 v1 = -1 := by
            rcases t2 with w | w
            · exact absurd w t3
            · exact w
          have i2 := S2.2.1.2.2.2
          have at13 : (lnk σ2 13 x3 v1 x3) 13 x3 = v1 := by rw [lnk_j (Or.inl rfl), if_pos ⟨rfl, hl.1, by omega⟩]
          have z0 := g.2.1
          refine ⟨by rw [f35]; exact h1, by rw [f35]; exact h2, h3, ⟨?_, ?_, ?_, ?_, ?_, ?_⟩, ?_⟩
          · rw [f35, f5, h2]; exact h4
          · rw [at13, f5]; exact ⟨hv.1, hv.2.1⟩
          · rw [at13, f5]
            refine isT.mv (Int.le_refl _) (Int.le_refl _) (fun y ya yb => ?_) t1
            refine ⟨congrFun (lnk_f (Or.inl rfl) 7 (by decide) (by decide)) y, congrFun (lnk_f (Or.inl rfl) 9 (by decide) (by decide)) y, congrFun (lnk_f (Or.inl rfl) 11 (by decide) (by decide)) y, ?_, congrFun (lnk_f (Or.inl rfl) 15 (by decide) (by decide)) y⟩
            show lnk σ2 13 x3 v1 x3 13 y = σ2 13 y
            rw [lnk_j (Or.inl rfl), if_neg (by omega)]
          · rw [at13, lnk_17 (Or.inl rfl), if_pos ⟨rfl, by omega, by omega⟩]
          · exact lnk_PQ (Or.inl rfl) S2.2.1 h6 ⟨hl.1, by omega⟩ ⟨by omega, hv.2.1⟩ hv.2.2 (by omega) hl.1 (by rw [if_neg (fun h => absurd h.1 (by decide))])
          · intro y ya yb
            obtain ⟨u1, u2, u3, u4, u5, u6⟩ := h7' y ya yb
            refine ⟨?_, ?_, ?_, ?_, ?_, ?_⟩
            · rw [lnk_f (Or.inl rfl) 7 (by decide) (by decide)]; exact u1
            · rw [lnk_f (Or.inl rfl) 9 (by decide) (by decide)]; exact u2
            · rw [lnk_f (Or.inl rfl) 11 (by decide) (by decide)]; exact u3
            · intro q; rw [lnk_j (Or.inl rfl), if_neg (fun u => q u.1)]; exact u4
            · rw [lnk_f (Or.inl rfl) 15 (by decide) (by decide)]; exact u5
            · rw [lnk_17 (Or.inl rfl), if_neg (by omega)]; exact u6
          · rw [f35, h9]
            dsimp only
            cases clo t.1 (bd σ) <;> simp
end PL
end LI
section L2
variable {d : Nat} {x e : Int} {E : (Int → Int) → Int → Option (Tr × Int)}
theorem s_list (hx : 0 ≤ x ∧ x ≤ 100) (hA : LSp yRd_comparison (d + 6) x e (fun ch p => pCmp ch (E ch) p)) : LSp yRd_list (d + 7) x e (fun ch p => pList ch (E ch) 60 p) := by
  intro σ H hC
  have rx : rg x := ⟨by omega, by omega⟩
  have hm := H.1.2.2.2
  obtain ⟨v1, σ1, r1, E1⟩ := hA σ H hC
  have S1 := E1.st H
  have z1 : σ1 37 = σ 37 := E1.2.2.2.1
  obtain ⟨v2, σ2, r2, z2, -, k2⟩ := S1.takes (d := d + 1) (t := 44) (rgk rfl) (by decide)
  rcases k2 with ⟨rfl, y, hy, ny, S2⟩ | ⟨rfl, ny, S2⟩
  · obtain ⟨t, ht, rfl⟩ := Option.map_eq_some_iff.mp hy
    have hb : σ 35 4 = 0 := by
      by_cases hb : σ 35 4 = 0
      · exact hb
      · rw [if_neg hb] at ht; cases ht
    rw [if_pos hb] at ht
    have ht' : pCmp (chr σ) (E (chr σ)) (σ 35 3) = some t := ht
    have S2 : ST σ σ2 (some (3, [(t.1, v1)], !(clo t.1 (bd σ)), sk (chr σ) t.2 + 1)) := S2
    have ny : nx (chr σ) t.2 = 44 := ny
    obtain ⟨σ3, r3, f3, i3, z3, o3, n3, le3, p3, k3, q3, ⟨e7, e9, e11, e13, e15⟩, t3⟩ := cell_add (d := d + 4) H S2 E1.1 (by decide)
    obtain ⟨g, h1, h2, h3, h4, h5, -, -, -, h9⟩ := S2.2.2
    have zz : σ3 37 = σ 37 := (z3.trans z2).trans z1
    have z0 := g.2.1
    have lt3 := i3.2.2.2
    have H4 : OK σ3 := by
      refine ⟨i3, fun _ => ⟨?_, p3⟩⟩
      have := g.2.2.1
      rw [o3, n3, h2]; omega
    have hb4 : σ3 35 4 = 0 := by rw [o3]; exact h1
    obtain ⟨w, σ5, L5, g5, f6, i6, z6, w6, m6⟩ := list_l hx hA 59 (σ2 5 7) (σ2 5 7) 1 σ3 (by omega) (by omega) ⟨by omega, by omega⟩ H4 (fun y a b => by rw [zz]; exact hC y a b) hb4 ⟨by omega, by rw [n3]; omega⟩ e13 e7
    have hch : chr σ3 = chr σ := f3.chr
    have e1 : pList (chr σ) (E (chr σ)) 60 (σ 35 3) = (pList (chr σ) (E (chr σ)) 59 (sk (chr σ) t.2 + 1)).map (fun r => (nd 10 0 t.1 r.1 nl, r.2)) := by
      rw [pList, ht']; dsimp only [Option.bind_some]; rw [if_pos ny]
    have at4 : σ3 35 3 = sk (chr σ) t.2 + 1 := by rw [o3]; exact h2
    rw [hch, at4] at w6 m6
    refine ⟨w, σ5, M_Rd_list rx (K_Rd_list_7 rx (rgk rfl) (rgk rfl) (rgk rfl) ?_), g5, f3.tr f6, i6, z6.trans zz, fun h => absurd hb h, fun _ _ => ?_⟩
    · unfold B_Rd_list_7
      rw [if_neg (by decide)]
      refine ⟨v1, σ1, r1, 1, σ2, r2, ?_⟩
      rw [if_neg (by decide)]
      refine ⟨_, σ3, r3, ?_⟩
      unfold B_Rd_list_50 B_Rd_list_71
      rw [if_neg (by decide), if_pos (by decide)]
      exact ⟨rgk rfl, L5⟩
    · show EOm (pList (chr σ) (E (chr σ)) 60 (σ 35 3)) σ σ5 w
      rw [e1]
      cases hP : pList (chr σ) (E (chr σ)) 59 (sk (chr σ) t.2 + 1) with
      | none => rw [hP] at m6; exact m6
      | some s =>
        obtain ⟨T, q⟩ := s
        have hw := w6 _ hP
        rw [hP] at m6
        obtain ⟨a1, a2, a3, ⟨b1, b2, b3, b4, b5, b6⟩, a5⟩ := m6
        rw [at4] at a3 b1
        rw [n3] at b1 b2 b3 b6
        have lc := b6 (σ2 5 7) (by omega) (by omega)
        have ske := sk_ge (ch := chr σ) (p := t.2)
        subst hw
        refine ⟨a1, a2, by omega, ⟨?_, ?_, ?_, ?_, b5, ?_⟩, ?_⟩
        · rw [a2] at b1 ⊢; omega
        · omega
        · refine isT_nd.mpr ⟨⟨by omega, by omega⟩, lc.1.trans e7, lc.2.1.trans e9, ?_, ?_, ?_⟩
          · show isT σ5 5 (σ 5 7) (σ5 5 7) t.1 (σ5 11 (σ2 5 7))
            rw [lc.2.2.1, e11]
            refine isT.mv (Int.le_refl _) (by omega) (fun y ya yb => ?_) t3
            obtain ⟨c1, c2, c3, c4, c5, c6⟩ := b6 y (by omega) (by omega)
            exact ⟨c1, c2, c3, c4 (by omega), c5⟩
          · show isT σ5 5 (σ 5 7) (σ5 5 7) T (σ5 13 (σ2 5 7))
            exact isT.mv (by omega) (Int.le_refl _) (fun _ _ _ => ⟨rfl, rfl, rfl, rfl, rfl⟩) b3
          · show isT σ5 5 (σ 5 7) (σ5 5 7) nl (σ5 15 (σ2 5 7))
            rw [lc.2.2.2.2.1]; exact e15
        · exact lc.2.2.2.2.2.trans q3
        · intro y ya yb
          obtain ⟨c1, c2, c3, c4, c5, c6⟩ := b6 y ya (by omega)
          obtain ⟨u1, u2, u3, u4, u5, u6⟩ := k3 y ya yb
          exact ⟨c1.trans u1, c2.trans u2, c3.trans u3, (c4 (by omega)).trans u4, c5.trans u5, c6.trans u6⟩
        · rw [a5, o3, h9, bd_of zz, clo_nd]
          cases clo t.1 (bd σ) <;> cases clo T (bd σ) <;> simp [clo_nl, or_assoc]
  · refine ⟨v1, σ2, M_Rd_list rx (K_Rd_list_7 rx (rgk rfl) (rgk rfl) (rgk rfl) ?_), S2.eo E1.1 (z2.trans z1) (fun h hb => ?_) (fun w hw => ?_)⟩
    · unfold B_Rd_list_7
      rw [if_neg (by decide)]
      refine ⟨v1, σ1, r1, 0, σ2, r2, ?_⟩
      rw [if_pos rfl]
      unfold B_Rd_list_50 B_Rd_list_71
      rw [if_neg (by decide), if_neg (by decide)]
      exact ⟨rfl, rfl⟩
    · rw [if_pos hb] at h
      show pList (chr σ) (E (chr σ)) 60 (σ 35 3) = none
      cases hP : pCmp (chr σ) (E (chr σ)) (σ 35 3) with
      | none => rw [pList, hP]; rfl
      | some t => rw [show (fun ch p => pCmp ch (E ch) p) (chr σ) (σ 35 3) = some t from hP] at h; cases h
    · obtain ⟨y0, hy0, rfl⟩ := Option.map_eq_some_iff.mp hw
      obtain ⟨t, ht, rfl⟩ := Option.map_eq_some_iff.mp hy0
      have hb : σ 35 4 = 0 := by
        by_cases hb : σ 35 4 = 0
        · exact hb
        · rw [if_neg hb] at ht; cases ht
      rw [hy0] at ny
      have ny' : nx (chr σ) t.2 ≠ 44 := ny
      rw [if_pos hb] at ht
      have ht' : pCmp (chr σ) (E (chr σ)) (σ 35 3) = some t := ht
      refine ⟨Nat.le_refl 1, t.1, List.mem_cons_self, ?_, rfl⟩
      show pList (chr σ) (E (chr σ)) 60 (σ 35 3) = some (t.1, sk (chr σ) t.2)
      rw [pList, ht']; dsimp only [Option.bind_some]; rw [if_neg ny']
end L2
