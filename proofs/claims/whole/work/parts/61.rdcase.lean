/-! The class's reader: branches and choices. -/
section CA
variable {d : Nat} {σ σ1 : Mem} {R : PRG}
theorem ST.bindAll_l {m t e : Int} (hm : rg m) (ht : t = 1 ∨ t = -1) (he : 0 ≤ e ∧ e ≤ 900) : ∀ (n : Nat) (x3 : Int) (σ1 : Mem), x3 + n = 26 → 0 ≤ x3 → CB (e + 1) σ1 → (∀ y, x3 ≤ y → y < 26 → zAnd (zShr m y) 1 = 1 → (t = 1 → σ1 37 y ≤ e) ∧ (t = -1 → 1 ≤ σ1 37 y)) → ST σ σ1 R →
    ∃ σ2, Lb (d + 4) yRd_bindAll 2 [(0, .ref 35), (1, vi m), (2, vi t), (3, vi x3)] [] σ1 none σ2 ∧ ST σ σ2 R ∧ σ2 35 = σ1 35 ∧ CB (e + 1) σ2 ∧ ∀ y, σ2 37 y = if x3 ≤ y ∧ y < 26 ∧ zAnd (zShr m y) 1 = 1 then σ1 37 y + t else σ1 37 y
  | 0, x3, σ1, hn, h0, hC, hB, S => by
    refine ⟨σ1, K_Rd_bindAll_2 (d := d + 1) hm ⟨by omega, by omega⟩ ⟨by omega, by omega⟩ ?_, S, rfl, hC, fun y => by rw [if_neg (by omega)]⟩
    unfold B_Rd_bindAll_2
    rw [if_pos (by omega)]
    exact ⟨rfl, rfl⟩
  | n + 1, x3, σ1, hn, h0, hC, hB, S => by
    by_cases c : zAnd (zShr m x3) 1 = 1
    · have hx := hC x3 h0 (by omega)
      have hb := hB x3 (Int.le_refl _) (by omega) c
      obtain ⟨σ2, r2, S2, z2, o2⟩ := S.bind (d := d) (z := 97 + x3) (t := t) hC (by omega) (Or.inr ⟨by omega, by omega⟩) ht
      have e1 : (97 + x3) - 97 = x3 := by omega
      have rv : rowv 26 σ1 37 x3 = σ1 37 x3 := by unfold rowv; rw [if_pos ⟨h0, by omega⟩]
      have k2 : ∀ y, σ2 37 y = if y = x3 then σ1 37 x3 + t else σ1 37 y := fun y => by
        rw [z2, e1, rv, rows_at]
        by_cases q : y = x3
        · rw [if_pos q, if_pos ⟨q, h0, by omega⟩]
        · rw [if_neg q, if_neg (fun w => q w.1)]
      have hC2 : CB (e + 1) σ2 := fun y a b => by
        rw [k2]
        have := hC y a b
        split
        · rcases ht with rfl | rfl
          · have := hb.1 rfl; omega
          · have := hb.2 rfl; omega
        · exact this
      obtain ⟨σ3, L3, S3, o3, hC3, k3⟩ := ST.bindAll_l hm ht he n (x3 + 1) σ2 (by omega) (by omega) hC2 (fun y a b w => by
        rw [k2, if_neg (by omega)]
        exact hB y (by omega) b w) S2
      refine ⟨σ3, K_Rd_bindAll_2 (d := d + 1) hm ⟨by omega, by omega⟩ ⟨by omega, by omega⟩ ?_, S3, o3.trans o2, hC3, fun y => ?_⟩
      · unfold B_Rd_bindAll_2 B_Rd_bindAll_26
        rw [if_neg (by omega), if_neg (fun w => w c)]
        exact ⟨σ2, r2, ⟨by omega, by omega⟩, L3⟩
      · rw [k3, k2]
        by_cases q : y = x3
        · subst q; rw [if_neg (by omega), if_pos rfl, if_pos ⟨Int.le_refl _, by omega, c⟩]
        · rw [if_neg q]
          by_cases w : x3 + 1 ≤ y ∧ y < 26 ∧ zAnd (zShr m y) 1 = 1
          · rw [if_pos w, if_pos ⟨by omega, w.2⟩]
          · rw [if_neg w, if_neg (fun s => w ⟨by omega, s.2⟩)]
    · obtain ⟨σ3, L3, S3, o3, hC3, k3⟩ := ST.bindAll_l hm ht he n (x3 + 1) σ1 (by omega) (by omega) hC (fun y a b w => hB y (by omega) b w) S
      refine ⟨σ3, K_Rd_bindAll_2 (d := d + 1) hm ⟨by omega, by omega⟩ ⟨by omega, by omega⟩ ?_, S3, o3, hC3, fun y => ?_⟩
      · unfold B_Rd_bindAll_2 B_Rd_bindAll_26
        rw [if_neg (by omega), if_pos c]
        exact ⟨⟨by omega, by omega⟩, L3⟩
      · rw [k3]
        by_cases w : x3 + 1 ≤ y ∧ y < 26 ∧ zAnd (zShr m y) 1 = 1
        · rw [if_pos w, if_pos ⟨by omega, w.2⟩]
        · rw [if_neg w, if_neg (fun s => w ⟨by
            rcases Int.lt_or_le x3 y with q | q
            · omega
            · have : y = x3 := by omega
              subst this; exact absurd s.2.2 c, s.2⟩)]
theorem ST.bindAll {m t e : Int} (hm : rg m) (ht : t = 1 ∨ t = -1) (he : 0 ≤ e ∧ e ≤ 900) (hC : CB (e + 1) σ1) (hB : ∀ y, 0 ≤ y → y < 26 → zAnd (zShr m y) 1 = 1 → (t = 1 → σ1 37 y ≤ e) ∧ (t = -1 → 1 ≤ σ1 37 y)) (S : ST σ σ1 R) :
    ∃ σ2, Rn (d + 5) yRd_bindAll [.ref 35, vi m, vi t] σ1 none σ2 ∧ ST σ σ2 R ∧ σ2 35 = σ1 35 ∧ CB (e + 1) σ2 ∧ ∀ y, σ2 37 y = if 0 ≤ y ∧ y < 26 ∧ zAnd (zShr m y) 1 = 1 then σ1 37 y + t else σ1 37 y := by
  obtain ⟨σ2, L, h⟩ := ST.bindAll_l (d := d) hm ht he 26 0 σ1 (by omega) (by omega) hC hB S
  exact ⟨σ2, M_Rd_bindAll (d := d + 1) hm ⟨by omega, by omega⟩ L, h⟩
/-- a node out of what was read, with all that is known of it -/
theorem ST.addX {k c0 : Nat} {ki z a b c q : Int} {A B C : Tr} {Ts : List (Tr × Int)} {u : Bool} (S : ST σ σ1 (some (c0, Ts, u, q))) (hki : ki = k) (rk : rg ki) (hz : rg z) (ha : rg a) (hb : rg b) (hc : rg c) (h17 : k = 17 → c = -1) (hn : 2 ≤ c0) (iA : inP Ts A a) (iB : inP Ts B b) (iC : inP Ts C c) (hd : (Ts.map Prod.snd).Nodup → df3 a b c) :
    ∃ σ2, Rn (d + 2) yTr_add [.ref 5, vi ki, vi z, vi a, vi b, vi c] σ1 (some (σ1 5 7)) σ2 ∧ frR σ σ2 ∧ RI σ2 ∧ σ2 37 = σ1 37 ∧ σ2 35 = σ1 35 ∧ σ2 5 7 = σ1 5 7 + 1 ∧ σ 5 7 ≤ σ1 5 7 ∧ PQ σ2 ∧ kpB (σ 5 7) σ σ2 ∧ σ2 17 (σ1 5 7) = -1 ∧ (σ2 7 (σ1 5 7) = k ∧ σ2 9 (σ1 5 7) = z ∧ σ2 11 (σ1 5 7) = a ∧ σ2 13 (σ1 5 7) = b ∧ σ2 15 (σ1 5 7) = c) ∧ isT σ2 5 (σ 5 7) (σ1 5 7) A a ∧ isT σ2 5 (σ 5 7) (σ1 5 7) B b ∧ isT σ2 5 (σ 5 7) (σ1 5 7) C c := by
  have i := S.2.1
  obtain ⟨lt, z0, le⟩ := PG.cn i S.2.2 hn
  obtain ⟨g, h1, h2, h3, h4, h5, h6, h7, h8, h9⟩ := S.2.2
  have one : ∀ {A : Tr} {a : Int}, inP Ts A a → isT σ1 5 (σ 5 7) (σ1 5 7) A a ∧ rt σ1 (σ 5 7) a := fun {A a} w => by
    rcases w with ⟨rfl, rfl⟩ | w
    · exact ⟨rfl, Or.inl rfl⟩
    · exact ⟨(h8.1 _ w).1, (h8.1 _ w).2.1⟩
  obtain ⟨σ2, r, i2, f2, n2, p2, t2, r2, k2, e2, o2, -⟩ := add_TX (d := d) i hki rk hz ha hb hc lt h6 z0 le (one iA).1 (one iB).1 (one iC).1 (one iA).2 (one iB).2 (one iC).2 h17 (hd h8.2)
  have mv : ∀ {A : Tr} {a : Int}, isT σ1 5 (σ 5 7) (σ1 5 7) A a → isT σ2 5 (σ 5 7) (σ1 5 7) A a := fun t => isT.mv (Int.le_refl _) (Int.le_refl _) (fun y _ hy => o2 y (by omega)) t
  exact ⟨σ2, r, S.1.tr (fun i hi => f2 i (trP_rd hi)), i2, f2 37 rfl, f2 35 rfl, n2, le, p2, h7.tr k2 (Int.le_refl _), r2, e2, mv (one iA).1, mv (one iB).1, mv (one iC).1⟩
section PL
variable {x e : Int} {E : (Int → Int) → Int → Option (Tr × Int)} {P : (Int → Int) → Int → List Int → PaR}
/-- one branch: its pattern, its expression, how many names -/
def pB1 (ch : Int → Int) (P : Int → List Int → PaR) (E : Int → Option (Tr × Int)) (p : Int) : Option ((Nat × Tr × Tr) × Int) := (P p []).bind fun a => (pEx ch 58 a.2.1).bind fun r => (E r).map fun b => ((a.2.2.length, a.1, b.1), b.2)
def B1m (Q : Option ((Nat × Tr × Tr) × Int)) (σ σ2 : Mem) (v : Int) : Prop := match Q with
  | none => σ2 35 4 ≠ 0
  | some ((n, A, B), q) => σ2 35 4 = 0 ∧ σ2 35 3 = q ∧ σ 35 3 ≤ q ∧ σ2 5 7 - 2 * q ≤ σ 5 7 - 2 * σ 35 3 - 1 ∧ σ2 5 7 = v + 1 ∧ σ 5 7 ≤ v ∧ PQ σ2 ∧ kpB (σ 5 7) σ σ2 ∧ σ2 17 v = -1 ∧ (σ2 7 v = 17 ∧ σ2 9 v = n ∧ σ2 15 v = -1) ∧ isT σ2 5 (σ 5 7) v A (σ2 11 v) ∧ isT σ2 5 (σ 5 7) v B (σ2 13 v) ∧ (σ2 35 5 ≠ 0 ↔ (σ 35 5 ≠ 0 ∨ clo B (addl (bd σ) (bnd A)) = false))
theorem s_branch (hx : 0 ≤ x ∧ x ≤ 100) (he : 0 ≤ e ∧ e ≤ 500) (hbc : ∀ {d : Nat} {m : Int} {σ : Mem}, rg m → ∃ v, rg v ∧ Rn (d + 4) yIn_bitCount [vi m] σ (some v) σ ∧ ∀ L, mk m L → v = L.length) (hE : LSp yRd_expression (d + 6) (x + 1) (e + 1) E) (hP : PSp yRd_pattern (d + 6) (x + 1) P) (hcl : ∀ ch p L t, P ch p L = some t → ∀ e, clo t.1 e = true) :
    ∀ σ, OK σ → CB e σ → ∃ v σ2, Rn (d + 7) yRd_branch [.ref 35, vi x] σ (some v) σ2 ∧ rg v ∧ frR σ σ2 ∧ RI σ2 ∧ σ2 37 = σ 37 ∧ (σ 35 4 ≠ 0 → σ2 35 4 ≠ 0) ∧ (σ 35 4 = 0 → B1m (pB1 (chr σ) (P (chr σ)) (E (chr σ)) (σ 35 3)) σ σ2 v) := by
  intro σ0 H0 hC0
  have rx : rg x := ⟨by omega, by omega⟩
  -- the mask is wiped
  generalize hσ : mup σ0 35 6 0 = σ
  have k3 : σ 35 3 = σ0 35 3 := by rw [← hσ]; exact mup_nk (by decide)
  have k4 : σ 35 4 = σ0 35 4 := by rw [← hσ]; exact mup_nk (by decide)
  have k5 : σ 35 5 = σ0 35 5 := by rw [← hσ]; exact mup_nk (by decide)
  have k6 : σ 35 6 = 0 := by rw [← hσ]; exact mup_eq
  have ro : ∀ {j : Nat}, j ≠ 35 → σ j = σ0 j := fun hj => by rw [← hσ]; exact mup_obj hj
  have fr0 : frR σ0 σ := by rw [← hσ]; exact frR.mu rfl
  have H : OK σ := by
    refine ⟨⟨fr0.li H0.1.1, ?_, ?_⟩, fun hb => ⟨?_, ?_⟩⟩
    · rw [k3, ro (by decide)]; exact H0.1.2.1
    · rw [ro (by decide)]; exact H0.1.2.2
    · rw [k3, ro (show 5 ≠ 35 by decide)]; exact (H0.2 (by rw [← k4]; exact hb)).1
    · exact (H0.2 (by rw [← k4]; exact hb)).2.cg (by rw [ro (by decide)]) (ro (by decide)) (ro (by decide)) (ro (by decide)) (ro (by decide)) (ro (by decide)) (ro (by decide))
  have hC : CB e σ := fun y a b => by rw [ro (by decide)]; exact hC0 y a b
  have hch : chr σ = chr σ0 := fr0.chr
  obtain ⟨v1, σ1, r1, E1, M1⟩ := hP σ [] H (fun _ => by rw [k6]; exact mk_0)
  have S1 : ST σ σ1 (((if σ 35 4 = 0 then P (chr σ) (σ 35 3) [] else none).map fun t => (t.1, t.2.1)).map fun t => (1, [(t.1, v1)], !(clo t.1 (bd σ)), t.2)) := by
    have := E1.st H
    by_cases hb : σ 35 4 = 0
    · rw [if_pos hb] at this ⊢; exact this
    · rw [if_neg hb] at this ⊢; exact this
  have z1 : σ1 37 = σ 37 := E1.2.2.2.1
  obtain ⟨σ2, r2, S2, z2, m2⟩ := S1.expect (d := d) (t := 58) (rgk rfl) (by decide)
  have y2 : σ2 37 = σ 37 := z2.trans z1
  obtain ⟨m, gm, vm, mm⟩ : ∃ m, rg m ∧ vi m = vi (σ1 35 6) ∧ ∀ L, mk (σ1 35 6) L → mk m L := by
    refine ⟨(Int32.ofInt (σ1 35 6)).toInt, rg_toInt, by unfold vi; rw [Int32.ofInt_toInt], fun L h => ⟨fun i => ?_, h.2⟩⟩
    rw [← h.1 i]
    unfold bt
    rw [bv_toInt]; rfl
  obtain ⟨σ3, r3, S3, o3, C3, q3⟩ := S2.bindAll (d := d + 1) (m := m) (t := 1) (e := e) gm (Or.inl rfl) (by omega) (fun y a b => by rw [y2]; have := hC y a b; omega) (fun y a b _ => ⟨fun _ => by rw [y2]; exact (hC y a b).2, fun h => by omega⟩)
  obtain ⟨v4, σ4, r4, g4, S4, z4⟩ := S3.sub hE C3
  obtain ⟨σ5, r5, S5, o5, C5, q5⟩ := S4.bindAll (d := d + 1) (m := m) (t := -1) (e := e) gm (Or.inr rfl) (by omega) (fun y a b => by rw [z4]; exact C3 y a b) (fun y a b w => ⟨fun h => by omega, fun _ => by
    rw [z4, q3, if_pos ⟨a, b, w⟩, y2]; have := hC y a b; omega⟩)
  have y5 : σ5 37 = σ 37 := by
    funext y
    rw [q5, z4, q3, y2]
    by_cases w : 0 ≤ y ∧ y < 26 ∧ zAnd (zShr m y) 1 = 1
    · rw [if_pos w, if_pos w]; omega
    · rw [if_neg w, if_neg w]
  obtain ⟨v6, g6, r6, h6⟩ := hbc (d := d + 2) (σ := σ5) gm
  rw [vm] at r3 r5 r6
  have done : ∀ {v σ6}, Rn (d + 6) yTr_add [.ref 5, vi 17, vi v6, vi v1, vi v4, vi (-1)] σ5 (some v) σ6 → Rn (d + 7) yRd_branch [.ref 35, vi x] σ0 (some v) σ6 := fun {v σ6} r7 =>
    M_Rd_branch (d := d + 3) rx ⟨v1, σ1, by rw [hσ]; exact r1, σ2, r2, σ3, r3, v4, σ4, r4, σ5, r5, v6, σ5, r6, v, σ6, r7, rfl, rfl⟩
  have none_end : ST σ σ5 none → (σ0 35 4 = 0 → pB1 (chr σ0) (P (chr σ0)) (E (chr σ0)) (σ0 35 3) = none) → ∃ v σ2, Rn (d + 7) yRd_branch [.ref 35, vi x] σ0 (some v) σ2 ∧ rg v ∧ frR σ0 σ2 ∧ RI σ2 ∧ σ2 37 = σ0 37 ∧ (σ0 35 4 ≠ 0 → σ2 35 4 ≠ 0) ∧ (σ0 35 4 = 0 → B1m (pB1 (chr σ0) (P (chr σ0)) (E (chr σ0)) (σ0 35 3)) σ0 σ2 v) := by
    intro S hN
    obtain ⟨v, σ6, r, i6, f6, gv⟩ := add_any (d := d + 4) (k := 17) (z := v6) (a := v1) (b := v4) (c := -1) S.2.1 (rgk rfl) g6 E1.1 g4 (rgk rfl)
    have hb' : σ6 35 4 ≠ 0 := by rw [f6 35 rfl]; exact S.2.2
    refine ⟨v, σ6, done r, gv, fr0.tr (S.1.tr (fun i hi => f6 i (trP_rd hi))), i6, ?_, fun _ => hb', fun h => ?_⟩
    · rw [f6 37 rfl, y5]; exact ro (by decide)
    · rw [hN h]; exact hb'
  by_cases hb : σ 35 4 = 0
  · rw [if_pos hb] at S5
    cases hq : P (chr σ) (σ 35 3) [] with
    | none =>
      rw [hq] at S5
      refine none_end S5 (fun _ => ?_)
      unfold pB1; rw [← hch, ← k3, hq]; rfl
    | some a =>
      rw [hq] at S5
      cases hw : pEx (chr σ) 58 a.2.1 with
      | none =>
        simp only [Option.map_some, Option.bind_some, hw, Option.map_none, Option.bind_none] at S5
        refine none_end S5 (fun _ => ?_)
        unfold pB1; rw [← hch, ← k3, hq]; dsimp only [Option.bind_some]; rw [hw]; rfl
      | some r =>
        cases hE' : E (chr σ) r with
        | none =>
          simp only [Option.map_some, Option.bind_some, hw, hE', Option.map_none] at S5
          refine none_end S5 (fun _ => ?_)
          unfold pB1; rw [← hch, ← k3, hq]; dsimp only [Option.bind_some]; rw [hw]; dsimp only [Option.bind_some]; rw [hE']; rfl
        | some b =>
          simp only [Option.map_some, Option.bind_some, hw, hE'] at S5
          obtain ⟨Ma, Mb⟩ := M1 a hb hq
          have hlen := h6 _ (mm _ Ma)
          obtain ⟨σ6, r7, f6, i6, z6, o6, n6, le6, p6, kp6, t6, ⟨e7, e9, e11, e13, e15⟩, tA, tB, -⟩ := S5.addX (d := d + 4) (k := 17) (ki := 17) (z := v6) (a := v1) (b := v4) (c := -1) (A := a.1) (B := b.1) (C := nl) rfl (rgk rfl) g6 E1.1 g4 (rgk rfl) (fun _ => rfl) (by omega) (Or.inr (List.mem_cons_of_mem _ List.mem_cons_self)) (Or.inr List.mem_cons_self) (Or.inl ⟨rfl, rfl⟩) df_2
          have eQ : pB1 (chr σ0) (P (chr σ0)) (E (chr σ0)) (σ0 35 3) = some ((a.2.2.length, a.1, b.1), b.2) := by
            unfold pB1; rw [← hch, ← k3, hq]; dsimp only [Option.bind_some]; rw [hw]; dsimp only [Option.bind_some]; rw [hE']; rfl
          obtain ⟨g, h1, h2, h3, h4, h5, -, -, -, h9⟩ := S5.2.2
          refine ⟨_, σ6, done r7, ⟨by have := g.2.1; omega, by have := S5.2.1.2.2.2; omega⟩, fr0.tr f6, i6, ?_, fun h => ?_, fun _ => ?_⟩
          · rw [z6, y5]; exact ro (by decide)
          · rw [← k4] at h; exact absurd hb h
          rw [eQ]
          have x5 : σ 5 = σ0 5 := ro (by decide)
          refine ⟨by rw [o6]; exact h1, by rw [o6]; exact h2, by rw [← k3]; exact h3, ?_, n6, by rw [← x5]; exact le6, p6, ?_, t6, ⟨e7, e9.trans hlen, e15⟩, ?_, ?_, ?_⟩
          · rw [n6, ← x5, ← k3]; omega
          · intro y ya yb
            rw [← x5] at yb
            obtain ⟨c1, c2, c3, c4, c5, c6⟩ := kp6 y ya yb
            rw [ro (show 7 ≠ 35 by decide)] at c1
            rw [ro (show 9 ≠ 35 by decide)] at c2
            rw [ro (show 11 ≠ 35 by decide)] at c3
            rw [ro (show 13 ≠ 35 by decide)] at c4
            rw [ro (show 15 ≠ 35 by decide)] at c5
            rw [ro (show 17 ≠ 35 by decide)] at c6
            exact ⟨c1, c2, c3, c4, c5, c6⟩
          · rw [e11, ← x5]; exact tA
          · rw [e13, ← x5]; exact tB
          · rw [o6, h9, k5]
            have cA : clo a.1 (bd σ) = true := hcl _ _ _ _ hq _
            have cB : bd σ3 = addl (bd σ0) (bnd a.1) := by
              have mL := mm _ Ma
              funext c
              have e0 : σ2 37 (c - 97) = σ0 37 (c - 97) := by rw [y2, ro (by decide)]
              have eL : addl (bd σ0) (bnd a.1) c = (decide (c ∈ a.2.2) || bd σ0 c) := by
                unfold addl
                rw [Mb, List.append_nil]
                congr 1
                rw [List.contains_eq_mem]
                simp
              rw [eL]
              unfold bd
              rw [q3, e0]
              by_cases cl : 97 ≤ c ∧ c ≤ 122
              · have mb := mk_bit mL (i := (c - 97).toNat) (by omega)
                have e1 : (((c - 97).toNat : Nat) : Int) = c - 97 := by omega
                rw [e1] at mb
                have e2 : 97 + (c - 97) = c := by omega
                rw [e2] at mb
                by_cases w : c ∈ a.2.2
                · rw [if_pos ⟨by omega, by omega, mb.mpr w⟩, decide_eq_true w]
                  have := hC0 (c - 97) (by omega) (by omega)
                  rw [decide_eq_true (by omega)]; rfl
                · rw [if_neg (fun s => w (mb.mp s.2.2)), decide_eq_false w]; rfl
              · have : c ∉ a.2.2 := fun s => cl (mL.2.1 c s)
                rw [if_neg (by omega), decide_eq_false this]; rfl
            rw [cA, cB]
            cases clo b.1 (addl (bd σ0) (bnd a.1)) <;> simp
  · rw [if_neg hb] at S5
    exact none_end S5 (fun h => absurd (k4.trans h) hb)
/-- branches as they are hung on, one behind the other; cc: the choice, l: where the next one hangs (row j) -/
def CSl (σ : Mem) (cc before : Int) (j : Nat) (l : Int) : Prop := (before = -1 ∧ j = 13 ∧ l = cc) ∨ (0 ≤ before ∧ j = 15 ∧ l = before ∧ σ 7 before = 17 ∧ σ 17 before = cc)
def COp (σ σ' : Mem) (j : Nat) (l cc : Int) (T : Tr) : Prop := σ' 5 7 - 2 * σ' 35 3 ≤ σ 5 7 - 2 * σ 35 3 - 1 ∧ (σ 5 7 ≤ σ' j l ∧ σ' j l < σ' 5 7) ∧ isT σ' 5 (σ 5 7) (σ' 5 7) T (σ' j l) ∧ σ' 17 (σ' j l) = cc ∧ PQ σ' ∧ ∀ x, 0 ≤ x → x < σ 5 7 → σ' 7 x = σ 7 x ∧ σ' 9 x = σ 9 x ∧ σ' 11 x = σ 11 x ∧ ((x ≠ l ∨ j ≠ 13) → σ' 13 x = σ 13 x) ∧ ((x ≠ l ∨ j ≠ 15) → σ' 15 x = σ 15 x) ∧ σ' 17 x = σ 17 x
def COm (Q : Option (Tr × Int)) (σ σ' : Mem) (j : Nat) (l cc : Int) : Prop := match Q with
  | none => σ' 35 4 ≠ 0
  | some (T, q) => σ' 35 4 = 0 ∧ σ' 35 3 = q ∧ σ 35 3 ≤ q ∧ COp σ σ' j l cc T ∧ (σ' 35 5 ≠ 0 ↔ (σ 35 5 ≠ 0 ∨ clo T (bd σ) = false))
theorem pBr_B1 {ch : Int → Int} {P : Int → List Int → PaR} {E : Int → Option (Tr × Int)} {n : Nat} {p : Int} : pBr ch P E (n + 1) p = (pB1 ch P E p).bind fun b => if nx ch b.2 = 124 then (pBr ch P E n (sk ch b.2 + 1)).map (fun x => (nd 17 b.1.1 b.1.2.1 b.1.2.2 x.1, x.2)) else (pEx ch 125 b.2).map (fun t => (nd 17 b.1.1 b.1.2.1 b.1.2.2 nl, t)) := by
  rw [pBr]
  unfold pB1
  cases P p [] with
  | none => rfl
  | some a =>
    dsimp only [Option.bind_some]
    cases pEx ch 58 a.2.1 with
    | none => rfl
    | some r =>
      dsimp only [Option.bind_some]
      cases E r <;> rfl
theorem s_addBranch {cc before b l : Int} {j : Nat} {σ : Mem} (gc : rg cc) (gb : rg before) (g : rg b) (h : CSl σ cc before j l) : Rn (d + 2) yTr_addBranch [.ref 5, vi cc, vi before, vi b] σ none (lnk σ j l b cc) := by
  refine M_Tr_addBranch gc gb g ?_
  unfold B_Tr_addBranch B_Tr_addBranch_26 lnk
  rcases h with ⟨rfl, rfl, rfl⟩ | ⟨h0, rfl, rfl, -⟩
  · rw [if_neg (by decide)]; exact ⟨rfl, rfl⟩
  · rw [if_pos (by omega)]; exact ⟨rfl, rfl⟩
end PL
end CA
