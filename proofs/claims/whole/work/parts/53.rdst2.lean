/-! The class's reader: more rows of that kind; a node is added. -/
def skR (ch : Int → Int) (R : PRG) : PRG := R.map fun x => (x.1, x.2.1, x.2.2.1, sk ch x.2.2.2)
section ST2
variable {d : Nat} {σ σ1 : Mem} {R : PRG}
theorem ST.skp (S : ST σ σ1 R) : ST σ (Wq σ1 (sk (chr σ1) (σ1 35 3))) (skR (chr σ) R) := by
  have i := S.2.1
  have e5 := S.in.skb i.1
  refine ⟨S.1.tr Wq_f, i.at e5.1 e5.2, ?_⟩
  cases R with
  | none => show Wq _ _ 35 4 ≠ 0; rw [Wq_k (by decide)]; exact S.2.2
  | some x =>
    obtain ⟨k, Ts, u, q⟩ := x
    have P := S.2.2
    show PG σ _ k Ts u (sk (chr σ) q)
    rw [S.1.chr, P.2.2.1]
    have := sk_ge (ch := chr σ) (p := q)
    exact PG.wq P this _ (by omega)
theorem ST.next (S : ST σ σ1 R) : ∃ σ2, Rn (d + 4) yRd_next [.ref 35] σ1 (some (prN (chr σ) R)) σ2 ∧ ST σ σ2 (skR (chr σ) R) ∧ σ2 37 = σ1 37 ∧ σ2 35 6 = σ1 35 6 := by
  refine ⟨_, ?_, S.skp, mup_obj (by decide), mup_nk (by decide)⟩
  rw [← S.nvx]
  exact s_next S.2.1
theorem PG.c {c c' : Nat} {Ts : List (Tr × Int)} {u : Bool} {q : Int} (P : PG σ σ1 c Ts u q) (h : c' ≤ c) : PG σ σ1 c' Ts u q := by
  obtain ⟨g, h1, h2, h3, h4, h5⟩ := P
  exact ⟨g, h1, h2, h3, by omega, h5⟩
theorem ST.takes {t : Int} (S : ST σ σ1 R) (ht : rg t) (h0 : t ≠ -1) : ∃ v σ2, Rn (d + 5) yRd_takes [.ref 35, vi t] σ1 (some v) σ2 ∧ σ2 37 = σ1 37 ∧ σ2 35 6 = σ1 35 6 ∧ ((v = 1 ∧ ∃ x, R = some x ∧ nx (chr σ) x.2.2.2 = t ∧ ST σ σ2 (some (x.1 + 2, x.2.1, x.2.2.1, sk (chr σ) x.2.2.2 + 1))) ∨ (v = 0 ∧ prN (chr σ) R ≠ t ∧ ST σ σ2 (skR (chr σ) R))) := by
  have i := S.2.1
  have n := S.nvx
  by_cases c : nxv σ1 = t
  · have hb : σ1 35 4 = 0 := by
      by_cases q : σ1 35 4 = 0
      · exact q
      · rw [nxv_b q] at c; exact absurd c.symm h0
    have e4 := S.in.sn i.1 (by rw [← nxv_u hb, c]; exact h0)
    refine ⟨1, _, takes_y (d := d) i ht h0 c, mup_obj (by decide), mup_nk (by decide), Or.inl ⟨rfl, ?_⟩⟩
    cases R with
    | none => exact absurd hb S.2.2
    | some x =>
      obtain ⟨k, Ts, u, q⟩ := x
      have P := S.2.2
      refine ⟨_, rfl, n.symm.trans c, S.1.tr Wq_f, i.at e4.1 e4.2, ?_⟩
      show PG σ _ (k + 2) Ts u (sk (chr σ) q + 1)
      rw [S.1.chr, P.2.2.1]
      exact PG.wq P (by have := sk_ge (ch := chr σ) (p := q); omega) _ (by have := sk_ge (ch := chr σ) (p := q); push_cast; omega)
  · exact ⟨0, _, takes_n (d := d) i ht c, mup_obj (by decide), mup_nk (by decide), Or.inr ⟨rfl, by rw [← n]; exact c, S.skp⟩⟩
theorem ST.op {a b : Int} (S : ST σ σ1 R) (ha : 1 ≤ a ∧ a ≤ 200) (hb : 1 ≤ b ∧ b ≤ 200) : ∃ v σ2, Rn (d + 5) yRd_operator [.ref 35, vi a, vi b] σ1 (some v) σ2 ∧ rg v ∧ σ2 37 = σ1 37 ∧ σ2 35 6 = σ1 35 6 ∧ ((v ≠ -1 ∧ ∃ x q, R = some x ∧ pOp (chr σ) a b x.2.2.2 = some (v, q) ∧ ST σ σ2 (some (x.1 + 2, x.2.1, x.2.2.1, q))) ∨ (v = -1 ∧ (∀ x, R = some x → pOp (chr σ) a b x.2.2.2 = none) ∧ ST σ σ2 (skR (chr σ) R))) := by
  have i := S.2.1
  have n := S.nvx
  have rc : ∀ q, -1 ≤ nx (chr σ1) q ∧ nx (chr σ1) q ≤ 126 := fun q => by
    have : nx (chr σ1) q = -1 ∨ (32 ≤ nx (chr σ1) q ∧ nx (chr σ1) q ≤ 126) := i.1.chr_rg
    omega
  by_cases c : σ1 35 4 = 0 ∧ (nx (chr σ1) (σ1 35 3) = a ∨ nx (chr σ1) (σ1 35 3) = b)
  · obtain ⟨cb, c⟩ := c
    have hn : nx (chr σ1) (σ1 35 3) ≠ -1 := by omega
    have e4 := S.in.sn i.1 hn
    have O := op_y (d := d) (u := a) (v := b) i S.in ⟨by omega, by omega⟩ ⟨by omega, by omega⟩ cb hn c
    rw [W_id] at O
    have r1 := rc (σ1 35 3)
    refine ⟨_, _, O, ?_, mup_obj (by decide), mup_nk (by decide), Or.inl ⟨?_, ?_⟩⟩
    · split
      · exact ⟨by omega, by omega⟩
      · exact ⟨by omega, by omega⟩
    · split <;> omega
    cases R with
    | none => exact absurd cb S.2.2
    | some x =>
      obtain ⟨k, Ts, u, q⟩ := x
      have P := S.2.2
      have e := P.2.2.1
      rw [S.1.chr, e] at c ⊢
      refine ⟨_, if chr σ (sk (chr σ) q + 1) = 46 then sk (chr σ) q + 1 + 1 else sk (chr σ) q + 1, rfl, ?_, S.1.tr Wq_f, ?_, ?_⟩
      · show pOp (chr σ) a b q = _
        unfold pOp
        rw [if_pos c]
        split
        · rw [Int.add_assoc]; rfl
        · rfl
      · have : inL σ1 (if chr σ (sk (chr σ) q + 1) = 46 then sk (chr σ) q + 1 + 1 else sk (chr σ) q + 1) := by
          rw [S.1.chr, e] at e4
          split
          · next w => exact inL.cn i.1 (by rw [S.1.chr, w]; decide)
          · exact e4
        exact i.at this.1 this.2
      · show PG σ _ (k + 2) Ts u _
        have := sk_ge (ch := chr σ) (p := q)
        refine PG.wq P ?_ _ ?_
        · split <;> omega
        · split <;> (push_cast; omega)
  · have h1 : nv σ1 (σ1 35 3) ≠ a ∧ nv σ1 (σ1 35 3) ≠ b := by
      by_cases q : σ1 35 4 = 0
      · rw [nv_u q]; exact ⟨fun w => c ⟨q, Or.inl w⟩, fun w => c ⟨q, Or.inr w⟩⟩
      · rw [nv_b q]; omega
    have O := op_n (d := d) (u := a) (v := b) i S.in ⟨by omega, by omega⟩ ⟨by omega, by omega⟩ h1.1 h1.2
    rw [W_id] at O
    refine ⟨-1, _, O, rgk rfl, mup_obj (by decide), mup_nk (by decide), Or.inr ⟨rfl, ?_, S.skp⟩⟩
    intro x hx
    subst hx
    obtain ⟨k, Ts, u, q⟩ := x
    have P := S.2.2
    rw [S.1.chr, P.2.2.1] at c
    show pOp (chr σ) a b q = none
    unfold pOp
    rw [if_neg (fun w => c ⟨P.2.1, w⟩)]
/-- a name is bound, or let go -/
theorem ST.bind {z t e : Int} (S : ST σ σ1 R) (hC : CB e σ1) (he : e ≤ 1000) (hz : z = -1 ∨ (97 ≤ z ∧ z ≤ 122)) (ht : t = 1 ∨ t = -1) : ∃ σ2, Rn (d + 4) yRd_bind [.ref 35, vi z, vi t] σ1 none σ2 ∧ ST σ σ2 R ∧ σ2 37 = (rows 26 σ1 37 (z - 97) (rowv 26 σ1 37 (z - 97) + t)) 37 ∧ σ2 35 = σ1 35 := by
  have rz : rg z := ⟨by omega, by omega⟩
  have rv : -1 ≤ rowv 26 σ1 37 (z - 97) ∧ rowv 26 σ1 37 (z - 97) ≤ 1000 := by
    unfold rowv
    split
    · next w => have := hC (z - 97) w.1 w.2; omega
    · omega
  have i := S.2.1
  refine ⟨_, M_Rd_bind rz ⟨by omega, by omega⟩ ⟨⟨by omega, by omega⟩, ⟨by omega, by omega⟩, rfl, rfl⟩, ⟨S.1.tr (frR.ro rfl), i.row rfl (by decide) (by decide), ?_⟩, rfl, rows_obj (by decide)⟩
  cases R with
  | none => show rows _ _ _ _ _ 35 4 ≠ 0; rw [rows_ne (by decide)]; exact S.2.2
  | some x =>
    obtain ⟨k, Ts, u, q⟩ := x
    obtain ⟨g, h1, h2, h3, h4, h5, h6, h7, h8, h9⟩ := S.2.2
    have ro : ∀ {j : Nat}, j ≠ 37 → (rows 26 σ1 37 (z - 97) (rowv 26 σ1 37 (z - 97) + t)) j = σ1 j := fun hj => rows_obj hj
    generalize rows 26 σ1 37 (z - 97) (rowv 26 σ1 37 (z - 97) + t) = σ2 at ro ⊢
    show PG σ σ2 k Ts u q
    refine ⟨g, ?_, ?_, h3, ?_, ?_, ?_, ?_, ?_, ?_⟩
    · rw [ro (by decide)]; exact h1
    · rw [ro (by decide)]; exact h2
    · rw [ro (by decide)]; exact h4
    · rw [ro (by decide)]; exact h5
    · exact h6.cg (by rw [ro (by decide)]) (ro (by decide)) (ro (by decide)) (ro (by decide)) (ro (by decide)) (ro (by decide)) (ro (by decide))
    · intro x a b
      rw [ro (show 7 ≠ 37 by decide), ro (show 9 ≠ 37 by decide), ro (show 11 ≠ 37 by decide), ro (show 13 ≠ 37 by decide), ro (show 15 ≠ 37 by decide), ro (show 17 ≠ 37 by decide)]
      exact h7 x a b
    · refine ⟨fun x hx => ?_, h8.2⟩
      obtain ⟨t1, t2, t3⟩ := h8.1 x hx
      refine ⟨?_, ?_, t3⟩
      · rw [ro (show 5 ≠ 37 by decide)]
        refine isT.mv (Int.le_refl _) (Int.le_refl _) (fun y _ _ => ?_) t1
        rw [ro (show 5 + 2 ≠ 37 by decide), ro (show 5 + 4 ≠ 37 by decide), ro (show 5 + 6 ≠ 37 by decide), ro (show 5 + 8 ≠ 37 by decide), ro (show 5 + 10 ≠ 37 by decide)]
        exact ⟨rfl, rfl, rfl, rfl, rfl⟩
      · unfold rt at t2 ⊢
        rw [ro (show 5 ≠ 37 by decide), ro (show 17 ≠ 37 by decide)]; exact t2
    · rw [ro (by decide)]; exact h9
/-- a node out of what was read -/
def inP (Ts : List (Tr × Int)) (A : Tr) (a : Int) : Prop := (A = nl ∧ a = -1) ∨ (A, a) ∈ Ts
theorem PG.cn {k : Nat} {Ts : List (Tr × Int)} {u : Bool} {q : Int} (i : RI σ1) (P : PG σ σ1 k Ts u q) (hk : 2 ≤ k) : σ1 5 7 < 128 ∧ 0 ≤ σ 5 7 ∧ σ 5 7 ≤ σ1 5 7 := by
  obtain ⟨g, h1, h2, h3, h4, h5, -⟩ := P
  have := g.2.2.1
  have m1 := i.2.1.2
  have m2 := i.1.2.1
  exact ⟨by omega, g.2.1, h5⟩
theorem ST.add {k : Nat} {ki z a b c : Int} {P : Option (Tr × Int)} (S : ST σ σ1 R) (h37 : σ1 37 = σ 37) (hki : ki = k) (rk : rg ki) (hz : rg z) (ha : rg a) (hb : rg b) (hc : rg c) (h17 : k = 17 → c = -1) (hN : R = none → σ 35 4 = 0 → P = none)
    (hR : ∀ x, R = some x → 2 ≤ x.1 ∧ ∃ A B C, inP x.2.1 A a ∧ inP x.2.1 B b ∧ (inP x.2.1 C c ∧ ((x.2.1.map Prod.snd).Nodup → df3 a b c)) ∧ P = some (nd k z A B C, x.2.2.2) ∧ x.2.2.1 = !(clo (nd k z A B C) (bd σ))) : ∃ v σ2, Rn (d + 2) yTr_add [.ref 5, vi ki, vi z, vi a, vi b, vi c] σ1 (some v) σ2 ∧ EO P σ σ2 v := by
  have i := S.2.1
  cases R with
  | none =>
    obtain ⟨v, σ2, r, i2, f2, gv⟩ := add_any (d := d) i rk hz ha hb hc
    have hb' : σ2 35 4 ≠ 0 := by rw [f2 35 rfl]; exact S.2.2
    exact ⟨v, σ2, r, gv, S.1.tr (fun i hi => f2 i (trP_rd hi)), i2, (f2 37 rfl).trans h37, fun _ => hb', fun h _ => by rw [hN rfl h]; exact hb'⟩
  | some x =>
    obtain ⟨n, Ts, u, q⟩ := x
    obtain ⟨hn, A, B, C, iA, iB, ⟨iC, hd⟩, eP, eu⟩ := hR _ rfl
    have PG0 := S.2.2
    obtain ⟨lt, z0, le⟩ := PG.cn i PG0 hn
    obtain ⟨g, h1, h2, h3, h4, h5, h6, h7, h8, h9⟩ := PG0
    have one : ∀ {A : Tr} {a : Int}, inP Ts A a → isT σ1 5 (σ 5 7) (σ1 5 7) A a ∧ rt σ1 (σ 5 7) a := fun {A a} w => by
      rcases w with ⟨rfl, rfl⟩ | w
      · exact ⟨rfl, Or.inl rfl⟩
      · exact ⟨(h8.1 _ w).1, (h8.1 _ w).2.1⟩
    obtain ⟨σ2, r, i2, f2, n2, p2, t2, r2, k2⟩ := add_T (d := d) i hki rk hz ha hb hc lt h6 z0 le (one iA).1 (one iB).1 (one iC).1 (one iA).2 (one iB).2 (one iC).2 h17 (hd h8.2)
    have f35 : σ2 35 = σ1 35 := f2 35 rfl
    refine ⟨_, σ2, r, ⟨by omega, by omega⟩, S.1.tr (fun i hi => f2 i (trP_rd hi)), i2, (f2 37 rfl).trans h37, ?_, ?_⟩
    · intro hb; exact absurd g.1 hb
    · intro _ _
      rw [eP]
      refine ⟨by rw [f35]; exact h1, by rw [f35]; exact h2, h3, ⟨?_, ⟨le, by omega⟩, by rw [n2]; exact t2, r2, p2, h7.tr k2 (Int.le_refl _)⟩, ?_⟩
      · rw [f35, h2, n2]
        dsimp only at hn
        omega
      · rw [f35, h9]
        dsimp only at eu
        rw [eu]
        cases clo (nd k z A B C) (bd σ) <;> simp
end ST2
