/-! The class's reader: what goes on from the left. -/
section LP
variable {d : Nat} {σ σ1 : Mem} {R : PRG}
/-- a node is added, all that is known goes on -/
theorem ST.addS {k : Nat} {ki z a b c : Int} {A B C : Tr} (S : ST σ σ1 R) (hki : ki = k) (rk : rg ki) (hz : rg z) (ha : rg a) (hb : rg b) (hc : rg c) (h17 : k = 17 → c = -1)
    (hR : ∀ x, R = some x → 2 ≤ x.1 ∧ inP x.2.1 A a ∧ inP x.2.1 B b ∧ inP x.2.1 C c ∧ ((x.2.1.map Prod.snd).Nodup → df3 a b c)) : ∃ v σ2, Rn (d + 2) yTr_add [.ref 5, vi ki, vi z, vi a, vi b, vi c] σ1 (some v) σ2 ∧ rg v ∧ σ2 37 = σ1 37 ∧ σ2 35 = σ1 35 ∧ ST σ σ2 (R.map fun x => (x.1 - 1, [(nd k z A B C, v)], x.2.2.1, x.2.2.2)) := by
  have i := S.2.1
  cases R with
  | none =>
    obtain ⟨v, σ2, r, i2, f2, gv⟩ := add_any (d := d) i rk hz ha hb hc
    exact ⟨v, σ2, r, gv, f2 37 rfl, f2 35 rfl, S.1.tr (fun i hi => f2 i (trP_rd hi)), i2, by show σ2 35 4 ≠ 0; rw [f2 35 rfl]; exact S.2.2⟩
  | some x =>
    obtain ⟨n, Ts, u, q⟩ := x
    obtain ⟨hn, iA, iB, iC, hd⟩ := hR _ rfl
    have PG0 := S.2.2
    obtain ⟨lt, z0, le⟩ := PG.cn i PG0 hn
    obtain ⟨g, h1, h2, h3, h4, h5, h6, h7, h8, h9⟩ := PG0
    have one : ∀ {A : Tr} {a : Int}, inP Ts A a → isT σ1 5 (σ 5 7) (σ1 5 7) A a ∧ rt σ1 (σ 5 7) a := fun {A a} w => by
      rcases w with ⟨rfl, rfl⟩ | w
      · exact ⟨rfl, Or.inl rfl⟩
      · exact ⟨(h8.1 _ w).1, (h8.1 _ w).2.1⟩
    obtain ⟨σ2, r, i2, f2, n2, p2, t2, r2, k2⟩ := add_T (d := d) i hki rk hz ha hb hc lt h6 z0 le (one iA).1 (one iB).1 (one iC).1 (one iA).2 (one iB).2 (one iC).2 h17 (hd h8.2)
    have f35 : σ2 35 = σ1 35 := f2 35 rfl
    refine ⟨_, σ2, r, ⟨by omega, by omega⟩, f2 37 rfl, f35, S.1.tr (fun i hi => f2 i (trP_rd hi)), i2, g, by rw [f35]; exact h1, by rw [f35]; exact h2, h3, ?_, ?_, p2, h7.tr k2 (Int.le_refl _), ?_, by rw [f35]; exact h9⟩
    · dsimp only at hn ⊢; rw [n2]; omega
    · rw [n2]; omega
    · refine ⟨fun x hx => ?_, List.nodup_cons.mpr ⟨List.not_mem_nil, List.nodup_nil⟩⟩
      rw [List.mem_singleton] at hx
      subst hx
      exact ⟨by rw [n2]; exact t2, Or.inr ⟨le, by rw [n2]; show σ1 5 7 < σ1 5 7 + 1; omega, r2⟩, by show σ1 5 7 ≠ -1; omega⟩
def wrapN : Nat → Tr → Tr
  | 0, T => T
  | n + 1, T => wrapN n (nd 8 0 T nl nl)
theorem clo_wrap {e : Int → Bool} : ∀ (n : Nat) (T : Tr), clo (wrapN n T) e = clo T e
  | 0, _ => rfl
  | n + 1, T => by
    rw [wrapN, clo_wrap n]
    rw [clo_nd]
    simp [clo_nl]
/-- signs behind which the atom stands -/
theorem neg_l {x2 : Int} (hx2 : x2 ≤ 60) : ∀ (n : Nat) (x3 x4 : Int) (σ1 : Mem) (r : Option (Nat × Bool × Int)) (T : Tr), x4 + n = x2 → 0 ≤ x4 → rg x3 → ST σ σ1 (r.map fun y => (y.1, [(T, x3)], y.2.1, y.2.2)) → (∀ y, r = some y → n + 1 ≤ y.1) →
    ∃ v σ2, Lb (d + 3) yRd_atom 32 [(0, .ref 35), (2, vi x2), (3, vi x3), (4, vi x4)] [] σ1 (some v) σ2 ∧ rg v ∧ σ2 37 = σ1 37 ∧ ST σ σ2 (r.map fun y => (y.1 - n, [(wrapN n T, v)], y.2.1, y.2.2))
  | 0, x3, x4, σ1, r, T, h1, h0, g3, S, hr => by
    refine ⟨x3, σ1, K_Rd_atom_32 ⟨by omega, by omega⟩ g3 ⟨by omega, by omega⟩ ?_, g3, rfl, S⟩
    unfold B_Rd_atom_32
    rw [if_pos (by omega)]
    exact ⟨rfl, rfl⟩
  | n + 1, x3, x4, σ1, r, T, h1, h0, g3, S, hr => by
    obtain ⟨v, σ2, rn, gv, z2, -, S2⟩ := S.addS (d := d + 1) (k := 8) (ki := 8) (z := 0) (a := x3) (b := -1) (c := -1) (A := T) (B := nl) (C := nl) rfl (rgk rfl) (rgk rfl) g3 (rgk rfl) (rgk rfl) (fun h => by cases h) (fun x hx => by
      cases r with
      | none => cases hx
      | some y =>
        cases hx
        have := hr y rfl
        exact ⟨by dsimp only; omega, Or.inr List.mem_cons_self, Or.inl ⟨rfl, rfl⟩, Or.inl ⟨rfl, rfl⟩, fun _ => df_1⟩)
    have S2' : ST σ σ2 ((r.map fun y => (y.1 - 1, y.2.1, y.2.2)).map fun y => (y.1, [(nd 8 0 T nl nl, v)], y.2.1, y.2.2)) := by
      cases r <;> exact S2
    obtain ⟨w, σ3, L3, gw, z3, S3⟩ := neg_l hx2 n v (x4 + 1) σ2 _ _ (by omega) (by omega) gv S2' (fun y hy => by
      cases r with
      | none => cases hy
      | some y' =>
        cases hy
        have := hr y' rfl
        dsimp only; omega)
    refine ⟨w, σ3, K_Rd_atom_32 ⟨by omega, by omega⟩ g3 ⟨by omega, by omega⟩ ?_, gw, z3.trans z2, ?_⟩
    · unfold B_Rd_atom_32
      rw [if_neg (by omega)]
      exact ⟨v, σ2, rn, ⟨by omega, by omega⟩, L3⟩
    · cases r with
      | none => exact S3
      | some y =>
        have e : y.1 - 1 - n = y.1 - (n + 1) := by omega
        have : ST σ σ3 (some (y.1 - 1 - n, [(wrapN n (nd 8 0 T nl nl), w)], y.2.1, y.2.2)) := S3
        rw [e] at this
        exact this
theorem ST.pos {x : Nat × List (Tr × Int) × Bool × Int} (S : ST σ σ1 (some x)) : 0 ≤ x.2.2.2 := by
  have := S.2.1.2.1.1
  rw [S.2.2.2.2.1] at this; exact this
theorem pCon_sk {q : Int} (L : LI σ) (h : 0 ≤ q) : pCon (chr σ) (sk (chr σ) q) = pCon (chr σ) q := by
  unfold pCon; rw [L.nx_sk h, L.sk_sk h]
theorem pPlain_sk {q : Int} {E : Int → Option (Tr × Int)} (L : LI σ) (h : 0 ≤ q) : pPlain (chr σ) E (sk (chr σ) q) = pPlain (chr σ) E q := by
  unfold pPlain; rw [L.nx_sk h, L.sk_sk h, pCon_sk L h]
section PL
variable {x e : Int} {E : (Int → Int) → Int → Option (Tr × Int)}
theorem atom_23 (hA : LSp yRd_plainAtom (d + 6) x e (fun ch p => pPlain ch (E ch) p)) (H : OK σ) (hC : CB e σ) {j : Nat} {r : Option (Nat × Int)} (hj : j ≤ 60) (S : ST σ σ1 (r.map fun y => (y.1, [], false, y.2))) (z1 : σ1 37 = σ 37) (hr : ∀ y, r = some y → j ≤ y.1) :
    ∃ v σ2, B_Rd_atom_23 (d + 3) x j σ1 (some v) σ2 ∧ EO (r.bind fun y => (pPlain (chr σ) (E (chr σ)) y.2).map fun t => (wrapN j t.1, t.2)) σ σ2 v := by
  obtain ⟨v1, σ2, r1, g1, S2, z2⟩ := S.sub hA (fun y a b => by rw [z1]; exact hC y a b)
  have S2' : ST σ σ2 ((r.bind fun y => (pPlain (chr σ) (E (chr σ)) y.2).map fun t => ((y.1 + 1, !(clo t.1 (bd σ1)), t.2), t.1)).map fun y => (y.1.1, [(y.2, v1)], y.1.2.1, y.1.2.2)) := by
    cases r with
    | none => exact S2
    | some y =>
      have S3 : ST σ σ2 ((pPlain (chr σ) (E (chr σ)) y.2).map fun t => (y.1 + 1, (t.1, v1) :: [], false || !(clo t.1 (bd σ1)), t.2)) := S2
      show ST σ σ2 (((pPlain (chr σ) (E (chr σ)) y.2).map fun t => ((y.1 + 1, !(clo t.1 (bd σ1)), t.2), t.1)).map _)
      cases hp : pPlain (chr σ) (E (chr σ)) y.2 with
      | none => rw [hp] at S3; exact S3
      | some t => rw [hp] at S3; exact S3
  -- the tree is one, or there is none
  cases hq : (r.bind fun y => (pPlain (chr σ) (E (chr σ)) y.2).map fun t => ((y.1 + 1, !(clo t.1 (bd σ1)), t.2), t.1)) with
  | none =>
    rw [hq] at S2'
    obtain ⟨w, σ3, L3, gw, z3, S3⟩ := neg_l (d := d + 3) (x2 := j) (by omega) j v1 0 σ2 none nl (by omega) (by omega) g1 S2' (fun y hy => by cases hy)
    refine ⟨w, σ3, ⟨v1, σ2, r1, L3⟩, S3.eo gw ((z3.trans z2).trans z1) (fun _ _ => ?_) (fun y hy => by cases hy)⟩
    cases r with
    | none => rfl
    | some y =>
      have : ((pPlain (chr σ) (E (chr σ)) y.2).map fun t => ((y.1 + 1, !(clo t.1 (bd σ1)), t.2), t.1)) = none := hq
      show (pPlain (chr σ) (E (chr σ)) y.2).map _ = none
      cases hp : pPlain (chr σ) (E (chr σ)) y.2 with
      | none => rfl
      | some t => rw [hp] at this; cases this
  | some s =>
    rw [hq] at S2'
    have key : ∃ y t, r = some y ∧ pPlain (chr σ) (E (chr σ)) y.2 = some t ∧ s = ((y.1 + 1, !(clo t.1 (bd σ1)), t.2), t.1) := by
      cases r with
      | none => cases hq
      | some y =>
        have : ((pPlain (chr σ) (E (chr σ)) y.2).map fun t => ((y.1 + 1, !(clo t.1 (bd σ1)), t.2), t.1)) = some s := hq
        obtain ⟨t, h1, h2⟩ := Option.map_eq_some_iff.mp this
        exact ⟨y, t, rfl, h1, h2.symm⟩
    obtain ⟨y, t, rfl, hp, rfl⟩ := key
    have hj2 := hr y rfl
    obtain ⟨w, σ3, L3, gw, z3, S3⟩ := neg_l (d := d + 3) (x2 := j) (by omega) j v1 0 σ2 (some (y.1 + 1, !(clo t.1 (bd σ1)), t.2)) t.1 (by omega) (by omega) g1 S2' (fun y hy => by cases hy; dsimp only; omega)
    refine ⟨w, σ3, ⟨v1, σ2, r1, L3⟩, S3.eo gw ((z3.trans z2).trans z1) (fun h => by cases h) (fun y' hy => ?_)⟩
    cases hy
    refine ⟨by dsimp only; omega, wrapN j t.1, List.mem_cons_self, ?_, ?_⟩
    · show ((pPlain (chr σ) (E (chr σ)) y.2).map fun t => (wrapN j t.1, t.2)) = _
      rw [hp]; rfl
    · rw [clo_wrap, bd_of z1]
theorem atom_l (hx : 0 ≤ x ∧ x ≤ 100) (hA : LSp yRd_plainAtom (d + 6) x e (fun ch p => pPlain ch (E ch) p)) (H : OK σ) (hC : CB e σ) : ∀ (n j : Nat) (σ1 : Mem) (r : Option (Nat × Int)), j + n = 60 → ST σ σ1 (r.map fun y => (y.1, [], false, y.2)) → σ1 37 = σ 37 → (∀ y, r = some y → j ≤ y.1) →
    ∃ v σ2, Lb (d + 6) yRd_atom 2 [(0, .ref 35), (1, vi x), (2, vi j)] [] σ1 (some v) σ2 ∧ EO (r.bind fun y => (pAtom (chr σ) (E (chr σ)) n y.2).map fun t => (wrapN j t.1, t.2)) σ σ2 v
  | 0, j, σ1, r, hn, S, z1, hr => by
    obtain ⟨v, σ2, b, E2⟩ := atom_23 hA H hC (by omega) S z1 hr
    refine ⟨v, σ2, K_Rd_atom_2 ⟨by omega, by omega⟩ ⟨by omega, by omega⟩ ?_, E2⟩
    unfold B_Rd_atom_2
    rw [if_pos (by omega)]; exact b
  | n + 1, j, σ1, r, hn, S, z1, hr => by
    obtain ⟨v, σ2, r2, z2, -, k2⟩ := S.takes (d := d + 1) (t := 126) (rgk rfl) (by decide)
    rcases k2 with ⟨rfl, y', hy, ny, S2⟩ | ⟨rfl, ny, S2⟩
    · cases r with
      | none => cases hy
      | some y =>
        cases hy
        have hj := hr y rfl
        obtain ⟨w, σ3, L3, E3⟩ := atom_l hx hA H hC n (j + 1) σ2 (some (y.1 + 2, sk (chr σ) y.2 + 1)) (by omega) S2 (z2.trans z1) (fun y' hy => by cases hy; dsimp only; omega)
        refine ⟨w, σ3, K_Rd_atom_2 ⟨by omega, by omega⟩ ⟨by omega, by omega⟩ ?_, ?_⟩
        · unfold B_Rd_atom_2
          rw [if_neg (by omega)]
          refine ⟨1, σ2, r2, ?_⟩
          rw [if_neg (by decide)]
          exact ⟨⟨by omega, by omega⟩, L3⟩
        · have e1 : pAtom (chr σ) (E (chr σ)) (n + 1) y.2 = (pAtom (chr σ) (E (chr σ)) n (sk (chr σ) y.2 + 1)).map (fun q => (nd 8 0 q.1 nl nl, q.2)) := by rw [pAtom, if_pos ny]
          have e2 : ((some y).bind fun y => (pAtom (chr σ) (E (chr σ)) (n + 1) y.2).map fun t => (wrapN j t.1, t.2)) = ((some (y.1 + 2, sk (chr σ) y.2 + 1)).bind fun y => (pAtom (chr σ) (E (chr σ)) n y.2).map fun t => (wrapN (j + 1) t.1, t.2)) := by
            show (pAtom (chr σ) (E (chr σ)) (n + 1) y.2).map _ = (pAtom (chr σ) (E (chr σ)) n (sk (chr σ) y.2 + 1)).map _
            rw [e1, Option.map_map]; rfl
          rw [e2]; exact E3
    · have S2' : ST σ σ2 ((r.map fun y => (y.1, sk (chr σ) y.2)).map fun y => (y.1, [], false, y.2)) := by cases r <;> exact S2
      obtain ⟨w, σ3, b, E3⟩ := atom_23 hA H hC (j := j) (r := r.map fun y => (y.1, sk (chr σ) y.2)) (by omega) S2' (z2.trans z1) (fun y' hy => by
        cases r with
        | none => cases hy
        | some y => cases hy; exact hr y rfl)
      refine ⟨w, σ3, K_Rd_atom_2 ⟨by omega, by omega⟩ ⟨by omega, by omega⟩ ?_, ?_⟩
      · unfold B_Rd_atom_2
        rw [if_neg (by omega)]
        refine ⟨0, σ2, r2, ?_⟩
        rw [if_pos rfl]; exact b
      · cases r with
        | none => exact E3
        | some y =>
          have p0 := S.pos
          have ny' : nx (chr σ) y.2 ≠ 126 := ny
          have e1 : pAtom (chr σ) (E (chr σ)) (n + 1) y.2 = pPlain (chr σ) (E (chr σ)) (sk (chr σ) y.2) := by rw [pAtom, if_neg ny', pPlain_sk H.1.1 p0]
          show EO ((pAtom (chr σ) (E (chr σ)) (n + 1) y.2).map _) σ σ3 w
          rw [e1]; exact E3
theorem s_atom (hx : 0 ≤ x ∧ x ≤ 100) (hA : LSp yRd_plainAtom (d + 6) x e (fun ch p => pPlain ch (E ch) p)) : LSp yRd_atom (d + 7) x e (fun ch p => pAtom ch (E ch) 60 p) := by
  intro σ H hC
  have S0 := ST.init H
  have S0' : ST σ σ ((if σ 35 4 = 0 then some (0, σ 35 3) else none : Option (Nat × Int)).map fun y => (y.1, [], false, y.2)) := by
    unfold stR at S0
    split
    · next h => rw [if_pos h] at S0; exact S0
    · next h => rw [if_neg h] at S0; exact S0
  obtain ⟨v, σ2, L2, E2⟩ := atom_l hx hA H hC 60 0 σ _ (by omega) S0' rfl (fun y _ => Nat.zero_le _)
  refine ⟨v, σ2, M_Rd_atom ⟨by omega, by omega⟩ L2, E2.1, E2.2.1, E2.2.2.1, E2.2.2.2.1, E2.2.2.2.2.1, fun hb g => ?_⟩
  have := E2.2.2.2.2.2 hb g
  rw [if_pos hb] at this
  have e : ((some (0, σ 35 3) : Option (Nat × Int)).bind fun y => (pAtom (chr σ) (E (chr σ)) 60 y.2).map fun t => (wrapN 0 t.1, t.2)) = pAtom (chr σ) (E (chr σ)) 60 (σ 35 3) := by
    show (pAtom (chr σ) (E (chr σ)) 60 (σ 35 3)).map _ = _
    cases pAtom (chr σ) (E (chr σ)) 60 (σ 35 3) <;> rfl
  rwa [e] at this
end PL
end LP
