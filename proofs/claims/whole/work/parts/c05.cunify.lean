/-! The class's store of types: link, unify. -/
section CUN
variable {σ σ1 σ' : Mem} {d : Nat}
theorem cS_k {n : Int} (H : CI σ) (h0 : 0 ≤ n) (h1 : n < σ 38 5) (h : (cS σ n).1 = 0) : σ 40 n = 63 := (kC_0 (H.2.2.2.2.1 n h0 h1).1).1.mp h
theorem op_cs {u : Int} (o : Op σ u) : (cS σ u).1 = 0 ∧ ¬ lkd (cS σ) u := ⟨by show kC (σ 40 u) = 0; rw [o.2.1]; rfl, o.2.2⟩
theorem op_mk {u : Int} (H : CI σ) (h0 : 0 ≤ u) (h1 : u < σ 38 5) (h : (cS σ u).1 = 0) (l : ¬ lkd (cS σ) u) : Op σ u := ⟨⟨h0, h1⟩, cS_k H h0 h1 h, l⟩
theorem s_link {ρ : Int → GT} {v t : Int} (H : CI σ) (hl : LG σ) (hv : Op σ v) (ht : 0 ≤ t ∧ t < σ 38 5) (nl : ¬ lkd (cS σ) t) (ne : t ≠ v) (M : MinV (cS σ) (σ 38 5) ρ) (hw : gw (ρ t) ≤ 80) : ∃ b σ', Rn (d + 47) yTy_link [.ref 38, vi v, vi t] σ (some b) σ' ∧ ((b = 1 ∧ CI σ' ∧ UF σ σ' v t ∧ ∀ ρ, VS (cS σ') (σ 38 5) ρ ↔ (VS (cS σ) (σ 38 5) ρ ∧ ρ v = ρ t)) ∨ (b = 0 ∧ (∀ i, i ≠ 42 → i ≠ 44 → σ' i = σ i) ∧ ∀ ρ, VS (cS σ) (σ 38 5) ρ → ρ v ≠ ρ t)) := by
  have hc := H.2.1
  obtain ⟨⟨v0, v1⟩, v63, vl⟩ := hv
  have hv0 := op_cs (σ := σ) ⟨⟨v0, v1⟩, v63, vl⟩
  obtain ⟨b, m1, R, T, L1, q⟩ := s_takesIn (d := d) (v := v) 41 t 0 σ H M ⟨v63, vl⟩ ⟨v0, v1⟩ hl rfl (by decide) ht.1 ht.2 (by omega)
  rw [show 41 + d + 5 = (d + 43) + 3 by omega] at R
  have m : ∀ {b : Int} {σ' : Mem}, B_Ty_link (d + 43) v t σ (some b) σ' → Rn (d + 47) yTy_link [.ref 38, vi v, vi t] σ (some b) σ' := fun h => M_Ty_link ⟨by omega, by omega⟩ ⟨by omega, by omega⟩ h
  rcases q with ⟨rfl, oc⟩ | ⟨rfl, noc, lev⟩
  · refine ⟨0, m1, m ⟨0, m1, R, ?_⟩, Or.inr ⟨rfl, fun i _ h => T.1 i h, fun ρ V => oc.no H.1 V ne nl ht.1 ht.2⟩⟩
    rw [if_neg (by decide)]; exact ⟨rfl, rfl⟩
  · obtain ⟨Ls, st, S, hL⟩ := H.2.2.1
    have e1 : ∀ i, i ≠ 42 → i ≠ 44 → (mup m1 42 v t) i = σ i := fun i h1 h2 => by rw [mup_obj h1, T.1 i h2]
    have e40 := e1 40 (by decide) (by decide)
    have e38 := e1 38 (by decide) (by decide)
    have e44 : (mup m1 42 v t) 44 = m1 44 := mup_obj (by decide)
    have e42 : ∀ n, n ≠ v → (mup m1 42 v t) 42 n = σ 42 n := fun n h => by rw [mup_nk h, T.1 42 (by decide)]
    have ec : cS (mup m1 42 v t) = upS (cS σ) v (0, t, 0) := by
      funext n
      unfold cS upS
      rw [e40, e44]
      by_cases e : n = v
      · subst e
        rw [if_pos rfl, v63, mup_eq, if_neg (by decide)]; rfl
      · rw [if_neg e, e42 n e]
        show (kC (σ 40 n), σ 42 n, _) = (kC (σ 40 n), σ 42 n, if σ 40 n = 62 then σ 44 n else 0)
        by_cases e2 : σ 40 n = 62
        · rw [if_pos e2, if_pos e2, T.2 n e2]
        · rw [if_neg e2, if_neg e2]
    have LV : ∀ ρ, VS (cS (mup m1 42 v t)) (σ 38 5) ρ ↔ (VS (cS σ) (σ 38 5) ρ ∧ ρ v = ρ t) := fun ρ => by
      rw [ec]; exact lk_V hv0 ⟨v0, v1⟩ ht.1
    have opv : ∀ u, Op (mup m1 42 v t) u → u ≠ v ∧ Op σ u := by
      intro u ⟨r, k, l⟩
      rw [e38] at r
      rw [e40] at k
      rw [ec] at l
      have ne : u ≠ v := fun e => by subst e; exact l (by unfold lkd; rw [lk_at]; exact ⟨rfl, ht.1⟩)
      unfold lkd at l
      rw [lk_ne ne] at l
      exact ⟨ne, r, k, l⟩
    have oc' : ∀ u n, u ≠ v → (Oc (cS (mup m1 42 v t)) u n ↔ (Oc (cS σ) u n ∨ (Oc (cS σ) v n ∧ Oc (cS σ) u t))) := fun u n h => by
      rw [ec]; exact oc_lk hv0 ht.1 h
    have lv : ∀ u, Op σ u → (Oc (cS σ) u t → m1 44 u = min (σ 44 u) (σ 44 v)) ∧ (¬ Oc (cS σ) u t → m1 44 u = σ 44 u) := fun u o => lev u o.2.1 o.2.2 o.1.1 o.1.2
    refine ⟨1, mup m1 42 v t, m ⟨1, m1, R, ?_⟩, Or.inl ⟨rfl, ?_, ?_, LV⟩⟩
    · rw [if_pos (by decide), rows_in v0 (by omega)]; exact ⟨rfl, rfl⟩
    · refine ⟨by rw [ec, e38]; exact lk_W H.1 ht, by rw [e38]; exact hc, ?_, by rw [e40]; exact H.2.2.2.1, fun n h0 h1 => ?_, ?_⟩
      · rw [ec, e38]
        refine ⟨Ls + 1, _, lk_S S vl v0 ⟨nl, ne⟩, ?_⟩
        have := uc_lk (b := 0) hv0 ht.1 v0 (c := (σ 38 5).toNat) (by omega)
        omega
      · rw [e38] at h1
        rw [e40]
        obtain ⟨k1, k2, k3⟩ := H.2.2.2.2.1 n h0 h1
        refine ⟨k1, fun h => ?_, k3⟩
        by_cases e : n = v
        · subst e; rw [mup_eq]; omega
        · rw [e42 n e]; exact k2 h
      · obtain ⟨ρ', V', -⟩ := lk_I (b := 0) H.1 M.1 S hv0 ⟨v0, v1⟩ ht noc
        exact ⟨ρ', by rw [ec, e38]; exact V'⟩
    · refine ⟨e1, fun n => ?_, fun n e => ?_, fun n o => ?_, fun n o => ?_, fun u => by rw [e44]; exact L1 u, fun l n h u o oc => ?_, fun l X gv gt n gn u o oc lt => ?_, fun n u o oc => ?_⟩
      · by_cases e : n = v
        · subst e; exact Or.inl ⟨⟨⟨v0, v1⟩, v63, vl⟩, Or.inl Oc.self⟩
        · exact Or.inr (e42 n e)
      · rw [e44, T.2 n e]
      · rw [e44]
        by_cases q : Oc (cS σ) n t
        · exact Or.inl (Or.inr q)
        · exact Or.inr ((lv n o).2 q)
      · rw [e44]
        have o' := (opv n o).2
        by_cases q : Oc (cS σ) n t
        · rw [(lv n o').1 q]; omega
        · rw [(lv n o').2 q]; exact Int.le_refl _
      · rw [e44]
        obtain ⟨nv, o'⟩ := opv u o
        rcases (oc' u n nv).mp oc with q | ⟨q1, q2⟩
        · have a := h u o' q
          by_cases q3 : Oc (cS σ) u t
          · rw [(lv u o').1 q3]; omega
          · rw [(lv u o').2 q3]; exact a
        · have a := h v ⟨⟨v0, v1⟩, v63, vl⟩ q1
          rw [(lv u o').1 q2]; omega
      · rw [e44] at lt
        obtain ⟨nv, o'⟩ := opv u o
        have up : (∃ x, X x ∧ Oc (cS σ) u x) → ∃ x, X x ∧ Oc (cS (mup m1 42 v t)) u x := fun ⟨x, a, b⟩ => ⟨x, a, (oc' u x nv).mpr (Or.inl b)⟩
        by_cases q3 : Oc (cS σ) u t
        · rw [(lv u o').1 q3] at lt
          by_cases q4 : σ 44 u < l
          · exact up (gt u o' q3 q4)
          · obtain ⟨x, a, b⟩ := gv v ⟨⟨v0, v1⟩, v63, vl⟩ Oc.self (by omega)
            exact ⟨x, a, (oc' u x nv).mpr (Or.inr ⟨b, q3⟩)⟩
        · rw [(lv u o').2 q3] at lt
          rcases (oc' u n nv).mp oc with q | ⟨q1, q2⟩
          · exact up (gn u o' q lt)
          · exact absurd q2 q3
      · obtain ⟨nv, o'⟩ := opv u o
        refine ⟨o', ?_⟩
        rcases (oc' u n nv).mp oc with q | ⟨q1, q2⟩
        · exact Or.inl q
        · exact Or.inr ⟨Or.inr q2, v, ⟨⟨v0, v1⟩, v63, vl⟩, Or.inl Oc.self, q1⟩
theorem gL_inj {a b : GT} : gL a = gL b ↔ a = b := ⟨fun h => by unfold gL at h; injection h, fun h => by rw [h]⟩
theorem gA_inj {a b c e : GT} : gA a b = gA c e ↔ (a = c ∧ b = e) := ⟨fun h => by unfold gA at h; injection h with h1 h2; exact ⟨h1, h2⟩, fun ⟨h1, h2⟩ => by rw [h1, h2]⟩
/-- what a type's head is -/
def hd : GT → Int
  | .nest _ _ => 4
  | .append _ _ => 5
  | .tag k _ => k
  | _ => 0
theorem hd_k {ρ : Int → GT} (H : CI σ) (V : VS (cS σ) (σ 38 5) ρ) {r : Int} (h0 : 0 ≤ r) (h1 : r < σ 38 5) (h : σ 40 r ≠ 63) : hd (ρ r) = kC (σ 40 r) := by
  have v := V r h0 h1
  have c1 : (cS σ r).1 = kC (σ 40 r) := rfl
  rcases (H.2.2.2.2.1 r h0 h1).1 with e | e | e | e | e | e
  · rw [e] at c1 ⊢; rw [v.2.1 (by rw [c1]; decide), c1]; rfl
  · rw [e] at c1 ⊢; rw [v.2.1 (by rw [c1]; decide), c1]; rfl
  · rw [e] at c1 ⊢; rw [v.2.1 (by rw [c1]; decide), c1]; rfl
  · rw [e] at c1 ⊢; rw [v.2.2.1 (by rw [c1]; decide)]; rfl
  · rw [e] at c1 ⊢; rw [v.2.2.2 (by rw [c1]; decide)]; rfl
  · exact absurd e h
theorem kC_inj {a b : Int} (ha : kdC a) (hb : kdC b) (h : kC a = kC b) : a = b := by
  have k1 := kC_0 ha
  have k2 := kC_0 hb
  rcases ha with e | e | e | e | e | e
  · rw [e, k2.2.1.mp (by rw [← h]; exact k1.2.1.mpr e)]
  · rw [e, k2.2.2.1.mp (by rw [← h]; exact k1.2.2.1.mpr e)]
  · rw [e, k2.2.2.2.1.mp (by rw [← h]; exact k1.2.2.2.1.mpr e)]
  · rw [e, k2.2.2.2.2.1.mp (by rw [← h]; exact k1.2.2.2.2.1.mpr e)]
  · rw [e, k2.2.2.2.2.2.mp (by rw [← h]; exact k1.2.2.2.2.2.mpr e)]
  · rw [e, k2.1.mp (by rw [← h]; exact k1.1.mpr e)]
theorem base_eq (H : CI σ) {r q : Int} (r0 : 0 ≤ r) (r1 : r < σ 38 5) (q0 : 0 ≤ q) (q1 : q < σ 38 5) (h : σ 40 r = σ 40 q) (a : σ 40 r ≠ 63) (b : σ 40 r ≠ 91) (c : σ 40 r ≠ 62) : r = q := by
  obtain ⟨z0, z1, z2⟩ := H.2.2.2.1
  have rl : r < 3 := Classical.byContradiction (fun g => by
    have := (H.2.2.2.2.1 r r0 r1).2.2 (by omega); omega)
  have ql : q < 3 := Classical.byContradiction (fun g => by
    have := (H.2.2.2.2.1 q q0 q1).2.2 (by omega); omega)
  rcases (show r = 0 ∨ r = 1 ∨ r = 2 by omega) with rfl | rfl | rfl <;> rcases (show q = 0 ∨ q = 1 ∨ q = 2 by omega) with rfl | rfl | rfl <;> omega
/-- what unify says -/
def UR (σ σ' : Mem) (n m x b : Int) : Prop := (b = 1 ∧ CI σ' ∧ UF σ σ' n m ∧ ∀ ρ, VS (cS σ') (σ 38 5) ρ ↔ (VS (cS σ) (σ 38 5) ρ ∧ ρ n = ρ m)) ∨ (b = 0 ∧ (∀ i, i ≠ 42 → i ≠ 44 → σ' i = σ i) ∧ ∀ ρ, VS (cS σ) (σ 38 5) ρ → ρ n = ρ m → ¬ (gw (ρ n) + 2 * x ≤ 80))
theorem UR.b {n m x b : Int} (h : UR σ σ' n m x b) : b = 0 ∨ b = 1 := by
  rcases h with h | h
  · exact Or.inr h.1
  · exact Or.inl h.1
theorem s_unify : ∀ (k : Nat) (n m x : Int) (σ : Mem), CI σ → LG σ → (k : Int) + x = 41 → 0 ≤ x → (0 ≤ n ∧ n < σ 38 5) → (0 ≤ m ∧ m < σ 38 5) → ∃ b σ', Rn (k + d + 51) yTy_unify [.ref 38, vi n, vi m, vi x] σ (some b) σ' ∧ UR σ σ' n m x b
  | 0, n, m, x, σ, H, hl, hk, hx, hn, hm => by
    have hc := H.2.1
    have R1 := s_resolve (d := d + 46) H hn.1 hn.2
    have R2 := s_resolve (d := d + 46) H hm.1 hm.2
    have V1 : ∀ {ρ}, VS (cS σ) (σ 38 5) ρ → ρ (rC σ n) = ρ n := fun V => rC_val H V hn.1 hn.2
    have V2 : ∀ {ρ}, VS (cS σ) (σ 38 5) ρ → ρ (rC σ m) = ρ m := fun V => rC_val H V hm.1 hm.2
    generalize rC σ n = r at *
    generalize rC σ m = q at *
    have mk : ∀ {b : Int} {σ' : Mem}, B_Ty_unify (d + 47) n m x σ (some b) σ' → Rn (0 + d + 51) yTy_unify [.ref 38, vi n, vi m, vi x] σ (some b) σ' := fun h => by
      rw [show 0 + d + 51 = d + 47 + 4 by omega]
      exact M_Ty_unify ⟨by omega, by omega⟩ ⟨by omega, by omega⟩ ⟨by omega, by omega⟩ h
    by_cases e : r = q
    · refine ⟨1, σ, mk ⟨_, _, R1, _, _, R2, ?_⟩, Or.inl ⟨rfl, H, UF.rf hl, fun ρ => ⟨fun V => ⟨V, ?_⟩, fun V => V.1⟩⟩⟩
      · rw [if_neg (fun h => h e)]; exact ⟨rfl, rfl⟩
      · rw [← V1 V, ← V2 V, e]
    · refine ⟨0, σ, mk ⟨_, _, R1, _, _, R2, ?_⟩, Or.inr ⟨rfl, fun _ _ _ => rfl, fun ρ V _ => ?_⟩⟩
      · rw [if_pos e, if_pos (by omega)]; exact ⟨rfl, rfl⟩
      · have := gw_ge (t := ρ n); omega
  | k + 1, n, m, x, σ, H, hl, hk, hx, hn, hm => by
    have hc := H.2.1
    have R1 := s_resolve (d := k + d + 47) H hn.1 hn.2
    have R2 := s_resolve (d := k + d + 47) H hm.1 hm.2
    have V1 : ∀ {ρ}, VS (cS σ) (σ 38 5) ρ → ρ (rC σ n) = ρ n := fun V => rC_val H V hn.1 hn.2
    have V2 : ∀ {ρ}, VS (cS σ) (σ 38 5) ρ → ρ (rC σ m) = ρ m := fun V => rC_val H V hm.1 hm.2
    have o1 : ∀ u, Op σ u → Oc (cS σ) u (rC σ n) → Oc (cS σ) u n := fun u o => (oc_rv o.2.2 3000 n).mp
    have o2 : ∀ u, Op σ u → Oc (cS σ) u (rC σ m) → Oc (cS σ) u m := fun u o => (oc_rv o.2.2 3000 m).mp
    obtain ⟨hr, r0, r1⟩ := rC_root H hn.1 hn.2
    obtain ⟨hq, q0, q1⟩ := rC_root H hm.1 hm.2
    generalize rC σ n = r at *
    generalize rC σ m = q at *
    have mk : ∀ {b : Int} {σ' : Mem}, B_Ty_unify (k + d + 48) n m x σ (some b) σ' → Rn (k + 1 + d + 51) yTy_unify [.ref 38, vi n, vi m, vi x] σ (some b) σ' := fun h => by
      rw [show k + 1 + d + 51 = k + d + 48 + 4 by omega]
      exact M_Ty_unify ⟨by omega, by omega⟩ ⟨by omega, by omega⟩ ⟨by omega, by omega⟩ h
    by_cases e : r = q
    · refine ⟨1, σ, mk ⟨_, _, R1, _, _, R2, ?_⟩, Or.inl ⟨rfl, H, UF.rf hl, fun ρ => ⟨fun V => ⟨V, ?_⟩, fun V => V.1⟩⟩⟩
      · rw [if_neg (fun h => h e)]; exact ⟨rfl, rfl⟩
      · rw [← V1 V, ← V2 V, e]
    obtain ⟨μ, M⟩ := min_ex H
    obtain ⟨Ls, st, S, -⟩ := H.2.2.1
    have wl : ∀ {ρ}, VS (cS σ) (σ 38 5) ρ → gw (μ r) ≤ gw (ρ n) ∧ gw (μ q) ≤ gw (ρ m) := fun {ρ} V => by
      rw [← V1 V, ← V2 V]
      exact ⟨wid_le H.1 M.1 V S M.2 r r0 r1, wid_le H.1 M.1 V S M.2 q q0 q1⟩
    have T1 := s_tooLong (d := k + d + 4) H M r0 r1
    have T2 := s_tooLong (d := k + d + 4) H M q0 q1
    by_cases w1 : gw (μ r) ≤ 80
    rotate_left
    · rw [if_neg w1] at T1
      refine ⟨0, σ, mk ⟨_, _, R1, _, _, R2, ?_⟩, Or.inr ⟨rfl, fun _ _ _ => rfl, fun ρ V _ => ?_⟩⟩
      · rw [if_pos e, if_neg (by omega)]
        refine ⟨_, _, T1, ?_⟩
        rw [if_pos (by decide)]; exact ⟨rfl, rfl⟩
      · have := wl V; omega
    rw [if_pos w1] at T1
    by_cases w2 : gw (μ q) ≤ 80
    rotate_left
    · rw [if_neg w2] at T2
      refine ⟨0, σ, mk ⟨_, _, R1, _, _, R2, ?_⟩, Or.inr ⟨rfl, fun _ _ _ => rfl, fun ρ V ee => ?_⟩⟩
      · rw [if_pos e, if_neg (by omega)]
        refine ⟨_, _, T1, ?_⟩
        rw [if_neg (by decide)]
        refine ⟨_, _, T2, ?_⟩
        rw [if_neg (by decide)]; exact ⟨rfl, rfl⟩
      · have := wl V; rw [ee]; omega
    rw [if_pos w2] at T2
    have m2 : ∀ {b : Int} {σ' : Mem}, (if rowv 3000 σ 40 r ≠ 63 then (if rowv 3000 σ 40 q ≠ 63 then (if rowv 3000 σ 40 r = rowv 3000 σ 40 q then (if rowv 3000 σ 40 r ≠ 62 then (B_Ty_unify_162 (k + d + 48) x r q σ (some b) σ') else (∃ (v20 : Int) (m20 : Mem), Rn (k + d + 48 + 3) yTy_unify [.ref 38, vi (rowv 3000 σ 42 r), vi (rowv 3000 σ 42 q), vi (x + 1)] σ (some v20) m20 ∧ (if v20 ≠ 0 then (B_Ty_unify_162 (k + d + 48) x r q m20 (some b) σ') else (some b = some 0 ∧ σ' = m20)))) else (some b = some 0 ∧ σ' = σ)) else (∃ (v22 : Int) (m22 : Mem), Rn (k + d + 48 + 3) yTy_link [.ref 38, vi q, vi r] σ (some v22) m22 ∧ ((v22 = 0 ∨ v22 = 1) ∧ (some b = some v22 ∧ σ' = m22)))) else (∃ (v24 : Int) (m24 : Mem), Rn (k + d + 48 + 3) yTy_link [.ref 38, vi r, vi q] σ (some v24) m24 ∧ ((v24 = 0 ∨ v24 = 1) ∧ (some b = some v24 ∧ σ' = m24)))) → Rn (k + 1 + d + 51) yTy_unify [.ref 38, vi n, vi m, vi x] σ (some b) σ' := by
      intro b σ' h
      refine mk ⟨_, _, R1, _, _, R2, ?_⟩
      rw [if_pos e, if_neg (by omega)]
      refine ⟨_, _, T1, ?_⟩
      rw [if_neg (by decide)]
      refine ⟨_, _, T2, ?_⟩
      rw [if_pos rfl]; exact h
    rw [rw_in r0 (by omega), rw_in q0 (by omega), rw_in r0 (by omega), rw_in q0 (by omega)] at m2
    have inr : ∀ u, Op σ u → In2 σ r q u → In2 σ n m u := fun u o h => by
      rcases h with h | h
      · exact Or.inl (o1 u o h)
      · exact Or.inr (o2 u o h)
    by_cases kr : σ 40 r = 63
    · obtain ⟨b, σ', L, h⟩ := s_link (d := k + d + 4) H hl (v := r) (t := q) ⟨⟨r0, r1⟩, kr, hr⟩ ⟨q0, q1⟩ hq (fun h => e h.symm) M w2
      refine ⟨b, σ', m2 ?_, ?_⟩
      · rw [if_neg (fun h => h kr)]
        exact ⟨b, σ', L, by rcases h with h | h; exact Or.inr h.1; exact Or.inl h.1, rfl, rfl⟩
      · rcases h with ⟨h1, h2, h3, h4⟩ | ⟨h1, h2, h3⟩
        · refine Or.inl ⟨h1, h2, h3.mo inr, fun ρ => (h4 ρ).trans ⟨fun V => ⟨V.1, ?_⟩, fun V => ⟨V.1, ?_⟩⟩⟩
          · rw [← V1 V.1, ← V2 V.1]; exact V.2
          · rw [V1 V.1, V2 V.1]; exact V.2
        · refine Or.inr ⟨h1, h2, fun ρ V ee => absurd ?_ (h3 ρ V)⟩
          rw [V1 V, V2 V]; exact ee
    by_cases kq : σ 40 q = 63
    · obtain ⟨b, σ', L, h⟩ := s_link (d := k + d + 4) H hl (v := q) (t := r) ⟨⟨q0, q1⟩, kq, hq⟩ ⟨r0, r1⟩ hr e M w1
      refine ⟨b, σ', m2 ?_, ?_⟩
      · rw [if_pos kr, if_neg (fun h => h kq)]
        exact ⟨b, σ', L, by rcases h with h | h; exact Or.inr h.1; exact Or.inl h.1, rfl, rfl⟩
      · rcases h with ⟨h1, h2, h3, h4⟩ | ⟨h1, h2, h3⟩
        · refine Or.inl ⟨h1, h2, h3.mo (fun u o h => inr u o h.symm), fun ρ => (h4 ρ).trans ⟨fun V => ⟨V.1, ?_⟩, fun V => ⟨V.1, ?_⟩⟩⟩
          · rw [← V1 V.1, ← V2 V.1]; exact V.2.symm
          · rw [V1 V.1, V2 V.1]; exact V.2.symm
        · refine Or.inr ⟨h1, h2, fun ρ V ee => absurd ?_ (h3 ρ V)⟩
          rw [V1 V, V2 V]; exact ee.symm
    by_cases kk : σ 40 r = σ 40 q
    rotate_left
    · refine ⟨0, σ, m2 ?_, Or.inr ⟨rfl, fun _ _ _ => rfl, fun ρ V ee => ?_⟩⟩
      · rw [if_pos kr, if_pos kq, if_neg kk]; exact ⟨rfl, rfl⟩
      · refine absurd (kC_inj (H.2.2.2.2.1 r r0 r1).1 (H.2.2.2.2.1 q q0 q1).1 ?_) kk
        rw [← hd_k H V r0 r1 kr, ← hd_k H V q0 q1 kq, V1 V, V2 V, ee]
    have c1 : (cS σ r).1 = kC (σ 40 r) := rfl
    have c2 : (cS σ q).1 = kC (σ 40 q) := rfl
    have wr := H.1 r r0 r1
    have wq := H.1 q q0 q1
    by_cases k62 : σ 40 r = 62
    rotate_left
    · by_cases k91 : σ 40 r = 91
      rotate_left
      · exact absurd (base_eq H r0 r1 q0 q1 kk kr k91 k62) e
      rw [k91] at c1
      rw [← kk, k91] at c2
      have p1 := wr.2.2.1 c1
      have p2 := wq.2.2.1 c2
      obtain ⟨b, σ', L, h⟩ := s_unify k (σ 42 r) (σ 42 q) (x + 1) σ H hl (by omega) (by omega) p1 p2
      refine ⟨b, σ', m2 ?_, ?_⟩
      · rw [if_pos kr, if_pos kq, if_pos kk, if_pos k62]
        unfold B_Ty_unify_162
        rw [rw_in r0 (by omega), if_pos k62, rw_in r0 (by omega), rw_in q0 (by omega)]
        exact ⟨b, σ', L, h.b, rfl, rfl⟩
      · have ev : ∀ {ρ}, VS (cS σ) (σ 38 5) ρ → ρ n = gL (ρ (σ 42 r)) ∧ ρ m = gL (ρ (σ 42 q)) := fun {ρ} V => by
          rw [← V1 V, ← V2 V]
          exact ⟨(V r r0 r1).2.2.1 c1, (V q q0 q1).2.2.1 c2⟩
        rcases h with ⟨h1, h2, h3, h4⟩ | ⟨h1, h2, h3⟩
        · refine Or.inl ⟨h1, h2, h3.mo (fun u o h => inr u o ?_), fun ρ => (h4 ρ).trans ⟨fun V => ⟨V.1, ?_⟩, fun V => ⟨V.1, ?_⟩⟩⟩
          · rcases h with h | h
            · exact Or.inl (h.p4 c1)
            · exact Or.inr (h.p4 c2)
          · rw [(ev V.1).1, (ev V.1).2, V.2]
          · have := V.2
            rw [(ev V.1).1, (ev V.1).2] at this
            exact gL_inj.mp this
        · refine Or.inr ⟨h1, h2, fun ρ V ee => ?_⟩
          have z := h3 ρ V (gL_inj.mp (by rw [← (ev V).1, ← (ev V).2]; exact ee))
          have y : gw (ρ n) = 2 + gw (ρ (σ 42 r)) := by rw [(ev V).1]; rfl
          omega
    · have q62 : σ 40 q = 62 := by rw [← kk]; exact k62
      rw [k62] at c1
      rw [q62] at c2
      have e1 : (cS σ r).2.2 = σ 44 r := if_pos k62
      have e2 : (cS σ q).2.2 = σ 44 q := if_pos q62
      have p1 := wr.2.2.2 c1
      have p2 := wq.2.2.2 c2
      rw [e1] at p1
      rw [e2] at p2
      have ev : ∀ {ρ}, VS (cS σ) (σ 38 5) ρ → ρ n = gA (ρ (σ 42 r)) (ρ (σ 44 r)) ∧ ρ m = gA (ρ (σ 42 q)) (ρ (σ 44 q)) := fun {ρ} V => by
        rw [← V1 V, ← V2 V, ← e1, ← e2]
        exact ⟨(V r r0 r1).2.2.2 c1, (V q q0 q1).2.2.2 c2⟩
      have oc5 : ∀ u, Op σ u → In2 σ (σ 42 r) (σ 42 q) u ∨ In2 σ (σ 44 r) (σ 44 q) u → In2 σ n m u := fun u o h => by
        refine inr u o ?_
        rcases h with (h | h) | (h | h)
        · exact Or.inl (Oc.p5 c1 (Or.inl h))
        · exact Or.inr (Oc.p5 c2 (Or.inl h))
        · exact Or.inl (Oc.p5 c1 (Or.inr (by rw [e1]; exact h)))
        · exact Or.inr (Oc.p5 c2 (Or.inr (by rw [e2]; exact h)))
      obtain ⟨b, σ1, L, h⟩ := s_unify k (σ 42 r) (σ 42 q) (x + 1) σ H hl (by omega) (by omega) p1.1 p2.1
      rcases h with ⟨h1, h2, h3, h4⟩ | ⟨h1, h2, h3⟩
      rotate_left
      · refine ⟨0, σ1, m2 ?_, Or.inr ⟨rfl, h2, fun ρ V ee => ?_⟩⟩
        · rw [if_pos kr, if_pos kq, if_pos kk, if_neg (fun h => h k62)]
          refine ⟨b, σ1, L, ?_⟩
          rw [h1, if_neg (fun h => h rfl)]; exact ⟨rfl, rfl⟩
        · have z := h3 ρ V (gA_inj.mp (by rw [← (ev V).1, ← (ev V).2]; exact ee)).1
          have y : gw (ρ n) = 3 + gw (ρ (σ 42 r)) + gw (ρ (σ 44 r)) := by rw [(ev V).1]; rfl
          have := gw_ge (t := ρ (σ 44 r))
          omega
      · have hk' := h3.k
        have r44 : σ1 44 r = σ 44 r := h3.2.2.1 r k62
        have q44 : σ1 44 q = σ 44 q := h3.2.2.1 q q62
        obtain ⟨b2, σ2, L2, g⟩ := s_unify k (σ 44 r) (σ 44 q) (x + 1) σ1 h2 h3.2.2.2.2.2.1 (by omega) (by omega) (by rw [hk'.2]; exact p1.2) (by rw [hk'.2]; exact p2.2)
        refine ⟨b2, σ2, m2 ?_, ?_⟩
        · rw [if_pos kr, if_pos kq, if_pos kk, if_neg (fun h => h k62)]
          refine ⟨b, σ1, L, ?_⟩
          rw [h1, if_pos (by decide)]
          unfold B_Ty_unify_162
          rw [rw_in r0 (by omega), hk'.1, if_neg (fun h => h k62), rw_in r0 (by omega), rw_in q0 (by omega), r44, q44]
          exact ⟨b2, σ2, L2, g.b, rfl, rfl⟩
        · rcases g with ⟨g1, g2, g3, g4⟩ | ⟨g1, g2, g3⟩
          · refine Or.inl ⟨g1, g2, ?_, fun ρ => ?_⟩
            · exact (h3.mo (fun u o h => oc5 u o (Or.inl h))).tr g3 (fun u o h => oc5 u o (Or.inr h))
            · rw [hk'.2] at g4
              refine (g4 ρ).trans ⟨fun ⟨V, e⟩ => ?_, fun ⟨V, e⟩ => ?_⟩
              · obtain ⟨V, e'⟩ := (h4 ρ).mp V
                refine ⟨V, ?_⟩
                rw [(ev V).1, (ev V).2, e, e']
              · rw [(ev V).1, (ev V).2] at e
                obtain ⟨a1, a2⟩ := gA_inj.mp e
                exact ⟨(h4 ρ).mpr ⟨V, a1⟩, a2⟩
          · refine Or.inr ⟨g1, fun i a b => (g2 i a b).trans (h3.1 i a b), fun ρ V ee => ?_⟩
            rw [(ev V).1, (ev V).2] at ee
            obtain ⟨a1, a2⟩ := gA_inj.mp ee
            rw [hk'.2] at g3
            have z := g3 ρ ((h4 ρ).mpr ⟨V, a1⟩) a2
            have y : gw (ρ n) = 3 + gw (ρ (σ 42 r)) + gw (ρ (σ 44 r)) := by rw [(ev V).1]; rfl
            have := gw_ge (t := ρ (σ 42 r))
            omega
end CUN
