/-! The class's types: unify, fresh, list, arrow as steps of a store. -/
def tS (σ : Mem) : TS := (cS σ, σ 38 5, fun n => σ 44 n)
def TI (σ : Mem) : Prop := CI σ ∧ LG σ ∧ ∀ u, Op σ u → σ 44 u ≤ 1000
section CTY
variable {σ σ' : Mem} {d : Nat} {h : Int}
theorem oP_Op (H : CI σ) {u : Int} : oP (tS σ) u ↔ Op σ u := ⟨fun ⟨r, a, b⟩ => op_mk H r.1 r.2 a b, fun o => ⟨o.1, op_cs o⟩⟩
theorem TI.so (T : TI σ) : SO (tS σ) := by
  obtain ⟨L, st, S, -⟩ := T.1.2.2.1
  exact ⟨T.1.1, ⟨L, st, S⟩, fun u o => T.2.2 u ((oP_Op T.1).mp o)⟩
theorem UF.xe {a b : Int} (H : CI σ) (H' : CI σ') (u : UF σ σ' a b) : XE (tS σ) (tS σ') (fun m => m = a ∨ m = b) h := by
  have hk := u.k
  have i2 : ∀ {v : Int}, In2 σ a b v → InM (tS σ) (fun m => m = a ∨ m = b) v := fun q => by
    rcases q with q | q
    · exact ⟨a, Or.inl rfl, q⟩
    · exact ⟨b, Or.inr rfl, q⟩
  have g2 : ∀ {l : Int} {X : Int → Prop} {n : Int}, gO (tS σ) l X n → gOk σ l X n := fun g v o oc lt => g v ((oP_Op H).mpr o) oc lt
  have c : (tS σ').2.1 = σ 38 5 := by show σ' 38 5 = σ 38 5; rw [hk.2]
  refine ⟨by rw [c]; exact Int.le_refl _, fun n h0 h1 => ?_, fun n o => ?_, fun n o o' => u.2.2.2.2.1 n ((oP_Op H').mp o'), fun l n _ _ q v o oc => u.2.2.2.2.2.2.1 l n (fun w p r => q w ((oP_Op H).mpr p) r) v ((oP_Op H').mp o) oc, fun l X _ _ hM n _ _ q v o oc lt => u.2.2.2.2.2.2.2.1 l X (g2 (hM a (Or.inl rfl))) (g2 (hM b (Or.inr rfl))) n (g2 q) v ((oP_Op H').mp o) oc lt, fun n v _ _ o oc => ?_⟩
  · rcases u.2.1 n with q | q
    · refine Or.inl ⟨(oP_Op H).mpr q.1, i2 q.2, ?_⟩
      show kC (σ' 40 n) = 0
      rw [hk.1, q.1.2.1]; rfl
    · refine Or.inr ?_
      show (kC (σ' 40 n), σ' 42 n, if σ' 40 n = 62 then σ' 44 n else 0) = (kC (σ 40 n), σ 42 n, if σ 40 n = 62 then σ 44 n else 0)
      rw [hk.1, q]
      by_cases e : σ 40 n = 62
      · rw [if_pos e, if_pos e, u.2.2.1 n e]
      · rw [if_neg e, if_neg e]
  · rcases u.2.2.2.1 n ((oP_Op H).mp o) with q | q
    · exact Or.inl (i2 q)
    · exact Or.inr q
  · obtain ⟨p, q⟩ := u.2.2.2.2.2.2.2.2 n v ((oP_Op H').mp o) oc
    rcases q with q | ⟨q, w, w1, w2, w3⟩
    · exact Or.inl ⟨(oP_Op H).mpr p, q⟩
    · exact Or.inr ⟨Or.inr ⟨(oP_Op H).mpr p, i2 q⟩, w, (oP_Op H).mpr w1, i2 w2, w3⟩
/-- only the store of types has changed -/
def FT (σ σ' : Mem) : Prop := (∀ i, i ≠ 38 → i ≠ 40 → i ≠ 42 → i ≠ 44 → σ' i = σ i) ∧ ∀ k, k ≠ 5 → σ' 38 k = σ 38 k
theorem c_unify (T : TI σ) {n m : Int} (hn : 0 ≤ n ∧ n < σ 38 5) (hm : 0 ≤ m ∧ m < σ 38 5) : ∃ b σ', Rn (d + 92) yTy_unify [.ref 38, vi n, vi m, vi 0] σ (some b) σ' ∧ FT σ σ' ∧ ((b = 1 ∧ TI σ' ∧ TSt (tS σ) (tS σ') (fun x => x = n ∨ x = m) h ∧ σ' 38 5 = σ 38 5 ∧ ∀ ρ, VS (tS σ').1 (tS σ').2.1 ρ ↔ (VS (tS σ).1 (tS σ).2.1 ρ ∧ ρ n = ρ m)) ∨ (b = 0 ∧ σ' 38 5 = σ 38 5 ∧ ∀ ρ, VS (tS σ).1 (tS σ).2.1 ρ → ρ n = ρ m → ¬ gw (ρ n) ≤ 80)) := by
  obtain ⟨b, σ', R, u⟩ := s_unify (d := d) 41 n m 0 σ T.1 T.2.1 rfl (by decide) hn hm
  refine ⟨b, σ', by rw [show d + 92 = 41 + d + 51 by omega]; exact R, ?_⟩
  rcases u with ⟨u1, u2, u3, u4⟩ | ⟨u1, u2, u3⟩
  · have hk := u3.k
    refine ⟨⟨fun i _ _ a b => u3.1 i a b, fun k _ => by rw [hk.2]⟩, Or.inl ⟨u1, ?_, ?_, by rw [hk.2], fun ρ => ?_⟩⟩
    · exact ⟨u2, u3.2.2.2.2.2.1, fun v o => Int.le_trans (u3.2.2.2.2.1 v o) (T.2.2 v (u3.op o))⟩
    · refine ⟨TI.so ⟨u2, u3.2.2.2.2.2.1, fun v o => Int.le_trans (u3.2.2.2.2.1 v o) (T.2.2 v (u3.op o))⟩, u3.xe T.1 u2, fun ρ V => ?_⟩
      have V : VS (cS σ') (σ' 38 5) ρ := V
      rw [hk.2] at V
      exact ((u4 ρ).mp V).1
    · show VS (cS σ') (σ' 38 5) ρ ↔ _
      rw [hk.2]; exact u4 ρ
  · refine ⟨⟨fun i _ _ a b => u2 i a b, fun k _ => by rw [u2 38 (by decide) (by decide)]⟩, Or.inr ⟨u1, by rw [u2 38 (by decide) (by decide)], fun ρ V e w => u3 ρ V e (by omega)⟩⟩
/-- a node is added -/
theorem c_make (T : TI σ) (hc : σ 38 5 < 3000) {k a b : Int} (hk : rg k) (ha : rg a) (hb : rg b) (x : (k = 63 ∧ a = -1 ∧ b ≤ 1000) ∨ (k = 91 ∧ 0 ≤ a ∧ a < σ 38 5) ∨ (k = 62 ∧ (0 ≤ a ∧ a < σ 38 5) ∧ 0 ≤ b ∧ b < σ 38 5)) : ∃ σ', Rn (d + 4) yTy_make [.ref 38, vi k, vi a, vi b] σ (some (σ 38 5)) σ' ∧ FT σ σ' ∧ TI σ' ∧ tS σ' = adT (tS σ) (kC k, a, if k = 62 then b else 0) b ∧ (∀ n, n ≠ σ 38 5 → σ' 40 n = σ 40 n ∧ σ' 42 n = σ 42 n ∧ σ' 44 n = σ 44 n) ∧ σ' 40 (σ 38 5) = k ∧ σ' 42 (σ 38 5) = a ∧ σ' 44 (σ 38 5) = b := by
  have c0 := T.1.2.1
  have so := T.so
  have e0 : ∀ i, i ≠ 38 → i ≠ 40 → i ≠ 42 → i ≠ 44 → (mup (mup (mup (mup σ 38 5 (σ 38 5 + 1)) 40 (σ 38 5) k) 42 (σ 38 5) a) 44 (σ 38 5) b) i = σ i := fun i h1 h2 h3 h4 => by
    rw [mup_obj h4, mup_obj h3, mup_obj h2, mup_obj h1]
  have e38 : (mup (mup (mup (mup σ 38 5 (σ 38 5 + 1)) 40 (σ 38 5) k) 42 (σ 38 5) a) 44 (σ 38 5) b) 38 = mup σ 38 5 (σ 38 5 + 1) 38 := by
    rw [mup_obj (by decide), mup_obj (by decide), mup_obj (by decide)]
  have e40 : ∀ n, (mup (mup (mup (mup σ 38 5 (σ 38 5 + 1)) 40 (σ 38 5) k) 42 (σ 38 5) a) 44 (σ 38 5) b) 40 n = if n = σ 38 5 then k else σ 40 n := fun n => by
    rw [mup_obj (by decide), mup_obj (by decide)]
    by_cases e : n = σ 38 5
    · rw [if_pos e, e, mup_eq]
    · rw [if_neg e, mup_nk e, mup_obj (by decide)]
  have e42 : ∀ n, (mup (mup (mup (mup σ 38 5 (σ 38 5 + 1)) 40 (σ 38 5) k) 42 (σ 38 5) a) 44 (σ 38 5) b) 42 n = if n = σ 38 5 then a else σ 42 n := fun n => by
    rw [mup_obj (by decide)]
    by_cases e : n = σ 38 5
    · rw [if_pos e, e, mup_eq]
    · rw [if_neg e, mup_nk e, mup_obj (by decide), mup_obj (by decide)]
  have e44 : ∀ n, (mup (mup (mup (mup σ 38 5 (σ 38 5 + 1)) 40 (σ 38 5) k) 42 (σ 38 5) a) 44 (σ 38 5) b) 44 n = if n = σ 38 5 then b else σ 44 n := fun n => by
    by_cases e : n = σ 38 5
    · rw [if_pos e, e, mup_eq]
    · rw [if_neg e, mup_nk e, mup_obj (by decide), mup_obj (by decide), mup_obj (by decide)]
  have e385 : (mup (mup (mup (mup σ 38 5 (σ 38 5 + 1)) 40 (σ 38 5) k) 42 (σ 38 5) a) 44 (σ 38 5) b) 38 5 = σ 38 5 + 1 := by rw [e38, mup_eq]
  have R : Rn (d + 4) yTy_make [.ref 38, vi k, vi a, vi b] σ (some (σ 38 5)) (mup (mup (mup (mup σ 38 5 (σ 38 5 + 1)) 40 (σ 38 5) k) 42 (σ 38 5) a) 44 (σ 38 5) b) := by
    refine M_Ty_make hk ha hb ?_
    unfold B_Ty_make
    rw [if_pos hc, rows_in (by omega) (by omega), rows_in (by omega) (by omega), rows_in (by omega) (by omega)]
    exact ⟨⟨by omega, by omega⟩, rfl, rfl⟩
  generalize (mup (mup (mup (mup σ 38 5 (σ 38 5 + 1)) 40 (σ 38 5) k) 42 (σ 38 5) a) 44 (σ 38 5) b) = σ' at *
  have et : tS σ' = adT (tS σ) (kC k, a, if k = 62 then b else 0) b := by
    refine Prod.ext ?_ (Prod.ext e385 ?_)
    · funext n
      show (kC (σ' 40 n), σ' 42 n, if σ' 40 n = 62 then σ' 44 n else 0) = if n = σ 38 5 then (kC k, a, if k = 62 then b else 0) else (kC (σ 40 n), σ 42 n, if σ 40 n = 62 then σ 44 n else 0)
      rw [e40, e42, e44]
      by_cases e : n = σ 38 5
      · rw [if_pos e, if_pos e, if_pos e, if_pos e]
      · rw [if_neg e, if_neg e, if_neg e, if_neg e]
    · funext n
      exact e44 n
  have nw : nwT (tS σ) (kC k, a, if k = 62 then b else 0) := by
    rcases x with ⟨rfl, r, -⟩ | ⟨rfl, r⟩ | ⟨rfl, r⟩
    · exact Or.inl ⟨rfl, by show a < 0; omega⟩
    · exact Or.inr (Or.inl ⟨rfl, r⟩)
    · exact Or.inr (Or.inr ⟨rfl, r⟩)
  have c0' : 0 ≤ (tS σ).2.1 := by show 0 ≤ σ 38 5; omega
  have st := ad_S (M := fun _ => False) (h := 0) (lv := b) so c0' nw (fun hk0 => by
    rcases x with ⟨rfl, r, z⟩ | ⟨rfl, r⟩ | ⟨rfl, r⟩
    · exact z
    · exact absurd hk0 (by show ¬ (4 : Int) = 0; decide)
    · exact absurd hk0 (by show ¬ (5 : Int) = 0; decide))
  obtain ⟨ρ, V⟩ := T.1.2.2.2.2.2
  have nx := ad_x (lv := b) (ρ := ρ) so c0' nw V
  have ss : ∀ (L : Nat) (st : Int → Nat), SS (tS σ).1 (tS σ).2.1 L st → SS (tS σ').1 (tS σ').2.1 L st := fun L st q => by rw [et]; exact ad_SS so.1 q nw
  rw [← et] at st nx
  obtain ⟨⟨st1, -, st3⟩, -⟩ := st
  have H' : CI σ' := by
    refine ⟨st1, by omega, ?_, ?_, fun n h0 h1 => ?_, ?_⟩
    · obtain ⟨L, s, S, hL⟩ := T.1.2.2.1
      refine ⟨L, s, ss L s S, ?_⟩
      have e1 : (σ' 38 5).toNat = (σ 38 5).toNat + 1 := by omega
      have e2 : uc (cS σ') (σ 38 5).toNat = uc (cS σ) (σ 38 5).toNat := uc_eq (fun n a z => by
        have : (tS σ').1 n = (tS σ).1 n := by rw [et]; exact ad_e (by show n ≠ σ 38 5; omega)
        exact this)
      rw [e1]
      unfold uc
      rw [e2, e385]
      split <;> omega
    · rw [e40, e40, e40, if_neg (by omega), if_neg (by omega), if_neg (by omega)]; exact T.1.2.2.2.1
    · rw [e40, e42]
      rw [e385] at h1
      by_cases e : n = σ 38 5
      · rw [if_pos e, if_pos e]
        rcases x with ⟨rfl, r, z⟩ | ⟨rfl, r⟩ | ⟨rfl, r⟩
        · exact ⟨Or.inr (Or.inr (Or.inr (Or.inr (Or.inr rfl)))), fun _ => by omega, fun _ => Or.inl rfl⟩
        · exact ⟨Or.inr (Or.inr (Or.inr (Or.inl rfl))), fun _ => by omega, fun _ => Or.inr (Or.inl rfl)⟩
        · exact ⟨Or.inr (Or.inr (Or.inr (Or.inr (Or.inl rfl)))), fun _ => by omega, fun _ => Or.inr (Or.inr rfl)⟩
      · rw [if_neg e, if_neg e]
        exact T.1.2.2.2.2.1 n h0 (by omega)
    · rcases x with ⟨rfl, r, z⟩ | ⟨rfl, r⟩ | ⟨rfl, r⟩
      · obtain ⟨ρ', V', -⟩ := nx .nil (Or.inl ⟨rfl, by show a < 0; omega⟩); exact ⟨ρ', V'⟩
      · obtain ⟨ρ', V', -⟩ := nx _ (Or.inr (Or.inl ⟨rfl, rfl⟩)); exact ⟨ρ', V'⟩
      · obtain ⟨ρ', V', -⟩ := nx _ (Or.inr (Or.inr ⟨rfl, rfl⟩)); exact ⟨ρ', V'⟩
  refine ⟨σ', R, ⟨e0, fun k hk => by rw [e38, mup_nk hk]⟩, ⟨H', fun u => ?_, fun u o => st3 u ((oP_Op H').mpr o)⟩, et, fun n q => ⟨by rw [e40, if_neg q], by rw [e42, if_neg q], by rw [e44, if_neg q]⟩, by rw [e40, if_pos rfl], by rw [e42, if_pos rfl], by rw [e44, if_pos rfl]⟩
  rw [e44]
  split
  · exact hb
  · exact T.2.1 u
end CTY
