/-! The model's types: leaves. -/
section MLF
variable {σ m : Mem} {z x c p : Int} {E : List (Int × Int)} {F : List Int} {T : Tr}
theorem FK.bl (f : FK σ m) : Blw σ m := ⟨fun k _ => by rw [f.1 83 (by decide) (by decide) (by decide) (by decide) (by decide) (by decide) (by decide)], fun k _ => by rw [f.1 84 (by decide) (by decide) (by decide) (by decide) (by decide) (by decide) (by decide)], ⟨by rw [f.2 43 (by decide) (by decide) (by decide) (by decide) (by decide)]; exact Int.le_refl _, fun k _ => by rw [f.1 85 (by decide) (by decide) (by decide) (by decide) (by decide) (by decide) (by decide)]⟩, fun k _ => by rw [f.1 76 (by decide) (by decide) (by decide) (by decide) (by decide) (by decide) (by decide), f.1 77 (by decide) (by decide) (by decide) (by decide) (by decide) (by decide) (by decide), f.1 78 (by decide) (by decide) (by decide) (by decide) (by decide) (by decide) (by decide)]; exact ⟨rfl, rfl, rfl⟩⟩
theorem FK.ks (f : FK σ m) : m 58 37 = σ 58 37 ∧ m 58 30 = σ 58 30 ∧ m 58 41 = σ 58 41 ∧ m 58 43 = σ 58 43 := ⟨f.2 37 (by decide) (by decide) (by decide) (by decide) (by decide), f.2 30 (by decide) (by decide) (by decide) (by decide) (by decide), f.2 41 (by decide) (by decide) (by decide) (by decide) (by decide), f.2 43 (by decide) (by decide) (by decide) (by decide) (by decide)⟩
/-- a type is pushed -/
theorem pu_f (b : Blw σ m) (h37 : m 58 37 = σ 58 37) (h30 : m 58 30 = σ 58 30) (h41 : m 58 41 = σ 58 41) : Blw σ (puM m x) ∧ puM m x 58 30 = σ 58 30 ∧ puM m x 58 37 = σ 58 37 + 1 ∧ puM m x 58 41 = σ 58 41 ∧ puM m x 58 43 = m 58 43 + 1 ∧ puM m x 83 (σ 58 37) = x ∧ ∀ y, (PsA σ m y ∨ y = x) ↔ PsA σ (puM m x) y := by
  obtain ⟨b1, b2, b3, b4⟩ := b
  have k43 : puM m x 58 43 = m 58 43 + 1 := puM_43
  have e85 : ∀ k, k < m 58 43 → puM m x 85 k = m 85 k := fun k h => by rw [puM_85, if_neg (by omega)]
  refine ⟨⟨fun k h => ?_, fun k h => ?_, ⟨by omega, fun k h => ?_⟩, fun k h => ?_⟩, puM_30.trans h30, by rw [puM_37, h37], ?_, k43, ?_, fun y => ?_⟩
  · rw [puM_83, if_neg (by omega)]; exact b1 k h
  · rw [puM_fx.1 84 (by decide) (by decide) (by decide)]; exact b2 k h
  · rw [e85 k (by omega)]; exact b3.2 k h
  · rw [puM_fx.1 76 (by decide) (by decide) (by decide), puM_fx.1 77 (by decide) (by decide) (by decide), puM_fx.1 78 (by decide) (by decide) (by decide)]; exact b4 k h
  · rw [puM_fx.2 41 (by decide) (by decide)]; exact h41
  · rw [puM_83, if_pos h37.symm]
  · have q1 : y = x ↔ PsA m (puM m x) y := psA_1 k43 (by rw [puM_85, if_pos rfl])
    rw [q1]
    exact psA_tr b3.1 (by omega) e85
theorem RmT.rm {w : Int} (r : RmT σ w) (hw : 1 ≤ w) (t : tmE σ E F) : rmS σ := by
  obtain ⟨r1, r2, r3, r4⟩ := r
  have := t.1
  exact ⟨by omega, by omega, by omega, by omega⟩
theorem TH.bs (t : TH σ E F) (hc : 0 ≤ c ∧ c ≤ 2) : bsN (mS σ) c (c + 1) := by
  have h := t.1.2.1
  refine ⟨⟨by omega, by show c < σ 58 35; omega⟩, ?_, by omega, by omega⟩
  have g := t.1.2.2.1
  show σ 79 c = c + 1
  have : c = 0 ∨ c = 1 ∨ c = 2 := by omega
  rcases this with e | e | e
  · rw [e]; exact g.1
  · rw [e]; exact g.2.1
  · rw [e]; exact g.2.2
/-- a literal -/
theorem PM_lit (hc : 0 ≤ c ∧ c ≤ 2) (hC : ∀ σ a s, isC σ T a s → σ 60 a = c) (hT : ∀ w G s, tyE T w G s ↔ ((w = true → gw s ≤ 80) ∧ s = gK (c + 1))) (hl : ln T = 1) (hr : 1 ≤ rwl T) (hRT : ∀ S E F, RT T 0 S E F S c) : PMT T := by
  intro p s σ E F C N cl hp hs t r rm
  have C := hC _ _ _ C
  rw [hl] at hp
  have R := t_lit (d := 6) (p := p) (σ := σ) ⟨by omega, by omega⟩ (by omega) (r.rm hr t.2.1)
  rw [C] at R
  obtain ⟨b, k30, k37, k41, k43, k83, eP⟩ := pu_f (x := c) (Blw.rf (σ := σ)) rfl rfl rfl
  obtain ⟨Hm, em⟩ := puM_mt (x := c) t.1
  have bs := t.bs hc
  have no : ∀ y, ¬ PsA σ σ y := fun y ⟨i, i0, i1, _⟩ => by omega
  refine td_fin (P := fun y => y = c) t r hr ⟨hp.1, by rw [hl], by omega, by omega⟩ t.2.2.2.1 R (fun _ _ h => h) fT.rf puM.fT Hm ((puM_fx.2 44 (by decide) (by decide)).trans t.2.2.2.1) b k30 k37 k41 (by omega) k83 ?_ (fun y => ?_) rfl (fun _ => ?_)
  · rw [em]
    exact TR_base t.1.1 bs.1.1 bs.1.2 bs.2.1 bs.2.2 hT
  · rw [← eP y]
    exact ⟨fun h => Or.inr h, fun h => h.elim (fun h => (no y h).elim) (fun h => h)⟩
  · rw [em]; exact hRT _ _ _
/-- [] -/
theorem PM_emp : PMT (nd 3 0 nl nl nl) := by
  intro p s σ E F C N cl hp hs t r rm
  have C : cell σ p 3 0 0 := C
  have hl : ln (nd 3 0 nl nl nl) = 1 := rfl
  have hr : rwl (nd 3 0 nl nl nl) = 2 := rfl
  have rm : σ 58 35 + 2 ≤ 1300 := rm
  rw [hl] at hp
  have c0 := t.1.2.1
  have R := t_emp (d := 6) (p := p) (σ := σ) t.1 ⟨by omega, by omega⟩ C.1 (r.rm (by omega) t.2.1) rm
  obtain ⟨-, H1, -⟩ := m_make (d := 0) t.1 (by omega) (k := 0) (a := -1) (b := 0) (Or.inl ⟨rfl, rfl, rfl⟩)
  have cc : mkM σ 0 (-1) 0 58 35 = σ 58 35 + 1 := mkM_c
  obtain ⟨-, H2, -⟩ := m_make (d := 0) H1 (by omega) (k := 4) (a := σ 58 35) (b := 0) (Or.inr (Or.inl ⟨rfl, by omega, rfl⟩))
  have e1 : mS (mkM σ 0 (-1) 0) = nwS (mS σ) := mkM_S
  have e2 : mS (mkM (mkM σ 0 (-1) 0) 4 (σ 58 35) 0) = adT (nwS (mS σ)) (4, σ 58 35, 0) 0 := by rw [← e1]; exact mkM_S
  have fk : FK σ (mkM (mkM σ 0 (-1) 0) 4 (σ 58 35) 0) := mkM.fk.tr mkM.fk
  obtain ⟨q37, q30, q41, q43⟩ := fk.ks
  obtain ⟨b, k30, k37, k41, k43, k83, eP⟩ := pu_f (x := σ 58 35 + 1) fk.bl q37 q30 q41
  obtain ⟨Hm, em⟩ := puM_mt (x := σ 58 35 + 1) H2
  rw [e2] at em
  have no : ∀ y, ¬ PsA σ (mkM (mkM σ 0 (-1) 0) 4 (σ 58 35) 0) y := fun y ⟨i, i0, i1, _⟩ => by omega
  refine td_fin (P := fun y => y = σ 58 35 + 1) t r (by omega) ⟨hp.1, by rw [hl], by omega, by omega⟩ t.2.2.2.1 R (fun _ _ h => h) fT.rf (fk.fT.tr puM.fT) Hm ?_ b k30 k37 k41 (by omega) k83 ?_ (fun y => ?_) rfl (fun _ => ?_)
  · rw [puM_fx.2 44 (by decide) (by decide), mkM_58 (by decide), mkM_58 (by decide)]; exact t.2.2.2.1
  · rw [em]
    exact TR_emp (S1 := nwS (mS σ)) t.2.2.1 (by decide) t.1.1 (by show 0 ≤ σ 58 35; omega) rfl rfl
  · rw [← eP y]
    exact ⟨fun h => Or.inr h, fun h => h.elim (fun h => (no y h).elim) (fun h => h)⟩
  · rw [em]; exact ⟨rfl, rfl⟩
/-- R, I -/
theorem PM_bi : PMT (nd 4 z nl nl nl) := by
  intro p s σ E F C N cl hp hs t r rm
  have C : cell σ p 4 z 0 := C
  have hl : ln (nd 4 z nl nl nl) = 1 := rfl
  have hr : rwl (nd 4 z nl nl nl) = 1 := rfl
  have rm : σ 58 35 + 1 ≤ 1300 := rm
  rw [hl] at hp
  have c0 := t.1.2.1
  have R := t_bi (d := 6) (p := p) (σ := σ) t.1 ⟨by omega, by omega⟩ C.1 (r.rm (by omega) t.2.1) rm
  rw [C.2.1] at R
  generalize ha : (if z = 82 then (0 : Int) else 2) = a at R
  generalize hb : (if z = 82 then (2 : Int) else 0) = b at R
  have ab : (z = 82 ∧ a = 0 ∧ b = 2) ∨ (z ≠ 82 ∧ a = 2 ∧ b = 0) := by
    by_cases h : z = 82
    · rw [if_pos h] at ha hb; exact Or.inl ⟨h, ha.symm, hb.symm⟩
    · rw [if_neg h] at ha hb; exact Or.inr ⟨h, ha.symm, hb.symm⟩
  obtain ⟨-, H1, -⟩ := m_make (d := 0) t.1 (by omega) (k := 5) (a := a) (b := b) (Or.inr (Or.inr ⟨rfl, by omega, by omega⟩))
  have e1 : mS (mkM σ 5 a b) = adT (mS σ) (5, a, b) (if b = 1 then 1000 else 0) := mkM_S
  obtain ⟨q37, q30, q41, q43⟩ := (mkM.fk (σ := σ) (k := 5) (a := a) (b := b)).ks
  obtain ⟨bl, k30, k37, k41, k43, k83, eP⟩ := pu_f (x := σ 58 35) (mkM.fk (σ := σ) (k := 5) (a := a) (b := b)).bl q37 q30 q41
  obtain ⟨Hm, em⟩ := puM_mt (x := σ 58 35) H1
  rw [e1] at em
  have no : ∀ y, ¬ PsA σ (mkM σ 5 a b) y := fun y ⟨i, i0, i1, _⟩ => by omega
  have ba : bsN (mS σ) a (a + 1) := t.bs (by omega)
  have bb : bsN (mS σ) b (b + 1) := t.bs (by omega)
  refine td_fin (P := fun y => y = σ 58 35) t r (by omega) ⟨hp.1, by rw [hl], by omega, by omega⟩ t.2.2.2.1 R (fun _ _ h => h) fT.rf (mkM.fk.fT.tr puM.fT) Hm ?_ bl k30 k37 k41 (by omega) k83 ?_ (fun y => ?_) rfl (fun _ => ?_)
  · rw [puM_fx.2 44 (by decide) (by decide), mkM_58 (by decide)]; exact t.2.2.2.1
  · rw [em]
    refine TR_bi t.2.2.1 t.1.1 (by show 0 ≤ σ 58 35; omega) ba bb rfl ?_
    rcases ab with ⟨h, h1, h2⟩ | ⟨h, h1, h2⟩
    · rw [if_pos h, h1, h2]; rfl
    · rw [if_neg h, h1, h2]; rfl
  · rw [← eP y]
    exact ⟨fun h => Or.inr h, fun h => h.elim (fun h => (no y h).elim) (fun h => h)⟩
  · rw [em]
    exact ⟨⟨_, by rw [ha, hb]⟩, rfl⟩
end MLF
