/-! The model's types: LET; the end of a scope. -/
section MLT
variable {σ σ1 σ2 τ m mg : Mem} {z x n p q s a b l t0 : Int} {E E1 : List (Int × Int)} {F F1 : List Int} {S S' : TS} {A B T : Tr} {M : Int → Prop}
theorem tmR.nm {c : Int} : ∀ {E : List (Int × Int)} {F : List Int}, tmR σ E F → (∀ e ∈ E, 0 ≤ e.2 ∧ e.2 < c) → ∀ k, 0 ≤ k → k < (E.length : Int) → 0 ≤ σ 77 k ∧ σ 77 k < c
  | [], [], _, _, k, h0, h1 => by have : (([] : List (Int × Int)).length : Int) = 0 := rfl; omega
  | e :: E, f :: F, ⟨⟨a, b, c, d⟩, r⟩, h, k, h0, h1 => by
    have lc : ((e :: E).length : Int) = E.length + 1 := by rw [List.length_cons]; omega
    by_cases q : k = E.length
    · rw [q, b]; exact h e List.mem_cons_self
    · exact tmR.nm r (fun e m => h e (List.mem_cons_of_mem _ m)) k h0 (by omega)
  | [], _ :: _, t, _, _, _, _ => t.elim
  | _ :: _, [], t, _, _, _, _ => t.elim
theorem tmR.drop : ∀ {E1 : List (Int × Int)} {F1 : List Int}, F1.length = E1.length → tmR σ (E1 ++ E) (F1 ++ F) → tmR σ E F
  | [], [], _, t => t
  | _ :: E1, _ :: F1, h, t => tmR.drop (by rw [List.length_cons, List.length_cons] at h; omega) t.2
  | [], _ :: _, h, _ => by rw [List.length_cons] at h; cases h
  | _ :: _, [], h, _ => by rw [List.length_cons] at h; cases h
theorem TH.nm (t : TH σ E F) (h : σ 58 30 ≤ 64) : nmM σ := ⟨by have := t.2.1.1; omega, fun k k0 k1 => t.2.1.2.nm (fun e m => (t.2.2.1.2.2 e m).1) k k0 (by have := t.2.1.1; omega)⟩
/-- names are taken away -/
theorem en_go {c : Int} (t : TH σ (E1 ++ E) (F1 ++ F)) (hl : F1.length = E1.length) (hc : c = E1.length) (I : EnvI (mS σ) 0 E (mnF E F)) (h43 : 0 ≤ σ 58 43 ∧ σ 58 43 ≤ 250) (h30 : σ 58 30 ≤ 64) (hp : 0 ≤ p ∧ p < σ 58 7 ∧ σ 58 7 ≤ 124) (hk : σ 60 p = 12) (h61 : σ 61 p = c) : ∃ σ', (∀ o s', tfL (p + 1) σ' o s' → tfL p σ o s') ∧ fT σ σ' ∧ TH σ' E F ∧ mS σ' = mS σ ∧ Blw σ σ' ∧ σ' 58 30 = σ 58 30 - c ∧ σ' 58 37 = σ 58 37 ∧ σ' 58 41 = σ 58 41 ∧ σ' 58 43 = σ 58 43 ∧ σ' 83 = σ 83 ∧ σ' 85 = σ 85 := by
  have l30 := t.2.1.1
  have le : ((E1 ++ E).length : Int) = E1.length + E.length := by rw [List.length_append]; omega
  have R := t_end (d := 6) (p := p) (σ := σ) ⟨hp.1, by omega⟩ hk (by rw [h61]; exact ⟨by omega, by omega⟩)
  rw [h61] at R
  have ob : ∀ i, i ≠ 58 → mup σ 58 30 (σ 58 30 - c) i = σ i := fun i h => mup_obj h
  have o8 : ∀ k, k ≠ 30 → mup σ 58 30 (σ 58 30 - c) 58 k = σ 58 k := fun k h => mup_nk h
  have o30 : mup σ 58 30 (σ 58 30 - c) 58 30 = σ 58 30 - c := mup_eq
  generalize eM : mup σ 58 30 (σ 58 30 - c) = m at *
  obtain ⟨Hm, em⟩ : MT m ∧ mS m = mS σ := t.1.cg (ob 79 (by decide)) (ob 80 (by decide)) (ob 81 (by decide)) (ob 82 (by decide)) (o8 35 (by decide))
  have ip : inPt m := fun k k0 k1 => by
    rw [o8 43 (by decide)] at k1
    rw [ob 85 (by decide), o8 35 (by decide)]; exact t.2.2.2.2.1 k k0 k1
  have fm : fT σ m := by rw [← eM]; exact fT.m8 rfl
  obtain ⟨μ, Mi, sm⟩ := t.sh
  obtain ⟨σ', k, FF, i1, Hs, es, sp⟩ := tf_ok2 hp t.2.2.2.1 R Hm ((o8 44 (by decide)).trans t.2.2.2.1) ip (by rw [o8 43 (by decide)]; omega) fm ⟨μ, by rw [em]; exact Mi.1, fun k k0 k1 => by
    rw [o8 43 (by decide)] at k1
    rw [ob 85 (by decide)]; exact sm k k0 k1⟩
  have og : ∀ i, i ≠ 58 → i ≠ 86 → σ' i = σ i := fun i h1 h2 => (FF.1 i h1 h2).trans (ob i h1)
  have g8 : ∀ k, k ≠ 30 → k ≠ 44 → k ≠ 45 → σ' 58 k = σ 58 k := fun k h1 h2 h3 => (FF.2 k h2 h3).trans (o8 k h1)
  have g30 : σ' 58 30 = σ 58 30 - c := (FF.2 30 (by decide) (by decide)).trans o30
  refine ⟨σ', k, fm.tr FF.fT, ⟨Hs, ⟨by omega, ?_⟩, ?_, i1, ?_, sp⟩, es.trans em, Blw.rf.cg (og 83 (by decide) (by decide)) (og 84 (by decide) (by decide)) (og 85 (by decide) (by decide)) (og 76 (by decide) (by decide)) (og 77 (by decide) (by decide)) (og 78 (by decide) (by decide)) (g8 43 (by decide) (by decide) (by decide)), g30, g8 37 (by decide) (by decide) (by decide), g8 41 (by decide) (by decide) (by decide), g8 43 (by decide) (by decide) (by decide), og 83 (by decide) (by decide), og 85 (by decide) (by decide)⟩
  · exact (t.2.1.2.drop hl).mv (fun k _ _ => by rw [og 76 (by decide) (by decide), og 77 (by decide) (by decide), og 78 (by decide) (by decide)]; exact ⟨rfl, rfl, rfl⟩)
  · rw [es, em]; exact I
  · intro k k0 k1
    rw [g8 43 (by decide) (by decide) (by decide)] at k1
    rw [og 85 (by decide) (by decide), g8 35 (by decide) (by decide) (by decide)]; exact t.2.2.2.2.1 k k0 k1
/-- a name is bound to a type made general (mg: after generalize, in which the top was taken away) -/
theorem lt_go {hd : Int} (t : TH σ1 E F) (I0 : EnvI (mS mg) 0 E (mnF E F)) (g0 : gO (mS mg) 1000 (mnF E F) t0) (ir : 0 ≤ t0 ∧ t0 < σ1 58 35) (h30 : σ1 58 30 < 64) (h43 : 0 ≤ σ1 58 43 ∧ σ1 58 43 ≤ 250) (hp : 0 ≤ p ∧ p < σ1 58 7 ∧ σ1 58 7 ≤ 124) (Hg : MT mg) (ig : mg 58 44 = 0) (eg : (mS mg).1 = (mS σ1).1) (fg : FG (mup σ1 58 37 hd) mg) (R : Rn 20 yMo_typeOf [.ref 58, vi p] σ1 none (mup (bdM mg z t0) 78 (σ1 58 30) 1)) : ∃ σ2, (∀ o s', tfL (p + 1) σ2 o s' → tfL p σ1 o s') ∧ fT σ1 σ2 ∧ TH σ2 ((z, t0) :: E) (1 :: F) ∧ mS σ2 = mS mg ∧ (∀ k, k < σ1 58 30 → σ2 76 k = σ1 76 k ∧ σ2 77 k = σ1 77 k ∧ σ2 78 k = σ1 78 k) ∧ σ2 83 = σ1 83 ∧ σ2 84 = σ1 84 ∧ σ2 85 = σ1 85 ∧ σ2 58 30 = σ1 58 30 + 1 ∧ σ2 58 37 = hd ∧ σ2 58 41 = σ1 58 41 ∧ σ2 58 43 = σ1 58 43 := by
  have l30 := t.2.1.1
  have og : ∀ i, i ≠ 58 → i ≠ 81 → i ≠ 86 → mg i = σ1 i := fun i h1 h2 h3 => (fg.1 i h1 h2 h3).trans (mup_obj h1)
  have o8 : ∀ k, k ≠ 37 → k ≠ 38 → k ≠ 44 → k ≠ 45 → mg 58 k = σ1 58 k := fun k h1 h2 h3 h4 => (fg.2 k h2 h3 h4).trans (mup_nk h1)
  have o37 : mg 58 37 = hd := (fg.2 37 (by decide) (by decide) (by decide)).trans mup_eq
  obtain ⟨H1, e1⟩ := bdM_mt (z := z) (l := t0) Hg
  have ob : ∀ i, i ≠ 58 → i ≠ 76 → i ≠ 77 → i ≠ 78 → mup (bdM mg z t0) 78 (σ1 58 30) 1 i = mg i := fun i h1 h2 h3 h4 => (mup_obj h4).trans (bdM_fx.1 i h1 h2 h3 h4)
  have b8 : ∀ k, k ≠ 30 → mup (bdM mg z t0) 78 (σ1 58 30) 1 58 k = mg 58 k := fun k h => (mup_ne (by decide)).trans (bdM_fx.2 k h)
  have b30 : mup (bdM mg z t0) 78 (σ1 58 30) 1 58 30 = σ1 58 30 + 1 := by rw [mup_ne (by decide), bdM_30, o8 30 (by decide) (by decide) (by decide) (by decide)]
  have m30 : mg 58 30 = σ1 58 30 := o8 30 (by decide) (by decide) (by decide) (by decide)
  have nm : ∀ i, mup (bdM mg z t0) 78 (σ1 58 30) 1 76 i = (if i = σ1 58 30 then z else σ1 76 i) ∧ mup (bdM mg z t0) 78 (σ1 58 30) 1 77 i = (if i = σ1 58 30 then t0 else σ1 77 i) ∧ mup (bdM mg z t0) 78 (σ1 58 30) 1 78 i = if i = σ1 58 30 then 1 else σ1 78 i := fun i => by
    have q := bdM_r (σ := mg) (z := z) (l := t0) (i := i)
    rw [m30, og 76 (by decide) (by decide) (by decide), og 77 (by decide) (by decide) (by decide), og 78 (by decide) (by decide) (by decide)] at q
    refine ⟨by rw [mup_ne (by decide)]; exact q.1, by rw [mup_ne (by decide)]; exact q.2.1, ?_⟩
    by_cases h : i = σ1 58 30
    · rw [if_pos h, h, mup_eq]
    · rw [if_neg h, mup_nk h, q.2.2, if_neg h]
  have fm : fT σ1 (mup (bdM mg z t0) 78 (σ1 58 30) 1) := ((fT.m8 rfl).tr fg.fT).tr (bdM.fT.tr (fT.mu rfl (by decide)))
  have em : mS (mup (bdM mg z t0) 78 (σ1 58 30) 1) = mS mg := e1
  generalize eM : mup (bdM mg z t0) 78 (σ1 58 30) 1 = m at *
  have Hm : MT m := by
    rw [← eM]
    exact (H1.cg (mup_obj (by decide)) (mup_obj (by decide)) (mup_obj (by decide)) (mup_obj (by decide)) (mup_ne (by decide))).1
  have k43 : m 58 43 = σ1 58 43 := (b8 43 (by decide)).trans (o8 43 (by decide) (by decide) (by decide) (by decide))
  have k35 : m 58 35 = σ1 58 35 := (b8 35 (by decide)).trans (o8 35 (by decide) (by decide) (by decide) (by decide))
  have e85 : m 85 = σ1 85 := (ob 85 (by decide) (by decide) (by decide) (by decide)).trans (og 85 (by decide) (by decide) (by decide))
  have ip : inPt m := fun k k0 k1 => by
    rw [e85, k35]; exact t.2.2.2.2.1 k k0 (by omega)
  obtain ⟨μ, Mi, sm⟩ := t.sh
  have c2 : (mS mg).2.1 = (mS σ1).2.1 := o8 35 (by decide) (by decide) (by decide) (by decide)
  obtain ⟨σ2, k, FF, i1, Hs, es, sp⟩ := tf_ok2 hp t.2.2.2.1 R Hm ((b8 44 (by decide)).trans ig) ip ⟨by omega, by omega⟩ fm ⟨μ, by rw [em, eg, c2]; exact Mi.1, fun k k0 k1 => by rw [e85]; exact sm k k0 (by omega)⟩
  have ir2 : 0 ≤ t0 ∧ t0 < (mS mg).2.1 := by rw [c2]; exact ir
  refine ⟨σ2, k, fm.tr FF.fT, ⟨Hs, ⟨?_, ?_, ?_⟩, ?_, i1, ?_, sp⟩, es.trans em, fun j h => ?_, ?_, ?_, ?_, ?_, ?_, ?_, ?_⟩
  · rw [FF.2 30 (by decide) (by decide), b30, List.length_cons]; omega
  · obtain ⟨q1, q2, q3⟩ := nm (σ1 58 30)
    rw [if_pos rfl] at q1 q2 q3
    rw [← l30, FF.1 76 (by decide) (by decide), FF.1 77 (by decide) (by decide), FF.1 78 (by decide) (by decide)]
    exact ⟨q1, q2, q3, Or.inr rfl⟩
  · refine t.2.1.2.mv (fun j _ h => ?_)
    obtain ⟨q1, q2, q3⟩ := nm j
    rw [if_neg (by omega)] at q1 q2 q3
    rw [FF.1 76 (by decide) (by decide), FF.1 77 (by decide) (by decide), FF.1 78 (by decide) (by decide)]
    exact ⟨q1, q2, q3⟩
  · rw [es, em, mnF_1]; exact I0.lt ir2 g0
  · intro j j0 j1
    rw [FF.2 43 (by decide) (by decide)] at j1
    rw [FF.1 85 (by decide) (by decide), FF.2 35 (by decide) (by decide)]; exact ip j j0 j1
  · obtain ⟨q1, q2, q3⟩ := nm j
    rw [if_neg (by omega)] at q1 q2 q3
    rw [FF.1 76 (by decide) (by decide), FF.1 77 (by decide) (by decide), FF.1 78 (by decide) (by decide)]
    exact ⟨q1, q2, q3⟩
  · rw [FF.1 83 (by decide) (by decide), ob 83 (by decide) (by decide) (by decide) (by decide)]; exact og 83 (by decide) (by decide) (by decide)
  · rw [FF.1 84 (by decide) (by decide), ob 84 (by decide) (by decide) (by decide) (by decide)]; exact og 84 (by decide) (by decide) (by decide)
  · rw [FF.1 85 (by decide) (by decide)]; exact e85
  · rw [FF.2 30 (by decide) (by decide)]; exact b30
  · rw [FF.2 37 (by decide) (by decide), b8 37 (by decide)]; exact o37
  · rw [FF.2 41 (by decide) (by decide), b8 41 (by decide)]; exact o8 41 (by decide) (by decide) (by decide) (by decide)
  · rw [FF.2 43 (by decide) (by decide)]; exact k43
end MLT
