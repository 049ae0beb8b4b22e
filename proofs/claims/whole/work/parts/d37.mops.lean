/-! The model's types: CONS, operations, ~. -/
section MOP
variable {σ σ1 σ2 m m5 : Mem} {z x n p s a b l : Int} {E : List (Int × Int)} {F : List Int} {S S' : TS} {A B T : Tr}
theorem PM_cons (hB : isE B) (wA : 1 ≤ rwl A) (wB : 1 ≤ rwl B) (pA : PMT A) (pB : PMT B) : PMT (nd 10 0 A B nl) := by
  intro p s σ E F C N cl hp hs t r rm
  obtain ⟨CA, CBb, Cc⟩ : isC σ A p s ∧ isC σ B (p + ln A) (s + sn A) ∧ cell σ (p + ln A + ln B) 9 44 0 := C
  obtain ⟨NA, NB⟩ : isN σ A p (E.map Prod.fst) ∧ isN σ B (p + ln A) (E.map Prod.fst) := N
  have cl : (clo A (inE E) && (clo B (inE E) && true)) = true := cl
  rw [Bool.and_true, Bool.and_eq_true] at cl
  have hl : ln (nd 10 0 A B nl) = ln A + ln B + 1 := rfl
  have hsn : sn (nd 10 0 A B nl) = sn A + sn B + 0 := rfl
  have w0 : rwl A + rwl B + 1 ≤ rwl (nd 10 0 A B nl) := by
    have h1 := (up_ge (l := 2) (T := A) (r := rwl A)).1
    have h2 := (up_ge (l := 1) (T := B) (r := rwl B)).1
    show _ ≤ 1 + up 2 A (rwl A) + up 1 B (rwl B)
    omega
  obtain ⟨rA, rB⟩ : rmC A 0 0 (mS σ) E F ∧ ∀ S1 a, RT A 0 (mS σ) E F S1 a → rmC B 0 0 S1 E F ∧ ∀ S2 b, RT B 0 S1 E F S2 b → S2.2.1 + 1 ≤ 1300 := rm
  rw [hl] at hp
  rw [hsn] at hs
  have gA := ln_ge (T := A)
  have gB := ln_ge (T := B)
  have r0 := r
  obtain ⟨r1, r2, r3, r4⟩ := r
  rcases two_go pA pB wA wB CA CBb NA NB cl.1 cl.2 ⟨hp.1, by omega, hp.2.2⟩ ⟨hs.1, by omega⟩ t ⟨by omega, by omega, by omega, by omega⟩ rA (fun S1 a h => (rB S1 a h).1) with ⟨σ1, a, σ2, b, D1, D2, k2, f2, b2, ⟨c30, c37, c41, c43⟩, ⟨ta, tb⟩, ps, ia, ib, la, lb⟩ | ⟨z, no⟩
  · have t2 := D2.2.1
    have H2 := t2.1
    have TA := D1.2.2.2.2.2.2.1
    have TB := D2.2.2.2.2.2.2.1
    have b43 := b2.2.2.1.1
    have hc : σ2 58 35 + 1 ≤ 1300 := (rB _ _ D1.2.2.2.2.2.2.2).2 _ _ D2.2.2.2.2.2.2.2
    have e0 : σ2 58 37 - 2 = σ 58 37 := by omega
    have e1 : σ2 58 37 - 1 = σ 58 37 + 1 := by omega
    have cc := H2.2.1
    have l30 := t2.2.1.1
    obtain ⟨H4, eS, oi, ok, o37, o35⟩ := csM_mt H2 (by rw [e0, ta]; exact ia) hc
    rw [e0, ta] at eS
    have lf : ∀ {k}, 0 ≤ k → k < σ2 58 35 → lO (mS σ2) 0 k → lO (mS (csM σ2)) 0 k := fun {k} k0 k1 g => by
      rw [eS]
      exact lO_ad H2.1.1 k0 k1 g
    have kr : (mS (csM σ2)).1 (σ2 58 35) = (4, a, 0) := by rw [eS]; exact ad_c
    have lr : lO (mS (csM σ2)) 0 (σ2 58 35) := lO_4 kr (lf ia.1 ia.2 la)
    obtain ⟨m5, U, FF, out⟩ := s_munify (d := 7) (a := b) (b := σ2 58 35) H4 ((ok 44 (by decide) (by decide)).trans t2.2.2.2.1) (by rw [o35]; omega) (by rw [o35]; omega) (lf ib.1 ib.2 lb) lr
    have rm2 : rmS σ2 := ⟨by omega, by omega, by have := t2.2.1.1; omega, by omega⟩
    have kk : ∀ k, k ≠ 35 → k ≠ 37 → k ≠ 38 → k ≠ 44 → k ≠ 45 → m5 58 k = σ2 58 k := fun k h1 h2 h3 h4 h5 => (FF.2 k h4 h5 h3).trans (ok k h1 h2)
    have Ro := o_cons (d := 6) (m5 := m5) H2 rm2 (by omega) hc (by rw [e0, ta]; exact ia) (by rw [e1, tb]; exact U) FF
    have R := t_9 (d := 6) (p := p + ln A + ln B) ⟨by omega, by omega⟩ (f2.cel Cc).1 (by rw [(f2.cel Cc).2.1]; exact Ro) (by rw [puM_30, kk 30 (by decide) (by decide) (by decide) (by decide) (by decide)]; exact ⟨by omega, by omega⟩)
    have s7 := f2.s7
    have f44 := (puM_fx (σ := m5) (x := σ2 58 35)).2 44 (by decide) (by decide)
    have ob : ∀ i, i ≠ 58 → i ≠ 79 → i ≠ 80 → i ≠ 81 → i ≠ 82 → i ≠ 86 → i ≠ 87 → m5 i = σ2 i := fun i h1 h2 h3 h4 h5 h6 h7 => (FF.1 i h1 h3 h6 h7).trans (oi i h1 h2 h3 h4 h5)
    have k37 : m5 58 37 = σ 58 37 := by rw [FF.2 37 (by decide) (by decide) (by decide), o37]; omega
    have fm : fT σ2 m5 := ⟨fun i h => by have := tP_no h; exact ob i (by omega) (by omega) (by omega) (by omega) (by omega) (by omega) (by omega), fun k h => by have := tK_no h; exact kk k (by omega) (by omega) (by omega) (by omega) (by omega)⟩
    have p43 : (puM m5 (σ2 58 35)) 58 43 = σ2 58 43 + 1 := by rw [puM_43, kk 43 (by decide) (by decide) (by decide) (by decide) (by decide)]
    have hq : 0 ≤ p + ln A + ln B ∧ p + ln A + ln B < σ2 58 7 ∧ σ2 58 7 ≤ 124 := ⟨by omega, by omega, by omega⟩
    rcases out with ⟨o1, o2, o3, o4, o5⟩ | ⟨o1, o2⟩
    · have bl5 : Blw σ m5 := b2.cg (ob 83 (by decide) (by decide) (by decide) (by decide) (by decide) (by decide) (by decide)) (ob 84 (by decide) (by decide) (by decide) (by decide) (by decide) (by decide) (by decide)) (ob 85 (by decide) (by decide) (by decide) (by decide) (by decide) (by decide) (by decide)) (ob 76 (by decide) (by decide) (by decide) (by decide) (by decide) (by decide) (by decide)) (ob 77 (by decide) (by decide) (by decide) (by decide) (by decide) (by decide) (by decide)) (ob 78 (by decide) (by decide) (by decide) (by decide) (by decide) (by decide) (by decide)) (kk 43 (by decide) (by decide) (by decide) (by decide) (by decide))
      obtain ⟨bl, g30, g37, g41, g43, g83, eP⟩ := pu_f (x := σ2 58 35) bl5 k37 ((kk 30 (by decide) (by decide) (by decide) (by decide) (by decide)).trans c30) ((kk 41 (by decide) (by decide) (by decide) (by decide) (by decide)).trans c41)
      obtain ⟨Hm, em⟩ := puM_mt (x := σ2 58 35) o2
      rw [eS] at o3 o5
      have ps5 : PsA σ m5 = PsA σ σ2 := by unfold PsA; rw [kk 43 (by decide) (by decide) (by decide) (by decide) (by decide), ob 85 (by decide) (by decide) (by decide) (by decide) (by decide) (by decide) (by decide)]
      refine td_fin (P := fun y => (PsA σ σ1 y ∨ PsA σ1 σ2 y) ∨ y = σ2 58 35) t r0 (by omega) ⟨hq.1, by rw [hl]; omega, hq.2⟩ t2.2.2.2.1 R k2 f2 (fm.tr puM.fT) Hm (f44.trans o1) bl g30 g37 g41 (by omega) g83 ?_ (fun y => ?_) (Or.inr rfl) (fun sx => ?_)
      · rw [em]
        exact TR_cons2 t.2.2.1 (by decide) t.1.1 (by have := t.1.2.1; show 0 ≤ σ 58 35; omega) TA TB rfl (o3 0) o5
      · rw [← eP y, ps5, ps y]
      · rw [em] at sx ⊢
        exact ⟨mS σ1, a, mS σ2, b, D1.2.2.2.2.2.2.2, D2.2.2.2.2.2.2.2, ⟨o3, by show m5 58 35 = _; rw [o4, o35]; rfl, o5⟩, rfl, sx⟩
    · refine Or.inr ⟨(tf_bad hq t2.2.2.2.1 R (f44.trans o1) ⟨by omega, by omega⟩ (fm.tr puM.fT)).tr k2 f2, fun ρ s V sm y => ?_⟩
      rw [eS] at o2
      exact TR_cons2_no t.2.2.1 (by decide) t.1.1 (by have := t.1.2.1; show 0 ≤ σ 58 35; omega) hB TA TB rfl o2 s V y
  · refine Or.inr ⟨z, fun ρ s V sm y => ?_⟩
    obtain ⟨-, a, y1, -, y2⟩ := y
    exact no ρ _ _ V sm y1 y2
/-- a demand: the node is made one with one without parts -/
theorem dem_go {c w : Int} (t : TH σ E F) (hc : 0 ≤ c ∧ c ≤ 2) (ha : 0 ≤ a ∧ a < σ 58 35) (la : lO (mS σ) 0 a) : ∃ m, Rn 18 yMo_unify [.ref 58, vi a, vi c] (mup σ 58 37 w) none m ∧ FU (mup σ 58 37 w) m ∧ ((m 58 44 = 0 ∧ MT m ∧ m 58 35 = σ 58 35 ∧ unR (mS σ) a c (mS m)) ∨ (m 58 44 = 1 ∧ ∀ ρ, VS (mS σ).1 (mS σ).2.1 ρ → ρ a = ρ c → False)) := by
  obtain ⟨H1, e1⟩ := p37 (z := w) t.1
  have b := t.bs hc
  have k35 : (mup σ 58 37 w) 58 35 = σ 58 35 := mup_nk (by decide)
  have rc : 0 ≤ c ∧ c < σ 58 35 := b.1
  obtain ⟨m, U, FF, out⟩ := s_munify (d := 7) (a := a) (b := c) H1 ((mup_nk (by decide)).trans t.2.2.2.1) (by rw [k35]; exact ha) (by rw [k35]; exact rc) (by rw [e1]; exact la) (by rw [e1]; exact fun u o oc => (lf_no (by rw [b.2.1]; exact b.2.2) o oc).elim)
  rw [e1] at out
  refine ⟨m, U, FF, ?_⟩
  rcases out with ⟨o1, o2, o3, o4, o5⟩ | ⟨o1, o2⟩
  · exact Or.inl ⟨o1, o2, o4.trans k35, o3, by show m 58 35 = σ 58 35; exact o4.trans k35, o5⟩
  · refine Or.inr ⟨o1, fun ρ V e => o2 ρ V e ?_⟩
    rw [e, b.v V]
    show (1 : Int) ≤ 80
    decide
theorem PM_neg (wA : 1 ≤ rwl A) (pA : PMT A) : PMT (nd 8 0 A nl nl) := by
  intro p s σ E F C N cl hp hs t r rm
  obtain ⟨CA, Cc⟩ : isC σ A p s ∧ cell σ (p + ln A) 9 126 0 := C
  have NA : isN σ A p (E.map Prod.fst) := N
  have cl : (clo A (inE E) && (true && true)) = true := cl
  rw [Bool.and_true, Bool.and_true] at cl
  have hl : ln (nd 8 0 A nl nl) = ln A + 1 := rfl
  have hsn : sn (nd 8 0 A nl nl) = sn A + 0 + 0 := rfl
  have w0 : rwl A + 1 ≤ rwl (nd 8 0 A nl nl) := by
    have h1 := (up_ge (l := 6) (T := A) (r := rwl A)).1
    show _ ≤ 1 + up 6 A (rwl A)
    omega
  have rA : rmC A 0 0 (mS σ) E F := rm
  rw [hl] at hp
  rw [hsn] at hs
  have gA := ln_ge (T := A)
  have r0 := r
  obtain ⟨r1, r2, r3, r4⟩ := r
  rcases pA p s σ E F CA NA cl ⟨hp.1, by omega, hp.2.2⟩ ⟨hs.1, by omega⟩ t ⟨by omega, by omega, by omega, by omega⟩ rA with ⟨σ1, a, D1, k1⟩ | ⟨z, no⟩
  · have D1' := D1
    obtain ⟨f1, t1, b1, ⟨c30, c37, c41, c43⟩, top1, px1, TA, RTA⟩ := D1
    have b43 := b1.2.2.1.1
    have e1 : σ1 58 37 - 1 = σ 58 37 := by omega
    have l30 := t1.2.1.1
    have rm2 : rmS σ1 := ⟨by omega, by omega, by have := t1.2.1.1; omega, by omega⟩
    have ia : 0 ≤ a ∧ a < σ1 58 35 := TA.2.1.1
    obtain ⟨m4, U, FF, out⟩ := dem_go (c := 2) (w := σ1 58 37 - 1) t1 (by decide) ia (TA.2.1.2.2.2 t.2.2.1.2.1)
    have Ro := o_neg (d := 6) (m4 := m4) rm2 (by omega) (by rw [e1, top1, ← e1]; exact U) FF
    have kk : ∀ k, k ≠ 37 → k ≠ 38 → k ≠ 44 → k ≠ 45 → m4 58 k = σ1 58 k := fun k h1 h2 h3 h4 => (FF.2 k h3 h4 h2).trans (mup_nk h1)
    have R := t_9 (d := 6) (p := p + ln A) ⟨by omega, by omega⟩ (f1.cel Cc).1 (by rw [(f1.cel Cc).2.1]; exact Ro) (by rw [puM_30, kk 30 (by decide) (by decide) (by decide) (by decide)]; exact ⟨by omega, by omega⟩)
    have s7 := f1.s7
    have f44 := (puM_fx (σ := m4) (x := 2)).2 44 (by decide) (by decide)
    have ob : ∀ i, i ≠ 58 → i ≠ 80 → i ≠ 86 → i ≠ 87 → m4 i = σ1 i := fun i h1 h2 h3 h4 => (FF.1 i h1 h2 h3 h4).trans (mup_obj h1)
    have k37 : m4 58 37 = σ 58 37 := by rw [FF.2 37 (by decide) (by decide) (by decide), mup_eq]; omega
    have fm : fT σ1 m4 := ⟨fun i h => by have := tP_no h; exact ob i (by omega) (by omega) (by omega) (by omega), fun k h => by have := tK_no h; exact kk k (by omega) (by omega) (by omega) (by omega)⟩
    have p43 : (puM m4 2) 58 43 = σ1 58 43 + 1 := by rw [puM_43, kk 43 (by decide) (by decide) (by decide) (by decide)]
    have hq : 0 ≤ p + ln A ∧ p + ln A < σ1 58 7 ∧ σ1 58 7 ≤ 124 := ⟨by omega, by omega, by omega⟩
    have b2 : bsN (mS σ1) 2 3 := t1.bs (c := 2) (by decide)
    rcases out with ⟨o1, o2, o3, o4⟩ | ⟨o1, o2⟩
    · have bl5 : Blw σ m4 := b1.cg (ob 83 (by decide) (by decide) (by decide) (by decide)) (ob 84 (by decide) (by decide) (by decide) (by decide)) (ob 85 (by decide) (by decide) (by decide) (by decide)) (ob 76 (by decide) (by decide) (by decide) (by decide)) (ob 77 (by decide) (by decide) (by decide) (by decide)) (ob 78 (by decide) (by decide) (by decide) (by decide)) (kk 43 (by decide) (by decide) (by decide) (by decide))
      obtain ⟨bl, g30, g37, g41, g43, g83, eP⟩ := pu_f (x := 2) bl5 k37 ((kk 30 (by decide) (by decide) (by decide) (by decide)).trans c30) ((kk 41 (by decide) (by decide) (by decide) (by decide)).trans c41)
      obtain ⟨Hm, em⟩ := puM_mt (x := 2) o2
      have ps5 : PsA σ m4 = PsA σ σ1 := by unfold PsA; rw [kk 43 (by decide) (by decide) (by decide) (by decide), ob 85 (by decide) (by decide) (by decide) (by decide)]
      refine td_fin (P := fun y => PsA σ σ1 y ∨ y = 2) t r0 (by omega) ⟨hq.1, by rw [hl]; omega, hq.2⟩ t1.2.2.2.1 R k1 f1 (fm.tr puM.fT) Hm (f44.trans o1) bl g30 g37 g41 (by omega) g83 ?_ (fun y => ?_) (Or.inr rfl) (fun sx => ?_)
      · rw [em]
        exact DR_neg (TR_dem t.2.2.1 TA b2 (o4.1 0) o4.2.2) (t.bs (c := 2) (by decide))
      · rw [← eP y, ps5]
      · rw [em]
        exact ⟨mS σ1, a, RTA, o4, rfl⟩
    · refine Or.inr ⟨(tf_bad hq t1.2.2.2.1 R (f44.trans o1) ⟨by omega, by omega⟩ (fm.tr puM.fT)).tr k1 f1, fun ρ s V sm y => ?_⟩
      exact TR_dem_no TA b2 (fun ρ V e => (o2 ρ V e).elim) V y.2.1
  · exact Or.inr ⟨z, fun ρ s V sm y => no ρ _ V sm y.2.1⟩
end MOP
