/-! The model's types: operations with two parts. -/
section MO2
variable {σ σ1 σ2 m m5 : Mem} {z x n p s a b l : Int} {E : List (Int × Int)} {F : List Int} {S S' : TS} {A B T : Tr}
theorem MT.bs {c : Int} (H : MT σ) (hc : 0 ≤ c ∧ c ≤ 2) : bsN (mS σ) c (c + 1) := by
  have h := H.2.1
  refine ⟨⟨by omega, by show c < σ 58 35; omega⟩, ?_, by omega, by omega⟩
  have g := H.2.2.1
  show σ 79 c = c + 1
  have : c = 0 ∨ c = 1 ∨ c = 2 := by omega
  rcases this with e | e | e
  · rw [e]; exact g.1
  · rw [e]; exact g.2.1
  · rw [e]; exact g.2.2
theorem dem_g2 {c w : Int} (H : MT σ) (hi : σ 58 44 = 0) (hc : 0 ≤ c ∧ c ≤ 2) (ha : 0 ≤ a ∧ a < σ 58 35) (la : lO (mS σ) 0 a) : ∃ m, Rn 18 yMo_unify [.ref 58, vi a, vi c] (mup σ 58 37 w) none m ∧ FU (mup σ 58 37 w) m ∧ ((m 58 44 = 0 ∧ MT m ∧ m 58 35 = σ 58 35 ∧ unR (mS σ) a c (mS m)) ∨ (m 58 44 = 1 ∧ ∀ ρ, VS (mS σ).1 (mS σ).2.1 ρ → ρ a = ρ c → False)) := by
  obtain ⟨H1, e1⟩ := p37 (z := w) H
  have b := H.bs hc
  have k35 : (mup σ 58 37 w) 58 35 = σ 58 35 := mup_nk (by decide)
  have rc : 0 ≤ c ∧ c < σ 58 35 := b.1
  obtain ⟨m, U, FF, out⟩ := s_munify (d := 7) (a := a) (b := c) H1 ((mup_nk (by decide)).trans hi) (by rw [k35]; exact ha) (by rw [k35]; exact rc) (by rw [e1]; exact la) (by rw [e1]; exact fun u o oc => (lf_no (by rw [b.2.1]; exact b.2.2) o oc).elim)
  rw [e1] at out
  refine ⟨m, U, FF, ?_⟩
  rcases out with ⟨o1, o2, o3, o4, o5⟩ | ⟨o1, o2⟩
  · exact Or.inl ⟨o1, o2, o4.trans k35, o3, by show m 58 35 = σ 58 35; exact o4.trans k35, o5⟩
  · refine Or.inr ⟨o1, fun ρ V e => o2 ρ V e ?_⟩
    rw [e, b.v V]
    show (1 : Int) ≤ 80
    decide
theorem PM_op (hz : opZ z) (wA : 1 ≤ rwl A) (wB : 1 ≤ rwl B) (pA : PMT A) (pB : PMT B) : PMT (nd 9 z A B nl) := by
  intro p s σ E F C N cl hp hs t r rm
  obtain ⟨CA, CBb, Cc⟩ : isC σ A p s ∧ isC σ B (p + ln A) (s + sn A) ∧ cell σ (p + ln A + ln B) 9 z 0 := C
  obtain ⟨NA, NB⟩ : isN σ A p (E.map Prod.fst) ∧ isN σ B (p + ln A) (E.map Prod.fst) := N
  have cl : (clo A (inE E) && (clo B (inE E) && true)) = true := cl
  rw [Bool.and_true, Bool.and_eq_true] at cl
  have hl : ln (nd 9 z A B nl) = ln A + ln B + 1 := rfl
  have hsn : sn (nd 9 z A B nl) = sn A + sn B + 0 := rfl
  have w0 : rwl A + rwl B + 1 ≤ rwl (nd 9 z A B nl) := by
    have h1 := (up_ge (l := lf9 z) (T := A) (r := rwl A)).1
    have h2 := (up_ge (l := rt9 z) (T := B) (r := rwl B)).1
    show _ ≤ 1 + up (lf9 z) A (rwl A) + up (rt9 z) B (rwl B)
    omega
  obtain ⟨rA, rB⟩ : rmC A 0 0 (mS σ) E F ∧ ∀ S1 a, RT A 0 (mS σ) E F S1 a → rmC B 0 0 S1 E F := rm
  rw [hl] at hp
  rw [hsn] at hs
  have gA := ln_ge (T := A)
  have gB := ln_ge (T := B)
  have r0 := r
  obtain ⟨r1, r2, r3, r4⟩ := r
  have zz : z = 43 ∨ z = 45 ∨ z = 42 ∨ z = 47 ∨ z = 60 ∨ z = 61 ∨ z = 171 ∨ z = 173 ∨ z = 170 ∨ z = 175 ∨ z = 188 := by unfold opZ at hz; omega
  obtain ⟨eo, er⟩ := oq_T zz
  have qr := oqN_r (x := z)
  have rr := orN_r (x := z)
  have gz : rg z := ⟨by omega, by omega⟩
  rcases two_go pA pB wA wB CA CBb NA NB cl.1 cl.2 ⟨hp.1, by omega, hp.2.2⟩ ⟨hs.1, by omega⟩ t ⟨by omega, by omega, by omega, by omega⟩ rA rB with ⟨σ1, a, σ2, b, D1, D2, k2, f2, b2, ⟨c30, c37, c41, c43⟩, ⟨ta, tb⟩, ps, ia, ib, la, lb⟩ | ⟨z, no⟩
  · have t2 := D2.2.1
    have H2 := t2.1
    have TA := D1.2.2.2.2.2.2.1
    have TB := D2.2.2.2.2.2.2.1
    have b43 := b2.2.2.1.1
    have e0 : σ2 58 37 - 2 = σ 58 37 := by omega
    have e1 : σ2 58 37 - 1 = σ 58 37 + 1 := by omega
    have cc := H2.2.1
    have l30 := t2.2.1.1
    have rm2 : rmS σ2 := ⟨by omega, by omega, by omega, by omega⟩
    have s7 := f2.s7
    have hq : 0 ≤ p + ln A + ln B ∧ p + ln A + ln B < σ2 58 7 ∧ σ2 58 7 ≤ 124 := ⟨by omega, by omega, by omega⟩
    have bo : bsN (mS σ) (oqN z) (oqN z + 1) := t.bs qr
    have br : bsN (mS σ) (orN z) (orN z + 1) := t.bs rr
    obtain ⟨m4, U, FF, out⟩ := dem_g2 (c := oqN z) (w := σ2 58 37 - 1) H2 t2.2.2.2.1 qr ib lb
    have kk : ∀ k, k ≠ 37 → k ≠ 38 → k ≠ 44 → k ≠ 45 → m4 58 k = σ2 58 k := fun k h1 h2 h3 h4 => (FF.2 k h3 h4 h2).trans (mup_nk h1)
    have ob : ∀ i, i ≠ 58 → i ≠ 80 → i ≠ 86 → i ≠ 87 → m4 i = σ2 i := fun i h1 h2 h3 h4 => (FF.1 i h1 h2 h3 h4).trans (mup_obj h1)
    -- the second demand, whatever the first gave
    have fin : ∀ m8, Rn 18 yMo_unify [.ref 58, vi a, vi (oqN z)] (mup m4 58 37 (σ2 58 37 - 2)) none m8 → FU (mup m4 58 37 (σ2 58 37 - 2)) m8 → Rn 20 yMo_typeOf [.ref 58, vi (p + ln A + ln B)] σ2 none (puM m8 (orN z)) ∧ (∀ k, k ≠ 37 → k ≠ 38 → k ≠ 44 → k ≠ 45 → m8 58 k = σ2 58 k) ∧ (∀ i, i ≠ 58 → i ≠ 80 → i ≠ 86 → i ≠ 87 → m8 i = σ2 i) ∧ m8 58 37 = σ 58 37 ∧ fT σ2 m8 := fun m8 U2 F2 => by
      have kk2 : ∀ k, k ≠ 37 → k ≠ 38 → k ≠ 44 → k ≠ 45 → m8 58 k = σ2 58 k := fun k h1 h2 h3 h4 => (F2.2 k h3 h4 h2).trans ((mup_nk h1).trans (kk k h1 h2 h3 h4))
      have ob2 : ∀ i, i ≠ 58 → i ≠ 80 → i ≠ 86 → i ≠ 87 → m8 i = σ2 i := fun i h1 h2 h3 h4 => (F2.1 i h1 h2 h3 h4).trans ((mup_obj h1).trans (ob i h1 h2 h3 h4))
      have Ro := o_op (d := 6) (m4 := m4) (m8 := m8) gz (by omega) (by omega) rm2 (by omega) (by rw [e1, tb, ← e1]; exact U) FF (by rw [e0, ta, ← e0]; exact U2) F2
      refine ⟨t_9 (d := 6) (p := p + ln A + ln B) ⟨by omega, by omega⟩ (f2.cel Cc).1 (by rw [(f2.cel Cc).2.1]; exact Ro) (by rw [puM_30, kk2 30 (by decide) (by decide) (by decide) (by decide)]; exact ⟨by omega, by omega⟩), kk2, ob2, by rw [F2.2 37 (by decide) (by decide) (by decide), mup_eq]; omega, fun i h => by have := tP_no h; exact ob2 i (by omega) (by omega) (by omega) (by omega), fun k h => by have := tK_no h; exact kk2 k (by omega) (by omega) (by omega) (by omega)⟩
    have bad : ∀ m8, m8 58 44 = 1 → Rn 18 yMo_unify [.ref 58, vi a, vi (oqN z)] (mup m4 58 37 (σ2 58 37 - 2)) none m8 → FU (mup m4 58 37 (σ2 58 37 - 2)) m8 → TZ σ p := fun m8 i8 U2 F2 => by
      obtain ⟨R, kk2, ob2, k37, fm⟩ := fin m8 U2 F2
      have p43 : (puM m8 (orN z)) 58 43 = σ2 58 43 + 1 := by rw [puM_43, kk2 43 (by decide) (by decide) (by decide) (by decide)]
      exact (tf_bad hq t2.2.2.2.1 R (((puM_fx (σ := m8) (x := orN z)).2 44 (by decide) (by decide)).trans i8) ⟨by omega, by omega⟩ (fm.tr puM.fT)).tr k2 f2
    rcases out with ⟨o1, o2, o3, o4⟩ | ⟨o1, o2⟩
    · have ia4 : 0 ≤ a ∧ a < m4 58 35 := by omega
      obtain ⟨m8, U2, F2, out2⟩ := dem_g2 (c := oqN z) (w := σ2 58 37 - 2) o2 o1 qr ia4 ((o4.1 0).2.1.2.2.2.2.1 0 a ia.1 ia.2 la)
      rcases out2 with ⟨q1, q2, q3, q4⟩ | ⟨q1, q2⟩
      · obtain ⟨R, kk2, ob2, k37, fm⟩ := fin m8 U2 F2
        have bl5 : Blw σ m8 := b2.cg (ob2 83 (by decide) (by decide) (by decide) (by decide)) (ob2 84 (by decide) (by decide) (by decide) (by decide)) (ob2 85 (by decide) (by decide) (by decide) (by decide)) (ob2 76 (by decide) (by decide) (by decide) (by decide)) (ob2 77 (by decide) (by decide) (by decide) (by decide)) (ob2 78 (by decide) (by decide) (by decide) (by decide)) (kk2 43 (by decide) (by decide) (by decide) (by decide))
        obtain ⟨bl, g30, g37, g41, g43, g83, eP⟩ := pu_f (x := orN z) bl5 k37 ((kk2 30 (by decide) (by decide) (by decide) (by decide)).trans c30) ((kk2 41 (by decide) (by decide) (by decide) (by decide)).trans c41)
        have p43 : (puM m8 (orN z)) 58 43 = σ2 58 43 + 1 := by rw [puM_43, kk2 43 (by decide) (by decide) (by decide) (by decide)]
        obtain ⟨Hm, em⟩ := puM_mt (x := orN z) q2
        have ps5 : PsA σ m8 = PsA σ σ2 := by unfold PsA; rw [kk2 43 (by decide) (by decide) (by decide) (by decide), ob2 85 (by decide) (by decide) (by decide) (by decide)]
        refine td_fin (P := fun y => (PsA σ σ1 y ∨ PsA σ1 σ2 y) ∨ y = orN z) t r0 (by omega) ⟨hq.1, by rw [hl]; omega, hq.2⟩ t2.2.2.2.1 R k2 f2 (fm.tr puM.fT) Hm (((puM_fx (σ := m8) (x := orN z)).2 44 (by decide) (by decide)).trans q1) bl g30 g37 g41 (by omega) g83 ?_ (fun y => ?_) (Or.inr rfl) (fun sx => ?_)
        · rw [em]
          exact TR_op2 t.2.2.1 (by decide) t.1.1 eo er TA TB bo br (o4.1 0) o4.2.2 (q4.1 0) q4.2.2
        · rw [← eP y, ps5, ps y]
        · rw [em]
          exact ⟨mS σ1, a, mS σ2, b, mS m4, D1.2.2.2.2.2.2.2, D2.2.2.2.2.2.2.2, o4, q4, rfl⟩
      · refine Or.inr ⟨bad m8 q1 U2 F2, fun ρ s V sm y => ?_⟩
        exact TR_op2_no t.2.2.1 (by decide) t.1.1 eo TA TB bo (fun ρ V eb ea => q2 ρ ((o4.2.2 ρ).mpr ⟨V, eb⟩) ea) s V y
    · have i4 : (mup m4 58 37 (σ2 58 37 - 2)) 58 44 ≠ 0 := by rw [mup_nk (by decide)]; omega
      have U2 := mu_ill (d := 7) (a := a) (b := oqN z) i4 ⟨by omega, by omega⟩ ⟨by omega, by omega⟩
      refine Or.inr ⟨bad _ ?_ U2 ⟨fun i h1 h2 h3 h4 => by rw [mup_obj h4, mup_obj h4], fun k _ _ _ => by rw [mup_ne (by decide), mup_ne (by decide)]⟩, fun ρ s V sm y => ?_⟩
      · rw [mup_ne (by decide), mup_ne (by decide), mup_nk (by decide)]; exact o1
      · exact TR_op2_no t.2.2.1 (by decide) t.1.1 eo TA TB bo (fun ρ V eb _ => o2 ρ V eb) s V y
  · refine Or.inr ⟨z, fun ρ s V sm y => ?_⟩
    obtain ⟨-, y1, y2, -⟩ := y
    exact no ρ _ _ V sm y1 y2
end MO2
