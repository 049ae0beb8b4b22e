/-! The model's types: two parts one after the other; application, CONS. -/
section MTW
variable {σ σ1 σ2 m m5 : Mem} {z x n p s a b l : Int} {E : List (Int × Int)} {F : List Int} {S S' : TS} {M PM PM' : Int → Prop} {A B T : Tr}
theorem NoM.ss (n : NoM S PM' E T) (h : ∀ q, PM' q → PM q) : NoM S PM E T := fun ρ s V sm => n ρ s V (fun q hq => sm q (h q hq))
theorem pms_1 (b : Blw σ σ1) {q : Int} (h : PMs σ1 E F q) : PMs σ E F q ∨ PsA σ σ1 q := by
  rcases h with ⟨k, h, e⟩ | h
  · by_cases c : k < σ 58 43
    · exact Or.inl (Or.inl ⟨k, ⟨h.1, c⟩, by rw [e, b.2.2.1.2 k c]⟩)
    · exact Or.inr ⟨k, by omega, h.2, e⟩
  · exact Or.inl (Or.inr h)
theorem Blw.cg (b : Blw σ σ2) (e83 : m 83 = σ2 83) (e84 : m 84 = σ2 84) (e85 : m 85 = σ2 85) (e76 : m 76 = σ2 76) (e77 : m 77 = σ2 77) (e78 : m 78 = σ2 78) (k43 : m 58 43 = σ2 58 43) : Blw σ m := by
  obtain ⟨b1, b2, b3, b4⟩ := b
  exact ⟨fun k h => by rw [e83]; exact b1 k h, fun k h => by rw [e84]; exact b2 k h, ⟨by omega, fun k h => by rw [e85]; exact b3.2 k h⟩, fun k h => by rw [e76, e77, e78]; exact b4 k h⟩
theorem lO_5 (k : S.1 n = (5, a, b)) (la : lO S l a) (lb : lO S l b) : lO S l n := fun u o oc => by
  rcases oc.cs with q | ⟨q, -⟩ | ⟨q, -⟩ | ⟨-, q | q⟩
  · have := o.2.1
    rw [← q, k] at this; exact absurd this (by show ¬ (5 : Int) = 0; decide)
  · have := q.1
    rw [k] at this; exact absurd this (by show ¬ (5 : Int) = 0; decide)
  · rw [k] at q; exact absurd q (by show ¬ (5 : Int) = 4; decide)
  · rw [k] at q; exact la u o q
  · rw [k] at q; exact lb u o q
theorem lO_4 {c : Int} (k : S.1 n = (4, a, c)) (la : lO S l a) : lO S l n := fun u o oc => by
  rcases oc.cs with q | ⟨q, -⟩ | ⟨-, q⟩ | ⟨q, -⟩
  · have := o.2.1
    rw [← q, k] at this; exact absurd this (by show ¬ (4 : Int) = 0; decide)
  · have := q.1
    rw [k] at this; exact absurd this (by show ¬ (4 : Int) = 0; decide)
  · rw [k] at q; exact la u o q
  · rw [k] at q; exact absurd q (by show ¬ (4 : Int) = 5; decide)
theorem lO_fr {t lv : Int} (k : S.1 n = (0, -1, t)) (lv0 : S.2.2 n = lv) (h : lv ≤ l) : lO S l n := fun u o oc => by
  rcases oc.cs with q | ⟨q, -⟩ | ⟨q, -⟩ | ⟨q, -⟩
  · rw [← q, lv0]; exact h
  · have := q.2
    rw [k] at this; exact absurd this (by show ¬ (0 : Int) ≤ -1; decide)
  · rw [k] at q; exact absurd q (by show ¬ (0 : Int) = 4; decide)
  · rw [k] at q; exact absurd q (by show ¬ (0 : Int) = 5; decide)
/-- a node stays as far out when others are added -/
theorem lO_ad {t : Int × Int × Int} {lv : Int} (W : WS S.1 S.2.1) (h0 : 0 ≤ n) (h1 : n < S.2.1) (g : lO S l n) : lO (adT S t lv) l n := (XE.add (M := fun _ => False) (h := 0) W (by show S.2.1 ≤ S.2.1 + 1; omega) (fun k k0 k1 => ad_e (by omega)) (fun k o => if_neg (by have := o.1; omega))).2.2.2.2.1 l n h0 h1 g
/-- both parts; or one of them has no type -/
theorem two_go (pA : PMT A) (pB : PMT B) (wA : 1 ≤ rwl A) (wB : 1 ≤ rwl B) (CA : isC σ A p s) (CBb : isC σ B (p + ln A) (s + sn A)) (NA : isN σ A p (E.map Prod.fst)) (NB : isN σ B (p + ln A) (E.map Prod.fst)) (cA : clo A (inE E) = true) (cB : clo B (inE E) = true) (hp : 0 ≤ p ∧ p + ln A + ln B ≤ σ 58 7 ∧ σ 58 7 ≤ 124) (hs : 0 ≤ s ∧ s + (sn A + sn B) ≤ 80) (t : TH σ E F) (r : RmT σ (rwl A + rwl B)) (rA : rmC A 0 0 (mS σ) E F) (rB : ∀ S1 a, RT A 0 (mS σ) E F S1 a → rmC B 0 0 S1 E F) : (∃ σ1 a σ2 b, TD σ σ1 E F A a ∧ TD σ1 σ2 E F B b ∧ (∀ o s', tfL (p + ln A + ln B) σ2 o s' → tfL p σ o s') ∧ fT σ σ2 ∧ Blw σ σ2 ∧ (σ2 58 30 = σ 58 30 ∧ σ2 58 37 = σ 58 37 + 2 ∧ σ2 58 41 = σ 58 41 ∧ σ2 58 43 ≤ σ 58 43 + 2 * (rwl A + rwl B) - 2) ∧ (σ2 83 (σ 58 37) = a ∧ σ2 83 (σ 58 37 + 1) = b) ∧ (∀ y, (PsA σ σ1 y ∨ PsA σ1 σ2 y) ↔ PsA σ σ2 y) ∧ (0 ≤ a ∧ a < σ2 58 35) ∧ (0 ≤ b ∧ b < σ2 58 35) ∧ lO (mS σ2) 0 a ∧ lO (mS σ2) 0 b) ∨ (TZ σ p ∧ ∀ ρ sa sb, VS (mS σ).1 (mS σ).2.1 ρ → (∀ q, PMs σ E F q → gw (ρ q) ≤ 80) → tyE A true (Gam (mS σ) ρ E) sa → tyE B true (Gam (mS σ) ρ E) sb → False) := by
  have gA := ln_ge (T := A)
  have gB := ln_ge (T := B)
  have sA := sn_ge (T := A)
  have sB := sn_ge (T := B)
  obtain ⟨r1, r2, r3, r4⟩ := r
  rcases pA p s σ E F CA NA cA ⟨hp.1, by omega, hp.2.2⟩ ⟨hs.1, by omega⟩ t ⟨by omega, by omega, by omega, by omega⟩ rA with ⟨σ1, a, D1, k1⟩ | ⟨z, no⟩
  · obtain ⟨f1, t1, b1, ⟨c30, c37, c41, c43⟩, top1, px1, TA, RTA⟩ := D1
    have b43 := b1.2.2.1.1
    rcases pB (p + ln A) (s + sn A) σ1 E F (f1.ic CBb) (f1.isn NB) cB ⟨by omega, by rw [f1.s7]; omega, by rw [f1.s7]; exact hp.2.2⟩ ⟨by omega, by omega⟩ t1 ⟨by omega, by omega, by omega, by omega⟩ (rB _ _ RTA) with ⟨σ2, b, D2, k2⟩ | ⟨z, no⟩
    · obtain ⟨f2, t2, b2, ⟨d30, d37, d41, d43⟩, top2, px2, TB, RTB⟩ := D2
      have bb := b1.tr (by omega) (by omega) (by omega) b2
      obtain ⟨-, ra, rb, -⟩ := TRes.two t.2.2.1 (by decide) t.1.1 TA TB
      refine Or.inl ⟨σ1, a, σ2, b, ⟨f1, t1, b1, ⟨c30, c37, c41, c43⟩, top1, px1, TA, RTA⟩, ⟨f2, t2, b2, ⟨d30, d37, d41, d43⟩, top2, px2, TB, RTB⟩, fun o s' h => k1 o s' (k2 o s' h), f1.tr f2, bb, ⟨by omega, by omega, by omega, by omega⟩, ⟨?_, ?_⟩, fun y => psA_tr b43 b2.2.2.1.1 b2.2.2.1.2, ra.1, rb.1, ra.2.2.2 t.2.2.1.2.1, rb.2.2.2 t.2.2.1.2.1⟩
      · rw [b2.1 _ (by omega)]; exact top1
      · rw [← c37]; exact top2
    · refine Or.inr ⟨z.tr k1 f1, fun ρ sa sb V sm ya yb => NoM.two t.2.2.1 (by decide) t.1.1 TA (PMs.inC t) (no.ss (fun q hq => pms_1 b1 hq)) V sm ya yb⟩
  · exact Or.inr ⟨z, fun ρ sa sb V sm ya _ => no ρ sa V sm ya⟩
/-- f x -/
theorem PM_app (hA : isE A) (wA : 1 ≤ rwl A) (wB : 1 ≤ rwl B) (pA : PMT A) (pB : PMT B) : PMT (nd 11 0 A B nl) := by
  intro p s σ E F C N cl hp hs t r rm
  obtain ⟨CA, CBb, Cc⟩ : isC σ A p s ∧ isC σ B (p + ln A) (s + sn A) ∧ cell σ (p + ln A + ln B) 8 1 0 := C
  obtain ⟨NA, NB⟩ : isN σ A p (E.map Prod.fst) ∧ isN σ B (p + ln A) (E.map Prod.fst) := N
  have cl : (clo A (inE E) && (clo B (inE E) && true)) = true := cl
  rw [Bool.and_true, Bool.and_eq_true] at cl
  have hl : ln (nd 11 0 A B nl) = ln A + ln B + 1 := rfl
  have hsn : sn (nd 11 0 A B nl) = sn A + sn B + 0 := rfl
  have w0 : rwl A + rwl B ≤ rwl (nd 11 0 A B nl) := by
    have h1 := (up_ge (l := 5) (T := A) (r := rwl A)).1
    have h2 := (up_ge (l := 6) (T := B) (r := rwl B)).1
    show _ ≤ up 5 A (rwl A) + up 6 B (rwl B)
    omega
  obtain ⟨rA, rB⟩ : rmC A 0 0 (mS σ) E F ∧ ∀ S1 a, RT A 0 (mS σ) E F S1 a → rmC B 0 0 S1 E F ∧ ∀ S2 b, RT B 0 S1 E F S2 b → S2.2.1 + 2 ≤ 1300 := rm
  rw [hl] at hp
  rw [hsn] at hs
  have gA := ln_ge (T := A)
  have gB := ln_ge (T := B)
  have r0 := r
  obtain ⟨r1, r2, r3, r4⟩ := r
  rcases two_go pA pB wA wB CA CBb NA NB cl.1 cl.2 ⟨hp.1, by omega, hp.2.2⟩ ⟨hs.1, by omega⟩ t ⟨by omega, by omega, by omega, by omega⟩ rA (fun S1 a h => (rB S1 a h).1) with ⟨σ1, a, σ2, b, D1, D2, k2, f2, b2, ⟨c30, c37, c41, c43⟩, ⟨ta, tb⟩, ps, ia, ib, la, lb⟩ | ⟨z, no⟩
  · have t2 := D2.2.1
    have H2 := t2.1
    have TA := D1.2.2.2.2.2.2.1
    have TB := D2.2.2.2.2.2.2.1
    have b43 := b2.2.2.1.1
    have hc : σ2 58 35 + 2 ≤ 1300 := (rB _ _ D1.2.2.2.2.2.2.2).2 _ _ D2.2.2.2.2.2.2.2
    have e0 : σ2 58 37 - 2 = σ 58 37 := by omega
    have e1 : σ2 58 37 - 1 = σ 58 37 + 1 := by omega
    have cc := H2.2.1
    obtain ⟨H4, eS, oi, ok, o37, o35⟩ := apM_mt H2 (by rw [e1, tb]; exact ib) hc
    rw [e1, tb] at eS
    have n3 : nwT (mS σ2) (0, -1, 0) := Or.inl ⟨rfl, by show (-1 : Int) < 0; decide⟩
    have W3 : SO (nwS (mS σ2)) := (ad_S (M := fun _ => False) (h := 0) H2.1 (by show 0 ≤ σ2 58 35; omega) n3 (fun _ => by decide)).1
    have c3 : (nwS (mS σ2)).2.1 = σ2 58 35 + 1 := rfl
    have lf : ∀ {k}, 0 ≤ k → k < σ2 58 35 → lO (mS σ2) 0 k → lO (mS (apM σ2)) 0 k := fun {k} k0 k1 g => by
      rw [eS]
      exact lO_ad (S := nwS (mS σ2)) W3.1 k0 (by rw [c3]; omega) (lO_ad H2.1.1 k0 k1 g)
    have kf : (mS (apM σ2)).1 (σ2 58 35) = (0, -1, 0) := by
      rw [eS, ad_e (by show σ2 58 35 ≠ σ2 58 35 + 1; omega)]
      exact ad_c
    have vf : (mS (apM σ2)).2.2 (σ2 58 35) = 0 := by
      rw [eS]
      show (if σ2 58 35 = σ2 58 35 + 1 then _ else (if σ2 58 35 = σ2 58 35 then (0 : Int) else _)) = 0
      rw [if_neg (by omega), if_pos rfl]
    have kr : (mS (apM σ2)).1 (σ2 58 35 + 1) = (5, b, σ2 58 35) := by rw [eS]; exact ad_c (S := nwS (mS σ2))
    have lr : lO (mS (apM σ2)) 0 (σ2 58 35 + 1) := lO_5 kr (lf ib.1 ib.2 lb) (lO_fr kf vf (by decide))
    obtain ⟨m5, U, FF, out⟩ := s_munify (d := 7) (a := a) (b := σ2 58 35 + 1) H4 ((ok 44 (by decide) (by decide)).trans t2.2.2.2.1) (by rw [o35]; omega) (by rw [o35]; omega) (lf ia.1 ia.2 la) lr
    have rm2 : rmS σ2 := ⟨by omega, by omega, by have := t2.2.1.1; omega, by omega⟩
    have R := t_app (d := 6) (p := p + ln A + ln B) (m5 := m5) H2 ⟨by omega, by omega⟩ (f2.cel Cc).1 rm2 (by omega) hc (by rw [e0, ta]; exact ia) (by rw [e1, tb]; exact ib) (by rw [e0, ta]; exact U) FF
    have s7 := f2.s7
    have f44 := (puM_fx (σ := m5) (x := σ2 58 35)).2 44 (by decide) (by decide)
    have kk : ∀ k, k ≠ 35 → k ≠ 37 → k ≠ 38 → k ≠ 44 → k ≠ 45 → m5 58 k = σ2 58 k := fun k h1 h2 h3 h4 h5 => (FF.2 k h4 h5 h3).trans (ok k h1 h2)
    have ob : ∀ i, i ≠ 58 → i ≠ 79 → i ≠ 80 → i ≠ 81 → i ≠ 82 → i ≠ 86 → i ≠ 87 → m5 i = σ2 i := fun i h1 h2 h3 h4 h5 h6 h7 => (FF.1 i h1 h3 h6 h7).trans (oi i h1 h2 h3 h4 h5)
    have k37 : m5 58 37 = σ 58 37 := by rw [FF.2 37 (by decide) (by decide) (by decide), o37]; omega
    have fm : fT σ2 m5 := ⟨fun i h => by have := tP_no h; exact ob i (by omega) (by omega) (by omega) (by omega) (by omega) (by omega) (by omega), fun k h => by have := tK_no h; exact kk k (by omega) (by omega) (by omega) (by omega) (by omega)⟩
    have p43 : (puM m5 (σ2 58 35)) 58 43 = σ2 58 43 + 1 := by rw [puM_43, kk 43 (by decide) (by decide) (by decide) (by decide) (by decide)]
    have hq : 0 ≤ p + ln A + ln B ∧ p + ln A + ln B < σ2 58 7 ∧ σ2 58 7 ≤ 124 := ⟨by omega, by omega, by omega⟩
    rcases out with ⟨o1, o2, o3, o4, o5⟩ | ⟨o1, o2⟩
    · have bl5 : Blw σ m5 := b2.cg (ob 83 (by decide) (by decide) (by decide) (by decide) (by decide) (by decide) (by decide)) (ob 84 (by decide) (by decide) (by decide) (by decide) (by decide) (by decide) (by decide)) (ob 85 (by decide) (by decide) (by decide) (by decide) (by decide) (by decide) (by decide)) (ob 76 (by decide) (by decide) (by decide) (by decide) (by decide) (by decide) (by decide)) (ob 77 (by decide) (by decide) (by decide) (by decide) (by decide) (by decide) (by decide)) (ob 78 (by decide) (by decide) (by decide) (by decide) (by decide) (by decide) (by decide)) (kk 43 (by decide) (by decide) (by decide) (by decide) (by decide))
      obtain ⟨bl, g30, g37, g41, g43, g83, eP⟩ := pu_f (x := σ2 58 35) bl5 k37 ((kk 30 (by decide) (by decide) (by decide) (by decide) (by decide)).trans c30) ((kk 41 (by decide) (by decide) (by decide) (by decide) (by decide)).trans c41)
      obtain ⟨Hm, em⟩ := puM_mt (x := σ2 58 35) o2
      rw [eS] at o3 o5
      have ps5 : PsA σ m5 = PsA σ σ2 := by unfold PsA; rw [kk 43 (by decide) (by decide) (by decide) (by decide) (by decide), ob 85 (by decide) (by decide) (by decide) (by decide) (by decide) (by decide) (by decide)]
      refine td_fin (P := fun y => (PsA σ σ1 y ∨ PsA σ1 σ2 y) ∨ y = σ2 58 35) t r0 (by omega) ⟨hq.1, by rw [hl]; omega, hq.2⟩ t2.2.2.2.1 R k2 f2 (fm.tr puM.fT) Hm (f44.trans o1) bl g30 g37 g41 (by omega) g83 ?_ (fun y => ?_) (Or.inr rfl) (fun sx => ?_)
      · rw [em]
        exact TR_app (S3 := nwS (mS σ2)) t.2.2.1 (by decide) t.1.1 (by have := t.1.2.1; show 0 ≤ σ 58 35; omega) TA TB rfl rfl (o3 0) o5
      · rw [← eP y, ps5, ps y]
      · rw [em] at sx ⊢
        exact ⟨mS σ1, a, mS σ2, b, _, D1.2.2.2.2.2.2.2, D2.2.2.2.2.2.2.2, ⟨o3, by show m5 58 35 = _; rw [o4, o35]; show _ = σ2 58 35 + 1 + 1; omega, o5⟩, rfl, sx⟩
    · refine Or.inr ⟨(tf_bad hq t2.2.2.2.1 R (f44.trans o1) ⟨by omega, by omega⟩ (fm.tr puM.fT)).tr k2 f2, fun ρ s V sm y => ?_⟩
      rw [eS] at o2
      exact TR_app_no (S3 := nwS (mS σ2)) t.2.2.1 (by decide) t.1.1 (by have := t.1.2.1; show 0 ≤ σ 58 35; omega) hA TA TB rfl rfl o2 s V y
  · refine Or.inr ⟨z, fun ρ s V sm y => ?_⟩
    obtain ⟨-, a, y1, y2⟩ := y
    exact no ρ _ _ V sm y1 y2
end MTW
