/-! Both: value, real, item, top. -/
/-- any state between calls -/
def aSt (h : mHp) (σ : Mem) (a : Int) (e : WkE) : Prop := (0 ≤ a ∧ a ≤ 1000) ∧ ((e = .inr (.inr 0) ∧ (σ 54 7 = 0 ∧ σ 58 65 = 0) ∧ hAt h 1 9 = .null ∧ StE σ ∧ σ 54 10 = a) ∨ ∃ T σc σm s, bSt T σc σm h σ s a e)
/-- something is looked at -/
def lkW (h : mHp) (σ : Mem) : Prop := ∃ (P : Tr → Int → Prop) (P' : Tr → List Int → Int → Prop) (w : Va) (y : Int), RPv h P h.1 w false (hAt h 1 9) ∧ hAt h 58 69 = vlg y ∧ RMv h σ P' (mOf σ) w false y ∧ mBo (mOf σ) ∧ σ 58 65 = 2 ∧ (0 ≤ σ 58 70 ∧ σ 58 70 < 80) ∧ tellC FP.Core.DFin (σ 88 (σ 58 70)) w
section BCAL
variable {h h' h1 : mHp} {σc σm σ σ' σ1 : Mem} {d : Nat} {s a x y k s' a' c : Int} {T : Tr} {S : WkS} {e e' : WkE} {v w : Va} {u : Value}
theorem aSt.ke (k : keB h h' σ σ') (X : aSt h σ a e) : aSt h' σ' a e := by
  obtain ⟨ha, X⟩ := X
  refine ⟨ha, ?_⟩
  rcases X with ⟨e1, ⟨e2, e3⟩, e4, ⟨t1, t2, t3, t4⟩, e5⟩ | ⟨T, σc, σm, s, X⟩
  · have k54 : σ' 54 = σ 54 := k.1.2.2.2.2
    have km := k.2.1.2.2
    refine Or.inl ⟨e1, ⟨by rw [k54]; exact e2, (km 65 (by omega)).trans e3⟩, k.2.2.2.1.trans e4, ⟨?_, ?_, ?_, ?_⟩, by rw [k54]; exact e5⟩
    · rw [k54, km 65 (by omega)]; exact t1
    · rw [k54, km 66 (by omega)]; exact t2
    · rw [k54, km 67 (by omega)]; exact t3
    · rw [k54, km 68 (by omega)]; exact t4
  · exact Or.inr ⟨T, σc, σm, s, X.ke k⟩
theorem aSt.st (X : aSt h σ a e) : StE σ := by
  rcases X.2 with ⟨-, -, -, t, -⟩ | ⟨T, σc, σm, s, X⟩
  · exact t
  · exact X.st
theorem bSt.lk {v : Va} (X : bSt T σc σm h σ s a (.inr (.inl v))) : lkW h σ ∧ ∃ (k : Nat) (w : Va) (y : Int), itmV k v w ∧ RPv h (nT σc) h.1 w false (hAt h 1 9) ∧ hAt h 58 69 = vlg y ∧ RMv h σ (pfM σm) (mOf σ) w false y ∧ mBo (mOf σ) ∧ σ 58 65 = 2 ∧ σ 58 70 = k ∧ k < 80 := by
  obtain ⟨⟨-, ty, cs, t, l, q⟩, ⟨-, -, -, C⟩, ⟨-, -, M⟩, k, w, it, r, ⟨y, ey, ry⟩, e70⟩ := X
  have hv := ty C.2
  obtain ⟨kl, tc⟩ := typ_it t hv it
  have h88 : σ 88 (σ 58 70) = cs.getD k 0 := by rw [e70]; exact q k kl
  have e65 : σ 58 65 = 2 := M.2.1
  have bo : mBo (mOf σ) := M.1.2.1
  exact ⟨⟨_, _, w, y, r, ey, ry, bo, e65, by omega, by rw [h88]; exact tc⟩, k, w, y, it, r, ey, ry, bo, e65, e70, by omega⟩
theorem aSt.lk (X : aSt h σ a e) : (hAt h 1 9 = .null ∧ σ 58 65 ≠ 2 ∧ ∀ v, e ≠ .inr (.inl v)) ∨ (lkW h σ ∧ ∃ v, e = .inr (.inl v)) := by
  rcases X.2 with ⟨e1, ⟨e2, e3⟩, e4, -⟩ | ⟨T, σc, σm, s, X⟩
  · exact Or.inl ⟨e4, by omega, fun v q => by rw [e1] at q; cases q⟩
  · cases e with
    | inl S =>
      have e65 : σ 58 65 = 1 := X.2.2.1.2.2.1.2.1
      exact Or.inl ⟨X.2.2.2, by omega, fun v q => by cases q⟩
    | inr z =>
      cases z with
      | inl v => exact Or.inr ⟨X.lk.1, v, rfl⟩
      | inr c =>
        have e65 : σ 58 65 = 3 := X.2.2.1.2.2.1
        exact Or.inl ⟨X.2.2.2, by omega, fun v q => by cases q⟩
theorem rg_vlW {P : Tr → Int → Prop} (r : RPv h P h.1 w false u) (hh : h.1 ≤ 2000000000) : rg (vlW w x) := by
  obtain ⟨i, eu, c, k0, kr, kn, k2, k3, -⟩ := r.ce
  unfold vlW
  split
  · unfold rg; omega
  split
  · by_cases b : knd w ≤ 1
    · exact (kn b).2
    · rw [numV_0 b]; exact rgk rfl
  · by_cases b : knd w = 3
    · have := (k3 b).2; unfold rg; omega
    · rw [llen_0 b]; exact rgk rfl
theorem ll_le {P : Tr → Int → Prop} (r : RPv h P h.1 w false u) (hh : h.1 ≤ 2000000000) : (llen w : Int) ≤ 2000000000 := by
  obtain ⟨i, eu, c, k0, kr, kn, k2, k3, -⟩ := r.ce
  by_cases b : knd w = 3
  · have := (k3 b).2; omega
  · rw [llen_0 b]; decide
/-- what a call of both comes to -/
def bRes (h h1 : mHp) : Prop := Sh h1 ∧ (∀ L xs, scL L xs h → scL L xs h1) ∧ h1.1 ≤ h.1 + 1 ∧ h1.2.1 ≤ h.2.1 + 6
theorem bRes.new (S : Sh h) : bRes h (hNew h 200 6 (fun _ => .null)) := ⟨S.new, fun L xs s => s.new (by have := S.1; omega), Nat.le_refl _, Nat.le_refl _⟩
theorem bRes.set (S : Sh h) {i q : Nat} (hi : i ≠ 0) (hf : shF i q = false) : bRes h (hSet h i q u) := ⟨S.set hf, fun L xs s => s.set (Ne.symm hi), Nat.le_succ _, by show h.2.1 ≤ h.2.1 + 6; omega⟩
theorem both_val (X : aSt h σ a e) (hh : h.1 ≤ 2000000000) (M : RM σ) (S : Sh h) (gx : rg x) : ∃ k b h1, Ru (d + 352) yLa_value [.ref 1, vi x, .ref 98] (put h σ) (.inl (some (vi k)), put h1 σ) ∧ bRes h h1 ∧ Rh (d + 352) yMo_value [.ref 58, vi x] h1 σ (.inl (some (vi b))) h1 (mup σ 58 0 k) ∧ (k = 0 ∨ k = 1 ∨ k = 2) ∧ rg b ∧ (k = 0 → hAt h1 98 0 = .long (Int32.ofInt b).toInt64) ∧ keB h h1 σ σ := by
  have tg : hTag (put h σ) 1 = 0 := S.t 1 rfl
  have H : 100 ≤ h.1 := S.1
  have kn : keB h (hNew h 200 6 (fun _ => .null)) σ σ := keB.new H kpW.rf
  rcases X.lk with ⟨l1, l2, -⟩ | ⟨⟨P, P', w, y, r, ey, ry, bo, e65, h70, tc⟩, -⟩
  · have R := ((c_vlu3 (d := d + 348) (σ := σ) l1 gx) M S).2
    exact ⟨1, 0, _, la_v_3 R tg, bRes.new S, m_valE (d := d + 347) 1 (Or.inr ⟨l2, rfl⟩) gx, Or.inr (Or.inl rfl), rgk rfl, fun q => absurd q (by decide), kn⟩
  · by_cases hx : x < 0 ∨ 2 < x
    · obtain ⟨i, eu, -⟩ := r.ce
      have R := ((c_vlu4 (d := d + 348) (σ := σ) ⟨i, eu⟩ gx hx) M S).2
      exact ⟨2, 0, _, la_v_4 R tg, bRes.new S, m_valE (d := d + 347) 2 (Or.inl ⟨e65, rfl, hx⟩) gx, Or.inr (Or.inr rfl), rgk rfl, fun q => absurd q (by decide), kn⟩
    · have R := ((c_vlu (d := d + 348) (σ := σ) r hh gx (by omega)) M S).2
      have R2 := la_v_ok (put_sh S) R tg
      rw [put_sn rfl] at R2
      have k9 : keB h (hSet h 98 0 (.long (Int32.ofInt (vlW w x)).toInt64)) σ σ := keB.out (Or.inl rfl)
      refine ⟨0, vlW w x, _, R2, bRes.set S (by decide) rfl, m_val0 (d := d + 347) (h := hSet h 98 0 (.long (Int32.ofInt (vlW w x)).toInt64)) bo e65 ((at_ne (by decide) _).trans ey) (k9.2.1.rv ry) (ll_le r hh) h70 tc gx (by omega), Or.inl rfl, rg_vlW r hh, fun _ => at_eq, k9⟩
theorem fin_eq {b : UInt64} (h : FP.Core.DFin b) : FP.dcmp b b = some .eq := FP.Core.dcmp_self (fun q => by
  have a := (FP.Core.dIsNaN_iff b).mpr q
  rw [h.notNaN] at a
  cases a)
theorem both_rea (X : aSt h σ a e) (M : RM σ) (S : Sh h) : ∃ k b h1, Ru (d + 352) yLa_real [.ref 1, .ref 99] (put h σ) (.inl (some (vi k)), put h1 σ) ∧ bRes h h1 ∧ Rh (d + 352) yMo_real [.ref 58] h1 σ (.inl (some (.double b))) h1 (mup σ 58 0 k) ∧ (k = 0 ∨ k = 1) ∧ (k = 0 → hAt h1 99 0 = .double b ∧ FP.dcmp b b = some .eq) ∧ keB h h1 σ σ := by
  have tg : hTag (put h σ) 1 = 0 := S.t 1 rfl
  have H : 100 ≤ h.1 := S.1
  rcases X.lk with ⟨l1, l2, -⟩ | ⟨⟨P, P', w, y, r, ey, ry, bo, e65, h70, tc⟩, -⟩
  · have R := ((c_rea3 (d := d + 348) (σ := σ) l1) M S).2
    exact ⟨1, FP.dconst0, _, la_r_3 R tg, bRes.new S, m_reaE (d := d + 347) l2, Or.inr rfl, fun q => absurd q (by decide), keB.new H kpW.rf⟩
  · have R := ((c_rea (d := d + 348) (σ := σ) r) M S).2
    have R2 := la_r_ok (put_sh S) R tg
    rw [put_sn rfl] at R2
    have k9 : keB h (hSet h 99 0 (.double (relV w))) σ σ := keB.out (Or.inr rfl)
    refine ⟨0, relV w, _, R2, bRes.set S (by decide) rfl, m_rea (d := d + 347) (h := hSet h 99 0 (.double (relV w))) bo e65 ((at_ne (by decide) _).trans ey) (k9.2.1.rv ry), Or.inl rfl, fun _ => ⟨at_eq, ?_⟩, k9⟩
    by_cases b2 : knd w = 2
    · exact fin_eq (tc.2.2 b2)
    · have e : relV w = FP.dconst0 := by
        unfold relV
        split
        · exact absurd rfl b2
        · rfl
      rw [e]; decide +kernel
/-- another thing is looked at -/
theorem bSt.look {k : Nat} (X : bSt T σc σm h σ s a (.inr (.inl v))) (it : itmV k v w) (r : RPv h (nT σc) h.1 w false u) (ry : RMv h σ (pfM σm) (mOf σ) w false y) : bSt T σc σm (hSet (hSet h 1 9 u) 58 69 (vlg y)) (mup (mup σ 58 0 c) 58 70 k) s a (.inr (.inl v)) := by
  obtain ⟨⟨rb, ty, cs, t, l, q⟩, C, M, L⟩ := X
  have e1 : ∀ (i x : Nat), ¬ (i = 1 ∧ x = 9) → ¬ (i = 58 ∧ x = 69) → hAt (hSet (hSet h 1 9 u) 58 69 (vlg y)) i x = hAt h i x := fun i x p q => (at_no q).trans (at_no p)
  have kc : keC h (hSet (hSet h 1 9 u) 58 69 (vlg y)) σ (mup (mup σ 58 0 c) 58 70 k) := ⟨⟨Nat.le_refl _, (smC.set (Or.inl (by decide))).tr (smC.set (Or.inl (by decide)))⟩, fun x => e1 54 x (by omega) (by omega), fun x => e1 55 x (by omega) (by omega), fun i h0 h1 => by rw [mup_obj (by omega), mup_obj (by omega)], by rw [mup_obj (by decide), mup_obj (by decide)]⟩
  have km : keM h (hSet (hSet h 1 9 u) 58 69 (vlg y)) σ (mup (mup σ 58 0 c) 58 70 k) := ⟨fun i x hi => e1 i x (by omega) (by omega), fun i hi => by rw [mup_obj (by omega), mup_obj (by omega)], fun z hz => by rw [mup_nk (by omega), mup_nk (by omega)]⟩
  refine ⟨⟨rb, ty, cs, t, l, fun i hi => ?_⟩, C.ke kc, M.ke km, k, w, it, ?_, ⟨y, at_eq, km.rv ry⟩, mup_eq⟩
  · rw [mup_obj (by decide), mup_obj (by decide)]; exact q i hi
  · rw [at_ne (by decide), at_eq]
    exact r.mv kc.1.2 kc.1.1
/-- what changes no line and no text -/
def lnK (σ σ' : Mem) : Prop := (∀ i, i = 1 ∨ i = 2 ∨ i = 4 ∨ i = 37 ∨ i = 57 ∨ i = 59 ∨ i = 88 → σ' i = σ i) ∧ σ' 58 2 = σ 58 2 ∧ σ' 58 49 = σ 58 49
theorem lnK.i (k : lnK σ σ') (I : LnE σ) : LnE σ' := I.cg (by rw [k.1 2 (by omega)]) (k.1 4 (by omega)) k.2.1 (k.1 59 (by omega)) (fun z => by rw [k.1 37 (by omega)]; exact I.2.2.2.2 z)
theorem lnK.tx (k : lnK σ σ') (X : TxE σ) : TxE σ' := X.cg (by rw [k.1 1 (by omega)]) k.2.2 (k.1 57 (by omega)) (k.1 88 (by omega))
theorem lnK.m0 {z : Int} (hz : x = 0 ∨ x = 70) : lnK σ (mup σ 58 x z) := ⟨fun i hi => mup_obj (by omega), mup_nk (by omega), mup_nk (by omega)⟩
theorem lnK.tr (p : lnK σ σ1) (q : lnK σ1 σ') : lnK σ σ' := ⟨fun i hi => (q.1 i hi).trans (p.1 i hi), q.2.1.trans p.2.1, q.2.2.trans p.2.2⟩
theorem both_itm (X : aSt h σ a e) (hh : h.1 ≤ 2000000000) (M : RM σ) (S : Sh h) (gx : rg x) : ∃ k h1 h2 σ2, Ru (d + 352) yLa_item [.ref 1, vi x] (put h σ) (.inl (some (vi k)), put h1 σ) ∧ bRes h h1 ∧ Rh (d + 352) yMo_item [.ref 58, vi x] h1 σ (.inl none) h2 σ2 ∧ (k = 0 ∨ k = 1 ∨ k = 2) ∧ σ2 58 0 = k ∧ bRes h h2 ∧ lnK σ σ2 ∧ aSt h2 σ2 a e := by
  have tg : hTag (put h σ) 1 = 0 := S.t 1 rfl
  have H : 100 ≤ h.1 := S.1
  have kn : keB h (hNew h 200 6 (fun _ => .null)) σ σ := keB.new H kpW.rf
  have k0 : ∀ z, keB (hNew h 200 6 (fun _ => .null)) (hNew h 200 6 (fun _ => .null)) σ (mup σ 58 0 z) := fun z => keB.mem (kpW.m8 (Or.inl mlK_0))
  rcases X.lk with ⟨l1, l2, -⟩ | ⟨-, v, rfl⟩
  · have R := ((c_itm3 (d := d + 348) (σ := σ) l1 gx) M S).2
    exact ⟨1, _, _, _, la_i_3 R tg, bRes.new S, m_itm1 (d := d + 347) l2 gx, Or.inr (Or.inl rfl), mup_eq, bRes.new S, lnK.m0 (Or.inl rfl), X.ke (kn.tr (k0 1))⟩
  · obtain ⟨ha, X2⟩ := id X
    rcases X2 with ⟨q, -⟩ | ⟨T, σc, σm, s, X2⟩
    · cases q
    obtain ⟨-, k, w, y, it, r, ey, ry, bo, e65, e70, k80⟩ := X2.lk
    by_cases hx : x < 0 ∨ (llen w : Int) ≤ x
    · have R := ((c_itm4 (d := d + 348) (σ := σ) r hh gx hx) M S).2
      have kr := kn.2.1
      exact ⟨2, _, _, _, la_i_4 R tg, bRes.new S, m_itmE (d := d + 347) bo e65 (kn.2.2.2.2.1.trans ey) (kr.rv ry) (ll_le r hh) gx hx, Or.inr (Or.inr rfl), mup_eq, bRes.new S, lnK.m0 (Or.inl rfl), X.ke (kn.tr (k0 2))⟩
    · obtain ⟨w1, u, ei, r1, R⟩ := c_itm (d := d + 348) (σ := σ) r hh gx (by omega)
      have R := (R M S).2
      have km : keM h (hSet h 1 9 u) σ σ := ⟨fun i x hi => at_ne (by omega) x, fun _ _ => rfl, fun _ _ => rfl⟩
      obtain ⟨w2, y2, ei2, ry2, R2⟩ := m_itm (d := d + 347) (h := hSet h 1 9 u) bo e65 ((at_ne (by decide) _).trans ey) (km.rv ry) (ll_le r hh) (by omega) gx (by omega)
      rw [ei] at ei2
      cases ei2
      have it1 := itm_up it (itmK_in ei)
      have km2 : keM (hSet h 1 9 u) h (mup σ 58 0 0) σ := ⟨fun i x hi => (at_ne (by omega) x).symm, fun i hi => (mup_obj (by omega)).symm, fun z hz => (mup_nk (by omega)).symm⟩
      have f := X2.look (c := 0) it1 r1 (km2.rv ry2)
      have e71 : ((k + 1 : Nat) : Int) = σ 58 70 + 1 := by omega
      rw [e71] at f
      have b1 : bRes h (hSet h 1 9 u) := bRes.set S (by decide) rfl
      refine ⟨0, _, _, _, la_i_ok R tg, b1, R2, Or.inl rfl, (mup_nk (by decide)).trans mup_eq, ?_, (lnK.m0 (Or.inl rfl)).tr (lnK.m0 (Or.inr rfl)), ⟨ha, Or.inr ⟨T, σc, σm, s, f⟩⟩⟩
      obtain ⟨c1, c2, c3, c4⟩ := bRes.set (u := vlg y2) b1.1 (i := 58) (q := 69) (by decide) rfl
      exact ⟨c1, fun L xs q => c2 L xs (b1.2.1 L xs q), Nat.le_succ _, by show h.2.1 ≤ h.2.1 + 6; omega⟩
theorem both_top (X : aSt h σ a e) (M : RM σ) (S : Sh h) : ∃ k h1 h2 σ2, Ru (d + 352) yLa_top [.ref 1] (put h σ) (.inl (some (vi k)), put h1 σ) ∧ bRes h h1 ∧ Rh (d + 352) yMo_top [.ref 58] h1 σ (.inl none) h2 σ2 ∧ (k = 0 ∨ k = 1 ∨ k = 2) ∧ σ2 58 0 = k ∧ bRes h h2 ∧ lnK σ σ2 ∧ aSt h2 σ2 a e := by
  have tg : hTag (put h σ) 1 = 0 := S.t 1 rfl
  have H : 100 ≤ h.1 := S.1
  have kn : keB h (hNew h 200 6 (fun _ => .null)) σ σ := keB.new H kpW.rf
  rcases X.lk with ⟨l1, l2, -⟩ | ⟨-, v, rfl⟩
  · have R := ((c_top3 (d := d + 348) (σ := σ) l1) M S).2
    exact ⟨1, _, _, _, la_t_3 R tg, bRes.new S, m_topE (d := d + 347) l2, Or.inr (Or.inl rfl), mup_eq, bRes.new S, lnK.m0 (Or.inl rfl), X.ke (kn.tr (keB.mem (kpW.m8 (Or.inl mlK_0))))⟩
  · obtain ⟨ha, X2⟩ := id X
    rcases X2 with ⟨q, -⟩ | ⟨T, σc, σm, s, X2⟩
    · cases q
    obtain ⟨-, k, w, y, it, r, ey, ry, bo, e65, e70, k80⟩ := X2.lk
    obtain ⟨-, ⟨-, -, -, ⟨rv, -⟩, -⟩, ⟨-, -, ⟨⟨y0, ey0, ry0⟩, -⟩, -⟩, -⟩ := id X2
    obtain ⟨i, eu, -⟩ := r.ce
    have R := ((c_top (d := d + 348) (σ := σ) ⟨i, eu⟩ rv.qv) M S).2
    have R2 := m_top (d := d + 347) (h := hSet h 1 9 (hAt h 54 11)) e65 ((at_ne (by decide) _).trans ey0)
    have f := X2.look (c := 0) (k := 0) (show itmV 0 v v from rfl) rv ry0
    have b1 : bRes h (hSet h 1 9 (hAt h 54 11)) := bRes.set S (by decide) rfl
    refine ⟨0, _, _, _, la_t_ok R tg, b1, R2, Or.inl rfl, (mup_nk (by decide)).trans mup_eq, ?_, (lnK.m0 (Or.inl rfl)).tr (lnK.m0 (Or.inr rfl)), ⟨ha, Or.inr ⟨T, σc, σm, s, f⟩⟩⟩
    obtain ⟨c1, c2, c3, c4⟩ := bRes.set (u := vlg y0) b1.1 (i := 58) (q := 69) (by decide) rfl
    exact ⟨c1, fun L xs q => c2 L xs (b1.2.1 L xs q), Nat.le_succ _, by show h.2.1 ≤ h.2.1 + 6; omega⟩
end BCAL
