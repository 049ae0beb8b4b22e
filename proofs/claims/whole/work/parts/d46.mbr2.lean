/-! The model's types: branches. -/
section MB2
variable {σ σ1 σ2 τ m mi : Mem} {z x n p q s a b l r t0 : Int} {E : List (Int × Int)} {F : List Int} {S S' : TS} {A B C T : Tr} {M X : Int → Prop} {h : Int}
theorem PMB_17 (wA : wfP A) (hnd : (bnd A).Nodup) (hB : isE B) (wB : 1 ≤ rwl B) (pB : PMT B) (hC : C = nl ∨ (isBr C ∧ PMB C)) : PMB (nd 17 (bnd A).length A B C) := by
  intro p s σ E F l r CC N cl hp hs t rr h2 el er I2 rm
  obtain ⟨C0, -, PA, CBb, C1, C2, CCc⟩ : cell σ p 16 s (s + pn A) ∧ σ 74 p = p + ln B + 3 ∧ isP σ A s ∧ isC σ B (p + 1) (s + pn A) ∧ cell σ (p + ln B + 1) 12 (bnd A).length 0 ∧ cell σ (p + ln B + 2) 14 (p + ln B + ln C + 4) 0 ∧ isC σ C (p + ln B + 3) (s + pn A + sn B) := CC
  obtain ⟨NB, NC⟩ : isN σ B (p + 1) ((bnd A).reverse ++ E.map Prod.fst) ∧ isN σ C (p + ln B + 3) (E.map Prod.fst) := N
  have cl : (clo B (addl (inE E) (bnd A)) && clo C (inE E)) = true := cl
  rw [Bool.and_eq_true] at cl
  have hl : ln (nd 17 (bnd A).length A B C) = ln B + ln C + 3 := rfl
  have hsn : sn (nd 17 (bnd A).length A B C) = pn A + sn B + sn C := rfl
  have w0 : rwl (nd 17 (bnd A).length A B C) = rpl A + 2 + rwl B + rwl C := rfl
  obtain ⟨m1, rB⟩ : (mS σ).2.1 + 2 * pn A ≤ 1300 ∧ ∀ S1 nu, patR (mS σ) E F A l r S1 nu → rmC B 0 0 S1 (pnE A nu E) (List.replicate (bnd A).length 0 ++ F) ∧ ∀ S2 b S3, RT B 0 S1 (pnE A nu E) (List.replicate (bnd A).length 0 ++ F) S2 b → unR S2 r b S3 → rmC C l r S3 E F := rm
  have m1 : σ 58 35 + 2 * pn A ≤ 1300 := m1
  rw [hl] at hp
  rw [hsn] at hs
  have gA := pn_ge (T := A)
  have gB := ln_ge (T := B)
  have gC := ln_ge (T := C)
  have sB := sn_ge (T := B)
  have sC := sn_ge (T := C)
  have wC := rwl_0 (T := C)
  have pr := pn_rpl wA
  have br := bnd_rpl wA
  have c0 := t.1.2.1
  have l30 := t.2.1.1
  rw [w0] at rr
  obtain ⟨r1, r2, r3, r4⟩ := rr
  have il := I2.1 l (Or.inl (Or.inr rfl))
  have ir := I2.1 r (Or.inr rfl)
  have il : 0 ≤ l ∧ l < σ 58 35 := il
  have ir : 0 ≤ r ∧ r < σ 58 35 := ir
  obtain ⟨m, P, fp, out⟩ := m_pt (d := 6) (p := p) (l := l) (M := fun m => (mnF E F m ∨ m = l) ∨ m = r) wA hnd t.1 PA I2.1 I2.2.1 (Or.inl (Or.inr rfl)) ⟨hp.1, by omega⟩ C0.2.1 C0.2.2 ⟨hs.1, by omega⟩ (by omega) (by omega) t.2.2.2.1 (by omega) m1
  have fm : fT σ m := fp.fT
  have k43 := fp.2.2.2.1.1
  have bm : ∀ k, k ≠ 30 → k ≠ 35 → k ≠ 38 → k ≠ 39 → k ≠ 43 → k ≠ 44 → k ≠ 45 → m 58 k = σ 58 k := fp.2.1
  have b30 : m 58 30 ≤ 64 := by
    rcases out with ⟨-, o, -⟩ | ⟨-, -, -, -, nu, o, -⟩
    · omega
    · have := o.1; omega
  have b43 : m 58 43 ≤ σ 58 43 + pn A := by
    rcases out with ⟨-, o, -⟩ | ⟨-, -, o, -⟩
    · omega
    · omega
  have b30' := fp.2.2.2.2.1
  have Rb := b_16 (d := 6) (p := p) (σ := σ) (m := m) ⟨hp.1, by omega⟩ ⟨h2, by omega⟩ (by rw [el]; exact P)
  have R := t_bd (d := 6) (p := p) (σ := σ) (m := m) ⟨hp.1, by omega⟩ (by rw [C0.1]; omega) (by rw [C0.1]; exact Rb) ⟨by omega, by omega⟩
  have hq : 0 ≤ p ∧ p < σ 58 7 ∧ σ 58 7 ≤ 124 := ⟨hp.1, by omega, hp.2.2⟩
  rcases out with ⟨o1, -, o2⟩ | ⟨o1, o2, o3, o4, nu, o5, o6⟩
  · refine Or.inr ⟨tf_bad hq t.2.2.2.1 R o1 (by omega) fm, fun ρ V sm y => ?_⟩
    obtain ⟨⟨α, y1, -⟩, -⟩ := tyE_17.mp y
    exact o2 α ρ V y1
  · have blm : Blw σ m := ⟨fun k h => fp.2.2.1 k (by omega), fun k _ => by rw [fp.1 84 (by decide) (by decide) (by decide) (by decide) (by decide) (by decide) (by decide) (by decide) (by decide) (by decide) (by decide) (by decide)], fp.2.2.2.1, fp.2.2.2.2.2⟩
    have c35 : σ 58 35 ≤ m 58 35 := o6.1.2.1.1
    have ipm : inPt m := t.2.2.2.2.1.st blm c35 o6.2.1
    -- the pattern's names, and all parts short
    have keyP : ∀ (α ρ : Int → GT), VS (mS σ).1 (mS σ).2.1 ρ → (∀ q, PMs σ E F q → gw (ρ q) ≤ 80) → tpP true α A (ρ l) → ∃ ρ1, VS (mS m).1 (mS m).2.1 ρ1 ∧ (∀ n, 0 ≤ n → n < σ 58 35 → ρ1 n = ρ n) ∧ (∀ z ∈ bnd A, ρ1 (nu z) = α z) ∧ ∀ q, PMs σ E F q ∨ PsA σ m q → gw (ρ1 q) ≤ 80 := fun α ρ V sm y => by
      obtain ⟨ρ1, V1, ol, nz, w1⟩ := o6.2.2.2.2 true α ρ V y
      refine ⟨ρ1, V1, ol, nz, fun q hq => ?_⟩
      rcases hq with h | h
      · have := PMs.inC t q h
        rw [ol q this.1 this.2]; exact sm q h
      · exact w1 rfl q h
    rcases tf_ok hq t.2.2.2.1 R o2 o1 ipm (by omega) fm with ⟨σ1, k1, FF, i1, Hs, es, sp⟩ | ⟨z1, k, hk, wd⟩
    · have f1 : fT σ σ1 := fm.tr FF.fT
      have bl1 : Blw σ σ1 := blm.cg (FF.1 83 (by decide) (by decide)) (FF.1 84 (by decide) (by decide)) (FF.1 85 (by decide) (by decide)) (FF.1 76 (by decide) (by decide)) (FF.1 77 (by decide) (by decide)) (FF.1 78 (by decide) (by decide)) (FF.2 43 (by decide) (by decide))
      have g30 : σ1 58 30 = σ 58 30 + (bnd A).length := (FF.2 30 (by decide) (by decide)).trans o5.1
      have g37 : σ1 58 37 = σ 58 37 := (FF.2 37 (by decide) (by decide)).trans (bm 37 (by decide) (by decide) (by decide) (by decide) (by decide) (by decide) (by decide))
      have g41 : σ1 58 41 = σ 58 41 := (FF.2 41 (by decide) (by decide)).trans (bm 41 (by decide) (by decide) (by decide) (by decide) (by decide) (by decide) (by decide))
      have g43 : σ1 58 43 = m 58 43 := FF.2 43 (by decide) (by decide)
      have g35 : σ1 58 35 = m 58 35 := FF.2 35 (by decide) (by decide)
      have g85 : σ1 85 = m 85 := FF.1 85 (by decide) (by decide)
      have ps1 : PsA σ σ1 = PsA σ m := by unfold PsA; rw [g43, g85]
      have tm1 : tmE σ1 (pnE A nu E) (List.replicate (bnd A).length 0 ++ F) := by
        have h := t.2.1.pn fp o5
        exact ⟨(FF.2 30 (by decide) (by decide)).trans h.1, h.2.mv (fun j _ _ => by rw [FF.1 76 (by decide) (by decide), FF.1 77 (by decide) (by decide), FF.1 78 (by decide) (by decide)]; exact ⟨rfl, rfl, rfl⟩)⟩
      have nz : ∀ z ∈ bnd A, (0 ≤ nu z ∧ nu z < (mS m).2.1) ∧ lO (mS m) 0 (nu z) := fun z hz => ⟨(o6.2.2.1 z hz).1, (o6.2.2.1 z hz).2.2.2 I2.2.1⟩
      have Im : EnvI (mS m) 0 E (mnF E F) := t.2.2.1.upx (by decide) t.1.1 o6.1.2.1 I2.2.1
      have Ip := Im.pn nz
      have I2m := I2.upx (by decide) t.1.1 o6.1.2.1 I2.2.1
      have t1 : TH σ1 (pnE A nu E) (List.replicate (bnd A).length 0 ++ F) := ⟨Hs, tm1, by rw [es, mnF_pE]; exact Ip, i1, fun k k0 k1 => by
        rw [g85, g35]; exact ipm k k0 (by omega), sp⟩
      have s71 := f1.s7
      have pat : patR (mS σ) E F A l r (mS m) nu := ⟨PsA σ m, o6, o4, fun q hq => by
        obtain ⟨i, i0, i1', e⟩ := hq
        have := sp i (by omega) (by omega)
        rw [es, g85] at this
        rw [e]; exact this⟩
      obtain ⟨rB, rC⟩ := rB _ _ pat
      have gm : ∀ {ρ}, VS (mS m).1 (mS m).2.1 ρ → Gam (mS m) ρ (pnE A nu E) = (bnd A).reverse.map (fun z => (z, is1 (ρ (nu z)))) ++ Gam (mS σ) ρ E := fun {ρ} V => by
        rw [Gam_pn o6.1.1 V (fun z hz => ⟨(nz z hz).1, lO_mono (nz z hz).2 (by decide)⟩), TRes.gam I2 (by decide) t.1.1 o6.1 V]
      have keyG : ∀ (α ρ ρ1 : Int → GT) (sr : GT), VS (mS σ).1 (mS σ).2.1 ρ → VS (mS m).1 (mS m).2.1 ρ1 → (∀ n, 0 ≤ n → n < σ 58 35 → ρ1 n = ρ n) → (∀ z ∈ bnd A, ρ1 (nu z) = α z) → tyE B true ((bnd A).map (fun x => (x, is1 (α x))) ++ Gam (mS σ) ρ E) sr → tyE B true (Gam (mS m) ρ1 (pnE A nu E)) sr := fun α ρ ρ1 sr V V1 ol nz y => by
        rw [gm V1, tyE_ge B true _ _ (GE_rev (D := fun z => is1 (ρ1 (nu z))) (bnd A)), Gam_cg I2 t.1.1 V (o6.1.2.2 _ V1) (fun m q => ol m (I2.1 m q).1 (I2.1 m q).2)]
        have e : (bnd A).map (fun z => (z, is1 (ρ1 (nu z)))) = (bnd A).map (fun x => (x, is1 (α x))) := List.map_congr_left (fun z m => by rw [nz z m])
        rw [e]; exact y
      have keyS : ∀ (α ρ ρ1 : Int → GT), VS (mS σ).1 (mS σ).2.1 ρ → tpP true α A (ρ l) → (∀ z ∈ bnd A, ρ1 (nu z) = α z) → (∀ q, PMs σ E F q ∨ PsA σ m q → gw (ρ1 q) ≤ 80) → ∀ q, PMs σ1 (pnE A nu E) (List.replicate (bnd A).length 0 ++ F) q → gw (ρ1 q) ≤ 80 := fun α ρ ρ1 V y nz sm q hq => by
        rcases hq with ⟨k, hk, e⟩ | h
        · rcases pms_1 bl1 (E := E) (F := F) (Or.inl ⟨k, hk, e⟩) with h | h
          · exact sm q (Or.inl h)
          · rw [ps1] at h; exact sm q (Or.inr h)
        · rw [mnF_pE] at h
          rcases h with h | ⟨z, hz, e⟩
          · exact sm q (Or.inl (Or.inr h))
          · rw [e, nz z hz]; exact tpP_sm A wA _ y z hz
      rcases pB (p + 1) (s + pn A) σ1 _ _ (f1.ic CBb) (f1.isn (show isN σ B (p + 1) ((pnE A nu E).map Prod.fst) by
        have e : (pnE A nu E).map Prod.fst = (bnd A).reverse ++ E.map Prod.fst := by
          unfold pnE
          rw [List.map_append, List.map_map]
          congr 1
          exact List.map_id _
        rw [e]; exact NB)) (by rw [inE_pn]; exact cl.1) ⟨by omega, by omega, by omega⟩ ⟨by omega, by omega⟩ t1 ⟨by omega, by omega, by omega, by omega⟩ (by rw [es]; exact rB) with ⟨σ2, b, D2, k2⟩ | ⟨zz, no⟩
      · obtain ⟨f2, t2, b2, ⟨h30, h37, h41, h43⟩, top2, px2, TB, RTB⟩ := D2
        rw [es, mnF_pE] at TB
        rw [es] at RTB
        have s72 := f2.s7
        have b243 := b2.2.2.1.1
        have ib : 0 ≤ b ∧ b < σ2 58 35 := TB.2.1.1
        have in2 : m 58 35 ≤ σ2 58 35 := TB.1.2.1.1
        have lp := Ip.2.1
        have I2b : EnvI (mS σ2) 0 E (mnF E F) := Im.upx (by decide) o6.1.1 TB.1.2.1 lp
        have I22 := I2m.upx (by decide) o6.1.1 TB.1.2.1 lp
        have q2 := (f1.tr f2).cel C1
        have ep : p + 1 + ln B = p + ln B + 1 := by omega
        obtain ⟨σ3, k3, f3, t3, e3, b3, i30, i37, i41, i43, i83, i85⟩ := en_go (p := p + 1 + ln B) (E1 := (bnd A).reverse.map (fun z => (z, nu z))) (F1 := List.replicate (bnd A).length 0) (E := E) (F := F) (c := (bnd A).length) t2 (by rw [List.length_replicate, List.length_map, List.length_reverse]) (by rw [List.length_map, List.length_reverse]) I2b (by omega) (by omega) ⟨by omega, by omega, by omega⟩ (by rw [ep]; exact q2.1) (by rw [ep]; exact q2.2.1)
        have s73 := f3.s7
        have k35 : σ3 58 35 = σ2 58 35 := congrArg (fun S : TS => S.2.1) e3
        have bl2 : Blw σ σ2 := bl1.tr (by omega) (by omega) (by omega) b2
        have bl3 : Blw σ σ3 := bl2.tr (by omega) (by omega) (by omega) b3
        have q3 := (f1.tr (f2.tr f3)).cel C2
        have ep2 : p + 1 + ln B + 1 = p + ln B + 2 := by omega
        have er3 : σ3 84 (σ3 58 41 - 1) = r := by
          rw [show σ3 58 41 - 1 = σ 58 41 - 1 by omega, bl3.2.1 _ (by omega)]; exact er
        have lr2 : lO (mS σ2) 0 r := I22.2.1 r (Or.inr rfl)
        have lb2 : lO (mS σ2) 0 b := TB.2.1.2.2.2 lp
        have keyB : ∀ ρ sr, VS (mS σ).1 (mS σ).2.1 ρ → (∀ q, PMs σ E F q → gw (ρ q) ≤ 80) → (∃ α, tpP true α A (ρ l) ∧ tyE B true ((bnd A).map (fun x => (x, is1 (α x))) ++ Gam (mS σ) ρ E) sr) → ∃ ρ2, VS (mS σ2).1 (mS σ2).2.1 ρ2 ∧ (∀ n, 0 ≤ n → n < σ 58 35 → ρ2 n = ρ n) ∧ ρ2 b = sr ∧ ∀ k, 0 ≤ k → k < σ2 58 43 → gw (ρ2 (σ2 85 k)) ≤ 80 := fun ρ sr V sm ⟨α, y1, y2⟩ => by
          obtain ⟨ρ1, V1, ol, nz', s1⟩ := keyP α ρ V sm y1
          obtain ⟨ρ2, V2, s2, -, eb, ol2⟩ := TRP.nx Ip (by decide) o6.1.1 TB (PM := PMs σ1 (pnE A nu E) (List.replicate (bnd A).length 0 ++ F)) (by rw [← es]; exact PMs.inC t1) V1 (keyS α ρ ρ1 V y1 nz' s1) (keyG α ρ ρ1 sr V V1 ol nz' y2)
          refine ⟨ρ2, V2, fun n h0 h1 => (ol2 n h0 (by show n < m 58 35; omega)).trans (ol n h0 h1), eb, fun k k0 k1 => s2 _ (pms_1 b2 (Or.inl ⟨k, ⟨k0, k1⟩, rfl⟩))⟩
        rcases cl_go (q := p + 1 + ln B + 1) (r := r) (b := b) t3 (fun S' ur => by rw [e3] at ur; exact I2b.un t2.1.1 ur lr2 lb2) ⟨by omega, by omega, by omega⟩ (by rw [ep2]; exact q3.1) (by omega) (by omega) (by omega) (by omega) er3 (by rw [i83, show σ3 58 37 - 1 = σ1 58 37 by omega]; exact top2) (by omega) (by omega) (by rw [e3]; exact lr2) (by rw [e3]; exact lb2) with ⟨σ4, k4, f4, t4, ur4, ⟨j83, j84, j85, j76, j77, j78⟩, i30', i37', i41', i43'⟩ | ⟨z4, no⟩
        · rw [e3] at ur4
          have s74 := f4.s7
          have bl4 : Blw σ σ4 := bl3.cg j83 j84 j85 j76 j77 j78 i43'
          have k435 : σ4 58 35 = σ2 58 35 := ur4.2.1
          have TB' : TRes (mS m) (mS σ2) (pnE A nu E) (pnM A nu (fun m => (mnF E F m ∨ m = l) ∨ m = r)) 0 B (PsA σ1 σ2) b := TRP.mo TB (fun m q => q.elim (fun h => Or.inl (Or.inl (Or.inl h))) Or.inr)
          have X4 := BR_q I2 (by decide) t.1.1 (Or.inl (Or.inr rfl)) (Or.inr rfl) o6 TB' (ur4.1 0) ur4.2.2
          have I24 := I2.up (by decide) t.1.1 X4.1.2.1
          have f14 := f1.tr (f2.tr (f3.tr f4))
          have k14 : ∀ o s', tfL (p + ln B + 3) σ4 o s' → tfL p σ o s' := fun o s' h => k1 o s' (k2 o s' (k3 o s' (k4 o s' (by rw [show p + 1 + ln B + 1 + 1 = p + ln B + 3 by omega]; exact h))))
          have ps4 : ∀ y, (PsA σ m y ∨ PsA σ1 σ2 y) ↔ PsA σ σ4 y := fun y => by
            have e34 : PsA σ σ4 = PsA σ σ2 := by unfold PsA; rw [i43', j85, i43, i85]
            rw [e34, ← ps1]
            exact psA_tr bl1.2.2.1.1 b243 b2.2.2.1.2
          have RTx : ∀ S', RT C l (mS σ4) E F S' r → RT (nd 17 (bnd A).length A B C) l (mS σ) E F S' r := fun S' h => ⟨mS m, nu, mS σ2, b, mS σ4, pat, RTB, ur4, h⟩
          have keyX : ∀ ρ, VS (mS σ).1 (mS σ).2.1 ρ → (∀ q, PMs σ E F q → gw (ρ q) ≤ 80) → brT true (Gam (mS σ) ρ E) A B (ρ l) (ρ r) → ∃ ρ4, VS (mS σ4).1 (mS σ4).2.1 ρ4 ∧ (∀ n, 0 ≤ n → n < σ 58 35 → ρ4 n = ρ n) ∧ ∀ q, PMs σ4 E F q → gw (ρ4 q) ≤ 80 := fun ρ V sm y => by
            obtain ⟨ρ4, V4, ol, w4⟩ := X4.2.2.2 true ρ V y
            refine ⟨ρ4, V4, ol, fun q hq => ?_⟩
            rcases pms_1 bl4 hq with h | h
            · have := PMs.inC t q h
              rw [ol q this.1 this.2]; exact sm q h
            · exact w4 rfl q ((ps4 q).mpr h)
          rcases hC with hC | ⟨hCb, pC⟩
          · subst hC
            refine Or.inl ⟨σ4, ⟨f14, t4, bl4, ⟨by omega, by omega, by omega, by rw [w0]; omega⟩, ⟨X4.1, fun q hq => X4.2.1 q ((ps4 q).mpr hq), fun ρ V => ?_, fun w ρ V y => ?_⟩, RTx _ rfl⟩, fun o s' h => k14 o s' (by
              have e0 : ln nl = 0 := rfl
              rw [hl, e0] at h
              rw [show p + ln B + 3 = p + (ln B + 0 + 3) by omega]; exact h)⟩
            · obtain ⟨y1, y2⟩ := X4.2.2.1 ρ V
              exact ⟨tyE_17.mpr ⟨y1, Or.inl rfl⟩, fun hp => tyE_17.mpr ⟨y2 (fun q hq => hp q ((ps4 q).mp hq)), Or.inl rfl⟩⟩
            · obtain ⟨ρ4, V4, ol, w4⟩ := X4.2.2.2 w ρ V (tyE_17.mp y).1
              exact ⟨ρ4, V4, ol, fun e q hq => w4 e q ((ps4 q).mpr hq)⟩
          · rcases pC (p + ln B + 3) (s + pn A + sn B) σ4 E F l r (f14.ic CCc) (f14.isn NC) cl.2 ⟨by omega, by omega, by omega⟩ ⟨by omega, by omega⟩ t4 ⟨by omega, by omega, by omega, by omega⟩ (by omega) (by rw [show σ4 58 41 - 2 = σ 58 41 - 2 by omega, bl4.2.1 _ (by omega)]; exact el) (by rw [show σ4 58 41 - 1 = σ 58 41 - 1 by omega, bl4.2.1 _ (by omega)]; exact er) I24 (rC _ _ _ RTB ur4) with ⟨σ5, D5, k5⟩ | ⟨zz, no⟩
            · obtain ⟨f5, t5, b5, ⟨u30, u37, u41, u43⟩, XC, RTC⟩ := D5
              have XX := BR_2 I2 (by decide) t.1.1 (Or.inl (Or.inr rfl)) (Or.inr rfl) X4 XC
              have b543 := b5.2.2.1.1
              have bl5 : Blw σ σ5 := bl4.tr (by omega) (by omega) (by omega) b5
              have ps5 : ∀ y, ((PsA σ m y ∨ PsA σ1 σ2 y) ∨ PsA σ4 σ5 y) ↔ PsA σ σ5 y := fun y => by
                rw [ps4 y]
                exact psA_tr bl4.2.2.1.1 b543 b5.2.2.1.2
              refine Or.inl ⟨σ5, ⟨f14.tr f5, t5, bl5, ⟨by omega, by omega, by omega, by rw [w0]; omega⟩, ⟨XX.1, fun q hq => XX.2.1 q ((ps5 q).mpr hq), fun ρ V => ?_, fun w ρ V y => ?_⟩, RTx _ RTC⟩, fun o s' h => k14 o s' (k5 o s' (by
                rw [hl] at h
                rw [show p + ln B + 3 + ln C = p + (ln B + ln C + 3) by omega]; exact h))⟩
              · obtain ⟨y1, y2⟩ := XX.2.2.1 ρ V
                exact ⟨tyE_17.mpr ⟨y1.1, Or.inr y1.2⟩, fun hp => by
                  have := y2 (fun q hq => hp q ((ps5 q).mp hq))
                  exact tyE_17.mpr ⟨this.1, Or.inr this.2⟩⟩
              · have y := tyE_17.mp y
                rcases y.2 with e | y2
                · subst e
                  exact hCb.elim
                · obtain ⟨ρ5, V5, ol, w5⟩ := XX.2.2.2 w ρ V ⟨y.1, y2⟩
                  exact ⟨ρ5, V5, ol, fun e q hq => w5 e q ((ps5 q).mpr hq)⟩
            · refine Or.inr ⟨zz.tr k14 f14, fun ρ V sm y => ?_⟩
              have y := tyE_17.mp y
              rcases y.2 with e | y2
              · subst e
                exact hCb
              · obtain ⟨ρ4, V4, ol, s4⟩ := keyX ρ V sm y.1
                refine no ρ4 V4 s4 ?_
                rw [ol l il.1 il.2, ol r ir.1 ir.2, TRes.gam2 I2 (by decide) t.1.1 X4.1 V V4 ol]
                exact y2
        · refine Or.inr ⟨((z4.tr k3 f3).tr k2 f2).tr k1 f1, fun ρ V sm y => ?_⟩
          have y := (tyE_17.mp y).1
          obtain ⟨α, y1, y2⟩ := y
          have wid := tyE_w hB y2
          obtain ⟨ρ2, V2, ol, eb, s2⟩ := keyB ρ (ρ r) V sm ⟨α, y1, y2⟩
          have e := ol r ir.1 ir.2
          exact no ρ2 (by rw [e3]; exact V2) (e.trans eb.symm) (by rw [e]; exact wid) (fun k k0 k1 => by rw [i85]; rw [i43] at k1; exact s2 k k0 k1)
      · refine Or.inr ⟨zz.tr k1 f1, fun ρ V sm y => ?_⟩
        obtain ⟨α, y1, y2⟩ := (tyE_17.mp y).1
        obtain ⟨ρ1, V1, ol, nz', s1⟩ := keyP α ρ V sm y1
        rw [es] at no
        exact no ρ1 _ V1 (keyS α ρ ρ1 V y1 nz' s1) (keyG α ρ ρ1 _ V V1 ol nz' y2)
    · refine Or.inr ⟨z1, fun ρ V sm y => ?_⟩
      obtain ⟨α, y1, y2⟩ := (tyE_17.mp y).1
      obtain ⟨ρ1, V1, ol, nz', s1⟩ := keyP α ρ V sm y1
      have := wd ρ1 V1
      by_cases c : k < σ 58 43
      · have := s1 (m 85 k) (Or.inl (Or.inl ⟨k, ⟨hk.1, c⟩, blm.2.2.1.2 k c⟩))
        omega
      · have := s1 (m 85 k) (Or.inr ⟨k, by omega, hk.2, rfl⟩)
        omega
end MB2
