/-! The model's run: a branch's end, a function's end. -/
section MRET
variable {h h' h1 : mHp} {σ0 σ σ' σ1 : Mem} {d : Nat} {G : List Int} {p z s i y n : Int} {A B C T : Tr} {k : Nat} {ρ ρ' : En} {cx : Cx} {fs : List (Cx × En)} {vs : List Va} {v : Va} {P : Tr → List Int → Int → Prop}
theorem mup_sw8 {a c x : Int} : mup (mup (mup σ 58 64 a) 58 58 c) 58 64 x = mup (mup σ 58 64 x) 58 58 c := by
  funext j q
  by_cases e : j = 58
  · subst e
    by_cases e2 : q = 64
    · subst e2; rw [mup_eq, mup_nk (by decide), mup_eq]
    · rw [mup_nk e2]
      by_cases e3 : q = 58
      · subst e3; rw [mup_eq, mup_eq]
      · rw [mup_nk e3, mup_nk e2, mup_nk e3, mup_nk e2]
  · rw [mup_ne e, mup_ne e, mup_ne e, mup_ne e, mup_ne e]
/-- a branch's end -/
theorem mm_brn (R : mRel σ0 h σ s (1, nl, (2, nd 17 z A B C) :: cx, ρ, vs, fs)) (W : cxW ((2, nd 17 z A B C) :: cx)) (h14 : hd14 cx = none) : ∃ h' σ', exN d 2 h σ h' σ' ∧ mOut σ0 h σ s 0 h' σ' (1, nl, cx, drp (numB (nd 17 z A B C)) ρ, vs, fs) := by
  obtain ⟨hl, q, e51, ps, vt⟩ := R
  unfold psM at ps
  rw [if_neg (by decide), if_pos rfl] at ps
  obtain ⟨a, c, pe, ln1, cp⟩ := ps
  have bk : 2 ≠ 1 ∧ bk3 (nd 17 z A B C) = true := ⟨by decide, rfl⟩
  have ln1 := ln1 bk
  rw [if_pos bk] at c cp
  rw [if_pos rfl] at cp
  obtain ⟨-, ⟨ww, wz⟩, -⟩ := W
  have zz : z = (bnd A).length := ww.1.1
  have wz : szT A + szT B + szT C + 1 ≤ 128 := wz
  have bz := bnd_sz A
  have nu : numB (nd 17 z A B C) = z.toNat := rfl
  rw [nu] at c cp ln1 ⊢
  have va : vaM h σ0 σ (mOf σ) vs := vtM_0.mp vt
  obtain ⟨⟨pg, p124⟩, ⟨bo, -⟩, re, -⟩ := id q
  have a2 := ln_ge (T := B)
  have a3 := ln_ge (T := C)
  obtain ⟨⟨t, ic, -⟩, -, p0, p1⟩ := c
  have p1 : a + (ln B + ln C + 3) ≤ σ0 58 11 := p1
  have pe : σ 58 64 = a + (1 + ln B) := pe
  have cp : cxM σ0 (!fs.isEmpty) cx ((nmEn ρ).drop z.toNat) (a + (ln B + ln C + 3) + 1) := cp
  obtain ⟨x1, x2, -⟩ := pg.row (show cell (prM σ0) (a + ln B + 1) 12 z 0 from ic.2.2.2.2.1)
  obtain ⟨y1, y2, -⟩ := pg.row (show cell (prM σ0) (a + ln B + 2) 14 (a + ln B + ln C + 4) 0 from ic.2.2.2.2.2.1)
  have pe : σ 58 64 = a + ln B + 1 := by omega
  obtain ⟨x, X, rx⟩ := x_unb (d := d) pe ⟨by omega, by omega⟩ x1 x2 bo (by omega) re (by omega)
  rw [show a + ln B + 1 + 1 = a + ln B + 2 by omega] at X
  have X1 : exM d h σ h (mup (mup σ 58 64 (a + ln B + 2)) 58 58 x) := ⟨ns_of pg p124 pe ⟨by omega, by omega⟩ x1 (by unfold isSt; omega) (rgk rfl), X⟩
  have e64 : (mup (mup σ 58 64 (a + ln B + 2)) 58 58 x) 58 64 = a + ln B + 2 := (mup_nk (by decide)).trans mup_eq
  have z1 : (mup (mup σ 58 64 (a + ln B + 2)) 58 58 x) 63 (a + ln B + 2) = 14 := by rw [mup_ne (by decide), mup_ne (by decide)]; exact y1
  have z2 : (mup (mup σ 58 64 (a + ln B + 2)) 58 58 x) 64 (a + ln B + 2) = a + ln B + ln C + 4 := by rw [mup_ne (by decide), mup_ne (by decide)]; exact y2
  have pg2 : pgM σ0 (mup (mup σ 58 64 (a + ln B + 2)) 58 58 x) := pg.tr (frWm.pg ((frWm.m8 (h := h) (by omega)).tr (frWm.m8 (by omega))))
  have J := x_jmp (d := d) (h := h) e64 ⟨by omega, by omega⟩ z1 z2 (by unfold rg; omega)
  rw [mup_2, mup_sw8] at J
  refine ⟨h, _, X1.two (by rw [mup_nk (by decide), mup_nk (by decide)]) ⟨ns_of pg2 p124 e64 ⟨by omega, by omega⟩ z1 (by unfold isSt; omega) (rgk rfl), J⟩, m_at2 q rx e51 hl va h14 ?_⟩
  rw [nm_drp, show a + ln B + ln C + 4 = a + (ln B + ln C + 3) + 1 by omega]; exact cp
/-- a function's end -/
theorem mm_ret (R : mRel σ0 h σ s (1, nl, [], ρ, vs, (cx, ρ') :: fs)) (h14 : hd14 cx = none) (hs : s ≤ 500) : ∃ h' σ', exN d 1 h σ h' σ' ∧ mOut σ0 h σ s 0 h' σ' (1, nl, cx, ρ', vs, fs) := by
  obtain ⟨hl, q, e51, ps, vt⟩ := R
  unfold psM at ps
  rw [if_neg (by decide), if_pos rfl] at ps
  obtain ⟨rp, c1, c2⟩ : (0 ≤ σ 58 64 ∧ σ 58 64 < σ0 58 11) ∧ σ0 63 (σ 58 64) = 7 ∧ σ0 64 (σ 58 64) = 0 := ps
  have va : vaM h σ0 σ (mOf σ) vs := vtM_0.mp vt
  obtain ⟨⟨pg, p124⟩, ⟨bo, s1, s2, s3⟩, re, e54, ⟨⟨cp, rx⟩, bk⟩⟩ := id q
  have cp : cxM σ0 (!fs.isEmpty) cx (nmEn ρ') (σ 90 fs.length) := cp
  have rx : RMv h σ (pfM σ0) (mOf σ) ρ' true (σ 91 fs.length) := rx
  have s3 : ((fs.length + 1 : Nat) : Int) ≤ s := s3
  have e54 : σ 58 54 = ((fs.length + 1 : Nat) : Int) := e54
  have e54 : σ 58 54 = (fs.length : Int) + 1 := by omega
  have x1 : σ 63 (σ 58 64) = 7 := by rw [pg.1 63 (by omega)]; exact c1
  have x2 : σ 64 (σ 58 64) = 0 := by rw [pg.1 64 (by omega)]; exact c2
  have px := rx.pl bo
  have w3 := bo.2.2
  have ns : nsM σ := ns_of pg p124 rfl rp x1 (by unfold isSt; omega) (rgk rfl)
  have X : Rh (d + 7) yMo_execute [.ref 58] h σ (.inl none) h (mup (mup (mup (mup σ 58 64 (σ 58 64 + 1)) 58 54 fs.length) 58 64 (σ 90 fs.length)) 58 58 (σ 91 fs.length)) := rh_s fun M _ => by
    have g90 : rg (σ 90 fs.length) := M 90 fs.length
    refine M_Mo_execute ?_
    unfold B_Mo_execute
    rw [x1, x2, if_pos (by decide), if_pos (by decide), if_pos (by decide), if_pos (by decide), if_pos (by decide), if_pos (by decide), if_pos (by decide), if_pos (by decide), if_neg (by decide), if_pos (by decide), if_pos (by decide), if_pos (by decide)]
    refine ⟨by unfold rg; omega, ⟨rp.1, by omega⟩, ⟨rp.1, by omega⟩, by unfold rg; omega, rgk rfl, h, _, M_Mo_flow (by unfold rg; omega) (rgk rfl) (rgk rfl) ?_, rgk rfl, e_231 (by decide) (by decide)⟩
    unfold B_Mo_flow
    have f1 : (mup σ 58 64 (σ 58 64 + 1)) 58 54 = (fs.length : Int) + 1 := (mup_nk (by decide)).trans e54
    have f2 : (mup (mup σ 58 64 (σ 58 64 + 1)) 58 54 fs.length) 90 fs.length = σ 90 fs.length := by rw [mup_ne (by decide), mup_ne (by decide)]
    have f3 : (mup (mup (mup σ 58 64 (σ 58 64 + 1)) 58 54 fs.length) 58 64 (σ 90 fs.length)) 58 54 = fs.length := (mup_nk (by decide)).trans mup_eq
    have f4 : (mup (mup (mup σ 58 64 (σ 58 64 + 1)) 58 54 fs.length) 58 64 (σ 90 fs.length)) 91 fs.length = σ 91 fs.length := by rw [mup_ne (by decide), mup_ne (by decide), mup_ne (by decide)]
    rw [if_neg (by decide), f1, show (fs.length : Int) + 1 - 1 = fs.length by omega, mup_eq, f2, f3, f4]
    exact ⟨by unfold rg; omega, by unfold rg; omega, by unfold rg; omega, ⟨by omega, by omega⟩, g90, by unfold rg; omega, ⟨by omega, by omega⟩, by unfold rg; omega, rfl, rfl, rfl⟩
  have rf : ∀ x : Int, x ≤ x := fun x => Int.le_refl x
  generalize hσ : mup (mup (mup (mup σ 58 64 (σ 58 64 + 1)) 58 54 fs.length) 58 64 (σ 90 fs.length)) 58 58 (σ 91 fs.length) = σ1 at X
  have f : frWm h h σ σ1 := by rw [← hσ]; exact (((frWm.m8 (by omega)).tr (frWm.m8 (by omega))).tr (frWm.m8 (by omega))).tr (frWm.m8 (by omega))
  have kk : ∀ k : Int, k ≠ 64 → k ≠ 54 → k ≠ 58 → σ1 58 k = σ 58 k := fun k a b c => by rw [← hσ, mup_nk c, mup_nk a, mup_nk b, mup_nk a]
  have oo : ∀ j, j ≠ 58 → σ1 j = σ j := fun j hj => by rw [← hσ, mup_obj hj, mup_obj hj, mup_obj hj, mup_obj hj]
  have k54 : σ1 58 54 = fs.length := by rw [← hσ, mup_nk (by decide), mup_nk (by decide), mup_eq]
  have k64 : σ1 58 64 = σ 90 fs.length := by rw [← hσ, mup_nk (by decide), mup_eq]
  have k58 : σ1 58 58 = σ 91 fs.length := by rw [← hσ, mup_eq]
  have w : smM (mOf σ) h h σ σ1 := ⟨fun _ _ _ => ⟨rfl, rfl⟩, fun _ _ _ => rfl, fun k _ _ => ⟨rfl, congrFun (oo 93 (by decide)) k⟩⟩
  have me : mOf σ1 = mOf σ := by unfold mOf; rw [kk 61 (by decide) (by decide) (by decide), kk 63 (by decide) (by decide) (by decide), kk 57 (by decide) (by decide) (by decide)]
  refine ⟨h, σ1, exM.one ⟨ns, X⟩, mRel.o f hl ⟨hl, ⟨⟨pg.tr f.pg, p124⟩, ⟨by rw [me]; exact bo, by rw [kk 61 (by decide) (by decide) (by decide)]; exact s1, by rw [kk 63 (by decide) (by decide) (by decide)]; exact s2, by omega⟩, by rw [me, k58]; exact rx.mv w (rf _) (rf _) (rf _), k54, by rw [me]; exact bk.mv w (rf _) (rf _) (rf _) (fun i _ => ⟨congrFun (oo 90 (by decide)) i, congrFun (oo 91 (by decide)) i⟩)⟩, (kk 51 (by decide) (by decide) (by decide)).trans e51, ?_, ?_⟩ (kk 57 (by decide) (by decide) (by decide)) (kk 65 (by decide) (by decide) (by decide)) (kk 66 (by decide) (by decide) (by decide))⟩
  · unfold psM
    rw [if_neg (by decide), if_pos rfl, k64]; exact cp
  · rw [if_neg (by decide), if_pos rfl, h14, me]; exact vtM_0.mpr (va.mv w (rf _) (rf _) (rf _) (fun _ _ => rfl))
end MRET
