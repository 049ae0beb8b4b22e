/-! What reads and writes the heap. -/
theorem cls_own {a : Nat} {q : vw_C} {own : String} (h : cls[a]? = some q) (h2 : ownN[a]? = some own) : q.1 = own := by
  have e : cls.map (fun q => q.1) = ownN.take 12 := rfl
  have h3 : (cls.map (fun q => q.1))[a]? = some q.1 := by rw [List.getElem?_map, h]; rfl
  rw [e, List.getElem?_take_of_lt (cls_lt h), h2] at h3
  exact (Option.some.inj h3).symm
theorem u_ws_g {q : vw_C} {ty : Nat → FieldType} (h : clsOk q ty) : ∀ w ∈ u_ws q.1 q.2.1 q.2.2, w ∈ gtbl := by
  intro w hw
  refine in_gtbl (h.2.2.1 w hw) ?_
  obtain ⟨k, -, rfl⟩ := List.mem_map.mp hw
  unfold u_lay
  split <;> rfl
theorem link_f {own : String} {a b w : Nat} {ix : Nat} (h : (match cls[a]? with
    | some q => decide (b < q.2.2) && decide (lw_tbl[w]? = some (.fieldLink own ix q.1 (q.2.1 b).2.1 (q.2.1 b).2.2.1))
    | none => false) = true) : ∃ q, cls[a]? = some q ∧ b < q.2.2 ∧ lw_tbl[w]? = some (.fieldLink own ix q.1 (q.2.1 b).2.1 (q.2.1 b).2.2.1) := by
  split at h
  · next q hq =>
    rw [Bool.and_eq_true, decide_eq_true_eq, decide_eq_true_eq] at h
    exact ⟨q, hq, h.1, h.2⟩
  · cases h
theorem mArrL_spec {h : mHp} {st : List Value} {t : Nat} {q : List Value × mHp} (hh : mArrL h st t = some q) : ∃ j i r, st = .int j :: .ref i :: r ∧ hTag h i = t ∧ vp_in j (hLen h i) ∧ q = (hAt h i j.toNatClampNeg :: r, h) := by
  unfold mArrL at hh
  split at hh
  · next j i r =>
    split at hh
    · next o => cases hh; exact ⟨j, i, r, rfl, o.1, o.2, rfl⟩
    · cases hh
  · cases hh
theorem mArrS_spec {h : mHp} {st : List Value} {t : Nat} {ok : Value → Bool} {q : List Value × mHp} (hh : mArrS h st t ok = some q) : ∃ v j i r, st = v :: .int j :: .ref i :: r ∧ hTag h i = t ∧ vp_in j (hLen h i) ∧ ok v = true ∧ q = (r, hSet h i j.toNatClampNeg v) := by
  unfold mArrS at hh
  split at hh
  · next v j i r =>
    split at hh
    · next o => cases hh; exact ⟨v, j, i, r, rfl, o.1, o.2.1, o.2.2, rfl⟩
    · cases hh
  · cases hh
theorem vp_in_lt {j : Int32} {n : Nat} (h : vp_in j n) : j.toNatClampNeg < n := Nat.lt_of_not_le (fun q => h (Or.inr q))
theorem vr_default (ad : List Nat) (t : FieldType) : vr ad (defaultValue t) (defaultValue t) := by cases t <;> rfl
theorem char_fits {x : Int32} (h : fits .char (.int x) = true) : vp_nar .char x = x := by
  simp only [fits, Bool.and_eq_true, decide_eq_true_eq] at h
  obtain ⟨j, hj0, rfl⟩ := nI_of (x := x) (fun q => absurd h.1 (by simpa using q))
  have hj : j < 65536 := by
    have h2 := h.2
    rw [Int32.le_iff_toInt_le] at h2
    rw [nI_toInt (by omega)] at h2
    have : (65535 : Int32).toInt = 65535 := by decide
    omega
  unfold vp_nar
  rw [(pk_charN hj).1]
theorem bool_fits {x : Int32} (h : fits .boolean (.int x) = true) : vp_nar .boolean x = x := by
  simp only [fits, Bool.or_eq_true, beq_iff_eq] at h
  rcases h with rfl | rfl <;> rfl
theorem fits_int {t : FieldType} {v : Value} (ht : t = .char ∨ t = .boolean) (h : fits t v = true) : ∃ x, v = .int x := by
  rcases ht with rfl | rfl <;> cases v <;> first | exact ⟨_, rfl⟩ | cases h
theorem hAt_def (h : mHp) (i k : Nat) : hAt h i k = (h.2.2 i).2.2 k := rfl
section SVC
variable {p : Program} {l : Launch} {e : Env} {R : Room} {s : State} {m : MethodId} {args : Array Value} {below : List Frame} {meth : Method} {c : Code} {H : Heap} {locs : List Loc} {cells slots : Nat} {Q : State → Prop}
variable {pc : Nat} {ls : Array Slot} {cc : ByteArray} {D : va_G} {A : Nat → Prop} {H0 : Heap}
set_option maxHeartbeats 4000000 in
theorem s_mem {own : String} {y a b w n : Nat} {i : Instr} {st cst : List Value} {h : mHp} {q : List Value × mHp} {ad : List Nat} (hx : p.tables.exec = Jvm.exec) (hb : c.code = cc) (hown : s.vm.findClass own = some m.cls) (hts : ∀ w ∈ gtbl, w.before args s = true) (hnw : nwOK s)
    (hA : ∀ q, H0.size ≤ q → A q) (hinit : (mInf y).1.name = "<init>" → meth.name = "<init>") (hoy : ownN[mOwn y]? = some own)
    (hd : decode cc pc = .ok (i, n)) (hn : n = mLen n i) (hl : mLinkOk own a b w i = true) (hm : mMem y a b st h i = some q) (hr : rl ad st cst) (hW : mW D A H0 s ad h H locs)
    (hcells : cells + (q.2.1 - h.1) ≤ R.cells) (hslots : slots + (q.2.2.1 - h.2.1) ≤ R.slots)
    (k : ∀ ad' cst' H' locs', (∃ x, ad' = ad ++ x) → rl ad' q.1 cst' → mW D A H0 s ad' q.2 H' locs' → W p l e R s m args below meth c H' locs' (cells + (q.2.1 - h.1)) (slots + (q.2.2.1 - h.2.1)) Q (F0 m (pc + n) ls cst')) : W p l e R s m args below meth c H locs cells slots Q (F0 m pc ls cst) := by
  obtain ⟨ws, tys, hK, hP, hD, hS, hH⟩ := hW
  have same : ∀ {cst' : List Value}, q.2 = h → rl ad q.1 cst' → W p l e R s m args below meth c H locs cells slots Q (F0 m (pc + n) ls cst') := fun e1 e2 => W.widen (Nat.le_add_right _ _) (Nat.le_add_right _ _) (k ad _ H locs ⟨[], (List.append_nil _).symm⟩ e2 (by rw [e1]; exact ⟨ws, tys, hK, hP, hD, hS, hH⟩))
  have upd1 : ∀ {i0 a0 kw kk : Nat} {v : Value} {E E' : va_E} {cst' : List Value} {H1 : Heap} {locs1 : List Loc}, q.2 = hSet h i0 kk v → rl ad q.1 cst' → ad[i0]? = some a0 → hTag h i0 < 106 → ws[kw]? = some (a0, E) → cR ad tys ((h.2.2 i0).1, (h.2.2 i0).2.1, fun x => if x = kk then v else (h.2.2 i0).2.2 x) E' → va_P D cls (ws.set kw (a0, E')) H1 → va_D A (ws.set kw (a0, E')) → va_S A H0 H1 locs1 → W p l e R s m args below meth c H1 locs1 cells slots Q (F0 m (pc + n) ls cst') := fun e1 e2 g1 g2 g3 g4 g5 g6 g7 => W.widen (Nat.le_add_right _ _) (Nat.le_add_right _ _) (k ad _ _ _ ⟨[], (List.append_nil _).symm⟩ e2 (by rw [e1]; exact ⟨_, tys, hK, g5, g6, g7, hH.set g1 g2 g3 g4⟩))
  have new1 : ∀ {q0 t0 n0 : Nat} {f : Nat → Value} {E : va_E} {ty' : List (ClassId × FieldType)} {cst' : List Value} {H1 : Heap}, q.2 = hNew h t0 n0 f → rl (ad ++ [q0]) q.1 cst' → va_K D cls (tys ++ ty') s → va_P D cls (ws ++ [(q0, E)]) H1 → va_D A (ws ++ [(q0, E)]) → va_S A H0 H1 locs → cR (ad ++ [q0]) (tys ++ ty') (t0, n0, f) E → W p l e R s m args below meth c H1 locs (cells + 1) (slots + n0) Q (F0 m (pc + n) ls cst') := fun {q0 t0 n0 f E ty' cst' H1} e1 e2 g1 g2 g3 g4 g5 => W.widen (k := cells + (q.2.1 - h.1)) (n := slots + (q.2.2.1 - h.2.1)) (by rw [e1]; unfold hNew; dsimp only; omega) (by rw [e1]; unfold hNew; dsimp only; omega) (k (ad ++ [q0]) _ _ _ ⟨[q0], rfl⟩ e2 (by rw [e1]; exact ⟨_, _, g1, g2, g3, g4, hH.new g3 g5⟩))
  cases i with
  | getfield ix =>
    simp only [mLen] at hn; subst hn
    obtain ⟨qc, hq, hbq, hlk⟩ := link_f hl
    simp only [mMem] at hm
    split at hm
    · next i r =>
      split at hm
      · next hc =>
        cases hm
        obtain ⟨_, cr, rfl, ⟨a', hia, rfl⟩, hr⟩ := hr
        obtain ⟨kw, E, hk, hE⟩ := hH.2.1 i a' hia (by omega)
        have e1 : (h.2.2 i).1 = a := hc.1
        obtain ⟨fs, qc', rfl, hq', hlen, -, hfs⟩ := hE.obj (by omega)
        rw [e1] at hk hq'
        rw [hq] at hq'
        cases hq'
        have hlt : b < fs.length := by omega
        have ok := cls_ok _ _ hq
        exact va_get (C := qc.1) (T := qc.2.1) (N := qc.2.2) hx hb hts (u_ws_g ok) hown hK hP kw hk hq b hbq (hts _ (in_gtbl_at hlk rfl)) (fun x hxx => by rw [ok.2.2.2.2.2 b hbq] at hxx; exact hxx) (List.getElem?_eq_getElem hlt) hd (same rfl ⟨_, _, rfl, hfs b _ (List.getElem?_eq_getElem hlt), hr⟩)
      · cases hm
    · cases hm
  | putfield ix =>
    simp only [mLen] at hn; subst hn
    obtain ⟨qc, hq, hbq, hlk⟩ := link_f hl
    simp only [mMem] at hm
    split at hm
    · next v i r =>
      split at hm
      · next hc =>
        obtain ⟨hc1, hc2, hc3, hc4⟩ := hc
        cases hm
        obtain ⟨cv, _, rfl, hv, _, cr, rfl, ⟨a', hia, rfl⟩, hr⟩ := hr
        obtain ⟨kw, E, hk, hE⟩ := hH.2.1 i a' hia (by omega)
        have e1 : (h.2.2 i).1 = a := hc1
        obtain ⟨fs, qc', rfl, hq', hlen, hlen2, hfs⟩ := hE.obj (by omega)
        rw [e1] at hk hq'
        rw [hq] at hq'
        cases hq'
        have hlt : b < fs.length := by omega
        have ok := cls_ok _ _ hq
        have hfit := fits_vr hc3.2 hv
        have hnar := narrow_fits hc3.1 hfit
        have hE' : cR ad tys ((h.2.2 i).1, (h.2.2 i).2.1, fun x => if x = b then v else (h.2.2 i).2.2 x) (.inr (a, fs.set b cv)) := by
          refine ⟨e1, ⟨qc, hq, by rw [List.length_set]; exact hlen⟩, by rw [List.length_set]; exact hlen2, fun k' v' hk' => ?_⟩
          dsimp only at hk' ⊢
          by_cases g : k' = b
          · subst g
            rw [List.getElem?_set_self hlt] at hk'
            cases hk'
            rw [if_pos rfl]
            exact hv
          · rw [List.getElem?_set_ne (fun q => g q.symm)] at hk'
            rw [if_neg g]
            exact hfs k' v' hk'
        have hcl : cls.getD a (mR0, mT0, 0) = qc := by rw [List.getD_eq_getElem?_getD, hq]; rfl
        rw [hcl] at hc4
        cases hfin : (qc.2.1 b).2.2.2 with
        | false => exact va_put (C := qc.1) (T := qc.2.1) (N := qc.2.2) hx hb hts (u_ws_g ok) (clsTy a) ok.2.1 ok.1 hown hK hP hD hS kw hk hq b hbq (hts _ (in_gtbl_at hlk rfl)) (fun x hxx => by rw [ok.2.2.2.2.2 b hbq] at hxx; exact hxx) hfin (ok.2.1 b hbq) hnar hfit hlt hd (fun H1 locs1 g5 g6 g7 => upd1 rfl hr hia (by omega) hk hE' g5 g6 g7)
        | true =>
          rcases hc4 with hc4 | ⟨hc4, hc5⟩
          · rw [hfin] at hc4; cases hc4
          · rw [hc5] at hoy
            have ho := cls_own hq hoy
            exact va_putF (C := qc.1) (T := qc.2.1) (N := qc.2.2) hx hb hts (u_ws_g ok) (clsTy a) ok.2.1 ok.1 hown hK hP hD hS kw hk hq b hbq (hts _ (in_gtbl_at hlk rfl)) (fun x hxx => by rw [ok.2.2.2.2.2 b hbq] at hxx; exact hxx) hfin (hinit hc4) (by rw [ok.2.2.2.2.2 b hbq]; exact ho) (ok.2.1 b hbq) hnar hfit hlt hd (fun H1 locs1 g5 g6 g7 => upd1 rfl hr hia (by omega) hk hE' g5 g6 g7)
      · cases hm
    · cases hm
  | iaload =>
    simp only [mLen] at hn; subst hn; obtain ⟨j, i, r, rfl, ht, hin, rfl⟩ := mArrL_spec hm
    obtain ⟨_, _, rfl, rfl, _, cr, rfl, ⟨a', hia, rfl⟩, hr⟩ := hr
    obtain ⟨kw, E, hk, hE⟩ := hH.2.1 i a' hia (by omega)
    obtain ⟨cA, f, rfl, hty, hf⟩ := hE.i (Or.inl ⟨rfl, rfl⟩) ht
    obtain ⟨t0, ht0⟩ := List.getElem?_of_mem hty
    exact va_iald hx hb hK hP kw t0 hk ht0 hin hd (same rfl ⟨_, _, rfl, by rw [hAt_def, hf _ (vp_in_lt hin)]; rfl, hr⟩)
  | caload =>
    simp only [mLen] at hn; subst hn; obtain ⟨j, i, r, rfl, ht, hin, rfl⟩ := mArrL_spec hm
    obtain ⟨_, _, rfl, rfl, _, cr, rfl, ⟨a', hia, rfl⟩, hr⟩ := hr
    obtain ⟨kw, E, hk, hE⟩ := hH.2.1 i a' hia (by omega)
    obtain ⟨cA, f, rfl, hty, hf⟩ := hE.i (Or.inr (Or.inl ⟨rfl, rfl⟩)) ht
    obtain ⟨t0, ht0⟩ := List.getElem?_of_mem hty
    exact va_cald hx hb hK hP kw t0 hk ht0 hin hd (same rfl ⟨_, _, rfl, by rw [hAt_def, hf _ (vp_in_lt hin)]; rfl, hr⟩)
  | baload =>
    simp only [mLen] at hn; subst hn; obtain ⟨j, i, r, rfl, ht, hin, rfl⟩ := mArrL_spec hm
    obtain ⟨_, _, rfl, rfl, _, cr, rfl, ⟨a', hia, rfl⟩, hr⟩ := hr
    obtain ⟨kw, E, hk, hE⟩ := hH.2.1 i a' hia (by omega)
    obtain ⟨cA, f, rfl, hty, hf⟩ := hE.i (Or.inr (Or.inr ⟨rfl, rfl⟩)) ht
    obtain ⟨t0, ht0⟩ := List.getElem?_of_mem hty
    exact va_zald hx hb hK hP kw t0 hk ht0 hin hd (same rfl ⟨_, _, rfl, by rw [hAt_def, hf _ (vp_in_lt hin)]; rfl, hr⟩)
  | laload =>
    simp only [mLen] at hn; subst hn; obtain ⟨j, i, r, rfl, ht, hin, rfl⟩ := mArrL_spec hm
    obtain ⟨_, _, rfl, rfl, _, cr, rfl, ⟨a', hia, rfl⟩, hr⟩ := hr
    obtain ⟨kw, E, hk, hE⟩ := hH.2.1 i a' hia (by omega)
    obtain ⟨cA, f, rfl, hty, hf⟩ := hE.l ht
    obtain ⟨t0, ht0⟩ := List.getElem?_of_mem hty
    exact va_lald hx hb hK hP kw t0 hk ht0 hin hd (same rfl ⟨_, _, rfl, by rw [hAt_def, hf _ (vp_in_lt hin)]; rfl, hr⟩)
  | daload =>
    simp only [mLen] at hn; subst hn; obtain ⟨j, i, r, rfl, ht, hin, rfl⟩ := mArrL_spec hm
    obtain ⟨_, _, rfl, rfl, _, cr, rfl, ⟨a', hia, rfl⟩, hr⟩ := hr
    obtain ⟨kw, E, hk, hE⟩ := hH.2.1 i a' hia (by omega)
    obtain ⟨cA, f, rfl, hty, hf⟩ := hE.d ht
    obtain ⟨t0, ht0⟩ := List.getElem?_of_mem hty
    exact va_dald hx hb hK hP kw t0 hk ht0 hin hd (same rfl ⟨_, _, rfl, by rw [hAt_def, hf _ (vp_in_lt hin)]; rfl, hr⟩)
  | aaload =>
    simp only [mLen] at hn; subst hn; obtain ⟨j, i, r, rfl, ht, hin, rfl⟩ := mArrL_spec hm
    obtain ⟨_, _, rfl, rfl, _, cr, rfl, ⟨a', hia, rfl⟩, hr⟩ := hr
    obtain ⟨kw, E, hk, hE⟩ := hH.2.1 i a' hia (by omega)
    obtain ⟨cA, f, rfl, hty, hf⟩ := hE.q ht
    obtain ⟨t0, ht0⟩ := List.getElem?_of_mem hty
    exact va_aldq hx hb hK hP kw t0 hk ht0 hin hd (same rfl ⟨_, _, rfl, hf _ (vp_in_lt hin), hr⟩)
  | iastore =>
    simp only [mLen] at hn; subst hn; obtain ⟨v, j, i, r, rfl, ht, hin, ho, rfl⟩ := mArrS_spec hm
    obtain ⟨x, rfl⟩ := isI_spec ho
    obtain ⟨_, _, rfl, rfl, _, _, rfl, rfl, _, cr, rfl, ⟨a', hia, rfl⟩, hr⟩ := hr
    obtain ⟨kw, E, hk, hE⟩ := hH.2.1 i a' hia (by omega)
    obtain ⟨cA, f, rfl, hty, hf⟩ := hE.i (Or.inl ⟨rfl, rfl⟩) ht
    obtain ⟨t0, ht0⟩ := List.getElem?_of_mem hty
    refine va_iast hx hb hK hP hD hS kw t0 hk ht0 hin hd (fun H1 locs1 g5 g6 g7 => upd1 (E' := .inl (cA, (h.2.2 i).2.1, .inl (upd f j.toNatClampNeg x))) rfl hr hia (by omega) hk ⟨rfl, Or.inl ⟨ht, hty⟩, fun j' hj' => ?_⟩ g5 g6 g7)
    dsimp only [upd]
    split
    · rfl
    · exact hf j' hj'
  | castore =>
    simp only [mLen] at hn; subst hn; obtain ⟨v, j, i, r, rfl, ht, hin, ho, rfl⟩ := mArrS_spec hm
    obtain ⟨x, rfl⟩ := fits_int (Or.inl rfl) ho
    obtain ⟨_, _, rfl, rfl, _, _, rfl, rfl, _, cr, rfl, ⟨a', hia, rfl⟩, hr⟩ := hr
    obtain ⟨kw, E, hk, hE⟩ := hH.2.1 i a' hia (by omega)
    obtain ⟨cA, f, rfl, hty, hf⟩ := hE.i (Or.inr (Or.inl ⟨rfl, rfl⟩)) ht
    obtain ⟨t0, ht0⟩ := List.getElem?_of_mem hty
    refine va_cast hx hb hK hP hD hS kw t0 hk ht0 hin hd (fun H1 locs1 g5 g6 g7 => upd1 (E' := .inl (cA, (h.2.2 i).2.1, .inl (upd f j.toNatClampNeg (vp_nar .char x)))) rfl hr hia (by omega) hk ⟨rfl, Or.inr (Or.inl ⟨ht, hty⟩), fun j' hj' => ?_⟩ g5 g6 g7)
    dsimp only [upd]
    rw [char_fits ho]
    split
    · rfl
    · exact hf j' hj'
  | bastore =>
    simp only [mLen] at hn; subst hn; obtain ⟨v, j, i, r, rfl, ht, hin, ho, rfl⟩ := mArrS_spec hm
    obtain ⟨x, rfl⟩ := fits_int (Or.inr rfl) ho
    obtain ⟨_, _, rfl, rfl, _, _, rfl, rfl, _, cr, rfl, ⟨a', hia, rfl⟩, hr⟩ := hr
    obtain ⟨kw, E, hk, hE⟩ := hH.2.1 i a' hia (by omega)
    obtain ⟨cA, f, rfl, hty, hf⟩ := hE.i (Or.inr (Or.inr ⟨rfl, rfl⟩)) ht
    obtain ⟨t0, ht0⟩ := List.getElem?_of_mem hty
    refine va_zast hx hb hK hP hD hS kw t0 hk ht0 hin hd (fun H1 locs1 g5 g6 g7 => upd1 (E' := .inl (cA, (h.2.2 i).2.1, .inl (upd f j.toNatClampNeg (vp_nar .boolean x)))) rfl hr hia (by omega) hk ⟨rfl, Or.inr (Or.inr ⟨ht, hty⟩), fun j' hj' => ?_⟩ g5 g6 g7)
    dsimp only [upd]
    rw [bool_fits ho]
    split
    · rfl
    · exact hf j' hj'
  | lastore =>
    simp only [mLen] at hn; subst hn; obtain ⟨v, j, i, r, rfl, ht, hin, ho, rfl⟩ := mArrS_spec hm
    obtain ⟨x, rfl⟩ := isL_spec ho
    obtain ⟨_, _, rfl, rfl, _, _, rfl, rfl, _, cr, rfl, ⟨a', hia, rfl⟩, hr⟩ := hr
    obtain ⟨kw, E, hk, hE⟩ := hH.2.1 i a' hia (by omega)
    obtain ⟨cA, f, rfl, hty, hf⟩ := hE.l ht
    obtain ⟨t0, ht0⟩ := List.getElem?_of_mem hty
    refine va_last hx hb hK hP hD hS kw t0 hk ht0 hin hd (fun H1 locs1 g5 g6 g7 => upd1 (E' := .inl (cA, (h.2.2 i).2.1, .inr (.inl (vp_updL f j.toNatClampNeg x)))) rfl hr hia (by omega) hk ⟨rfl, ⟨ht, hty⟩, fun j' hj' => ?_⟩ g5 g6 g7)
    dsimp only [vp_updL]
    split
    · rfl
    · exact hf j' hj'
  | dastore =>
    simp only [mLen] at hn; subst hn; obtain ⟨v, j, i, r, rfl, ht, hin, ho, rfl⟩ := mArrS_spec hm
    obtain ⟨x, rfl⟩ := isD_spec ho
    obtain ⟨_, _, rfl, rfl, _, _, rfl, rfl, _, cr, rfl, ⟨a', hia, rfl⟩, hr⟩ := hr
    obtain ⟨kw, E, hk, hE⟩ := hH.2.1 i a' hia (by omega)
    obtain ⟨cA, f, rfl, hty, hf⟩ := hE.d ht
    obtain ⟨t0, ht0⟩ := List.getElem?_of_mem hty
    refine va_dast hx hb hK hP hD hS kw t0 hk ht0 hin hd (fun H1 locs1 g5 g6 g7 => upd1 (E' := .inl (cA, (h.2.2 i).2.1, .inr (.inr (.inr (.inl (vf_upd f j.toNatClampNeg x)))))) rfl hr hia (by omega) hk ⟨rfl, ⟨ht, hty⟩, fun j' hj' => ?_⟩ g5 g6 g7)
    dsimp only [vf_upd]
    split
    · rfl
    · exact hf j' hj'
  | aastore =>
    simp only [mLen] at hn; subst hn
    simp only [mMem] at hm
    split at hm
    · next v j i r =>
      split at hm
      · next hc =>
        obtain ⟨ht, hin, hc3⟩ := hc
        cases hm
        obtain ⟨_, _, rfl, ⟨av, hva, rfl⟩, _, _, rfl, rfl, _, cr, rfl, ⟨a', hia, rfl⟩, hr⟩ := hr
        obtain ⟨kw, E, hk, hE⟩ := hH.2.1 i a' hia (by omega)
        obtain ⟨cA, f, rfl, hty, hf⟩ := hE.q ht
        obtain ⟨t0, ht0⟩ := List.getElem?_of_mem hty
        obtain ⟨kv, Ev, hkv, hEv⟩ := hH.2.1 v av hva (by omega)
        have e1 : (h.2.2 v).1 = 8 := hc3
        obtain ⟨fs, qc', rfl, hq', hlen, -, hfs⟩ := hEv.obj (by omega)
        rw [e1] at hkv hq'
        cases hq'
        refine va_astq (r := (mR8, mT8, 6)) hx hb hK hP hD hS kw t0 kv 8 hk ht0 hkv rfl hin hd (fun H1 locs1 g5 g6 g7 => upd1 (E' := .inl (cA, (h.2.2 i).2.1, .inr (.inr (.inr (.inr (va_up f j.toNatClampNeg (some av))))))) rfl hr hia (by omega) hk ⟨rfl, ⟨ht, hty⟩, fun j' hj' => ?_⟩ g5 g6 g7)
        dsimp only [va_up]
        by_cases g : j' = j.toNatClampNeg
        · rw [if_pos g, if_pos g]; exact ⟨av, hva, rfl⟩
        · rw [if_neg g, if_neg g]; exact hf j' hj'
      · cases hm
    · cases hm
  | arraylength =>
    simp only [mLen] at hn; subst hn
    simp only [mMem] at hm
    split at hm
    · next i r =>
      split at hm
      · next hc =>
        cases hm
        obtain ⟨_, cr, rfl, ⟨a', hia, rfl⟩, hr⟩ := hr
        obtain ⟨kw, E, hk, hE⟩ := hH.2.1 i a' hia (by omega)
        have e1 : (h.2.2 i).1 = hTag h i := rfl
        have go : ∀ {cA : ClassId} {x : vp_A} {ft : FieldType}, E = .inl (cA, x) → x.1 = hLen h i → (cA, ft) ∈ tys → W p l e R s m args below meth c H locs cells slots Q (F0 m pc ls (.ref a' :: cr)) := by
          intro cA x ft e2 e3 hty
          obtain ⟨t0, ht0⟩ := List.getElem?_of_mem hty
          rw [e2] at hk
          exact va_alen hx hb hK hP kw t0 hk ht0 (v := Int32.ofNat (hLen h i)) (by rw [e3]) hd (same rfl ⟨_, _, rfl, rfl, hr⟩)
        rcases (show hTag h i = 100 ∨ hTag h i = 101 ∨ hTag h i = 102 ∨ hTag h i = 103 ∨ hTag h i = 104 ∨ hTag h i = 105 by omega) with g | g | g | g | g | g
        · obtain ⟨cA, f, e2, hty, -⟩ := hE.i (Or.inl ⟨rfl, rfl⟩) g; exact go e2 rfl hty
        · obtain ⟨cA, f, e2, hty, -⟩ := hE.i (Or.inr (Or.inl ⟨rfl, rfl⟩)) g; exact go e2 rfl hty
        · obtain ⟨cA, f, e2, hty, -⟩ := hE.i (Or.inr (Or.inr ⟨rfl, rfl⟩)) g; exact go e2 rfl hty
        · obtain ⟨cA, f, e2, hty, -⟩ := hE.l g; exact go e2 rfl hty
        · obtain ⟨cA, f, e2, hty, -⟩ := hE.d g; exact go e2 rfl hty
        · obtain ⟨cA, f, e2, hty, -⟩ := hE.q g; exact go e2 rfl hty
      · cases hm
    · cases hm
  | new ix =>
    simp only [mLen] at hn; subst hn
    simp only [mMem] at hm
    split at hm
    · next hc =>
      cases hm
      simp only [mLinkOk] at hl
      rw [if_neg (by omega)] at hl
      split at hl
      · next qc hq =>
        have hlk := of_decide_eq_true hl
        have ok := cls_ok _ _ hq
        have hcl : cls.getD a (mR0, mT0, 0) = qc := by rw [List.getD_eq_getElem?_getD, hq]; rfl
        rw [hcl] at hcells hslots new1
        have hcells : cells + (h.1 + 1 - h.1) ≤ R.cells := hcells
        have hslots : slots + (h.2.1 + qc.2.2 - h.2.1) ≤ R.slots := hslots
        refine va_new (C := qc.1) (T := qc.2.1) (N := qc.2.2) (fs := (List.range qc.2.2).map (fun k => defaultValue (clsTy a k))) hx hb hts (u_ws_g ok) (clsTy a) ok.2.1 hown (hts _ (in_gtbl_at hlk rfl)) (hts _ (in_gtbl ok.2.2.2.1 rfl)) (hts _ (in_gtbl ok.2.2.2.2.1 rfl)) hK hP hD hS hA hq (fun j hj => ?_) (by omega) (by omega) hd (fun q0 H1 g2 g3 g4 => new1 (ty' := []) rfl ⟨_, _, rfl, ⟨q0, by rw [← hH.1]; simp, rfl⟩, hr.app⟩ (by rw [List.append_nil]; exact hK) g2 g3 g4 ?_)
        · unfold vp_V
          rw [List.getD_eq_getElem?_getD, List.getElem?_map, List.getElem?_range hj]
          rfl
        · refine ⟨rfl, ⟨qc, hq, by simp⟩, by simp, fun k' v' hk' => ?_⟩
          dsimp only at hk' ⊢
          rw [List.getElem?_map] at hk'
          obtain ⟨z, hz, rfl⟩ := Option.map_eq_some_iff.mp hk'
          have : z = k' := by
            rw [List.getElem?_eq_some_iff] at hz
            obtain ⟨hz1, hz2⟩ := hz
            rw [List.getElem_range] at hz2
            exact hz2.symm
          subst this
          exact vr_default _ _
      · cases hl
    · cases hm
  | newarray t =>
    simp only [mLen] at hn; subst hn
    simp only [mMem] at hm
    split at hm
    · next z r kk ft hz =>
      split at hm
      · next hc =>
        cases hm
        obtain ⟨_, cr, rfl, rfl, hr⟩ := hr
        have hcells : cells + (h.1 + 1 - h.1) ≤ R.cells := hcells
        have hslots : slots + (h.2.1 + z.toNatClampNeg - h.2.1) ≤ R.slots := hslots
        have hrl : ∀ q0 : Nat, rl (ad ++ [q0]) (.ref h.1 :: r) (.ref q0 :: cr) := fun q0 => ⟨_, _, rfl, ⟨q0, by rw [← hH.1]; simp, rfl⟩, hr.app⟩
        have hin : ∀ {x : ClassId × FieldType}, x ∈ tys ++ [x] := fun {x} => List.mem_append_right _ List.mem_cons_self
        cases t with
        | int => cases hz; exact va_newa (ty := .int) (a0 := (z.toNatClampNeg, .inl (fun _ => 0))) hx hb (hts _ (in_gtbl (List.mem_of_getElem? (i := 181) (by decide +kernel)) rfl)) rfl hK hP hD hS hA (fun _ => rfl) hc.1 rfl (by simp only [componentBytes]; omega) (by omega) (by omega) hd (fun q0 cA H1 g1 g2 g3 g4 => new1 rfl (hrl q0) g1 g2 g3 g4 ⟨rfl, Or.inl ⟨rfl, hin⟩, fun _ _ => rfl⟩)
        | char => cases hz; exact va_newa (ty := .char) (a0 := (z.toNatClampNeg, .inl (fun _ => 0))) hx hb (hts _ (in_gtbl (List.mem_of_getElem? (i := 1396) (by decide +kernel)) rfl)) rfl hK hP hD hS hA (fun _ => rfl) hc.1 rfl (by simp only [componentBytes]; omega) (by omega) (by omega) hd (fun q0 cA H1 g1 g2 g3 g4 => new1 rfl (hrl q0) g1 g2 g3 g4 ⟨rfl, Or.inr (Or.inl ⟨rfl, hin⟩), fun _ _ => rfl⟩)
        | boolean => cases hz; exact va_newa (ty := .boolean) (a0 := (z.toNatClampNeg, .inl (fun _ => 0))) hx hb (hts _ (in_gtbl (List.mem_of_getElem? (i := 1397) (by decide +kernel)) rfl)) rfl hK hP hD hS hA (fun _ => rfl) hc.1 rfl (by simp only [componentBytes]; omega) (by omega) (by omega) hd (fun q0 cA H1 g1 g2 g3 g4 => new1 rfl (hrl q0) g1 g2 g3 g4 ⟨rfl, Or.inr (Or.inr ⟨rfl, hin⟩), fun _ _ => rfl⟩)
        | long => cases hz; exact va_newa (ty := .long) (a0 := (z.toNatClampNeg, .inr (.inl (fun _ => 0)))) hx hb (hts _ (in_gtbl (List.mem_of_getElem? (i := 1398) (by decide +kernel)) rfl)) rfl hK hP hD hS hA (fun _ => rfl) hc.1 rfl (by simp only [componentBytes]; omega) (by omega) (by omega) hd (fun q0 cA H1 g1 g2 g3 g4 => new1 rfl (hrl q0) g1 g2 g3 g4 ⟨rfl, ⟨rfl, hin⟩, fun _ _ => rfl⟩)
        | double => cases hz; exact va_newa (ty := .double) (a0 := (z.toNatClampNeg, .inr (.inr (.inr (.inl (fun _ => 0)))))) hx hb (hts _ (in_gtbl (List.mem_of_getElem? (i := 1399) (by decide +kernel)) rfl)) rfl hK hP hD hS hA (fun _ => rfl) hc.1 rfl (by simp only [componentBytes]; omega) (by omega) (by omega) hd (fun q0 cA H1 g1 g2 g3 g4 => new1 rfl (hrl q0) g1 g2 g3 g4 ⟨rfl, ⟨rfl, hin⟩, fun _ _ => rfl⟩)
        | _ => cases hz
      · cases hm
    · cases hm
  | anewarray ix =>
    simp only [mLen] at hn; subst hn
    simp only [mMem] at hm
    split at hm
    · next z r =>
      split at hm
      · next hc =>
        cases hm
        obtain ⟨_, cr, rfl, rfl, hr⟩ := hr
        have hcells : cells + (h.1 + 1 - h.1) ≤ R.cells := hcells
        have hslots : slots + (h.2.1 + z.toNatClampNeg - h.2.1) ≤ R.slots := hslots
        simp only [mLinkOk, Bool.and_eq_true, decide_eq_true_eq] at hl
        exact va_newq (C := mR8) hx hb hown (hts _ (in_gtbl_at hl.2 rfl)) hnw.1 hK hP hD hS hA hc.1 rfl (by omega) (by omega) (by omega) hd (fun q0 cA H1 g1 g2 g3 g4 => new1 rfl ⟨_, _, rfl, ⟨q0, by rw [← hH.1]; simp, rfl⟩, hr.app⟩ g1 g2 g3 g4 ⟨rfl, ⟨rfl, List.mem_append_right _ List.mem_cons_self⟩, fun _ _ => rfl⟩)
      · cases hm
    · cases hm
  | _ => simp only [mMem] at hm; cases hm
end SVC
