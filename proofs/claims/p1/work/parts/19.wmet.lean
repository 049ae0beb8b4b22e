/-! The contracts of the law's own small methods. -/
theorem go_kind {call : Nat → List Value → mHp → Option (mRes × mHp)} {sc : Bool} {y k : Nat} {hh : mHp} : ∀ (n : Nat) {S : mSt}, mGo call sc y n S = some (.inr k, hh) → k < 5
  | 0, _, h => by cases h
  | n + 1, S, h => by
    simp only [mGo] at h
    split at h
    · cases h
    · next S' hS => exact go_kind n h
    · next r hS =>
      cases h
      obtain ⟨i, n, a, b, w, -, -, ha, rfl, -⟩ := step_thr hS
      omega
theorem ex_kind {F d y k : Nat} {as : List Value} {h hh : mHp} (hx : mEx F d y as h = some (.inr k, hh)) : k < 5 := by
  cases d with
  | zero => cases hx
  | succ d =>
    simp only [mEx] at hx
    split at hx
    · exact go_kind F hx
    · cases hx
def wrapChk (o : Option mEnt) : Bool := match o with
  | none => true
  | some (i, _, a, b, _) => !(mGrp a i == 4) || (match i with | .invokevirtual _ => decide (b < mNC) | _ => false)
theorem wrap_chk : ((cdT.drop 224).take 5).all (fun L => L.all wrapChk) = true := by decide +kernel
theorem wrap_in {y pc : Nat} {i : Instr} {n a b w : Nat} (h : mcd y pc = some (i, n, a, b, w)) (hy1 : 224 ≤ y) (hy2 : y < 229) (hg : mGrp a i = 4) : (∃ ix, i = .invokevirtual ix) ∧ b < mNC := by
  obtain ⟨L, q', hL, -, hx, -⟩ := mcd_row h
  have h1 := List.all_eq_true.mp wrap_chk L (List.mem_of_getElem? (i := y - 224) (by rw [List.getElem?_take_of_lt (by omega), List.getElem?_drop, show 224 + (y - 224) = y by omega]; exact hL))
  have h2 := List.all_eq_true.mp h1 _ (List.mem_of_getElem? hx)
  simp only [wrapChk, hg, Bool.or_eq_true, Bool.not_eq_true'] at h2
  rcases h2 with h2 | h2
  · simp at h2
  · split at h2
    · next ix => exact ⟨⟨_, rfl⟩, of_decide_eq_true h2⟩
    · cases h2
theorem wrap_own : ((mTab.drop 224).take 5).all (fun q => decide (q.1.cls = "FunDeskLaw") && decide (q.2.2.2.2.2.2 = 1)) = true := by decide +kernel
theorem wrap_code (y : Nat) (q : mMI) (hq : mTab[y]? = some q) (hy1 : 224 ≤ y) (hy2 : y < 229) : Cond.codeWith q.1 q.2.1 q.2.2.1 q.2.2.2.1 (hhT y) ∈ gtbl ∧ q.1.cls = "FunDeskLaw" ∧ q.2.2.2.2.2.2 = 1 := by
  have h1 := List.all_eq_true.mp wrap_own q (List.mem_of_getElem? (i := y - 224) (by rw [List.getElem?_take_of_lt (by omega), List.getElem?_drop, show 224 + (y - 224) = y by omega]; exact hq))
  simp only [Bool.and_eq_true, decide_eq_true_eq] at h1
  refine ⟨?_, h1⟩
  rcases (show y = 224 ∨ y = 225 ∨ y = 226 ∨ y = 227 ∨ y = 228 by omega) with rfl | rfl | rfl | rfl | rfl
  · cases (show mI224 = q from Option.some.inj hq); exact cw224
  · cases (show mI225 = q from Option.some.inj hq); exact cw225
  · cases (show mI226 = q from Option.some.inj hq); exact cw226
  · cases (show mI227 = q from Option.some.inj hq); exact cw227
  · cases (show mI228 = q from Option.some.inj hq); exact cw228
def mCtW (l : Launch) (F d : Nat) : Prop := ∀ (y : Nat) (q : mMI), mTab[y]? = some q → 224 ≤ y → y < 229 → ∀ (args : List Value) (h : mHp) (r : Option Value) (h' : mHp), mEx F d y args h = some (.inl r, h') →
  ∀ (D : va_G) (ad : List Nat) (ws : va_W) (tys : List (ClassId × FieldType)) (cargs : List Value) (sz : Nat), rl ad args cargs → hR ad ws tys h →
    Met l q.1 (Cond.codeWith q.1 q.2.1 q.2.2.1 q.2.2.2.1 (hhT y) :: gtbl) (mRm d h h') (va_Pc cargs (mPc D ws tys sz)) (mQc D ad ws sz r h') (h'.1 - h.1) (h'.2.1 - h.2.1) (va_A ws sz)
set_option maxHeartbeats 4000000 in
theorem mCtW_all (l : Launch) (hnt : l.stackTraces = false) (F : Nat) : ∀ d, mCtW l F d
  | 0 => fun y q _ _ _ args h r h' hex => by cases hex
  | d + 1 => fun y q hq hy1 hy2 args h r h' hex D ad ws tys cargs sz hargs hH => by
    have io := mTab_ok q (List.mem_of_getElem? (i := y) (by rw [List.getElem?_take_of_lt (by omega)]; exact hq))
    obtain ⟨wc, wo, -⟩ := wrap_code y q hq hy1 hy2
    have hnL : mMaxL y = q.2.2.1 := by unfold mMaxL; rw [mInf_at hq]
    have hoy : ownN[mOwn y]? = some q.1.cls := by unfold mOwn; rw [mInf_at hq]; exact io.1
    simp only [mEx] at hex
    split at hex
    · next hlen =>
      refine va_MetW (cc := q.2.1) (maxL := q.2.2.1) (ret := q.2.2.2.1) (hh := hhT y) io.2.2.1 rfl ?_
      intro p e s m args' below meth c s₁ B hml hv
      obtain ⟨rfl, hsz, hP, hK, hN, hE, hD0⟩ := hv
      have hts := atoms_spec (ws := Cond.codeWith q.1 q.2.1 q.2.2.1 q.2.2.2.1 (hhT y) :: gtbl) B.pre
      have hts' : ∀ w ∈ gtbl, w.before cargs.toArray s = true := fun w hw => hts w (List.mem_cons_of_mem _ hw)
      have hown : s.vm.findClass q.1.cls = some m.cls := findClass_of_methodNamed B.named
      have hin : meth.name = q.1.name := (name_of_methodNamed B.named B.method).1
      have hEx : c.exceptionTable.toList.map tup = hhT y := by
        obtain ⟨m9, meth9, c9, hn9, g1, g2, -, -, g5, -⟩ := Cond.codeWith_spec (hts _ List.mem_cons_self)
        cases B.named.symm.trans hn9
        cases B.method.symm.trans g1
        cases (Stand.of_body B).code.symm.trans g2
        exact g5
      subst hsz
      have hD := hD0.self (sz := s.heap.size)
      have hl := lv_entry cargs (n := q.2.2.1) (by rw [lg_len hargs, ← hnL]; exact hlen)
      rw [lg_entry_eq]
      generalize ((lg_sl cargs) ++ List.replicate (q.2.2.1 - (lg_sl cargs).length) Slot.unset).toArray = ls at hl ⊢
      have hge := le3.go (le3.ex d) F hex
      refine s_go (R := (headSpec (Cond.codeWith q.1 q.2.1 q.2.2.1 q.2.2.2.1 (hhT y) :: gtbl) (mRm (d + 1) h h')).room) (A := va_A ws s.heap.size) (H0 := s.heap) (h0 := (h.1, h.2.1)) (ad0 := ad) (D := D) (sc := false) hq B.exec B.bytes hown hoy hts' hN (fun q hq => Or.inr hq) (fun hh => by rw [hin, ← mInf_at hq]; exact hh)
        (by have := hge.1; show h'.1 ≤ h.1 + (h'.1 - h.1); omega) (by have := hge.2.1; show h'.2.1 ≤ h.2.1 + (h'.2.1 - h.2.1); omega) ?_ ?_ F _ s.heap [] 0 0 ls [] ad hex ⟨⟨[], (List.append_nil _).symm⟩, ⟨_, hl, rll.args 0 hargs⟩, rfl, ⟨ws, tys, hK, hP, hD, va_S.rf, hH⟩, (fun hh => absurd hh (by decide)), rfl, rfl⟩
      · intro S S' H locs cells slots ls cst ad' i n a b w g1 g2 g3 g4 g5 hAt g6
        obtain ⟨a1, a2, a3, a4, a5, a6, a7⟩ := hAt
        obtain ⟨hd, hn, hlk⟩ := mcd_ok g1 hq
        obtain ⟨⟨ix0, rfl⟩, hbn⟩ := wrap_in g1 hy1 hy2 g2
        have hle := le3.inv (le3.ex d) g3
        have l1 := hle.1
        have l2 := hle.2.1
        dsimp only at a6 a7 g4 g5
        have hn3 : n = 3 := hn
        refine s_inv (mCt_all l F d) (Or.inr (Or.inr hbn)) (Or.inr ⟨_, rfl⟩) B.exec B.bytes hml hown hts' hN (fun q hq => Or.inr hq) hE (stF.entry hP) (by show d + 11 ≤ d + 1 + 10; omega) (by show 60 * (d + 5) ≤ 60 * (d + 1 + 4); omega) hd hn hlk g3 a3 a2 a4 (by omega) (by omega) (fun ix j kx hh rest qb e1 hqb hlk2 hst hnm hdr hc1 hc2 hc3 hcall hm => ?_) g6
        cases e1
        subst hn3
        exact s_invT (mCtX_all l hnt F d) hbn (ex_kind hcall) hy1 hy2 hEx B.exec B.bytes hml (by rw [← wo]; exact hown) hts' hN (fun q hq => Or.inr hq) hE (stF.entry hP) (by show d + 11 ≤ d + 1 + 10; omega) (by show 60 * (d + 5) ≤ 60 * (d + 1 + 4); omega) hd hqb (by rw [wo] at hlk2; exact hlk2) hst hnm hdr hc1 hc2 hc3 hcall hm a3 a2 a4 (by omega) (by omega) g6
      · intro S H locs cells slots ls cst ad' hst hAt
        obtain ⟨⟨x, rfl⟩, a2, a3, a4, a5, a6, a7⟩ := hAt
        obtain ⟨i, n, a, b, w, hcd, hm, rfl⟩ := step_ret hst
        obtain ⟨hd, hn, hlk⟩ := mcd_ok hcd hq
        obtain ⟨ws', tys', hK', hP', hD', hS', hH'⟩ := a4
        dsimp only at a6 a7
        have e1 : cells = S.2.2.2.1 - h.1 := by omega
        have e2 : slots = S.2.2.2.2.1 - h.2.1 := by omega
        subst e1
        subst e2
        exact s_ret (y := y) B.exec B.bytes B.returns B.notSynchronized (mInf_at hq) hd hn hm a3 (fun cv t hro ht hW => ⟨⟨cv, rfl, x, ws', tys', hro, hH', by rw [ht]; exact hP', va_K.moved hW.alike hK', hD'⟩, hS'.F ht⟩) hS'.2.2
    · cases hex
