/-! The three kinds of call. -/
theorem obj_inst : Cond.instanceMethod Lib.objectInit ∈ gtbl := in_gtbl (List.mem_of_getElem? (i := 163) (by decide +kernel)) rfl
theorem obj_code : Cond.code Lib.objectInit ⟨#[0xb1]⟩ 1 none ∈ gtbl := in_gtbl (List.mem_of_getElem? (i := 164) (by decide +kernel)) rfl
theorem min_code : Cond.code Lib.Math.min.name Lib.Math.min.code 2 (some .int) ∈ gtbl := in_gtbl (List.mem_of_getElem? (i := 1014) (by decide +kernel)) rfl
theorem min_stat : Cond.static Lib.Math.min.name ∈ gtbl := in_gtbl (List.mem_of_getElem? (i := 1013) (by decide +kernel)) rfl
theorem min_ini : Cond.initialized "java/lang/Math" ∈ gtbl := in_gtbl (List.mem_of_getElem? (i := 150) (by decide +kernel)) rfl
theorem mBack_no {y pc k : Nat} {lv : List (Nat × Value)} {rest : List Value} {h : mHp} {S : mSt} (hy : mHand y = []) (hh : mBack y pc lv rest (.inr k, h) = some S) : False := by
  simp only [mBack, mCatch, hy] at hh
  cases hh
def nestWs : List Cond := [.methodLinkNest "FunDesk" 9 ⟨"FunDesk$Line", "<init>", "()V"⟩ "FunDesk", .methodLinkNest "FunDesk" 18 ⟨"FunDesk$Tree", "<init>", "()V"⟩ "FunDesk", .methodLinkNest "FunDesk" 37 ⟨"FunDesk$Types", "<init>", "()V"⟩ "FunDesk"]
def nestChk (w : Cond) : Bool := match w with
  | .methodLinkNest a b y h => decide (Cond.methodLinkNest a b y h ∈ nestWs)
  | _ => true
set_option maxRecDepth 100000 in
theorem nest_chk : lw_tbl.all nestChk = true := by decide +kernel
theorem nest_of {s : State} {a : String} {b : Nat} {y : MethodName} {h : String} (hnw : nwOK s) (hw : Cond.methodLinkNest a b y h ∈ lw_tbl) : va_Nw (.methodLinkNest a b y h) s := by
  have h1 := List.all_eq_true.mp nest_chk _ hw
  have h2 : Cond.methodLinkNest a b y h ∈ nestWs := of_decide_eq_true h1
  unfold nestWs at h2
  rcases List.mem_cons.mp h2 with q | h2
  · rw [q]; exact hnw.2.1
  · rcases List.mem_cons.mp h2 with q | h2
    · rw [q]; exact hnw.2.2.1
    · rcases List.mem_cons.mp h2 with q | h2
      · rw [q]; exact hnw.2.2.2
      · exact absurd h2 List.not_mem_nil
theorem drop_take {α : Type} (n : Nat) (l : List α) : ((l.take n).reverse).reverse ++ l.drop n = l := by rw [List.reverse_reverse, List.take_append_drop]
section SVE
variable {p : Program} {l : Launch} {e : Env} {R : Room} {s : State} {m : MethodId} {args : Array Value} {below : List Frame} {meth : Method} {c : Code} {H : Heap} {locs : List Loc} {cells slots : Nat} {Q : State → Prop}
variable {pc : Nat} {ls : Array Slot} {cc : ByteArray} {D : va_G} {A : Nat → Prop} {H0 : Heap}
set_option maxHeartbeats 4000000 in
theorem s_inv {F d : Nat} {own : String} {y a b w n nL : Nat} {i : Instr} {st cst : List Value} {h : mHp} {lv : List (Nat × Value)} {S' : mSt} {ad : List Nat} (IH : mCt l F d) (hbn : a = 4 ∨ a = 5 ∨ b < mNC) (hy : mHand y = [] ∨ ∃ ix, i = .invokevirtual ix)
    (hx : p.tables.exec = Jvm.exec) (hb : c.code = cc) (hml : c.maxLocals = nL) (hown : s.vm.findClass own = some m.cls) (hts : ∀ w ∈ gtbl, w.before args s = true) (hnw : nwOK s)
    (hA : ∀ q, H0.size ≤ q → A q) (hex : exOK s) (hSF : stF A H0 s) (hRf : d + 11 ≤ R.frames) (hRl : 60 * (d + 5) ≤ R.locals)
    (hd : decode cc pc = .ok (i, n)) (hn : n = mLen n i) (hl : mLinkOk own a b w i = true) (hm : mInv (mEx F d) y pc a b lv st h i = some S') (hr : rl ad st cst) (hL : lvR ad nL ls lv) (hW : mW D A H0 s ad h H locs)
    (hcells : cells + (S'.2.2.2.1 - h.1) ≤ R.cells) (hslots : slots + (S'.2.2.2.2.1 - h.2.1) ≤ R.slots)
    (hthr : ∀ (ix j kx : Nat) (hh : mHp) (rest : List Value) (qb : mMI), i = .invokevirtual ix → mTab[b]? = some qb → lw_tbl[w]? = some (.methodLink own ix qb.1) → qb.2.2.2.2.2.2 = 0 → qb.1.name ≠ "<init>" → st.drop (mArgN b) = .ref j :: rest → hTag h j = mOwn b → mOwn b < 12 → mRoom8 rest = true → mEx F d b (.ref j :: (st.take (mArgN b)).reverse) h = some (.inr kx, hh) → mBack y pc lv rest (.inr kx, hh) = some S' → W p l e R s m args below meth c H locs cells slots Q (F0 m pc ls cst))
    (k : ∀ ad' cst' H' locs', (∃ x, ad' = ad ++ x) → rl ad' S'.2.2.1 cst' → mW D A H0 s ad' S'.2.2.2 H' locs' → lvR ad' nL ls S'.2.1 → W p l e R s m args below meth c H' locs' (cells + (S'.2.2.2.1 - h.1)) (slots + (S'.2.2.2.2.1 - h.2.1)) Q (F0 m S'.1 ls cst')) : W p l e R s m args below meth c H locs cells slots Q (F0 m pc ls cst) := by
  have hsz : ls.size = nL := by obtain ⟨clv, h1, -⟩ := hL; exact h1.1
  have hroom : ∀ {rest crest : List Value}, mRoom8 rest = true → rl ad rest crest → (crest.map fun v => v.category).sum ≤ 8 := fun h1 h2 => by rw [h2.cats]; exact of_decide_eq_true h1
  have hRR : ∀ {q : mMI} {h' : mHp}, q.2.2.1 ≤ 30 → (mRm d h h').frames + 1 ≤ R.frames ∧ 8 + (q.2.2.1 + 11) + (mRm d h h').locals ≤ R.locals := by
    intro q h' hq
    have e1 : (mRm d h h').frames = d + 10 := rfl
    have e2 : (mRm d h h').locals = 60 * (d + 4) := rfl
    rw [e1, e2]
    omega
  have hmax : ∀ {j : Nat} {q : mMI}, mTab[j]? = some q → q.2.2.1 ≤ 30 := fun {j q} hj => by
    have := List.all_eq_true.mp (show (mTab.all (fun q => decide (q.2.2.1 ≤ 30))) = true by decide +kernel) q (List.mem_of_getElem? hj)
    exact of_decide_eq_true this
  cases i with
  | invokevirtual ix =>
    simp only [mLen] at hn; subst hn
    simp only [mLinkOk] at hl
    split at hl
    · next qb hqb =>
      simp only [Bool.and_eq_true, decide_eq_true_eq] at hl
      obtain ⟨⟨⟨ha, hlk⟩, hst⟩, hnm⟩ := hl
      have hbn : b < mNC := by omega
      obtain ⟨io, ic⟩ := mIO_at hqb hbn
      have hbi : mOwn b = qb.2.2.2.2.1 ∧ mArgN b = qb.2.2.2.2.2.1 := by unfold mOwn mArgN; rw [mInf_at hqb]; exact ⟨rfl, rfl⟩
      simp only [mInv] at hm
      split at hm
      · next j rest hdr =>
        split at hm
        · next hc =>
          obtain ⟨hc1, hc2, hc3⟩ := hc
          cases hcall : mEx F d b (.ref j :: (st.take (mArgN b)).reverse) h with
          | none => rw [hcall] at hm; cases hm
          | some o =>
            rw [hcall, Option.bind_some] at hm
            obtain ⟨r, hh⟩ := o
            cases r with
            | inr kx => exact hthr ix j kx hh rest qb rfl hqb hlk hst hnm hdr hc1 hc2 hc3 hcall hm
            | inl r =>
              have hS := mBack_ret hm
              subst hS
              have hdc := hr.drop (mArgN b)
              rw [hdr] at hdc
              obtain ⟨_, crest, hcd, ⟨a', hja, rfl⟩, hrest⟩ := hdc
              have hlen : mArgN b ≤ cst.length := by
                have : (cst.drop (mArgN b)).length = cst.length - mArgN b := List.length_drop
                rw [hcd] at this
                simp only [List.length_cons] at this
                omega
              have htk := (hr.take (mArgN b)).rev
              obtain ⟨qc, hqc⟩ : ∃ qc, cls[mOwn b]? = some qc := ⟨_, List.getElem?_eq_getElem (by exact hc2)⟩
              have hcn : qc.1 = qb.1.cls := cls_own hqc (by rw [hbi.1]; exact io.1)
              refine s_inv1 (as := .ref j :: (st.take (mArgN b)).reverse) (cas := .ref a' :: (cst.take (mArgN b)).reverse) IH hqb hbn hcall ⟨_, _, rfl, ⟨a', hja, rfl⟩, htk⟩ hrest hA hnw hex hSF hW hL (fun ws tys hK hP hH hM hPc => ?_) k
              obtain ⟨kw, E, hk, hE⟩ := hH.2.1 j a' hja (by omega)
              obtain ⟨fs, qc', rfl, hq', -, -, -⟩ := hE.obj (show (h.2.2 j).1 < 12 by have : (h.2.2 j).1 = mOwn b := hc1; omega)
              have e1 : (h.2.2 j).1 = mOwn b := hc1
              rw [e1] at hq' hk
              rw [hqc] at hq'
              cases hq'
              have hcw : CallW R s args own qb.1.cls ix qb.1 qb.2.1 qb.2.2.1 qb.2.2.2.1 (Cond.code qb.1 qb.2.1 qb.2.2.1 qb.2.2.2.1 :: gtbl) (mRm d h hh) (hh.1 - h.1) (hh.2.1 - h.2.1) (mArgN b) :=
                ⟨callB_of (Ts := gtbl) (mArgN b) hts (good_code ic) rfl rfl rfl (hts _ (in_gtbl io.2.2.2.1 rfl)) (hts _ (in_gtbl_at hlk rfl)) ⟨io.2.1.1, io.2.1.2.1, by rw [hbi.2]; exact io.2.1.2.2⟩ (hRR (hmax hqb)), hts _ (in_gtbl (io.2.2.2.2.2 hst).1 rfl), hts _ (in_gtbl ((io.2.2.2.2.2 hst).2 hnm) rfl)⟩
              have hrv := va_recv hK hP hqc hk
              rw [hcn] at hrv
              exact va_runV (As := (cst.take (mArgN b)).reverse) (rest := crest) ⟨hx, hb, hml, hown, hts⟩ hM hcw ⟨mPc_blind, hrv, hPc⟩ rfl (by rw [List.length_reverse, List.length_take]; omega) hsz (by show cst = _; rw [List.reverse_reverse, ← hcd, List.take_append_drop]) (lv_room (hroom hc3 hrest)) hd ⟨hcells, hslots⟩
        · cases hm
      · cases hm
    · cases hl
  | invokestatic ix =>
    simp only [mLen] at hn; subst hn
    simp only [mLinkOk] at hl
    simp only [mInv] at hm
    by_cases ha5 : a = 5
    · rw [if_pos ha5] at hl hm
      have hlk := of_decide_eq_true hl
      split at hm
      · next v u rest =>
        split at hm
        · next hc =>
          cases hm
          obtain ⟨_, _, rfl, rfl, _, crest, rfl, rfl, hrest⟩ := hr
          have h8 := hroom hc hrest
          refine va_mmin hx hb (hml.trans hsz.symm) hown (hts _ (in_gtbl_at hlk rfl)) (hts _ min_stat) (hts _ min_ini) (hts _ min_code) (by omega) (by omega) (by omega) (by omega) hd ?_
          exact W.widen (Nat.le_add_right _ _) (Nat.le_add_right _ _) (k ad _ H locs ⟨[], (List.append_nil _).symm⟩ ⟨_, _, rfl, rfl, hrest⟩ hW hL)
        · cases hm
      · cases hm
    · rw [if_neg ha5] at hl hm
      split at hl
      · next qb hqb =>
        simp only [Bool.and_eq_true, decide_eq_true_eq] at hl
        obtain ⟨⟨ha, hlk⟩, hst⟩ := hl
        have hbn : b < mNC := by omega
        obtain ⟨io, ic⟩ := mIO_at hqb hbn
        have hbi : mArgN b = qb.2.2.2.2.2.1 := by unfold mArgN; rw [mInf_at hqb]
        split at hm
        · next hc =>
          obtain ⟨hc1, hc3⟩ := hc
          cases hcall : mEx F d b (st.take (mArgN b)).reverse h with
          | none => rw [hcall] at hm; cases hm
          | some o =>
            rw [hcall, Option.bind_some] at hm
            obtain ⟨r, hh⟩ := o
            cases r with
            | inr kx => exact (hy.elim (fun hy => (mBack_no hy hm).elim) (fun hy => by obtain ⟨ix', hy⟩ := hy; cases hy))
            | inl r =>
              have hS := mBack_ret hm
              subst hS
              have hrest := hr.drop (mArgN b)
              have htk := (hr.take (mArgN b)).rev
              have hlen : mArgN b ≤ cst.length := by rw [hr.len]; exact hc1
              refine s_inv1 (as := (st.take (mArgN b)).reverse) (cas := (cst.take (mArgN b)).reverse) IH hqb hbn hcall htk hrest hA hnw hex hSF hW hL (fun ws tys hK hP hH hM hPc => ?_) k
              have hcw : CallB R s args own ix qb.1 qb.2.1 qb.2.2.1 qb.2.2.2.1 (Cond.code qb.1 qb.2.1 qb.2.2.1 qb.2.2.2.1 :: gtbl) (mRm d h hh) (hh.1 - h.1) (hh.2.1 - h.2.1) (mArgN b) ∧ (Cond.static qb.1).before args s = true :=
                ⟨callB_of (Ts := gtbl) (mArgN b) hts (good_code ic) rfl rfl rfl (hts _ (in_gtbl io.2.2.2.1 rfl)) (hts _ (in_gtbl_at hlk rfl)) ⟨io.2.1.1, io.2.1.2.1, by rw [hbi]; exact io.2.1.2.2⟩ (hRR (hmax hqb)), hts _ (in_gtbl (io.2.2.2.2.1 hst) rfl)⟩
              exact va_runS (As := (cst.take (mArgN b)).reverse) (rest := cst.drop (mArgN b)) ⟨hx, hb, hml, hown, hts⟩ hM hcw ⟨mPc_blind, hPc⟩ rfl (by rw [List.length_reverse, List.length_take]; omega) hsz (by show cst = _; rw [List.reverse_reverse, List.take_append_drop]) (lv_room (hroom hc3 hrest)) hd ⟨hcells, hslots⟩
        · cases hm
      · cases hl
  | invokespecial ix =>
    simp only [mLen] at hn; subst hn
    simp only [mLinkOk] at hl
    simp only [mInv] at hm
    by_cases ha4 : a = 4
    · rw [if_pos ha4] at hl hm
      have hlk := of_decide_eq_true hl
      split at hm
      · next j rest =>
        split at hm
        · next hc =>
          cases hm
          obtain ⟨_, crest, rfl, ⟨a', hja, rfl⟩, hrest⟩ := hr
          have h8 := hroom hc hrest
          have h9 := lv_room (m := m) (pc := pc) (ls := ls) (rest := .ref a' :: crest) h8
          refine W.objInit hx hb hown (hts _ (in_gtbl_at hlk rfl)) (hts _ obj_inst) (hts _ obj_code) rfl (hsz.trans hml.symm) (rest := crest) rfl hd (by omega) (by omega) ?_
          exact W.widen (Nat.le_add_right _ _) (Nat.le_add_right _ _) (k ad _ H locs ⟨[], (List.append_nil _).symm⟩ hrest hW hL)
        · cases hm
      · cases hm
    · rw [if_neg ha4] at hl hm
      by_cases ha9 : a = 9
      · rw [if_pos ha9] at hm; cases hm
      · rw [if_neg ha9] at hl hm
        split at hl
        · next qb hqb =>
          simp only [Bool.and_eq_true, decide_eq_true_eq] at hl
          obtain ⟨⟨⟨hnm, hst⟩, hret⟩, hlk⟩ := hl
          have ha5 : a ≠ 5 := by
            intro q
            subst q
            simp at hlk
          have hbn : b < mNC := by omega
          obtain ⟨io, ic⟩ := mIO_at hqb hbn
          have hbi : mOwn b = qb.2.2.2.2.1 ∧ mArgN b = qb.2.2.2.2.2.1 := by unfold mOwn mArgN; rw [mInf_at hqb]; exact ⟨rfl, rfl⟩
          split at hm
          · next j rest hdr =>
            split at hm
            · next hc =>
              obtain ⟨hc1, hc2, hc3⟩ := hc
              cases hcall : mEx F d b (.ref j :: (st.take (mArgN b)).reverse) h with
              | none => rw [hcall] at hm; cases hm
              | some o =>
                rw [hcall, Option.bind_some] at hm
                obtain ⟨r, hh⟩ := o
                cases r with
                | inr kx => exact (hy.elim (fun hy => (mBack_no hy hm).elim) (fun hy => by obtain ⟨ix', hy⟩ := hy; cases hy))
                | inl r =>
                  have hS := mBack_ret hm
                  subst hS
                  have hdc := hr.drop (mArgN b)
                  rw [hdr] at hdc
                  obtain ⟨_, crest, hcd, ⟨a', hja, rfl⟩, hrest⟩ := hdc
                  have hlen : mArgN b ≤ cst.length := by
                    have : (cst.drop (mArgN b)).length = cst.length - mArgN b := List.length_drop
                    rw [hcd] at this
                    simp only [List.length_cons] at this
                    omega
                  have htk := (hr.take (mArgN b)).rev
                  refine s_inv1 (as := .ref j :: (st.take (mArgN b)).reverse) (cas := .ref a' :: (cst.take (mArgN b)).reverse) IH hqb hbn hcall ⟨_, _, rfl, ⟨a', hja, rfl⟩, htk⟩ hrest hA hnw hex hSF hW hL (fun ws tys hK hP hH hM hPc => ?_) k
                  have hg := good_code ic
                  rw [hret] at hM hg
                  have hdd : qb.1.cls ≠ "java/lang/invoke/MethodHandle" ∧ qb.1.cls ≠ "java/lang/invoke/VarHandle" ∧ (parseMethodDescriptor qb.1.desc).map (fun d => d.parameters.length) = some (mArgN b) := ⟨io.2.1.1, io.2.1.2.1, by rw [hbi.2]; exact io.2.1.2.2⟩
                  by_cases ha2 : a = 2
                  · rw [if_pos ha2] at hlk
                    have hlk := of_decide_eq_true hlk
                    have hcw : CallB R s args own ix qb.1 qb.2.1 qb.2.2.1 none (Cond.code qb.1 qb.2.1 qb.2.2.1 none :: gtbl) (mRm d h hh) (hh.1 - h.1) (hh.2.1 - h.2.1) (mArgN b) ∧ qb.1.name = "<init>" ∧ (Cond.instanceMethod qb.1).before args s = true :=
                      ⟨callB_of (Ts := gtbl) (mArgN b) hts hg rfl rfl rfl (hts _ (in_gtbl io.2.2.2.1 rfl)) (hts _ (in_gtbl_at hlk rfl)) hdd (hRR (hmax hqb)), hnm, hts _ (in_gtbl (io.2.2.2.2.2 hst).1 rfl)⟩
                    exact va_runI (As := (cst.take (mArgN b)).reverse) (rest := crest) ⟨hx, hb, hml, hown, hts⟩ hM hcw ⟨mPc_blind, hPc⟩ rfl (by rw [List.length_reverse, List.length_take]; omega) hsz (by show cst = _; rw [List.reverse_reverse, ← hcd, List.take_append_drop]) (lv_room (hroom hc3 hrest)) hd ⟨hcells, hslots⟩
                  · rw [if_neg ha2] at hlk
                    simp only [Bool.and_eq_true, decide_eq_true_eq] at hlk
                    have hN : va_Nw (.methodLinkNest own ix qb.1 "FunDesk") s := nest_of hnw (List.mem_of_getElem? hlk.2)
                    exact va_runIN (As := (cst.take (mArgN b)).reverse) (rest := crest) ⟨hx, hb, hml, hown, hts⟩ hM ⟨va_cnB (Ts := gtbl) (mArgN b) hts hg rfl rfl rfl hN (hts _ (in_gtbl io.2.2.2.1 rfl)) hdd (hRR (hmax hqb)), hnm, hts _ (in_gtbl (io.2.2.2.2.2 hst).1 rfl)⟩ ⟨mPc_blind, hPc⟩ rfl (by rw [List.length_reverse, List.length_take]; omega) hsz (by show cst = _; rw [List.reverse_reverse, ← hcd, List.take_append_drop]) (lv_room (hroom hc3 hrest)) hd ⟨hcells, hslots⟩
            · cases hm
          · cases hm
        · cases hl
  | _ => simp only [mInv] at hm; cases hm
end SVE
