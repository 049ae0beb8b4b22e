/-! Runs and contracts. -/
section SVG
variable {p : Program} {l : Launch} {e : Env} {R : Room} {s : State} {m : MethodId} {args : Array Value} {below : List Frame} {meth : Method} {c : Code} {Q : State → Prop}
variable {D : va_G} {A : Nat → Prop} {H0 : Heap}
/-- a run, up to the step that ends it -/
theorem s_go {F d y : Nat} {q : mMI} {sc : Bool} {h0 : Nat × Nat} {ad0 : List Nat} {r : mRes} {h' : mHp} (hq : mTab[y]? = some q)
    (hx : p.tables.exec = Jvm.exec) (hb : c.code = q.2.1) (hown : s.vm.findClass q.1.cls = some m.cls) (hoy : ownN[mOwn y]? = some q.1.cls) (hts : ∀ w ∈ gtbl, w.before args s = true) (hnw : nwOK s)
    (hA : ∀ q, H0.size ≤ q → A q) (hinit : (mInf y).1.name = "<init>" → meth.name = "<init>") (hcells : h'.1 ≤ h0.1 + R.cells) (hslots : h'.2.1 ≤ h0.2 + R.slots)
    (hinv : ∀ {S S' : mSt} {H : Heap} {locs : List Loc} {cells slots : Nat} {ls : Array Slot} {cst : List Value} {ad : List Nat} (i : Instr) (n a b w : Nat), mcd y S.1 = some (i, n, a, b, w) → mGrp a i = 4 → mInv (mEx F d) y S.1 a b S.2.1 S.2.2.1 S.2.2.2 i = some S' →
      S'.2.2.2.1 ≤ h0.1 + R.cells → S'.2.2.2.2.1 ≤ h0.2 + R.slots → mAt D A H0 s sc q.2.2.1 h0 ad0 S H locs cells slots ls cst ad →
      (∀ ad' cst' H' locs', (∃ x, ad' = ad ++ x) → rl ad' S'.2.2.1 cst' → mW D A H0 s ad' S'.2.2.2 H' locs' → lvR ad' q.2.2.1 ls S'.2.1 → W p l e R s m args below meth c H' locs' (cells + (S'.2.2.2.1 - S.2.2.2.1)) (slots + (S'.2.2.2.2.1 - S.2.2.2.2.1)) Q (F0 m S'.1 ls cst')) → W p l e R s m args below meth c H locs cells slots Q (F0 m S.1 ls cst))
    (kend : ∀ (S : mSt) (H : Heap) (locs : List Loc) (cells slots : Nat) (ls : Array Slot) (cst : List Value) (ad : List Nat), mStep (mEx F d) sc y S = some (.inr (r, h')) → mAt D A H0 s sc q.2.2.1 h0 ad0 S H locs cells slots ls cst ad → W p l e R s m args below meth c H locs cells slots Q (F0 m S.1 ls cst)) :
    ∀ (k : Nat) (S : mSt) (H : Heap) (locs : List Loc) (cells slots : Nat) (ls : Array Slot) (cst : List Value) (ad : List Nat), mGo (mEx F d) sc y k S = some (r, h') → mAt D A H0 s sc q.2.2.1 h0 ad0 S H locs cells slots ls cst ad → W p l e R s m args below meth c H locs cells slots Q (F0 m S.1 ls cst)
  | 0, _, _, _, _, _, _, _, _, h, _ => by cases h
  | k + 1, S, H, locs, cells, slots, ls, cst, ad, h, hAt => by
    simp only [mGo] at h
    split at h
    · cases h
    · next S' hS =>
      have hle := le3.go (le3.ex d) k h
      have c1 : S'.2.2.2.1 ≤ h0.1 + R.cells := Nat.le_trans hle.1 hcells
      have c2 : S'.2.2.2.2.1 ≤ h0.2 + R.slots := Nat.le_trans hle.2.1 hslots
      exact s_step hq hx hb hown hoy hts hnw hA hinit hS hAt c1 c2 (fun i n a b w g1 g2 g3 g4 => hinv i n a b w g1 g2 g3 c1 c2 hAt g4) (fun H' locs' cells' slots' ls' cst' ad' g => s_go hq hx hb hown hoy hts hnw hA hinit hcells hslots hinv kend k S' H' locs' cells' slots' ls' cst' ad' h g)
    · next r' hS => cases h; exact kend S H locs cells slots ls cst ad hS hAt
theorem s_ret {y n : Nat} {q : mMI} {i : Instr} {st cst : List Value} {v : Option Value} {ad : List Nat} {H : Heap} {locs : List Loc} {cells slots pc : Nat} {ls : Array Slot} {Qc : Array Value → State → Outcome → State → Prop} {free : Addr → Prop} (hx : p.tables.exec = Jvm.exec) (hb : c.code = q.2.1) (hr : meth.sig.returnType = q.2.2.2.1) (hlocks : meth.locks = false)
    (hq : mInf y = q) (hd : decode q.2.1 pc = .ok (i, n)) (hn : n = mLen n i) (hm : mRet y st i = some v) (hrl : rl ad st cst) (hQ : ∀ (cv : Option Value) (t : State), ro ad v cv → t.heap = H → s.WarmedH t.vm → Qc args s (.returned cv) t) (hf : ∀ q ∈ locs, free q.base) :
    W p l e R s m args below meth c H locs cells slots (MQ below Qc args s cells slots free) (F0 m pc ls cst) := by
  have hrt : mRetT y = q.2.2.2.1 := by unfold mRetT; rw [hq]
  cases i with
  | return_ =>
    simp only [mLen] at hn; subst hn
    simp only [mRet, hrt] at hm
    split at hm
    · next hret =>
      cases hm
      rw [show cst = [] from hrl]
      exact W.vret hx hb (hr.trans hret) (fun t h1 h2 => hQ none t rfl h1 h2) hf hd hlocks
    · cases hm
  | ireturn =>
    simp only [mLen] at hn; subst hn
    simp only [mRet, hrt] at hm
    split at hm
    · next x t hret =>
      split at hm
      · next hc =>
        cases hm
        obtain ⟨_, cr, rfl, rfl, hrl⟩ := hrl
        rw [show cr = [] from hrl]
        exact W.zret hx hb (hr.trans hret) (narrow_ret hc.1 hc.2) (fun t h1 h2 => hQ (some (.int x)) t ⟨_, rfl, rfl⟩ h1 h2) hf hd hlocks
      · cases hm
    · cases hm
  | dreturn =>
    simp only [mLen] at hn; subst hn
    simp only [mRet, hrt] at hm
    split at hm
    · next x hret =>
      cases hm
      obtain ⟨_, cr, rfl, rfl, hrl⟩ := hrl
      rw [show cr = [] from hrl]
      exact W.dret hx hb (hr.trans hret) (fun t h1 h2 => hQ (some (.double x)) t ⟨_, rfl, rfl⟩ h1 h2) hf hd hlocks
    · cases hm
  | areturn =>
    simp only [mLen] at hn; subst hn
    simp only [mRet, hrt] at hm
    split at hm
    · next j nm hret =>
      cases hm
      obtain ⟨_, cr, rfl, ⟨a', hja, rfl⟩, hrl⟩ := hrl
      rw [show cr = [] from hrl]
      exact W.aret hx hb (hr.trans hret) (Or.inl ⟨_, rfl⟩) (Or.inr ⟨_, rfl⟩) (fun t h1 h2 => hQ (some (.ref a')) t ⟨_, rfl, a', hja, rfl⟩ h1 h2) hf hd hlocks
    · next nm hret =>
      cases hm
      obtain ⟨_, cr, rfl, rfl, hrl⟩ := hrl
      rw [show cr = [] from hrl]
      exact W.aret hx hb (hr.trans hret) (Or.inl ⟨_, rfl⟩) (Or.inl rfl) (fun t h1 h2 => hQ (some .null) t ⟨_, rfl, rfl⟩ h1 h2) hf hd hlocks
    · cases hm
  | _ => simp only [mRet] at hm; cases hm
end SVG
/-- the step that answers -/
theorem step_ret {call : Nat → List Value → mHp → Option (mRes × mHp)} {sc : Bool} {y : Nat} {S : mSt} {v : Option Value} {h' : mHp} (h : mStep call sc y S = some (.inr (.inl v, h'))) : ∃ i n a b w, mcd y S.1 = some (i, n, a, b, w) ∧ mRet y S.2.2.1 i = some v ∧ S.2.2.2 = h' := by
  unfold mStep at h
  split at h
  · cases h
  · next i n a b w hcd =>
    refine ⟨i, n, a, b, w, hcd, ?_⟩
    unfold mIns at h
    split at h
    · obtain ⟨q, -, h2⟩ := Option.map_eq_some_iff.mp h; cases h2
    · obtain ⟨q, -, h2⟩ := Option.map_eq_some_iff.mp h; cases h2
    · obtain ⟨q, -, h2⟩ := Option.bind_eq_some_iff.mp h
      obtain ⟨t, -, h3⟩ := Option.map_eq_some_iff.mp h2
      cases h3
    · split at h
      · cases h
      · obtain ⟨q, -, h2⟩ := Option.map_eq_some_iff.mp h; cases h2
    · obtain ⟨q, -, h2⟩ := Option.map_eq_some_iff.mp h; cases h2
    · obtain ⟨q, h1, h2⟩ := Option.map_eq_some_iff.mp h; cases h2; exact ⟨h1, rfl⟩
    · split at h
      · cases h
      · cases h
set_option maxHeartbeats 4000000 in
theorem mCt_all (l : Launch) (F : Nat) : ∀ d, mCt l F d
  | 0 => fun y q _ _ args h r h' hex => by cases hex
  | d + 1 => fun y q hq hy args h r h' hex D ad ws tys cargs sz hargs hH => by
    obtain ⟨io, ic⟩ := mIO_at hq hy
    have hnL : mMaxL y = q.2.2.1 := by unfold mMaxL; rw [mInf_at hq]
    have hoy : ownN[mOwn y]? = some q.1.cls := by unfold mOwn; rw [mInf_at hq]; exact io.1
    simp only [mEx] at hex
    split at hex
    · next hlen =>
      refine Met.ofW (cc := q.2.1) (maxL := q.2.2.1) (ret := q.2.2.2.1) io.2.2.1 rfl ?_
      intro p e s m args' below meth c s₁ B hml hv
      obtain ⟨rfl, hsz, hP, hK, hN, hE, hD0⟩ := hv
      have hts := atoms_spec (ws := Cond.code q.1 q.2.1 q.2.2.1 q.2.2.2.1 :: gtbl) B.pre
      have hown : s.vm.findClass q.1.cls = some m.cls := findClass_of_methodNamed B.named
      have hin : meth.name = q.1.name := (name_of_methodNamed B.named B.method).1
      subst hsz
      have hD := hD0.self (sz := s.heap.size)
      have hlen2 : (lg_sl cargs).length ≤ q.2.2.1 := by
        have e1 : ∀ {vs cs : List Value}, rl ad vs cs → (lg_sl cs).length = (lg_sl vs).length := by
          intro vs
          induction vs with
          | nil => intro cs h; rw [show cs = [] from h]
          | cons v t ih =>
            intro cs h
            obtain ⟨c, cs', rfl, h2, h3⟩ := h
            have := ih h3
            unfold lg_sl at this ⊢
            simp only [List.flatMap_cons, List.length_append, h2.cat]
            rw [this]
            split <;> rfl
        rw [e1 hargs, ← hnL]
        exact hlen
      have hl := lv_entry cargs (n := q.2.2.1) hlen2
      rw [lg_entry_eq]
      generalize ((lg_sl cargs) ++ List.replicate (q.2.2.1 - (lg_sl cargs).length) Slot.unset).toArray = ls at hl ⊢
      have hge := le3.go (le3.ex d) F hex
      refine s_go (R := (headSpec (Cond.code q.1 q.2.1 q.2.2.1 q.2.2.2.1 :: gtbl) (mRm (d + 1) h h')).room) (A := va_A ws s.heap.size) (H0 := s.heap) (h0 := (h.1, h.2.1)) (ad0 := ad) (D := D) (sc := false) hq B.exec B.bytes hown hoy (fun w hw => hts w (List.mem_cons_of_mem _ hw)) hN (fun q hq => Or.inr hq) (fun hh => by rw [hin, ← mInf_at hq]; exact hh)
        (by have := hge.1; show h'.1 ≤ h.1 + (h'.1 - h.1); omega) (by have := hge.2.1; show h'.2.1 ≤ h.2.1 + (h'.2.1 - h.2.1); omega) ?_ ?_ F _ s.heap [] 0 0 ls [] ad hex ⟨⟨[], (List.append_nil _).symm⟩, ⟨_, hl, rll.args 0 hargs⟩, rfl, ⟨ws, tys, hK, hP, hD, va_S.rf, hH⟩, (fun hh => absurd hh (by decide)), rfl, rfl⟩
      · intro S S' H locs cells slots ls cst ad' i n a b w g1 g2 g3 g4 g5 hAt g6
        obtain ⟨a1, a2, a3, a4, a5, a6, a7⟩ := hAt
        obtain ⟨hd, hn, hlk⟩ := mcd_ok g1 hq
        have hle := le3.inv (le3.ex d) g3
        have l1 := hle.1
        have l2 := hle.2.1
        dsimp only at a6 a7 g4 g5
        exact s_inv (mCt_all l F d) (call_in g1 hy g2) (Or.inl (hand_none hy)) B.exec B.bytes hml hown (fun w hw => hts w (List.mem_cons_of_mem _ hw)) hN (fun q hq => Or.inr hq) hE (stF.entry hP) (by show d + 11 ≤ d + 1 + 10; omega) (by show 60 * (d + 5) ≤ 60 * (d + 1 + 4); omega) hd hn hlk g3 a3 a2 a4 (by omega) (by omega) (fun _ _ _ _ _ _ _ _ _ _ _ _ _ _ _ _ hm => (mBack_no (hand_none hy) hm).elim) g6
      · intro S H locs cells slots ls cst ad' hst hAt
        obtain ⟨⟨x, rfl⟩, a2, a3, a4, a5, a6, a7⟩ := hAt
        obtain ⟨i, n, a, b, w, hcd, hm, rfl⟩ := step_ret hst
        obtain ⟨hd, hn, hlk⟩ := mcd_ok hcd hq
        obtain ⟨ws', tys', hK', hP', hD', hS', hH'⟩ := a4
        dsimp only at a6 a7
        have e1 : cells = S.2.2.2.1 - h.1 := by omega
        have e2 : slots = S.2.2.2.2.1 - h.2.1 := by omega
        subst e1
        subst e2
        exact s_ret (y := y) B.exec B.bytes B.returns B.notSynchronized (mInf_at hq) hd hn hm a3 (fun cv t hro ht hW => ⟨⟨cv, rfl, x, ws', tys', hro, hH', by rw [ht]; exact hP', va_K.moved hW.alike hK', hD'⟩, hS'.F ht⟩) hS'.2.2
    · cases hex
