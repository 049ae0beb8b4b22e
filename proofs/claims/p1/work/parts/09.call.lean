/-! Calls. -/
def ro (ad : List Nat) (r v : Option Value) : Prop := match r with
  | none => v = none
  | some x => ∃ c, v = some c ∧ vr ad x c
def mRm (d : Nat) (h h' : mHp) : Room := { frames := d + 10, cells := h'.1 - h.1, slots := h'.2.1 - h.2.1, locals := 60 * (d + 4) }
def mQc (D : va_G) (ad : List Nat) (ws : va_W) (sz : Nat) (r : Option Value) (h' : mHp) : Array Value → State → Outcome → State → Prop := fun _ st oc t =>
  (∃ v, oc = .returned v ∧ ∃ (x : List Nat) (ws' : va_W) (tys' : List (ClassId × FieldType)), ro (ad ++ x) r v ∧ hR (ad ++ x) ws' tys' h' ∧ va_P D cls ws' t.heap ∧ va_K D cls tys' t ∧ va_D (va_A ws sz) ws') ∧ va_F (va_A ws sz) st t
def mPc (D : va_G) (ws : va_W) (tys : List (ClassId × FieldType)) (sz : Nat) : State → Prop := fun U => U.heap.size = sz ∧ va_P D cls ws U.heap ∧ va_K D cls tys U ∧ nwOK U ∧ exOK U ∧ va_D (fun _ => True) ws
/-- the contracts of the methods without an exception table, d deep, where they return -/
def mCt (l : Launch) (F d : Nat) : Prop := ∀ (y : Nat) (q : mMI), mTab[y]? = some q → y < mNC → ∀ (args : List Value) (h : mHp) (r : Option Value) (h' : mHp), mEx F d y args h = some (.inl r, h') →
  ∀ (D : va_G) (ad : List Nat) (ws : va_W) (tys : List (ClassId × FieldType)) (cargs : List Value) (sz : Nat), rl ad args cargs → hR ad ws tys h →
    Met l q.1 (Cond.code q.1 q.2.1 q.2.2.1 q.2.2.2.1 :: gtbl) (mRm d h h') (va_Pc cargs (mPc D ws tys sz)) (mQc D ad ws sz r h') (h'.1 - h.1) (h'.2.1 - h.2.1) (va_A ws sz)
theorem nwOK.calling {U : State} {g : JFrame} {mk : MethodId} {a : Array Value} (h : nwOK U) : nwOK (U.calling g mk a) := ⟨h.1.moved (Vm.Alike.refl U.vm), va_Nw.same rfl rfl h.2.1, va_Nw.same rfl rfl h.2.2.1, va_Nw.same rfl rfl h.2.2.2⟩
theorem mPc_blind {D : va_G} {ws : va_W} {tys : List (ClassId × FieldType)} {sz : Nat} {cargs : List Value} : FrameBlind (va_Pc cargs (mPc D ws tys sz)) := fun a U g mk q => by
  obtain ⟨q0, q1, qP, qK, qN, qE, qD⟩ := q
  exact ⟨q0, q1, qP, va_K.moved (u := U) (U := U.calling g mk a) (Vm.Alike.refl U.vm) qK, qN.calling, qE.calling, qD⟩
theorem mIO_at {b : Nat} {q : mMI} (h : mTab[b]? = some q) (hb : b < mNC) : mIO q ∧ mIC q := by
  have h2 : b < 224 := hb
  exact ⟨mTab_ok q (List.mem_of_getElem? (i := b) (by rw [List.getElem?_take_of_lt (by omega)]; exact h)), mTab_code q (List.mem_of_getElem? (i := b) (by rw [List.getElem?_take_of_lt h2]; exact h))⟩
theorem mInf_at {b : Nat} {q : mMI} (h : mTab[b]? = some q) : mInf b = q := by unfold mInf; rw [List.getD_eq_getElem?_getD, h]; rfl
theorem good_code {q : mMI} (h : mIC q) : GoodIn gtbl (Cond.code q.1 q.2.1 q.2.2.1 q.2.2.2.1 :: gtbl) := by
  intro w hw
  rcases List.mem_cons.mp hw with rfl | hw
  · exact ⟨in_gtbl h rfl, good_of_word rfl⟩
  · exact ⟨hw, good_of_word (List.mem_filter.mp hw).2⟩
/-- what the class tables' own cells are: nobody here writes them -/
def stF (A : Nat → Prop) (H0 : Heap) (s : State) : Prop := ∀ (a : Nat) (cell : Cell), s.heap[a]? = some cell → cell.vm.isStatics = true → H0[a]? = some cell ∧ ¬ A a
theorem stF.now {A : Nat → Prop} {H0 H : Heap} {s : State} {locs : List Loc} (h : stF A H0 s) (hS : va_S A H0 H locs) {a : Nat} {cell : Cell} (h1 : s.heap[a]? = some cell) (h2 : cell.vm.isStatics = true) : H[a]? = some cell := by
  obtain ⟨h3, h4⟩ := h a cell h1 h2
  rw [hS.2.1 a (Array.getElem?_eq_some_iff.mp h3).1 h4]
  exact h3
theorem stF.entry {D : va_G} {ws : va_W} {s : State} (hP : va_P D cls ws s.heap) : stF (va_A ws s.heap.size) s.heap s := by
  intro a cell h1 h2
  refine ⟨h1, fun hA => ?_⟩
  rcases hA with ⟨k, E, hk⟩ | hA
  · have hat := hP k (a, E) hk
    match E, hat with
    | .inl x, hat =>
      have : s.heap[a]? = some (vp_cell x.1 x.2) := hat
      rw [h1] at this
      cases this
      unfold vp_cell at h2
      split at h2 <;> cases h2
    | .inr o, hat =>
      obtain ⟨r, -, cell', h3, -, h5, -⟩ := hat
      rw [h1] at h3
      cases h3
      rw [h5] at h2
      cases h2
  · exact absurd (Array.getElem?_eq_some_iff.mp h1).1 (by omega)
section SVD
variable {p : Program} {l : Launch} {e : Env} {R : Room} {s : State} {m : MethodId} {args : Array Value} {below : List Frame} {meth : Method} {c : Code} {H : Heap} {locs : List Loc} {cells slots : Nat} {Q : State → Prop}
variable {pc : Nat} {ls : Array Slot} {cc : ByteArray} {D : va_G} {A : Nat → Prop} {H0 : Heap}
theorem s_back {mc ms sz : Nat} {st0 rest : List Value} {ad : List Nat} {ws : va_W} {hc : mHp} {r : Option Value} {a : Array Value} (hr : va_Run p l e R s m args below meth c H locs cells slots mc ms (F0 m pc ls st0) rest (mQc D ad ws sz r hc a) (va_A ws sz)) (hS : va_S A H0 H locs) (hf : ∀ q, va_A ws sz q → A q)
    (kk : ∀ (v : Option Value) (x : List Nat) (ws' : va_W) (tys' : List (ClassId × FieldType)) (H1 : Heap) (locs1 : List Loc), ro (ad ++ x) r v → hR (ad ++ x) ws' tys' hc → va_P D cls ws' H1 → va_K D cls tys' s → va_D (va_A ws sz) ws' → va_S A H0 H1 locs1 → W p l e R s m args below meth c H1 locs1 (cells + mc) (slots + ms) Q (F0 m (pc + 3) ls (v.toList ++ rest))) : W p l e R s m args below meth c H locs cells slots Q (F0 m pc ls st0) := by
  intro T hT X
  obtain ⟨v, st₀, t, T', L, h0, X', hL, e1, e2, ⟨⟨v2, hv, x, ws', tys', g1, g2, g3, g4, g5⟩, hz, hk⟩, st⟩ := hr T hT X
  cases hv
  rw [h0] at hz hk
  obtain ⟨t2, a1, b1⟩ := kk v x ws' tys' T'.heap (locs ++ L) g1 g2 (by rw [e1]; exact g3) (va_K.moved (show t.vm.Alike s.vm by rw [← e2]; exact X'.warmed.alike.symm) g4) g5
    ⟨Nat.le_trans hS.1 (by rw [e1]; exact hz), fun q h1 h2 => by rw [e1, hk q (Nat.lt_of_lt_of_le h1 hS.1) (fun z => h2 (hf q z))]; exact hS.2.1 q h1 h2, fun q hq => by
      rcases List.mem_append.mp hq with h | h
      · exact hS.2.2 q h
      · exact hf _ (hL q h)⟩ T' rfl X'
  exact ⟨t2, st t2 a1, b1⟩
theorem mBack_ret {y pc : Nat} {lv : List (Nat × Value)} {rest : List Value} {v : Option Value} {h : mHp} {S : mSt} (hh : mBack y pc lv rest (.inl v, h) = some S) : S = (pc + 3, lv, v.toList ++ rest, h) := (Option.some.inj hh).symm
theorem rl_ro {ad x : List Nat} {r v : Option Value} {rest crest : List Value} (h : ro (ad ++ x) r v) (hr : rl ad rest crest) : rl (ad ++ x) (r.toList ++ rest) (v.toList ++ crest) := by
  cases r with
  | none => rw [show v = none from h]; exact hr.app
  | some z => obtain ⟨c, rfl, hc⟩ := h; exact ⟨_, _, rfl, hc, hr.app⟩
/-- behind the instruction: what all three kinds of call share -/
theorem s_inv1 {F d b : Nat} {qb : mMI} {as cas rest crest st0 : List Value} {h hc : mHp} {r : Option Value} {ad : List Nat} {lv : List (Nat × Value)} {nL : Nat} (IH : mCt l F d) (hqb : mTab[b]? = some qb) (hbn : b < mNC) (hcall : mEx F d b as h = some (.inl r, hc)) (has : rl ad as cas) (hrest : rl ad rest crest)
    (hA : ∀ q, H0.size ≤ q → A q) (hnw : nwOK s) (hex : exOK s) (hSF : stF A H0 s) (hW : mW D A H0 s ad h H locs) (hL : lvR ad nL ls lv)
    (run : ∀ (ws : va_W) (tys : List (ClassId × FieldType)), va_K D cls tys s → va_P D cls ws H → hR ad ws tys h → Met l qb.1 (Cond.code qb.1 qb.2.1 qb.2.2.1 qb.2.2.2.1 :: gtbl) (mRm d h hc) (va_Pc cas (mPc D ws tys H.size)) (mQc D ad ws H.size r hc) (hc.1 - h.1) (hc.2.1 - h.2.1) (va_A ws H.size) → (∀ U : State, U.heap = H → s.WarmedH U.vm → va_Pc cas (mPc D ws tys H.size) cas.toArray U) →
      va_Run p l e R s m args below meth c H locs cells slots (hc.1 - h.1) (hc.2.1 - h.2.1) (F0 m pc ls st0) crest (mQc D ad ws H.size r hc cas.toArray) (va_A ws H.size))
    (k : ∀ ad' cst' H' locs', (∃ x, ad' = ad ++ x) → rl ad' (r.toList ++ rest) cst' → mW D A H0 s ad' hc H' locs' → lvR ad' nL ls lv → W p l e R s m args below meth c H' locs' (cells + (hc.1 - h.1)) (slots + (hc.2.1 - h.2.1)) Q (F0 m (pc + 3) ls cst')) : W p l e R s m args below meth c H locs cells slots Q (F0 m pc ls st0) := by
  obtain ⟨ws, tys, hK, hP, hD, hS, hH⟩ := hW
  have hM := IH b qb hqb hbn as h r hc hcall D ad ws tys cas H.size has hH
  have hf : ∀ q, va_A ws H.size q → A q := by
    intro q hq
    rcases hq with ⟨k', e', h'⟩ | h'
    · exact hD.2 k' (q, e') h'
    · exact hA q (Nat.le_trans hS.1 h')
  refine s_back (run ws tys hK hP hH hM (fun U hU hW => ⟨rfl, by rw [hU], by rw [hU]; exact hP, va_K.moved hW.alike hK, hnw.warm hW, hex.move hW (fun a cell g1 g2 => by rw [hU]; exact hSF.now hS g1 g2), hD.weaken (fun _ _ _ _ => trivial)⟩)) hS hf (fun v x ws' tys' H1 locs1 g1 g2 g3 g4 g5 g6 => ?_)
  exact k (ad ++ x) _ H1 locs1 ⟨x, rfl⟩ (rl_ro g1 hrest) ⟨ws', tys', g4, g3, g5.weaken (fun _ q _ h => hf q.1 h), g6, g2⟩ hL.app
end SVD
