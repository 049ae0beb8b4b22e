/-! The model's run and working out with places: what stands for what. -/
/-- a tree's code, its names among G -/
def nC (σ0 : Mem) (T : Tr) (G : List Int) (p : Int) : Prop := (∃ s, isC (prM σ0) T p s ∧ 0 ≤ s ∧ s + sn T ≤ 80) ∧ isN (prM σ0) T p G ∧ (0 ≤ p ∧ p + ln T ≤ σ0 58 11)
/-- a function's place: behind its first instruction -/
def pfM (σ0 : Mem) (lam : Tr) (G : List Int) (p : Int) : Prop := nC σ0 lam G (p - 1) ∧ isFn lam
/-- where the j-th part ends -/
def ofM (j k : Nat) (a b c : Int) : Int := if j = 1 then (if k = 14 then 1 + a else a) else if j = 3 then a + b + c + 2 else if k = 13 ∨ k = 15 then a + 1 + b else if k = 14 then a + 2 + b else if k = 17 then 1 + b else a + b
/-- where the step's instruction is -/
def stM (k : Nat) (a b : Int) : Int := if k = 9 ∨ k = 10 ∨ k = 11 then a + b else if k = 14 then 1 + a else a
/-- p is behind a part with this way up; G: the names there; E: within a function that was called -/
def cxM (σ0 : Mem) (E : Bool) : Cx → List Int → Int → Prop
  | [], _, p => if E = true then (0 ≤ p ∧ p < σ0 58 11) ∧ σ0 63 p = 7 ∧ σ0 64 p = 0 else p = σ0 58 11
  | (j, .tag k (.nest z (.append A (.append B C)))) :: cx, G, p => ∃ a, nC σ0 (nd k z A B C) (if j ≠ 1 ∧ bk3 (nd k z A B C) = true then G.drop (numB (nd k z A B C)) else G) a ∧ p = a + ofM j k (ln A) (ln B) (ln C) ∧ (j ≠ 1 ∧ bk3 (nd k z A B C) = true → numB (nd k z A B C) ≤ G.length) ∧ cxM σ0 E cx (if j ≠ 1 ∧ bk3 (nd k z A B C) = true then G.drop (numB (nd k z A B C)) else G) (a + ln (nd k z A B C) + (if k = 17 then 1 else 0))
  | _ :: _, _, _ => False
/-- the program's rows -/
def pgM (σ σ' : Mem) : Prop := (∀ i, i = 63 ∨ i = 64 ∨ i = 65 ∨ i = 68 ∨ i = 69 ∨ i = 75 → σ' i = σ i) ∧ σ' 58 11 = σ 58 11
/-- the top value; REC's first part may want REC's name -/
def tpM (σ0 : Mem) (h : mHp) (σ : Mem) (m : MBd) : Option Int → Va → Int → Prop
  | none, v, y => RMv h σ (pfM σ0) m v false y
  | some z, v, y => ∃ lam ρ p e, v = vF lam ρ ∧ y = 8 * (8192 * p + e) + 6 ∧ (0 ≤ p ∧ p ≤ 124) ∧ (0 ≤ e ∧ e ≤ m.2.2) ∧ pfM σ0 lam (z :: nmEn ρ) p ∧ RMv h σ (pfM σ0) m ρ true (σ 58 58)
/-- the values that wait -/
def vaM (h : mHp) (σ0 σ : Mem) (m : MBd) : List Va → Prop
  | [] => True
  | v :: vs => (∃ y, hAt h 89 vs.length = vlg y ∧ RMv h σ (pfM σ0) m v false y) ∧ vaM h σ0 σ m vs
/-- the callers -/
def bkM (h : mHp) (σ0 σ : Mem) (m : MBd) : List (Cx × En) → Prop
  | [] => True
  | f :: fs => (cxM σ0 (!fs.isEmpty) f.1 (nmEn f.2) (σ 90 fs.length) ∧ RMv h σ (pfM σ0) m f.2 true (σ 91 fs.length)) ∧ bkM h σ0 σ m fs
/-- what is bound, the callers, how much is made; s: steps so far -/
def mB (σ0 : Mem) (h : mHp) (σ : Mem) (ρ : En) (fs : List (Cx × En)) (s : Int) : Prop := (pgM σ0 σ ∧ σ0 58 11 ≤ 124) ∧ (mBo (mOf σ) ∧ σ 58 61 ≤ s ∧ σ 58 63 ≤ s ∧ (fs.length : Int) ≤ s) ∧ RMv h σ (pfM σ0) (mOf σ) ρ true (σ 58 58) ∧ σ 58 54 = fs.length ∧ bkM h σ0 σ (mOf σ) fs
/-- the values, the first of which may be special -/
def vtM (h : mHp) (σ0 σ : Mem) (m : MBd) (q : Option Int) : List Va → Prop
  | [] => True
  | v :: vs => (∃ y, hAt h 89 vs.length = vlg y ∧ tpM σ0 h σ m q v y) ∧ vaM h σ0 σ m vs
/-- where the run is -/
def psM (σ0 : Mem) (E : Bool) (m : Nat) (T : Tr) (cx : Cx) (G : List Int) (pc : Int) : Prop :=
  if m = 0 then nC σ0 T (match hd14 cx with | none => G | some z => z :: G) pc ∧ cxM σ0 E cx G (pc + ln T)
  else if m = 1 then cxM σ0 E cx G pc
  else match T with
    | .tag k (.nest z (.append A (.append B C))) => ∃ a, nC σ0 (nd k z A B C) G a ∧ pc = a + stM k (ln A) (ln B) ∧ cxM σ0 E cx G (a + ln (nd k z A B C))
    | _ => False
/-- the model's state stands for S -/
def mRel (σ0 : Mem) (h : mHp) (σ : Mem) (s : Int) : WkS → Prop
  | (m, T, cx, ρ, vs, fs) => vs.length ≤ 200 ∧ mB σ0 h σ ρ fs s ∧ σ 58 51 = vs.length ∧ psM σ0 (!fs.isEmpty) m T cx (nmEn ρ) (σ 58 64) ∧ vtM h σ0 σ (mOf σ) (if m = 0 then none else if m = 1 then hd14 cx else k14 T) vs
section MREL
variable {h h' h1 : mHp} {σ0 σ σ' σ1 : Mem} {d : Nat} {P : Tr → List Int → Int → Prop} {m m' : MBd} {b s : Int} {ρ : En} {fs : List (Cx × En)} {vs : List Va}
theorem vtM_0 : vtM h σ0 σ m none vs ↔ vaM h σ0 σ m vs := by cases vs <;> exact Iff.rfl
theorem vaM.mv (w : smM m h h' σ σ') (h1 : m.1 ≤ m'.1) (h2 : m.2.1 ≤ m'.2.1) (h3 : m.2.2 ≤ m'.2.2) : ∀ {vs : List Va}, (∀ i, i < vs.length → hAt h' 89 i = hAt h 89 i) → vaM h σ0 σ m vs → vaM h' σ0 σ' m' vs
  | [], _, _ => trivial
  | v :: vs, e, ⟨⟨y, ey, r⟩, q⟩ => ⟨⟨y, (e _ (Nat.lt_succ_self _)).trans ey, r.mv w h1 h2 h3⟩, vaM.mv w h1 h2 h3 (fun i hi => e i (Nat.lt_succ_of_lt hi)) q⟩
theorem bkM.mv (w : smM m h h' σ σ') (h1 : m.1 ≤ m'.1) (h2 : m.2.1 ≤ m'.2.1) (h3 : m.2.2 ≤ m'.2.2) : ∀ {fs : List (Cx × En)}, (∀ i : Nat, i < fs.length → σ' 90 i = σ 90 i ∧ σ' 91 i = σ 91 i) → bkM h σ0 σ m fs → bkM h' σ0 σ' m' fs
  | [], _, _ => trivial
  | f :: fs, e, ⟨⟨c, r⟩, q⟩ => ⟨⟨by rw [(e _ (Nat.lt_succ_self _)).1]; exact c, by rw [(e _ (Nat.lt_succ_self _)).2]; exact r.mv w h1 h2 h3⟩, bkM.mv w h1 h2 h3 (fun i hi => e i (Nat.lt_succ_of_lt hi)) q⟩
/-- does the top value fit -/
theorem r_mfits {A : Tr} {v : Va} {t n y : Int} (wA : wfP A) (kA : KiP A v) (pA : isP (prM σ) A t) (ht : 0 ≤ t ∧ t + pn A ≤ 80) (e : σ 58 51 = n + 1) (hn : 0 ≤ n ∧ n < 200) (ey : hAt h 89 n.toNat = vlg y) (ry : RMv h σ P (mOf σ) v false y) (re : RMv h σ P (mOf σ) ρ true (σ 58 58)) (w : mBo (mOf σ)) (hb : σ 58 57 + (bnd A).length ≤ 4299) : ∃ r h' σ', Rh (d + 5) yMo_fits [.ref 58, vi t, vi (t + pn A)] h σ (.inl (some (vi r))) h' σ' ∧ fiO P (σ 58 57) (σ 58 58) (bnd A).length h σ (fitE A v ρ) r h' σ' := by
  have p57 : 0 ≤ σ 58 58 ∧ σ 58 58 ≤ σ 58 57 := re.pl w
  have w3 : 0 ≤ σ 58 57 ∧ σ 58 57 ≤ 4299 := w.2.2
  have p1 := pn_1 wA
  have f1 : frF (σ 58 57) h (hSet h 97 0 (vlg y)) σ σ := frF.s97
  have s1 := f1.sm (m := mOf σ) (Int.le_refl _)
  have rf : ∀ x : Int, x ≤ x := fun x => Int.le_refl x
  obtain ⟨r, h', σ', Lo, f, o⟩ := r_mfitL (d := d) (P := P) (x2 := t + pn A) (x3 := σ 58 57) (x4 := σ 58 58) ⟨by omega, ht.2⟩ (by unfold rg; omega) (by unfold rg; omega) (pn A).toNat [(A, v)] t ρ (hSet h 97 0 (vlg y)) σ (by show pn A + 0 ≤ _; omega) (fun q hq => by
    rcases List.mem_cons.mp hq with e | e
    · rw [e]; exact ⟨wA, kA⟩
    · cases e) ⟨pA, trivial⟩ ⟨⟨y, at_eq, ry.mv s1 (rf _) (rf _) (rf _)⟩, trivial⟩ (re.mv s1 (rf _) (rf _) (rf _)) w (by show σ 58 57 + (((bnd A).length : Int) + 0) ≤ 4299; omega) (by show t + (pn A + 0) = _; omega) ht.1
  have en : nmL [(A, v)] = (bnd A).length := by show ((bnd A).length : Int) + 0 = _; omega
  have ef : fitL [(A, v)] ρ = fitE A v ρ := by
    show (match fitE A v ρ with | some ρ1 => some ρ1 | none => none) = fitE A v ρ
    cases fitE A v ρ <;> rfl
  rw [en, ef] at o
  refine ⟨r, h', σ', M_Mo_fits (by unfold rg; omega) (by unfold rg; omega) ?_, f1.tr (Int.le_refl _) f, o⟩
  unfold B_Mo_fits
  rw [e, show n + 1 - 1 = n by omega]
  exact ⟨by unfold rg; omega, by unfold rg; omega, by unfold rg; omega, hn, y, ey, by omega, Lo⟩
end MREL
