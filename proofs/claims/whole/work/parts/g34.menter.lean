/-! The model's run: leaves. -/
/-- what working out leaves alone -/
def frWm (h h' : mHp) (σ σ' : Mem) : Prop := (h'.1 = h.1 ∧ h'.2.1 = h.2.1) ∧ (∀ i, i ≠ 89 → ¬ (92 ≤ i ∧ i ≤ 97) → ∀ x, hAt h' i x = hAt h i x) ∧ (∀ i, hTag h' i = hTag h i ∧ hLen h' i = hLen h i) ∧ (∀ i, i ≠ 58 → i ≠ 90 → i ≠ 91 → i ≠ 93 → σ' i = σ i) ∧ ∀ k, k ≠ 51 → k ≠ 54 → k ≠ 57 → k ≠ 58 → k ≠ 61 → k ≠ 63 → k ≠ 64 → k ≠ 65 → k ≠ 66 → σ' 58 k = σ 58 k
/-- what an instruction comes to; b: how many bindings it makes -/
def mOut (σ0 : Mem) (h : mHp) (σ : Mem) (s b : Int) (h' : mHp) (σ' : Mem) (S' : WkS) : Prop := frWm h h' σ σ' ∧ ((200 < S'.2.2.2.2.1.length ∧ σ' 58 65 = 3 ∧ σ' 58 66 = 5) ∨ (S'.2.2.2.2.1.length ≤ 200 ∧ mRel σ0 h' σ' s S' ∧ σ' 58 57 = σ 58 57 + b ∧ σ' 58 65 = σ 58 65 ∧ σ' 58 66 = σ 58 66))
section MENT
variable {h h' h1 : mHp} {σ0 σ σ' σ1 : Mem} {d : Nat} {P : Tr → List Int → Int → Prop} {m : MBd} {b s : Int} {ρ : En} {cx : Cx} {fs : List (Cx × En)} {vs : List Va} {v : Va}
theorem frWm.rf : frWm h h σ σ := ⟨⟨rfl, rfl⟩, fun _ _ _ _ => rfl, fun _ => ⟨rfl, rfl⟩, fun _ _ _ _ _ => rfl, fun _ _ _ _ _ _ _ _ _ _ => rfl⟩
theorem frWm.tr (x : frWm h h1 σ σ1) (y : frWm h1 h' σ1 σ') : frWm h h' σ σ' := ⟨⟨y.1.1.trans x.1.1, y.1.2.trans x.1.2⟩, fun i a b z => (y.2.1 i a b z).trans (x.2.1 i a b z), fun i => ⟨(y.2.2.1 i).1.trans (x.2.2.1 i).1, (y.2.2.1 i).2.trans (x.2.2.1 i).2⟩, fun i a b c d => (y.2.2.2.1 i a b c d).trans (x.2.2.2.1 i a b c d), fun k a b c d e f g i j => (y.2.2.2.2 k a b c d e f g i j).trans (x.2.2.2.2 k a b c d e f g i j)⟩
theorem frWm.m8 {k z : Int} (hk : k = 51 ∨ k = 54 ∨ k = 57 ∨ k = 58 ∨ k = 61 ∨ k = 63 ∨ k = 64 ∨ k = 65 ∨ k = 66) : frWm h h σ (mup σ 58 k z) := ⟨⟨rfl, rfl⟩, fun _ _ _ _ => rfl, fun _ => ⟨rfl, rfl⟩, fun _ a _ _ _ => mup_obj a, fun _ _ _ _ _ _ _ _ _ _ => mup_nk (by omega)⟩
theorem frWm.hs {j k : Nat} {u : Value} (hj : j = 89 ∨ (92 ≤ j ∧ j ≤ 97)) : frWm h (hSet h j k u) σ σ := ⟨⟨rfl, rfl⟩, fun _ _ _ _ => at_ne (by omega) _, fun _ => ⟨tag_set, len_set⟩, fun _ _ _ _ _ => rfl, fun _ _ _ _ _ _ _ _ _ _ => rfl⟩
theorem frWm.pg (f : frWm h h' σ σ') : pgM σ σ' := ⟨fun i hi => f.2.2.2.1 i (by omega) (by omega) (by omega) (by omega), f.2.2.2.2 11 (by decide) (by decide) (by decide) (by decide) (by decide) (by decide) (by decide) (by decide) (by decide)⟩
theorem pgM.tr (x : pgM σ0 σ) (y : pgM σ σ') : pgM σ0 σ' := ⟨fun i hi => (y.1 i hi).trans (x.1 i hi), y.2.trans x.2⟩
theorem mB.cg (q : mB σ0 h σ ρ fs s) (w : smM (mOf σ) h h' σ σ') (g : pgM σ σ') (k : ∀ k, k = 54 ∨ k = 57 ∨ k = 58 ∨ k = 61 ∨ k = 63 → σ' 58 k = σ 58 k) (e : ∀ i : Nat, i < fs.length → σ' 90 i = σ 90 i ∧ σ' 91 i = σ 91 i) : mB σ0 h' σ' ρ fs s := by
  have k54 := k 54 (by omega)
  have k58 := k 58 (by omega)
  have k61 := k 61 (by omega)
  have k63 := k 63 (by omega)
  have me : mOf σ' = mOf σ := by unfold mOf; rw [k61, k63, k 57 (by omega)]
  have rf : ∀ x : Int, x ≤ x := fun x => Int.le_refl x
  obtain ⟨⟨q1, q0⟩, ⟨q2, q3, q4, q5⟩, q6, q7, q8⟩ := q
  refine ⟨⟨q1.tr g, q0⟩, ⟨by rw [me]; exact q2, by omega, by omega, q5⟩, ?_, by omega, ?_⟩
  · rw [me, k58]; exact q6.mv w (rf _) (rf _) (rf _)
  · rw [me]; exact q8.mv w (rf _) (rf _) (rf _) e
/-- a value comes on top -/
theorem m_push {p y : Int} (q : mB σ0 h σ ρ fs s) (hv : vaM h σ0 σ (mOf σ) vs) (hl : vs.length < 200) (hp : cxM σ0 (!fs.isEmpty) cx (nmEn ρ) p) (ty : tpM σ0 h σ (mOf σ) (hd14 cx) v y) : mOut σ0 h σ s 0 (hSet h 89 vs.length (vlg y)) (mup (mup σ 58 64 p) 58 51 (vs.length + 1)) (1, nl, cx, ρ, v :: vs, fs) := by
  have f : frWm h (hSet h 89 vs.length (vlg y)) σ (mup (mup σ 58 64 p) 58 51 (vs.length + 1)) := ((frWm.hs (Or.inl rfl)).tr (frWm.m8 (by omega))).tr (frWm.m8 (by omega))
  have kk : ∀ k : Int, k ≠ 64 → k ≠ 51 → (mup (mup σ 58 64 p) 58 51 (vs.length + 1)) 58 k = σ 58 k := fun k h1 h2 => by rw [mup_nk h2, mup_nk h1]
  have w : smM (mOf σ) h (hSet h 89 vs.length (vlg y)) σ (mup (mup σ 58 64 p) 58 51 (vs.length + 1)) := ⟨fun _ _ _ => ⟨at_ne (by decide) _, at_ne (by decide) _⟩, fun _ _ _ => at_ne (by decide) _, fun _ _ _ => ⟨at_ne (by decide) _, by rw [mup_ne (by decide), mup_ne (by decide)]⟩⟩
  have me : mOf (mup (mup σ 58 64 p) 58 51 (vs.length + 1)) = mOf σ := by unfold mOf; rw [kk 61 (by decide) (by decide), kk 63 (by decide) (by decide), kk 57 (by decide) (by decide)]
  have rf : ∀ x : Int, x ≤ x := fun x => Int.le_refl x
  refine ⟨f, Or.inr ⟨by show vs.length + 1 ≤ 200; omega, ⟨by show vs.length + 1 ≤ 200; omega, q.cg w f.pg (fun k hk => kk k (by omega) (by omega)) (fun i _ => ⟨by rw [mup_ne (by decide), mup_ne (by decide)], by rw [mup_ne (by decide), mup_ne (by decide)]⟩), mup_eq, ?_, ?_⟩, by rw [kk 57 (by decide) (by decide)]; omega, kk 65 (by decide) (by decide), kk 66 (by decide) (by decide)⟩⟩
  · show cxM σ0 (!fs.isEmpty) cx (nmEn ρ) ((mup (mup σ 58 64 p) 58 51 (vs.length + 1)) 58 64)
    rw [mup_nk (by decide), mup_eq]; exact hp
  · rw [me]
    refine ⟨⟨y, at_eq, ?_⟩, hv.mv w (rf _) (rf _) (rf _) (fun i hi => at_nk (by omega))⟩
    show tpM σ0 _ _ _ (hd14 cx) v y
    revert ty
    cases hd14 cx with
    | none => intro ty; exact RMv.mv w (rf _) (rf _) (rf _) ty
    | some z =>
      intro ⟨lam, ρ', p', e, x1, x2, x3, x4, x5, x6⟩
      refine ⟨lam, ρ', p', e, x1, x2, x3, x4, x5, ?_⟩
      rw [kk 58 (by decide) (by decide)]
      exact x6.mv w (rf _) (rf _) (rf _)
/-- it can't -/
theorem m_push5 {p : Int} (hl : vs.length = 200) : mOut σ0 h σ s 0 h (mup (mup (mup σ 58 64 p) 58 65 3) 58 66 5) (1, nl, cx, ρ, v :: vs, fs) := ⟨((frWm.m8 (by omega)).tr (frWm.m8 (by omega))).tr (frWm.m8 (by omega)), Or.inl ⟨by show 200 < vs.length + 1; omega, (mup_nk (by decide)).trans mup_eq, mup_eq⟩⟩
/-- known, in either case -/
theorem m_known {p k u : Int} (gk : rg k) (gu : rg u) (q : mB σ0 h σ ρ fs s) (hv : vaM h σ0 σ (mOf σ) vs) (hl : vs.length ≤ 200) (e51 : σ 58 51 = vs.length) (hp : cxM σ0 (!fs.isEmpty) cx (nmEn ρ) p) (ty : tpM σ0 h σ (mOf σ) (hd14 cx) v (8 * u + k)) : ∃ h' σ', Rh (d + 3) yMo_known [.ref 58, vi k, vi u] h (mup σ 58 64 p) (.inl none) h' σ' ∧ mOut σ0 h σ s 0 h' σ' (1, nl, cx, ρ, v :: vs, fs) := by
  have e : (mup σ 58 64 p) 58 51 = vs.length := (mup_nk (by decide)).trans e51
  by_cases c : vs.length = 200
  · exact ⟨_, _, r_known5 gk gu (by rw [e, c]; rfl), m_push5 c⟩
  · have R := r_known (d := d) (h := h) gk gu e (by omega)
    rw [Int.toNat_natCast] at R
    exact ⟨_, _, R, m_push q hv (by omega) hp ty⟩
theorem m_knownV {p y : Int} (hy : mNu y) (q : mB σ0 h σ ρ fs s) (hv : vaM h σ0 σ (mOf σ) vs) (hl : vs.length ≤ 200) (e51 : σ 58 51 = vs.length) (hp : cxM σ0 (!fs.isEmpty) cx (nmEn ρ) p) (ty : tpM σ0 h σ (mOf σ) (hd14 cx) v y) : ∃ h' σ', Rh (d + 4) yMo_knownValue [.ref 58, vlg y] h (mup σ 58 64 p) (.inl none) h' σ' ∧ mOut σ0 h σ s 0 h' σ' (1, nl, cx, ρ, v :: vs, fs) := by
  have e : (mup σ 58 64 p) 58 51 = vs.length := (mup_nk (by decide)).trans e51
  by_cases c : vs.length = 200
  · exact ⟨_, _, r_knownV5 hy (by rw [e, c]; rfl), m_push5 c⟩
  · have R := r_knownV (d := d) (h := h) hy e (by omega)
    rw [Int.toNat_natCast] at R
    exact ⟨_, _, R, m_push q hv (by omega) hp ty⟩
end MENT
