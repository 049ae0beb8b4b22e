/-! The model's run: after values were taken. -/
def mOutS (σ0 : Mem) (h : mHp) (σ : Mem) (s b : Int) (h' : mHp) (σ' : Mem) : WkS ⊕ Int → Prop
  | .inl S' => mOut σ0 h σ s b h' σ' S'
  | .inr c => frWm h h' σ σ' ∧ σ' 58 65 = 3 ∧ σ' 58 66 = c
/-- values were taken, the place is behind the instruction -/
def mOC (σ0 : Mem) (h : mHp) (σ σ2 : Mem) (cx : Cx) (ρ : En) (vs : List Va) (fs : List (Cx × En)) (s : Int) : Prop := (mB σ0 h σ2 ρ fs s ∧ vaM h σ0 σ2 (mOf σ2) vs) ∧ (vs.length < 200 ∧ hd14 cx = none ∧ s + 1 ≤ 500) ∧ frWm h h σ σ2 ∧ cxM σ0 (!fs.isEmpty) cx (nmEn ρ) (σ2 58 64) ∧ σ2 58 51 = vs.length ∧ σ2 58 65 = σ 58 65 ∧ σ2 58 66 = σ 58 66 ∧ σ2 58 57 = σ 58 57
section MOP
variable {h h' h1 : mHp} {σ0 σ σ' σ1 σ2 : Mem} {d : Nat} {p z s b y k u : Int} {ρ : En} {cx : Cx} {fs : List (Cx × En)} {vs : List Va} {v : Va} {S' : WkS}
theorem mOut.pre (f : frWm h h1 σ σ1) (e57 : σ1 58 57 = σ 58 57) (e65 : σ1 58 65 = σ 58 65) (e66 : σ1 58 66 = σ 58 66) (o : mOut σ0 h1 σ1 s b h' σ' S') : mOut σ0 h σ s b h' σ' S' := by
  obtain ⟨g, o⟩ := o
  refine ⟨f.tr g, ?_⟩
  rcases o with o | ⟨a1, a2, a3, a4, a5⟩
  · exact Or.inl o
  · exact Or.inr ⟨a1, a2, by omega, a4.trans e65, a5.trans e66⟩
theorem mOut.sl (hs : s ≤ p) (o : mOut σ0 h σ s b h' σ' S') : mOut σ0 h σ p b h' σ' S' := by
  obtain ⟨g, o⟩ := o
  refine ⟨g, ?_⟩
  rcases o with o | ⟨a1, a2, a3⟩
  · exact Or.inl o
  · refine Or.inr ⟨a1, ?_, a3⟩
    obtain ⟨m, T, cx, ρ, vs, fs⟩ := S'
    obtain ⟨x1, ⟨q1, ⟨q2, q3, q4, q5⟩, q6⟩, x2⟩ := a2
    exact ⟨x1, ⟨q1, ⟨q2, by omega, by omega, by omega⟩, q6⟩, x2⟩
/-- a value that is a number -/
theorem m_oK (w : mOC σ0 h σ σ2 cx ρ vs fs s) (gk : rg k) (gu : rg u) (r : RMv h σ2 (pfM σ0) (mOf σ2) v false (8 * u + k)) : ∃ h' σ', Rh (d + 3) yMo_known [.ref 58, vi k, vi u] h σ2 (.inl none) h' σ' ∧ mOutS σ0 h σ (s + 1) 0 h' σ' (.inl (1, nl, cx, ρ, v :: vs, fs)) := by
  obtain ⟨⟨q, va⟩, ⟨hl, h14, hs⟩, f, cp, e51, e65, e66, e57⟩ := w
  obtain ⟨h', σ', K, o⟩ := m_known (d := d) gk gu q va (by omega) e51 cp (show tpM σ0 h σ2 (mOf σ2) (hd14 cx) v (8 * u + k) by rw [h14]; exact r)
  rw [mup_id] at K
  exact ⟨h', σ', K, (o.pre f e57 e65 e66).sl (by omega)⟩
/-- a real -/
theorem m_oR {x : UInt64} (w : mOC σ0 h σ σ2 cx ρ vs fs s) : ∃ h' σ', Rh (d + 4) yMo_knownReal [.ref 58, .double x] h σ2 (.inl none) h' σ' ∧ mOutS σ0 h σ (s + 1) 0 h' σ' (.inl (1, nl, cx, ρ, vR x :: vs, fs)) := by
  obtain ⟨⟨q, va⟩, ⟨hl, h14, hs⟩, f2, cp, e51, e65, e66, e57⟩ := w
  obtain ⟨-, ⟨bo, s1, s2, -⟩, -⟩ := id q
  have b2 : 0 ≤ σ2 58 63 := bo.2.1.1
  have K2 := r_mreal (d := d) (h := h) (b := x) e51 (by omega) rfl (by omega)
  rw [Int.toNat_natCast] at K2
  generalize hσ : mup (mup σ2 58 63 (σ2 58 63 + 1)) 58 51 (vs.length + 1) = σ1 at K2
  generalize hh : hSet (hSet h 96 (σ2 58 63).toNat (.double x)) 89 vs.length (vlg (8 * σ2 58 63 + 2)) = h1 at K2
  have kk : ∀ k : Int, k ≠ 51 → k ≠ 63 → σ1 58 k = σ2 58 k := fun k b c => by rw [← hσ, mup_nk b, mup_nk c]
  have oo : ∀ j, j ≠ 58 → σ1 j = σ2 j := fun j hj => by rw [← hσ, mup_obj hj, mup_obj hj]
  have k63 : σ1 58 63 = σ2 58 63 + 1 := by rw [← hσ, mup_nk (by decide), mup_eq]
  have k61 := kk 61 (by decide) (by decide)
  have f : frWm h h1 σ2 σ1 := by
    rw [← hσ, ← hh]
    exact (((frWm.hs (by omega)).tr (frWm.hs (by omega))).tr (frWm.m8 (by omega))).tr (frWm.m8 (by omega))
  have w : smM (mOf σ2) h h1 σ2 σ1 := by
    rw [← hh]
    refine ⟨fun _ _ _ => ⟨(at_ne (by decide) _).trans (at_ne (by decide) _), (at_ne (by decide) _).trans (at_ne (by decide) _)⟩, fun k a b => ?_, fun k _ _ => ⟨(at_ne (by decide) _).trans (at_ne (by decide) _), congrFun (oo 93 (by decide)) k⟩⟩
    have b : k < σ2 58 63 := b
    exact (at_ne (by decide) _).trans (at_nk (by omega))
  exact ⟨h1, σ1, K2, (m_val (v := vR x) q va (by omega) h14 f w (by show σ2 58 61 ≤ σ1 58 61; omega) (by show σ2 58 63 ≤ σ1 58 63; omega) (by show σ2 58 57 = σ1 58 57; rw [kk 57 (by decide) (by decide)]) ⟨by omega, by omega, by omega, by omega⟩ (kk 54 (by decide) (by decide)) (kk 58 (by decide) (by decide)) (fun i => ⟨congrFun (oo 90 (by decide)) i, congrFun (oo 91 (by decide)) i⟩) (by rw [← hσ, mup_eq]) (fun i hi => by rw [← hh]; exact (at_nk (by omega)).trans (at_ne (by decide) _)) (y := 8 * σ2 58 63 + 2) (by rw [← hh]; exact at_eq) (Or.inr ⟨σ2 58 63, rfl, ⟨b2, by show σ2 58 63 < σ1 58 63; omega⟩, by rw [← hh, at_ne (by decide), at_eq, vR_at]⟩) (by rw [kk 64 (by decide) (by decide)]; exact cp) (kk 65 (by decide) (by decide)) (kk 66 (by decide) (by decide))).pre f2 e57 e65 e66⟩
/-- it fails -/
theorem m_oF {c : Int} (w : mOC σ0 h σ σ2 cx ρ vs fs s) : mOutS σ0 h σ (s + 1) 0 h (mup (mup σ2 58 65 3) 58 66 c) (.inr c) := ⟨(w.2.2.1.tr (frWm.m8 (by omega))).tr (frWm.m8 (by omega)), (mup_nk (by decide)).trans mup_eq, mup_eq⟩
/-- two values were taken -/
theorem mOC.two {a : Int} (q : mB σ0 h σ ρ fs s) (va : vaM h σ0 σ (mOf σ) vs) (hl : vs.length < 200) (h14 : hd14 cx = none) (hs : s + 1 ≤ 500) (cp : cxM σ0 (!fs.isEmpty) cx (nmEn ρ) p) : mOC σ0 h σ (mup (mup (mup σ 58 64 p) 58 51 a) 58 51 vs.length) cx ρ vs fs s := by
  have rf : ∀ x : Int, x ≤ x := fun x => Int.le_refl x
  have kk : ∀ k : Int, k ≠ 64 → k ≠ 51 → (mup (mup (mup σ 58 64 p) 58 51 a) 58 51 vs.length) 58 k = σ 58 k := fun k a b => by rw [mup_nk b, mup_nk b, mup_nk a]
  have w : smM (mOf σ) h h σ (mup (mup (mup σ 58 64 p) 58 51 a) 58 51 vs.length) := ⟨fun _ _ _ => ⟨rfl, rfl⟩, fun _ _ _ => rfl, fun _ _ _ => ⟨rfl, by rw [mup_ne (by decide), mup_ne (by decide), mup_ne (by decide)]⟩⟩
  have me : mOf (mup (mup (mup σ 58 64 p) 58 51 a) 58 51 vs.length) = mOf σ := by unfold mOf; rw [kk 61 (by decide) (by decide), kk 63 (by decide) (by decide), kk 57 (by decide) (by decide)]
  have f : frWm h h σ (mup (mup (mup σ 58 64 p) 58 51 a) 58 51 vs.length) := ((frWm.m8 (by omega)).tr (frWm.m8 (by omega))).tr (frWm.m8 (by omega))
  refine ⟨⟨q.cg w f.pg (fun k hk => kk k (by omega) (by omega)) (fun i _ => ⟨by rw [mup_ne (by decide), mup_ne (by decide), mup_ne (by decide)], by rw [mup_ne (by decide), mup_ne (by decide), mup_ne (by decide)]⟩), by rw [me]; exact va.mv w (rf _) (rf _) (rf _) (fun _ _ => rfl)⟩, ⟨hl, h14, hs⟩, f, by rw [mup_nk (by decide), mup_nk (by decide), mup_eq]; exact cp, mup_eq, kk 65 (by decide) (by decide), kk 66 (by decide) (by decide), kk 57 (by decide) (by decide)⟩
theorem RMv.o8 {P : Tr → List Int → Int → Prop} {t : Bool} (oo : σ2 93 = σ 93) (e : mOf σ2 = mOf σ) (r : RMv h σ P (mOf σ) v t y) : RMv h σ2 P (mOf σ2) v t y := by
  have rf : ∀ x : Int, x ≤ x := fun x => Int.le_refl x
  rw [e]
  exact r.mv ⟨fun _ _ _ => ⟨rfl, rfl⟩, fun _ _ _ => rfl, fun k _ _ => ⟨rfl, congrFun oo k⟩⟩ (rf _) (rf _) (rf _)
end MOP
