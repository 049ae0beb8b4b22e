/-! The model's run: a step that gives a value. -/
section MVL
variable {h h' h1 : mHp} {σ0 σ σ' σ1 : Mem} {d : Nat} {p z s s' y : Int} {ρ : En} {cx : Cx} {fs : List (Cx × En)} {vs : List Va} {v : Va}
/-- a value comes on the pile after values were taken and something was made -/
theorem m_val (q : mB σ0 h σ ρ fs s) (va : vaM h σ0 σ (mOf σ) vs) (hl : vs.length < 200) (h14 : hd14 cx = none) (f : frWm h h' σ σ') (w : smM (mOf σ) h h' σ σ') (m1 : (mOf σ).1 ≤ (mOf σ').1) (m2 : (mOf σ).2.1 ≤ (mOf σ').2.1) (m3 : (mOf σ).2.2 = (mOf σ').2.2) (hs : s ≤ s' ∧ s' ≤ 502 ∧ σ' 58 61 ≤ s' ∧ σ' 58 63 ≤ s') (k54 : σ' 58 54 = σ 58 54) (k58 : σ' 58 58 = σ 58 58) (k9 : ∀ i : Nat, σ' 90 i = σ 90 i ∧ σ' 91 i = σ 91 i) (k51 : σ' 58 51 = vs.length + 1) (lo : ∀ i, i < vs.length → hAt h' 89 i = hAt h 89 i) (ey : hAt h' 89 vs.length = vlg y) (ry : RMv h' σ' (pfM σ0) (mOf σ') v false y) (cp : cxM σ0 (!fs.isEmpty) cx (nmEn ρ) (σ' 58 64)) (k65 : σ' 58 65 = σ 58 65) (k66 : σ' 58 66 = σ 58 66) : mOut σ0 h σ s' 0 h' σ' (1, nl, cx, ρ, v :: vs, fs) := by
  obtain ⟨⟨q1, q0⟩, ⟨q2, q3, q4, q5⟩, q6, q7, q8⟩ := q
  have b1 : 0 ≤ σ 58 61 := q2.1.1
  have b2 : 0 ≤ σ 58 63 := q2.2.1.1
  have m1' : σ 58 61 ≤ σ' 58 61 := m1
  have m2' : σ 58 63 ≤ σ' 58 63 := m2
  have bo : mBo (mOf σ') := ⟨by show 0 ≤ σ' 58 61 ∧ σ' 58 61 ≤ 502; omega, by show 0 ≤ σ' 58 63 ∧ σ' 58 63 ≤ 502; omega, by rw [← m3]; exact q2.2.2⟩
  have m3' : (mOf σ).2.2 ≤ (mOf σ').2.2 := by rw [m3]; exact Int.le_refl _
  have e57 : σ 58 57 = σ' 58 57 := m3
  refine ⟨f, Or.inr ⟨by show vs.length + 1 ≤ 200; omega, ⟨by show vs.length + 1 ≤ 200; omega, ⟨⟨q1.tr f.pg, q0⟩, ⟨bo, hs.2.2.1, hs.2.2.2, by omega⟩, by rw [k58]; exact q6.mv w m1 m2 m3', k54.trans q7, q8.mv w m1 m2 m3' (fun i _ => k9 i)⟩, k51, ?_, ?_⟩, by omega, k65, k66⟩⟩
  · unfold psM
    rw [if_neg (by decide), if_pos rfl]; exact cp
  · refine ⟨⟨y, ey, ?_⟩, va.mv w m1 m2 m3' lo⟩
    rw [if_neg (by decide), if_pos rfl, h14]; exact ry
end MVL
