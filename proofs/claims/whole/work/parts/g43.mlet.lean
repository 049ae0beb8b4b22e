/-! The model's run: LET's step. -/
section MLET
variable {h h' h1 : mHp} {σ0 σ σ' σ1 : Mem} {d : Nat} {G : List Int} {p z s i y n b : Int} {A B C T : Tr} {k : Nat} {ρ ρ' : En} {cx : Cx} {fs : List (Cx × En)} {vs : List Va} {v : Va}
/-- a name is bound, a part is entered at p -/
theorem m_bind (q : mB σ0 h σ ρ fs s) (va : vaM h σ0 σ (mOf σ) vs) (hl : vs.length ≤ 200) (h14 : hd14 cx = none) (hb : σ 58 57 + 1 ≤ 4299) (ry : RMv h σ (pfM σ0) (mOf σ) v false y) (c : nC σ0 T (z :: nmEn ρ) p) (cp : cxM σ0 (!fs.isEmpty) cx (z :: nmEn ρ) (p + ln T)) : mOut σ0 h σ s 1 (hSet h 92 (σ 58 57 + 1).toNat (vlg y)) (mup (mup (mup (mup (mup σ 58 64 p) 58 51 vs.length) 58 57 (σ 58 57 + 1)) 93 (σ 58 57 + 1) (σ 58 58)) 58 58 (σ 58 57 + 1)) (0, T, cx, eC z v ρ, vs, fs) := by
  obtain ⟨⟨q1, q0⟩, ⟨q2, q3, q4, q5⟩, q6, q7, q8⟩ := q
  have w3 : 0 ≤ σ 58 57 ∧ σ 58 57 ≤ 4299 := q2.2.2
  generalize hσ : mup (mup (mup (mup (mup σ 58 64 p) 58 51 vs.length) 58 57 (σ 58 57 + 1)) 93 (σ 58 57 + 1) (σ 58 58)) 58 58 (σ 58 57 + 1) = σ1
  generalize hh : hSet h 92 (σ 58 57 + 1).toNat (vlg y) = h1
  have f : frWm h h1 σ σ1 := by
    rw [← hσ, ← hh]
    have g93 : ∀ {τ : Mem} {k z : Int}, frWm (hSet h 92 (σ 58 57 + 1).toNat (vlg y)) (hSet h 92 (σ 58 57 + 1).toNat (vlg y)) τ (mup τ 93 k z) := fun {τ k z} => ⟨⟨rfl, rfl⟩, fun _ _ _ _ => rfl, fun _ => ⟨rfl, rfl⟩, fun _ _ _ _ e => mup_obj e, fun _ _ _ _ _ _ _ _ _ _ => mup_ne (by decide)⟩
    exact (((((frWm.hs (by omega)).tr (frWm.m8 (by omega))).tr (frWm.m8 (by omega))).tr (frWm.m8 (by omega))).tr g93).tr (frWm.m8 (by omega))
  have kk : ∀ k : Int, k ≠ 64 → k ≠ 51 → k ≠ 57 → k ≠ 58 → σ1 58 k = σ 58 k := fun k a b c d => by rw [← hσ, mup_nk d, mup_ne (by decide), mup_nk c, mup_nk b, mup_nk a]
  have k57 : σ1 58 57 = σ 58 57 + 1 := by rw [← hσ, mup_nk (by decide), mup_ne (by decide), mup_eq]
  have k58 : σ1 58 58 = σ 58 57 + 1 := by rw [← hσ, mup_eq]
  have k64 : σ1 58 64 = p := by rw [← hσ, mup_nk (by decide), mup_ne (by decide), mup_nk (by decide), mup_nk (by decide), mup_eq]
  have k51 : σ1 58 51 = vs.length := by rw [← hσ, mup_nk (by decide), mup_ne (by decide), mup_nk (by decide), mup_eq]
  have k93 : σ1 93 (σ 58 57 + 1) = σ 58 58 := by rw [← hσ, mup_ne (by decide), mup_eq]
  have k9 : ∀ i : Nat, σ1 90 i = σ 90 i ∧ σ1 91 i = σ 91 i := fun i => by
    rw [← hσ]
    exact ⟨by rw [mup_ne (by decide), mup_ne (by decide), mup_ne (by decide), mup_ne (by decide), mup_ne (by decide)], by rw [mup_ne (by decide), mup_ne (by decide), mup_ne (by decide), mup_ne (by decide), mup_ne (by decide)]⟩
  have w : smM (mOf σ) h h1 σ σ1 := by
    rw [← hσ, ← hh]
    refine ⟨fun _ _ _ => ⟨at_ne (by decide) _, at_ne (by decide) _⟩, fun _ _ _ => at_ne (by decide) _, fun k a b => ?_⟩
    have b : k ≤ σ 58 57 := b
    exact ⟨at_nk (by omega), by rw [mup_ne (by decide), mup_nk (by omega), mup_ne (by decide), mup_ne (by decide), mup_ne (by decide)]⟩
  have m1 : (mOf σ).1 ≤ (mOf σ1).1 := by show σ 58 61 ≤ σ1 58 61; rw [kk 61 (by decide) (by decide) (by decide) (by decide)]; exact Int.le_refl _
  have m2 : (mOf σ).2.1 ≤ (mOf σ1).2.1 := by show σ 58 63 ≤ σ1 58 63; rw [kk 63 (by decide) (by decide) (by decide) (by decide)]; exact Int.le_refl _
  have m3 : (mOf σ).2.2 ≤ (mOf σ1).2.2 := by show σ 58 57 ≤ σ1 58 57; omega
  have a92 : hAt h1 92 (σ 58 57 + 1).toNat = vlg y := by rw [← hh]; exact at_eq
  have r1 : RMv h1 σ1 (pfM σ0) (mOf σ1) (eC z v ρ) true (σ1 58 58) := by
    rw [k58]
    refine ⟨⟨by omega, by show σ 58 57 + 1 ≤ σ1 58 57; omega⟩, y, a92, ry.mv w m1 m2 m3, ?_⟩
    rw [k93]; exact q6.mv w m1 m2 m3
  have bo : mBo (mOf σ1) := ⟨by show 0 ≤ σ1 58 61 ∧ σ1 58 61 ≤ 502; rw [kk 61 (by decide) (by decide) (by decide) (by decide)]; exact q2.1, by show 0 ≤ σ1 58 63 ∧ σ1 58 63 ≤ 502; rw [kk 63 (by decide) (by decide) (by decide) (by decide)]; exact q2.2.1, by show 0 ≤ σ1 58 57 ∧ σ1 58 57 ≤ 4299; omega⟩
  refine ⟨f, Or.inr ⟨hl, ⟨hl, ⟨⟨q1.tr f.pg, q0⟩, ⟨bo, by rw [kk 61 (by decide) (by decide) (by decide) (by decide)]; exact q3, by rw [kk 63 (by decide) (by decide) (by decide) (by decide)]; exact q4, q5⟩, r1, by rw [kk 54 (by decide) (by decide) (by decide) (by decide)]; exact q7, q8.mv w m1 m2 m3 (fun i _ => k9 i)⟩, k51, ?_, vtM_0.mpr (va.mv w m1 m2 m3 (fun i _ => by rw [← hh]; exact at_ne (by decide) _))⟩, k57, kk 65 (by decide) (by decide) (by decide) (by decide), kk 66 (by decide) (by decide) (by decide) (by decide)⟩⟩
  unfold psM
  rw [if_pos rfl, k64, h14]
  exact ⟨c, cp⟩
end MLET
