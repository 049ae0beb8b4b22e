/-! The model's run: its counters of steps. -/
section MCNT
variable {h : mHp} {σ0 σ : Mem} {s j z : Int} {S : WkS} {m : MBd}
theorem tpM.pc {q : Option Int} {v : Va} {y : Int} (hj : j = 67 ∨ j = 68) (t : tpM σ0 h σ m q v y) : tpM σ0 h (mup σ 58 j z) m q v y := by
  have rf : ∀ x : Int, x ≤ x := fun x => Int.le_refl x
  have w : smM m h h σ (mup σ 58 j z) := ⟨fun _ _ _ => ⟨rfl, rfl⟩, fun _ _ _ => rfl, fun _ _ _ => ⟨rfl, mup_ne (by decide)⟩⟩
  cases q with
  | none => exact RMv.mv w (rf _) (rf _) (rf _) t
  | some x =>
    obtain ⟨lam, ρ, p, e, x1, x2, x3, x4, x5, x6⟩ := t
    refine ⟨lam, ρ, p, e, x1, x2, x3, x4, x5, ?_⟩
    rw [mup_nk (by omega)]; exact x6.mv w (rf _) (rf _) (rf _)
theorem mRel.ct (hj : j = 67 ∨ j = 68) (R : mRel σ0 h σ s S) : mRel σ0 h (mup σ 58 j z) s S := by
  have rf : ∀ x : Int, x ≤ x := fun x => Int.le_refl x
  have w : ∀ m : MBd, smM m h h σ (mup σ 58 j z) := fun m => ⟨fun _ _ _ => ⟨rfl, rfl⟩, fun _ _ _ => rfl, fun _ _ _ => ⟨rfl, mup_ne (by decide)⟩⟩
  have kk : ∀ k : Int, k ≠ 67 → k ≠ 68 → (mup σ 58 j z) 58 k = σ 58 k := fun k a b => mup_nk (by omega)
  have me : mOf (mup σ 58 j z) = mOf σ := by unfold mOf; rw [kk 61 (by decide) (by decide), kk 63 (by decide) (by decide), kk 57 (by decide) (by decide)]
  obtain ⟨m, T, cx, ρ, vs, fs⟩ := S
  obtain ⟨hl, q, e51, ps, vt⟩ := R
  refine ⟨hl, q.cg (w _) ⟨fun i hi => mup_obj (by omega), kk 11 (by decide) (by decide)⟩ (fun k hk => kk k (by omega) (by omega)) (fun i _ => ⟨mup_ne (by decide), mup_ne (by decide)⟩), (kk 51 (by decide) (by decide)).trans e51, by rw [kk 64 (by decide) (by decide)]; exact ps, ?_⟩
  rw [me]
  cases vs with
  | nil => trivial
  | cons v vs =>
    obtain ⟨⟨y, ey, ty⟩, va⟩ := vt
    exact ⟨⟨y, ey, ty.pc hj⟩, va.mv (w _) (rf _) (rf _) (rf _) (fun _ _ => rfl)⟩
end MCNT
