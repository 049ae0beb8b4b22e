/-! A name of one type isn't applied to itself, nor to what has its type. -/
section SLF
variable {G : Gm} {w : Bool} {s a : GT} {z y : Int} {A B C : Tr}
theorem gA_ne {a s : GT} : gA a s ≠ a := by
  intro h
  have e : gz (gA a s) = gz a + gz s + 1 := rfl
  rw [h] at e
  omega
/-- a function and its argument never have one and the same type -/
theorem ap_ne (h : tyE (nd 11 y A B C) w G s) (hA : ∀ t, tyE A w G t → t = a) (hB : ∀ t, tyE B w G t → t = a) : False := by
  obtain ⟨-, b, h1, h2⟩ := h
  have e1 := hA _ h1
  have e2 := hB _ h2
  rw [e2] at e1
  exact gA_ne e1
theorem nm_1 (hz : ∀ t, lkG z G t → t = a) {t : GT} (h : tyE (nd 5 z A B C) w G t) : t = a := hz t h.2
/-- `yy` has no type where y has one type -/
theorem self_no (hz : ∀ t, lkG z G t → t = a) {A' B' C' : Tr} : ¬ tyE (nd 11 y (nd 5 z A B C) (nd 5 z A' B' C') nl) w G s := fun h => ap_ne h (fun _ x => nm_1 hz x) (fun _ x => nm_1 hz x)
end SLF
