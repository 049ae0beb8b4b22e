/-! The claim. -/
theorem two_pure : lawPure := by
  intro L xs hL
  obtain ⟨F, h', g1, g2, g3⟩ := fr_two L xs hL
  exact ⟨F, h', g1, by omega, by omega⟩
theorem i_vc : Claimed_1_1 ∧ Claimed_1_2 := i_vc_of two_pure
