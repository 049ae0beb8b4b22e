/-! The price of a program in counts. -/
section MST
variable {T : Tr}
theorem px_ge : sumW (fun N => (kI 13 N + kI 14 N) + kI 15 N) T * 5 ≤ sumW pxW T := by
  fun_induction sumW pxW T with
  | case1 k z A B C iA iB iC =>
    have e3 : pxW (nd k z A B C) = if k = 8 then laB A else if k = 9 ∨ k = 10 ∨ k = 11 then laB A + laB B else if k = 13 ∨ k = 14 ∨ k = 15 then 5 else 0 := rfl
    have la := laB_ge (X := A)
    have lb := laB_ge (X := B)
    have h : ((kI 13 (nd k z A B C) + kI 14 (nd k z A B C)) + kI 15 (nd k z A B C)) * 5 ≤ pxW (nd k z A B C) := by
      show (((if k = 13 then 1 else 0) + (if k = 14 then 1 else 0)) + (if k = 15 then 1 else 0) : Int) * 5 ≤ pxW (nd k z A B C)
      rw [e3]
      by_cases q : k = 13 ∨ k = 14 ∨ k = 15
      · rcases q with rfl | rfl | rfl <;> simp
      · rw [if_neg (by omega), if_neg (by omega), if_neg (by omega)]
        split
        · omega
        · split
          · omega
          · decide
    show (((kI 13 (nd k z A B C) + kI 14 (nd k z A B C)) + kI 15 (nd k z A B C)) + ((if k = 17 then 0 else sumW (fun N => (kI 13 N + kI 14 N) + kI 15 N) A) + (sumW (fun N => (kI 13 N + kI 14 N) + kI 15 N) B + sumW (fun N => (kI 13 N + kI 14 N) + kI 15 N) C))) * 5 ≤ _
    split <;> omega
  | case2 t hx =>
    unfold sumW
    split
    · exact (hx _ _ _ _ _ rfl).elim
    · decide
/-- CONS 2, application 1, function 3, choice 2, LET, REC and IF 5, patterns -/
theorem own_m : 2 * sumW (kI 10) T + sumW (kI 11) T + 3 * sumW (kI 12) T + 5 * sumW (kI 13) T + 5 * sumW (kI 14) T + 5 * sumW (kI 15) T + 2 * sumW (kI 16) T + sumW p17 T ≤ sumW ownP T := by
  have h := own_px (T := T)
  rw [show (fun N => ((kI 10 N + kI 10 N) + kI 11 N) + (((kI 12 N + kI 12 N) + kI 12 N) + xxW N)) = (fun N => (fun N => (fun N => kI 10 N + kI 10 N) N + kI 11 N) N + (fun N => (fun N => (fun N => kI 12 N + kI 12 N) N + kI 12 N) N + xxW N) N) from rfl, sw_add, sw_add, sw_add, sw_add, sw_add, sw_add] at h
  have e6 : sumW xxW T = ((sumW (kI 16) T + sumW (kI 16) T) + sumW p17 T) + sumW pxW T := by
    rw [show xxW = (fun N => (fun N => (fun N => kI 16 N + kI 16 N) N + p17 N) N + pxW N) from rfl, sw_add, sw_add, sw_add]
  have p := px_ge (T := T)
  rw [show (fun N => (kI 13 N + kI 14 N) + kI 15 N) = (fun N => (fun N => kI 13 N + kI 14 N) N + kI 15 N) from rfl, sw_add, sw_add] at p
  omega
end MST
