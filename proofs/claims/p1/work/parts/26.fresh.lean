/-! The law up to its loop, on a script that isn't looked at; closed runs behind it. -/
def noScr (o : Option mEnt) : Bool := match o with
  | some (.iaload, _, _, _, _) => false
  | some (.arraylength, _, _, _, _) => false
  | some _ => true
  | none => false
def stN (call : Nat → List Value → mHp → Option (mRes × mHp)) (y : Nat) : Nat → mSt → Option mSt
  | 0, S => some S
  | k + 1, S => if noScr (mcd y S.1) = true then match mStep call false y S with
      | some (.inl S') => stN call y k S'
      | _ => none
    else none
def swS (c : mCell) (S : mSt) : mSt := (S.1, S.2.1, S.2.2.1, swp c S.2.2.2)
section FR
variable {call : Nat → List Value → mHp → Option (mRes × mHp)} {y : Nat} {c : mCell}
theorem noScr_step {S : mSt} (hn : noScr (mcd y S.1) = true) : mStep call true y S = mStep call false y S := by
  unfold mStep
  split
  · rfl
  · next i n a b w hcd =>
    rw [hcd] at hn
    unfold mIns
    split
    · rfl
    · rfl
    · rfl
    · have e : (if true = true then mScr S.2.2.2 S.2.2.1 i else none) = none := by
        rw [if_pos rfl]
        cases i with
        | iaload => cases hn
        | arraylength => cases hn
        | _ => rfl
      rw [e, if_neg (by decide)]
    · rfl
    · rfl
    · rfl
theorem stN_go : ∀ (k : Nat) {j : Nat} {S S' : mSt} {r : Option (mRes × mHp)}, stN call y k S = some S' → mGo call true y j S' = r → mGo call true y (k + j) S = r
  | 0, j, S, S', r, h, K => by cases h; rw [Nat.zero_add]; exact K
  | k + 1, j, S, S', r, h, K => by
    rw [Nat.succ_add]
    simp only [stN] at h
    split at h
    · next hn =>
      split at h
      · next S1 hS => exact go_nx ((noScr_step hn).trans hS) (stN_go k h K)
      · cases h
    · cases h
theorem stN_swp (hcl : swC c call) (hle : callLe call) (hc : c.1 = 106) : ∀ (k : Nat) {S S' : mSt}, swI S.2.2.2 → stN call y k S = some S' → stN call y k (swS c S) = some (swS c S') ∧ swI S'.2.2.2
  | 0, S, S', hI, h => by cases h; exact ⟨rfl, hI⟩
  | k + 1, S, S', hI, h => by
    simp only [stN] at h ⊢
    split at h
    · next hn =>
      split at h
      · next S1 hS =>
        have e := swp_step hcl hc hI hS
        rw [if_pos (show noScr (mcd y (swS c S).1) = true from hn)]
        rw [show mStep call false y (swS c S) = some (.inl (swS c S1)) from e]
        exact stN_swp hcl hle hc k (hI.le (le3.step hle hS)) h
      · cases h
    · cases h
end FR
def frC : Nat → List Value → mHp → Option (mRes × mHp) := mEx (99940 + 60) (396 + 4)
def frH0 : mHp := lawH 0 (fun _ => 0)
def frL : List (Nat × Value) := [(5, .int 0), (4, .ref 99), (3, .ref 98), (2, .ref 58), (1, .ref 1), (0, .ref 0)]
def frO : Option mSt := stN frC 229 16 (0, [(0, .ref 0)], [], frH0)
def frS : mSt := frO.getD (0, [], [], frH0)
theorem frO_some : frO.isSome = true := by decide +kernel
theorem frS_1 : (frS.1, frS.2.1, frS.2.2.1) = (28, frL, []) := by decide +kernel
def frH : mHp := frS.2.2.2
theorem frH_n : frH.1 ≤ 1000 ∧ frH.2.1 ≤ 100000 ∧ swI frH := by unfold swI; decide +kernel
theorem frH_c : (hTag frH 1 = 0 ∧ hAt frH 1 0 = .ref 2 ∧ hAt frH 1 6 = .ref 54 ∧ hAt frH 1 8 = .int 0 ∧ hAt frH 1 9 = .null) ∧ (hTag frH 2 = 1 ∧ hAt frH 2 0 = .ref 3 ∧ hAt frH 2 1 = .int 0) ∧ (hTag frH 3 = 2 ∧ hAt frH 3 0 = .ref 4 ∧ hTag frH 4 = 100 ∧ hLen frH 4 = 60) ∧ (hTag frH 54 = 7 ∧ hAt frH 54 7 = .int 0 ∧ hAt frH 54 8 = .int 0 ∧ hAt frH 54 9 = .int 0 ∧ hAt frH 54 10 = .int 0) := by decide +kernel
theorem frH_m : hTag frH 58 = 11 ∧ hAt frH 58 1 = .ref 59 ∧ hTag frH 59 = 101 ∧ hLen frH 59 = 60 ∧ hAt frH 58 2 = .int 0 ∧ hAt frH 58 49 = .int 0 ∧ hAt frH 58 65 = .int 0 ∧ hAt frH 58 66 = .int 0 ∧ hAt frH 58 67 = .int 0 ∧ hAt frH 58 68 = .int 0 := by decide +kernel
def frX' (H : mHp) (pc k : Nat) : Bool := match stN frC 229 k (pc, frL, [], H) with
  | some S => decide (S.1 = 438) && decide (S.2.1.lookup 5 = some (.int 0)) && decide (S.2.1.lookup 0 = some (.ref 0)) && decide (S.2.2.1 = []) && decide (S.2.2.2.1 ≤ 1000) && decide (S.2.2.2.2.1 ≤ 100000)
  | none => false
theorem frX_1 : frX' frH 127 5 = true := by decide +kernel
theorem frX_2 : frX' frH 138 14 = true := by decide +kernel
theorem frX_7 : frX' frH 313 14 = true := by decide +kernel
theorem frX_9 : frX' frH 414 10 = true := by decide +kernel
