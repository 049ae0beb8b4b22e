/-! Bits of a mask: which names it holds. -/
def bv (z : Int) : BitVec 32 := (Int32.ofInt z).toBitVec
def bt (m : Int) (i : Nat) : Bool := (bv m).getLsbD i
theorem bv_toInt (x : Int32) : bv x.toInt = x.toBitVec := by unfold bv; rw [Int32.ofInt_toInt]
theorem sh_amt {j : Nat} (hj : j < 32) : ((Int32.ofInt j &&& 31).toBitVec.smod 32).toNat = j := by
  have h : ((List.range 32).all (fun j => ((Int32.ofInt (j : Nat) &&& 31).toBitVec.smod 32).toNat == j)) = true := by decide +kernel
  exact beq_iff_eq.mp (List.all_eq_true.mp h j (List.mem_range.mpr hj))
theorem bv_shr (m : Int) {j : Nat} (hj : j < 32) : bv (zShr m j) = (bv m).sshiftRight j := by
  unfold zShr
  rw [bv_toInt]
  show (Int32.ofInt m).toBitVec.sshiftRight ((Int32.ofInt j &&& 31).toBitVec.smod 32).toNat = _
  rw [sh_amt hj]; rfl
theorem bt_shr (m : Int) {j : Nat} (hj : j < 32) : bt (zShr m j) 0 = bt m j := by
  unfold bt
  rw [bv_shr m hj, BitVec.getLsbD_sshiftRight]
  simp [hj]
theorem bv_and (u v : Int) : bv (zAnd u v) = bv u &&& bv v := by
  unfold zAnd; rw [bv_toInt]; rfl
theorem bv_or (u v : Int) : bv (zOr u v) = bv u ||| bv v := by
  unfold zOr; rw [bv_toInt]; rfl
theorem z_of_bv {z : Int} (hz : rg z) {x : BitVec 32} (h : bv z = x) : z = x.toInt := by
  have := hz.to
  rw [← this]
  show (Int32.ofInt z).toBitVec.toInt = _
  rw [← h]; rfl
theorem and1 (z : Int) : zAnd z 1 = 1 ↔ bt z 0 = true := by
  have h := z_of_bv (z := zAnd z 1) rg_zAnd (bv_and z 1)
  have e : bv 1 = 1#32 := rfl
  rw [e, BitVec.and_one_eq_setWidth_ofBool_getLsbD] at h
  rw [h]
  unfold bt
  cases (bv z).getLsbD 0 <;> decide
theorem bt_bit (m : Int) {j : Nat} (hj : j < 32) : zAnd (zShr m j) 1 = 1 ↔ bt m j = true := by rw [and1, bt_shr m hj]
theorem bv_shl {j : Nat} (hj : j < 26) : bv (zShl 1 j) = BitVec.twoPow 32 j := by
  have h : ((List.range 26).all (fun j => bv (zShl 1 (j : Nat)) == BitVec.twoPow 32 j)) = true := by decide +kernel
  exact beq_iff_eq.mp (List.all_eq_true.mp h j (List.mem_range.mpr hj))
theorem and_shl (m : Int) {j : Nat} (hj : j < 26) : zAnd m (zShl 1 j) = 0 ↔ bt m j = false := by
  have h := z_of_bv (z := zAnd m (zShl 1 j)) rg_zAnd (bv_and m _)
  rw [bv_shl hj, BitVec.and_twoPow] at h
  rw [h]
  unfold bt
  cases (bv m).getLsbD j with
  | false => simp
  | true =>
    simp only [if_true, Bool.true_eq_false, iff_false]
    have h2 : ((List.range 26).all (fun j => (BitVec.twoPow 32 j).toInt != 0)) = true := by decide +kernel
    have := List.all_eq_true.mp h2 j (List.mem_range.mpr hj)
    exact fun q => by rw [q] at this; exact absurd this (by decide)
theorem bt_or (u v : Int) (i : Nat) : bt (zOr u v) i = (bt u i || bt v i) := by
  unfold bt; rw [bv_or, BitVec.getLsbD_or]
theorem bt_shl {j : Nat} (hj : j < 26) (i : Nat) : bt (zShl 1 j) i = decide (j = i) := by
  unfold bt
  rw [bv_shl hj, BitVec.getLsbD_twoPow]
  simp [show j < 32 by omega]
theorem bt_0 (i : Nat) : bt 0 i = false := by
  unfold bt
  show (0#32).getLsbD i = false
  exact BitVec.getLsbD_zero
/-- the mask holds the letters L -/
def mk (m : Int) (L : List Int) : Prop := (∀ i : Nat, bt m i = decide ((97 + (i : Int)) ∈ L)) ∧ (∀ c ∈ L, 97 ≤ c ∧ c ≤ 122) ∧ L.Nodup
theorem mk_0 : mk 0 [] := ⟨(fun i => by rw [bt_0]; rfl), (fun c h => by cases h), List.nodup_nil⟩
theorem mk_in {m c : Int} {L : List Int} (h : mk m L) (hc : 97 ≤ c ∧ c ≤ 122) : zAnd m (zShl 1 (c - 97)) = 0 ↔ c ∉ L := by
  have e : c - 97 = ((c - 97).toNat : Int) := by omega
  rw [e, and_shl m (by omega), h.1]
  have e2 : 97 + (((c - 97).toNat : Nat) : Int) = c := by omega
  rw [e2, decide_eq_false_iff_not]
theorem mk_add {m c : Int} {L : List Int} (h : mk m L) (hc : 97 ≤ c ∧ c ≤ 122) (hn : c ∉ L) : mk (zOr m (zShl 1 (c - 97))) (c :: L) := by
  have e : c - 97 = ((c - 97).toNat : Int) := by omega
  refine ⟨fun i => ?_, fun x hx => ?_, List.nodup_cons.mpr ⟨hn, h.2.2⟩⟩
  · rw [bt_or, h.1, e, bt_shl (by omega)]
    by_cases q : 97 + (i : Int) = c
    · have : (c - 97).toNat = i := by omega
      simp [q, this]
    · have : (c - 97).toNat ≠ i := by omega
      simp [q, this]
  · rcases List.mem_cons.mp hx with rfl | hx
    · exact hc
    · exact h.2.1 x hx
theorem mk_bit {m : Int} {L : List Int} (h : mk m L) {i : Nat} (hi : i < 26) : zAnd (zShr m i) 1 = 1 ↔ (97 + (i : Int)) ∈ L := by
  rw [bt_bit m (by omega), h.1, decide_eq_true_eq]
