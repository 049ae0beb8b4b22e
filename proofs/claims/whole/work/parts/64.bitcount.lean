/-! Bits are counted. -/
def zUshr (u v : Int) : Int := ((Int32.ofInt u).toUInt32 >>> ((Int32.ofInt v).toUInt32 &&& Int32.toUInt32 31)).toInt32.toInt
theorem rg_zUshr {u v : Int} : rg (zUshr u v) := rg_toInt
theorem k_ushr {d y pc n a b w : Nat} {lv : List (Nat × Value)} {st : List Value} {σ σ' : Mem} {o : Option Int} {u v : Int} (hc : mcd y pc = some (.iushr, n, a, b, w)) (K : Wk d y (pc + n) lv (vi (zUshr u v) :: st) σ o σ') : Wk d y pc lv (vi v :: vi u :: st) σ o σ' := k_p hc rfl (by simp only [mPure, mII, Option.map_some, zUshr, vi_toInt]) K
def B_In_bitCount (d : Nat) (x0 : Int) (σ : Mem) (o : Option Int) (s' : Mem) : Prop := o = some (zAnd (((zAnd (((zAnd (x0 - (zAnd (zUshr x0 1) 1431655765)) 858993459) + (zAnd (zUshr (x0 - (zAnd (zUshr x0 1) 1431655765)) 2) 858993459)) + (zUshr ((zAnd (x0 - (zAnd (zUshr x0 1) 1431655765)) 858993459) + (zAnd (zUshr (x0 - (zAnd (zUshr x0 1) 1431655765)) 2) 858993459)) 4)) 252645135) + (zUshr (zAnd (((zAnd (x0 - (zAnd (zUshr x0 1) 1431655765)) 858993459) + (zAnd (zUshr (x0 - (zAnd (zUshr x0 1) 1431655765)) 2) 858993459)) + (zUshr ((zAnd (x0 - (zAnd (zUshr x0 1) 1431655765)) 858993459) + (zAnd (zUshr (x0 - (zAnd (zUshr x0 1) 1431655765)) 2) 858993459)) 4)) 252645135) 8)) + (zUshr ((zAnd (((zAnd (x0 - (zAnd (zUshr x0 1) 1431655765)) 858993459) + (zAnd (zUshr (x0 - (zAnd (zUshr x0 1) 1431655765)) 2) 858993459)) + (zUshr ((zAnd (x0 - (zAnd (zUshr x0 1) 1431655765)) 858993459) + (zAnd (zUshr (x0 - (zAnd (zUshr x0 1) 1431655765)) 2) 858993459)) 4)) 252645135) + (zUshr (zAnd (((zAnd (x0 - (zAnd (zUshr x0 1) 1431655765)) 858993459) + (zAnd (zUshr (x0 - (zAnd (zUshr x0 1) 1431655765)) 2) 858993459)) + (zUshr ((zAnd (x0 - (zAnd (zUshr x0 1) 1431655765)) 858993459) + (zAnd (zUshr (x0 - (zAnd (zUshr x0 1) 1431655765)) 2) 858993459)) 4)) 252645135) 8)) 16)) 63) ∧ s' = σ
theorem M_In_bitCount {d : Nat} {x0 : Int} {σ s' : Mem} {o : Option Int} (hx0 : rg x0) (H : B_In_bitCount d x0 σ o s') : Rn (d + 4) yIn_bitCount [vi x0] σ o s' := by
  refine k_m (Nat.le_of_ble_eq_true rfl) (fun hM => ?_)
  unfold B_In_bitCount at H
  refine k_l rfl rfl rfl ?_
  refine k_l rfl rfl rfl ?_
  refine k_p rfl rfl rfl ?_
  refine k_ushr rfl ?_
  refine k_k (x := 1431655765) rfl rfl rfl rfl ?_
  refine k_and rfl ?_
  refine k_sub rfl ?_
  refine k_l rfl rfl rfl ?_
  refine k_l rfl rfl rfl ?_
  refine k_k (x := 858993459) rfl rfl rfl rfl ?_
  refine k_and rfl ?_
  refine k_l rfl rfl rfl ?_
  refine k_p rfl rfl rfl ?_
  refine k_ushr rfl ?_
  refine k_k (x := 858993459) rfl rfl rfl rfl ?_
  refine k_and rfl ?_
  refine k_add rfl ?_
  refine k_l rfl rfl rfl ?_
  refine k_l rfl rfl rfl ?_
  refine k_l rfl rfl rfl ?_
  refine k_p rfl rfl rfl ?_
  refine k_ushr rfl ?_
  refine k_add rfl ?_
  refine k_k (x := 252645135) rfl rfl rfl rfl ?_
  refine k_and rfl ?_
  refine k_l rfl rfl rfl ?_
  refine k_l rfl rfl rfl ?_
  refine k_l rfl rfl rfl ?_
  refine k_k (x := 8) rfl rfl rfl rfl ?_
  refine k_ushr rfl ?_
  refine k_add rfl ?_
  refine k_l rfl rfl rfl ?_
  refine k_l rfl rfl rfl ?_
  refine k_l rfl rfl rfl ?_
  refine k_k (x := 16) rfl rfl rfl rfl ?_
  refine k_ushr rfl ?_
  refine k_add rfl ?_
  refine k_l rfl rfl rfl ?_
  refine k_l rfl rfl rfl ?_
  refine k_k (x := 63) rfl rfl rfl rfl ?_
  refine k_and rfl ?_
  obtain ⟨rfl, rfl⟩ := H
  exact k_r1 hM rg_zAnd rfl rfl rfl
theorem n_rg {a : Nat} (h : a < 2147483648) : rg (a : Int) := ⟨by omega, by omega⟩
theorem bv_nat {a : Nat} : bv (a : Int) = BitVec.ofNat 32 a := by
  unfold bv
  show BitVec.ofInt 32 (a : Int) = _
  exact BitVec.ofInt_natCast 32 a
theorem nat_of_bv {z : Int} {a : Nat} (hz : rg z) (h : bv z = BitVec.ofNat 32 a) (ha : a < 2147483648) : z = a := by
  have h1 := hz.to
  have h2 := (n_rg ha).to
  have : bv z = bv (a : Int) := h.trans bv_nat.symm
  have e : Int32.ofInt z = Int32.ofInt (a : Int) := Int32.toBitVec_inj.mp this
  rw [← h1, e, h2]
theorem zAnd_nat {a b : Nat} (ha : a < 2147483648) : zAnd (a : Int) (b : Int) = ((a &&& b : Nat) : Int) := by
  have h1 : a &&& b ≤ a := Nat.and_le_left
  refine nat_of_bv rg_zAnd ?_ (by omega)
  rw [bv_and, bv_nat, bv_nat]
  exact (BitVec.ofNat_and).symm
theorem zUshr_nat {a k : Nat} (ha : a < 2147483648) (hk : k < 32) : zUshr (a : Int) (k : Int) = ((a >>> k : Nat) : Int) := by
  have h1 : a >>> k ≤ a := by rw [Nat.shiftRight_eq_div_pow]; exact Nat.div_le_self _ _
  refine nat_of_bv rg_zUshr ?_ (by omega)
  unfold zUshr
  rw [bv_toInt]
  have amt : ((Int32.ofInt (k : Int)).toUInt32 &&& Int32.toUInt32 31).toBitVec.toNat % 32 = k := by
    have h : ((List.range 32).all (fun k => ((Int32.ofInt ((k : Nat) : Int)).toUInt32 &&& Int32.toUInt32 31).toBitVec.toNat % 32 == k)) = true := by decide +kernel
    exact beq_iff_eq.mp (List.all_eq_true.mp h k (List.mem_range.mpr hk))
  show ((Int32.ofInt (a : Int)).toBitVec >>> (((Int32.ofInt (k : Int)).toUInt32 &&& Int32.toUInt32 31).toBitVec % 32)) = _
  have e : (((Int32.ofInt (k : Int)).toUInt32 &&& Int32.toUInt32 31).toBitVec % 32).toNat = k := by
    rw [BitVec.toNat_umod]; exact amt
  rw [BitVec.ushiftRight_eq', e]
  apply BitVec.eq_of_toNat_eq
  rw [BitVec.toNat_ushiftRight]
  have e2 : ((Int32.ofInt (a : Int)).toBitVec).toNat = a := by
    have : (Int32.ofInt (a : Int)).toBitVec = BitVec.ofNat 32 a := bv_nat
    rw [this, BitVec.toNat_ofNat, Nat.mod_eq_of_lt (by omega)]
  rw [e2, BitVec.toNat_ofNat, Nat.mod_eq_of_lt (by omega)]
/-- the count as it is made, over naturals -/
def bc1 (x : Nat) : Nat := x - ((x >>> 1) &&& 1431655765)
def bc2 (x : Nat) : Nat := (x &&& 858993459) + ((x >>> 2) &&& 858993459)
def bc3 (x : Nat) : Nat := (x + (x >>> 4)) &&& 252645135
def bc4 (x : Nat) : Nat := x + (x >>> 8)
def bc5 (x : Nat) : Nat := x + (x >>> 16)
theorem and_spl {x m n c d : Nat} (hm : m = c + 2 ^ n * d) (hc : c < 2 ^ n) : x &&& m = ((x % 2 ^ n) &&& c) + 2 ^ n * ((x / 2 ^ n) &&& d) := by
  have h1 : (x &&& m) % 2 ^ n = (x % 2 ^ n) &&& c := by
    rw [Nat.and_mod_two_pow, hm, Nat.add_mul_mod_self_left, Nat.mod_eq_of_lt hc]
  have h2 : (x &&& m) / 2 ^ n = (x / 2 ^ n) &&& d := by
    rw [Nat.and_div_two_pow, hm, Nat.add_mul_div_left _ _ (Nat.two_pow_pos n), Nat.div_eq_of_lt hc, Nat.zero_add]
  rw [← h1, ← h2]
  exact (Nat.mod_add_div _ _).symm
theorem and_low {x m n : Nat} (hm : m < 2 ^ n) : x &&& m = (x % 2 ^ n) &&& m := by
  have := and_spl (x := x) (m := m) (n := n) (c := m) (d := 0) (by omega) hm
  rw [this]; simp
/-- the same on sixteen bits -/
def h1 (x : Nat) : Nat := x - ((x >>> 1) &&& 21845)
def h2 (x : Nat) : Nat := (x &&& 13107) + ((x >>> 2) &&& 13107)
def h3 (x : Nat) : Nat := (x + (x >>> 4)) &&& 3855
def cnt : Nat → (Nat → Bool) → Nat
  | 0, _ => 0
  | n + 1, f => cnt n f + (if f n = true then 1 else 0)
/-- the same on eight bits -/
def g1 (x : Nat) : Nat := x - ((x >>> 1) &&& 85)
def g2 (x : Nat) : Nat := (x &&& 51) + ((x >>> 2) &&& 51)
def g3 (x : Nat) : Nat := (x + (x >>> 4)) &&& 15
def gchk (x : Nat) : Bool := decide ((x >>> 1) &&& 85 ≤ x) && decide (g1 x < 256) && decide (g2 (g1 x) ≤ 68) && decide (g2 (g1 x) % 16 ≤ 4) && decide (g3 (g2 (g1 x)) ≤ 8) && decide (g3 (g2 (g1 x)) = cnt 8 (fun i => x.testBit i))
theorem gchk_all : ((List.range 256).all gchk) = true := by decide +kernel
theorem gchk_ok {x : Nat} (hx : x < 256) : gchk x = true := List.all_eq_true.mp gchk_all x (List.mem_range.mpr hx)
def g1L (x : Nat) : Prop := (x >>> 1) &&& 85 ≤ x
def h1L (x : Nat) : Prop := (x >>> 1) &&& 21845 ≤ x

theorem h1_spl {l h : Nat} (a1 : g1L l) (a2 : g1L h) (hl : l < 256) (hh : h < 256) : h1 (l + 256 * h) = g1 l + 256 * g1 h := by
  have e := and_spl (x := (l + 256 * h) >>> 1) (m := 21845) (n := 8) (c := 85) (d := 85) (by decide) (by decide)
  have s1 : (l + 256 * h) >>> 1 / 2 ^ 8 = h >>> 1 := by simp only [Nat.shiftRight_eq_div_pow]; omega
  have s2 : (l + 256 * h) >>> 1 % 2 ^ 8 % 2 ^ 7 = l >>> 1 := by simp only [Nat.shiftRight_eq_div_pow]; omega
  rw [s1, and_low (x := (l + 256 * h) >>> 1 % 2 ^ 8) (m := 85) (n := 7) (by decide), s2] at e
  unfold g1L at a1 a2
  unfold h1 g1
  rw [e]
  have p : (2 : Nat) ^ 8 = 256 := by decide
  rw [p]
  omega
theorem h2_spl {l h : Nat} (hl : l < 256) (hh : h < 256) : h2 (l + 256 * h) = g2 l + 256 * g2 h := by
  have e1 := and_spl (x := l + 256 * h) (m := 13107) (n := 8) (c := 51) (d := 51) (by decide) (by decide)
  have e2 := and_spl (x := (l + 256 * h) >>> 2) (m := 13107) (n := 8) (c := 51) (d := 51) (by decide) (by decide)
  have s1 : (l + 256 * h) / 2 ^ 8 = h := by omega
  have s2 : (l + 256 * h) % 2 ^ 8 = l := by omega
  have s3 : (l + 256 * h) >>> 2 / 2 ^ 8 = h >>> 2 := by simp only [Nat.shiftRight_eq_div_pow]; omega
  have s4 : (l + 256 * h) >>> 2 % 2 ^ 8 % 2 ^ 6 = l >>> 2 := by simp only [Nat.shiftRight_eq_div_pow]; omega
  rw [s1, s2] at e1
  rw [s3, and_low (x := (l + 256 * h) >>> 2 % 2 ^ 8) (m := 51) (n := 6) (by decide), s4] at e2
  unfold h2 g2
  rw [e1, e2]
  have p : (2 : Nat) ^ 8 = 256 := by decide
  rw [p]
  omega
theorem h3_spl {l h : Nat} (hl : l ≤ 68) (hh : h ≤ 68) (h4 : h % 16 ≤ 4) : h3 (l + 256 * h) = g3 l + 256 * g3 h := by
  have e := and_spl (x := (l + 256 * h) + (l + 256 * h) >>> 4) (m := 3855) (n := 8) (c := 15) (d := 15) (by decide) (by decide)
  have s1 : ((l + 256 * h) + (l + 256 * h) >>> 4) / 2 ^ 8 = h + h >>> 4 := by simp only [Nat.shiftRight_eq_div_pow]; omega
  have s2 : ((l + 256 * h) + (l + 256 * h) >>> 4) % 2 ^ 8 % 2 ^ 4 = (l + l >>> 4) % 2 ^ 4 := by simp only [Nat.shiftRight_eq_div_pow]; omega
  rw [s1, and_low (x := ((l + 256 * h) + (l + 256 * h) >>> 4) % 2 ^ 8) (m := 15) (n := 4) (by decide), s2, ← and_low (x := l + l >>> 4) (m := 15) (n := 4) (by decide)] at e
  unfold h3 g3
  rw [e]

theorem bc1_spl {l h : Nat} (a1 : h1L l) (a2 : h1L h) (hl : l < 65536) (hh : h < 65536) : bc1 (l + 65536 * h) = h1 l + 65536 * h1 h := by
  have e := and_spl (x := (l + 65536 * h) >>> 1) (m := 1431655765) (n := 16) (c := 21845) (d := 21845) (by decide) (by decide)
  have s1 : (l + 65536 * h) >>> 1 / 2 ^ 16 = h >>> 1 := by simp only [Nat.shiftRight_eq_div_pow]; omega
  have s2 : (l + 65536 * h) >>> 1 % 2 ^ 16 % 2 ^ 15 = l >>> 1 := by simp only [Nat.shiftRight_eq_div_pow]; omega
  rw [s1, and_low (x := (l + 65536 * h) >>> 1 % 2 ^ 16) (m := 21845) (n := 15) (by decide), s2] at e
  unfold h1L at a1 a2
  unfold bc1 h1
  rw [e]
  have p : (2 : Nat) ^ 16 = 65536 := by decide
  rw [p]
  omega
theorem bc2_spl {l h : Nat} (hl : l < 65536) (hh : h < 65536) : bc2 (l + 65536 * h) = h2 l + 65536 * h2 h := by
  have e1 := and_spl (x := l + 65536 * h) (m := 858993459) (n := 16) (c := 13107) (d := 13107) (by decide) (by decide)
  have e2 := and_spl (x := (l + 65536 * h) >>> 2) (m := 858993459) (n := 16) (c := 13107) (d := 13107) (by decide) (by decide)
  have s1 : (l + 65536 * h) / 2 ^ 16 = h := by omega
  have s2 : (l + 65536 * h) % 2 ^ 16 = l := by omega
  have s3 : (l + 65536 * h) >>> 2 / 2 ^ 16 = h >>> 2 := by simp only [Nat.shiftRight_eq_div_pow]; omega
  have s4 : (l + 65536 * h) >>> 2 % 2 ^ 16 % 2 ^ 14 = l >>> 2 := by simp only [Nat.shiftRight_eq_div_pow]; omega
  rw [s1, s2] at e1
  rw [s3, and_low (x := (l + 65536 * h) >>> 2 % 2 ^ 16) (m := 13107) (n := 14) (by decide), s4] at e2
  unfold bc2 h2
  rw [e1, e2]
  have p : (2 : Nat) ^ 16 = 65536 := by decide
  rw [p]
  omega
theorem bc3_spl {l h : Nat} (hl : l ≤ 17476) (hh : h ≤ 17476) (h4 : h % 16 ≤ 4) : bc3 (l + 65536 * h) = h3 l + 65536 * h3 h := by
  have e := and_spl (x := (l + 65536 * h) + (l + 65536 * h) >>> 4) (m := 252645135) (n := 16) (c := 3855) (d := 3855) (by decide) (by decide)
  have s1 : ((l + 65536 * h) + (l + 65536 * h) >>> 4) / 2 ^ 16 = h + h >>> 4 := by simp only [Nat.shiftRight_eq_div_pow]; omega
  have s2 : ((l + 65536 * h) + (l + 65536 * h) >>> 4) % 2 ^ 16 % 2 ^ 12 = (l + l >>> 4) % 2 ^ 12 := by simp only [Nat.shiftRight_eq_div_pow]; omega
  rw [s1, and_low (x := ((l + 65536 * h) + (l + 65536 * h) >>> 4) % 2 ^ 16) (m := 3855) (n := 12) (by decide), s2, ← and_low (x := l + l >>> 4) (m := 3855) (n := 12) (by decide)] at e
  unfold bc3 h3
  rw [e]

theorem cnt_add (f : Nat → Bool) : ∀ (n m : Nat), cnt (m + n) f = cnt m f + cnt n (fun i => f (m + i))
  | 0, m => rfl
  | n + 1, m => by
    show cnt (m + n) f + (if f (m + n) = true then 1 else 0) = cnt m f + (cnt n (fun i => f (m + i)) + (if f (m + n) = true then 1 else 0))
    rw [cnt_add f n m]; omega
theorem cnt_cg {f g : Nat → Bool} : ∀ (n : Nat), (∀ i, i < n → f i = g i) → cnt n f = cnt n g
  | 0, _ => rfl
  | n + 1, h => by rw [cnt, cnt, cnt_cg n (fun i hi => h i (by omega)), h n (by omega)]
theorem hchk_ok {x : Nat} (hx : x < 65536) : h1L x ∧ h1 x < 65536 ∧ h2 (h1 x) ≤ 17476 ∧ h2 (h1 x) % 16 ≤ 4 ∧ h3 (h2 (h1 x)) % 256 ≤ 8 ∧ h3 (h2 (h1 x)) / 256 ≤ 8 ∧ h3 (h2 (h1 x)) % 256 + h3 (h2 (h1 x)) / 256 = cnt 16 (fun i => x.testBit i) := by
  have hl : x % 256 < 256 := Nat.mod_lt _ (by decide)
  have hh : x / 256 < 256 := by omega
  have ex : x = x % 256 + 256 * (x / 256) := (Nat.mod_add_div _ _).symm
  have ol := gchk_ok hl
  have oh := gchk_ok hh
  unfold gchk at ol oh
  simp only [Bool.and_eq_true, decide_eq_true_eq] at ol oh
  obtain ⟨⟨⟨⟨⟨l1, l2⟩, l3⟩, l4⟩, l5⟩, l6⟩ := ol
  obtain ⟨⟨⟨⟨⟨r1, r2⟩, r3⟩, r4⟩, r5⟩, r6⟩ := oh
  have e1 : h1 x = g1 (x % 256) + 256 * g1 (x / 256) := by
    conv => lhs; rw [ex]
    exact h1_spl l1 r1 hl hh
  have e2 : h2 (h1 x) = g2 (g1 (x % 256)) + 256 * g2 (g1 (x / 256)) := by rw [e1, h2_spl l2 r2]
  have e3 : h3 (h2 (h1 x)) = g3 (g2 (g1 (x % 256))) + 256 * g3 (g2 (g1 (x / 256))) := by rw [e2, h3_spl l3 r3 r4]
  have c : cnt 16 (fun i => x.testBit i) = cnt 8 (fun i => (x % 256).testBit i) + cnt 8 (fun i => (x / 256).testBit i) := by
    rw [show (16 : Nat) = 8 + 8 from rfl, cnt_add]
    congr 1
    · refine cnt_cg 8 (fun i hi => ?_)
      rw [show (256 : Nat) = 2 ^ 8 from rfl, Nat.testBit_mod_two_pow]
      simp [hi]
    · refine cnt_cg 8 (fun i hi => ?_)
      rw [show (256 : Nat) = 2 ^ 8 from rfl, Nat.testBit_div_two_pow, Nat.add_comm]
  have hL : h1L x := by
    have e := and_spl (x := x >>> 1) (m := 21845) (n := 8) (c := 85) (d := 85) (by decide) (by decide)
    have s1 : x >>> 1 / 2 ^ 8 = (x / 256) >>> 1 := by simp only [Nat.shiftRight_eq_div_pow]; omega
    have s2 : x >>> 1 % 2 ^ 8 % 2 ^ 7 = (x % 256) >>> 1 := by simp only [Nat.shiftRight_eq_div_pow]; omega
    rw [s1, and_low (x := x >>> 1 % 2 ^ 8) (m := 85) (n := 7) (by decide), s2] at e
    unfold h1L
    rw [e]
    have p : (2 : Nat) ^ 8 = 256 := by decide
    rw [p]; omega
  refine ⟨hL, by rw [e1]; omega, by rw [e2]; omega, by rw [e2]; omega, by rw [e3]; omega, by rw [e3]; omega, ?_⟩
  rw [c, ← l6, ← r6, e3]; omega
theorem bc_all {x : Nat} (hx : x < 4294967296) : bc5 (bc4 (bc3 (bc2 (bc1 x)))) &&& 63 = cnt 32 (fun i => x.testBit i) := by
  have hl : x % 65536 < 65536 := Nat.mod_lt _ (by decide)
  have hh : x / 65536 < 65536 := by omega
  have ex : x = x % 65536 + 65536 * (x / 65536) := (Nat.mod_add_div _ _).symm
  have ol := hchk_ok hl
  have oh := hchk_ok hh
  obtain ⟨l1, l2, l3, l4, l5, l6, l7⟩ := ol
  obtain ⟨r1, r2, r3, r4, r5, r6, r7⟩ := oh
  have e : bc3 (bc2 (bc1 x)) = h3 (h2 (h1 (x % 65536))) + 65536 * h3 (h2 (h1 (x / 65536))) := by
    conv => lhs; rw [ex]
    rw [bc1_spl l1 r1 hl hh, bc2_spl l2 r2, bc3_spl l3 r3 r4]
  have c : cnt 32 (fun i => x.testBit i) = cnt 16 (fun i => (x % 65536).testBit i) + cnt 16 (fun i => (x / 65536).testBit i) := by
    rw [show (32 : Nat) = 16 + 16 from rfl, cnt_add]
    congr 1
    · refine cnt_cg 16 (fun i hi => ?_)
      rw [show (65536 : Nat) = 2 ^ 16 from rfl, Nat.testBit_mod_two_pow]
      simp [hi]
    · refine cnt_cg 16 (fun i hi => ?_)
      rw [show (65536 : Nat) = 2 ^ 16 from rfl, Nat.testBit_div_two_pow, Nat.add_comm]
  rw [e, c, ← l7, ← r7]
  generalize h3 (h2 (h1 (x % 65536))) = A at *
  generalize h3 (h2 (h1 (x / 65536))) = B at *
  have m63 : ∀ z : Nat, z &&& 63 = z % 64 := fun z => Nat.and_two_pow_sub_one_eq_mod z 6
  rw [m63]
  have eA : A = A % 256 + 256 * (A / 256) := (Nat.mod_add_div _ _).symm
  have eB : B = B % 256 + 256 * (B / 256) := (Nat.mod_add_div _ _).symm
  clear e l7 r7 c l1 l2 l3 l4 r1 r2 r3 r4
  generalize A % 256 = a0 at *
  generalize A / 256 = a1 at *
  generalize B % 256 = b0 at *
  generalize B / 256 = b1 at *
  subst eA eB
  have q4 : bc4 (a0 + 256 * a1 + 65536 * (b0 + 256 * b1)) = (a0 + a1) + 256 * (a1 + b0) + 65536 * (b0 + b1 + 256 * b1) := by
    unfold bc4
    rw [Nat.shiftRight_eq_div_pow]
    have : (a0 + 256 * a1 + 65536 * (b0 + 256 * b1)) / 2 ^ 8 = a1 + 256 * b0 + 65536 * b1 := by omega
    rw [this]; omega
  have q5 : bc5 ((a0 + a1) + 256 * (a1 + b0) + 65536 * (b0 + b1 + 256 * b1)) = (a0 + a1 + b0 + b1) + 64 * (4 * (a1 + b0 + b1) + 1024 * (b0 + b1 + 256 * b1)) := by
    unfold bc5
    rw [Nat.shiftRight_eq_div_pow]
    have : ((a0 + a1) + 256 * (a1 + b0) + 65536 * (b0 + b1 + 256 * b1)) / 2 ^ 16 = b0 + b1 + 256 * b1 := by omega
    rw [this]; omega
  rw [q4, q5, Nat.add_mul_mod_self_left]
  omega
theorem cnt_or {f g : Nat → Bool} : ∀ (n : Nat), (∀ i, ¬ (f i = true ∧ g i = true)) → cnt n (fun i => f i || g i) = cnt n f + cnt n g
  | 0, _ => rfl
  | n + 1, h => by
    rw [cnt, cnt, cnt, cnt_or n h]
    have := h n
    cases hf : f n <;> cases hg : g n <;> simp [hf, hg] at this ⊢ <;> omega
theorem cnt_one {k : Nat} : ∀ (n : Nat), cnt n (fun i => decide (i = k)) = if k < n then 1 else 0
  | 0 => rfl
  | n + 1 => by
    rw [cnt, cnt_one n]
    by_cases h : n = k
    · subst h; simp
    · by_cases q : k < n
      · simp [h, q, show k < n + 1 by omega]
      · simp [h, q, show ¬ k < n + 1 by omega]
theorem cnt_no : ∀ (n : Nat), cnt n (fun _ => false) = 0
  | 0 => rfl
  | n + 1 => by rw [cnt, cnt_no n]; rfl
theorem cnt_L : ∀ (L : List Int), (∀ c ∈ L, 97 ≤ c ∧ c ≤ 122) → L.Nodup → cnt 32 (fun i => decide ((97 + (i : Int)) ∈ L)) = L.length
  | [], _, _ => cnt_no 32
  | c :: L, h, hn => by
    obtain ⟨n1, n2⟩ := List.nodup_cons.mp hn
    have hc := h c List.mem_cons_self
    have ih := cnt_L L (fun c hc => h c (List.mem_cons_of_mem _ hc)) n2
    have e : (fun i : Nat => decide ((97 + (i : Int)) ∈ c :: L)) = fun i => (decide (i = (c - 97).toNat)) || decide ((97 + (i : Int)) ∈ L) := by
      funext i
      by_cases q : i = (c - 97).toNat
      · have : 97 + (i : Int) = c := by omega
        simp [q, this]
        left; omega
      · have : 97 + (i : Int) ≠ c := by omega
        simp [q, this]
    rw [e, cnt_or, cnt_one, ih, if_pos (by omega), List.length_cons]
    · omega
    · intro i hi
      simp only [decide_eq_true_eq] at hi
      apply n1
      have : 97 + (i : Int) = c := by omega
      rw [← this]; exact hi.2

theorem s_bitCount {d : Nat} {m : Int} {σ : Mem} (hm : rg m) : ∃ v, rg v ∧ Rn (d + 4) yIn_bitCount [vi m] σ (some v) σ ∧ ∀ L, mk m L → v = L.length := by
  refine ⟨_, ?_, M_In_bitCount hm ⟨rfl, rfl⟩, fun L hL => ?_⟩
  · exact rg_zAnd
  -- the mask as a natural number
  have hN : ∃ N : Nat, m = N ∧ N < 67108864 ∧ ∀ i, N.testBit i = bt m i := by
    refine ⟨(bv m).toNat, ?_, ?_, fun i => ?_⟩
    · have hlt : (bv m).toNat < 67108864 := by
        have : (bv m).toNat < 2 ^ 26 := by
          apply Nat.lt_pow_two_of_testBit
          intro i hi
          have := hL.1 i
          have h2 : (97 + (i : Int)) ∉ L := fun h => by have := hL.2.1 _ h; omega
          rw [decide_eq_false h2] at this
          exact this
        exact this
      refine nat_of_bv hm ?_ (by omega)
      simp
    · have : (bv m).toNat < 2 ^ 26 := by
        apply Nat.lt_pow_two_of_testBit
        intro i hi
        have := hL.1 i
        have h2 : (97 + (i : Int)) ∉ L := fun h => by have := hL.2.1 _ h; omega
        rw [decide_eq_false h2] at this
        exact this
      exact this
    · rfl
  obtain ⟨N, rfl, hlt, hbit⟩ := hN
  have cN : cnt 32 (fun i => N.testBit i) = L.length := by
    rw [← cnt_L L hL.2.1 hL.2.2]
    exact cnt_cg 32 (fun i _ => (hbit i).trans (hL.1 i))
  have fin := bc_all (x := N) (by omega)
  rw [cN] at fin
  have A : (N : Int) - zAnd (zUshr (N : Int) 1) 1431655765 = ((bc1 N : Nat) : Int) := by
    have u : zUshr (N : Int) 1 = ((N >>> 1 : Nat) : Int) := zUshr_nat (k := 1) (by omega) (by decide)
    have l1 : N >>> 1 ≤ N := by rw [Nat.shiftRight_eq_div_pow]; exact Nat.div_le_self _ _
    have w : zAnd ((N >>> 1 : Nat) : Int) 1431655765 = ((N >>> 1 &&& 1431655765 : Nat) : Int) := zAnd_nat (b := 1431655765) (by omega)
    have l2 : N >>> 1 &&& 1431655765 ≤ N >>> 1 := Nat.and_le_left
    rw [u, w]; unfold bc1; omega
  have z1 : bc1 N < 67108864 := by unfold bc1; omega
  rw [A]
  clear A hbit cN
  generalize bc1 N = x1 at *
  have B : zAnd (x1 : Int) 858993459 + zAnd (zUshr (x1 : Int) 2) 858993459 = ((bc2 x1 : Nat) : Int) := by
    have u : zUshr (x1 : Int) 2 = ((x1 >>> 2 : Nat) : Int) := zUshr_nat (k := 2) (by omega) (by decide)
    have l1 : x1 >>> 2 ≤ x1 := by rw [Nat.shiftRight_eq_div_pow]; exact Nat.div_le_self _ _
    have w : zAnd ((x1 >>> 2 : Nat) : Int) 858993459 = ((x1 >>> 2 &&& 858993459 : Nat) : Int) := zAnd_nat (b := 858993459) (by omega)
    have w2 : zAnd (x1 : Int) 858993459 = ((x1 &&& 858993459 : Nat) : Int) := zAnd_nat (b := 858993459) (by omega)
    rw [u, w, w2]; unfold bc2; omega
  have z2 : bc2 x1 < 134217728 := by
    have l1 : x1 >>> 2 ≤ x1 := by rw [Nat.shiftRight_eq_div_pow]; exact Nat.div_le_self _ _
    have l2 : x1 >>> 2 &&& 858993459 ≤ x1 >>> 2 := Nat.and_le_left
    have l3 : x1 &&& 858993459 ≤ x1 := Nat.and_le_left
    unfold bc2; omega
  rw [B]
  clear B
  generalize bc2 x1 = x2 at *
  have C : zAnd ((x2 : Int) + zUshr (x2 : Int) 4) 252645135 = ((bc3 x2 : Nat) : Int) := by
    have u : zUshr (x2 : Int) 4 = ((x2 >>> 4 : Nat) : Int) := zUshr_nat (k := 4) (by omega) (by decide)
    have l1 : x2 >>> 4 ≤ x2 := by rw [Nat.shiftRight_eq_div_pow]; exact Nat.div_le_self _ _
    have w : zAnd ((x2 + x2 >>> 4 : Nat) : Int) 252645135 = ((x2 + x2 >>> 4 &&& 252645135 : Nat) : Int) := zAnd_nat (b := 252645135) (by omega)
    have e : (x2 : Int) + ((x2 >>> 4 : Nat) : Int) = ((x2 + x2 >>> 4 : Nat) : Int) := by omega
    rw [u, e, w]; rfl
  have z3 : bc3 x2 < 268435456 := by
    have l1 : x2 >>> 4 ≤ x2 := by rw [Nat.shiftRight_eq_div_pow]; exact Nat.div_le_self _ _
    have l2 : x2 + x2 >>> 4 &&& 252645135 ≤ x2 + x2 >>> 4 := Nat.and_le_left
    unfold bc3; omega
  rw [C]
  clear C
  generalize bc3 x2 = x3 at *
  have D : (x3 : Int) + zUshr (x3 : Int) 8 = ((bc4 x3 : Nat) : Int) := by
    have u : zUshr (x3 : Int) 8 = ((x3 >>> 8 : Nat) : Int) := zUshr_nat (k := 8) (by omega) (by decide)
    rw [u]; unfold bc4; omega
  have z4 : bc4 x3 < 536870912 := by
    have l1 : x3 >>> 8 ≤ x3 := by rw [Nat.shiftRight_eq_div_pow]; exact Nat.div_le_self _ _
    unfold bc4; omega
  rw [D]
  clear D
  generalize bc4 x3 = x4 at *
  have E : (x4 : Int) + zUshr (x4 : Int) 16 = ((bc5 x4 : Nat) : Int) := by
    have u : zUshr (x4 : Int) 16 = ((x4 >>> 16 : Nat) : Int) := zUshr_nat (k := 16) (by omega) (by decide)
    rw [u]; unfold bc5; omega
  have z5 : bc5 x4 < 1073741824 := by
    have l1 : x4 >>> 16 ≤ x4 := by rw [Nat.shiftRight_eq_div_pow]; exact Nat.div_le_self _ _
    unfold bc5; omega
  rw [E]
  have F : zAnd ((bc5 x4 : Nat) : Int) 63 = ((bc5 x4 &&& 63 : Nat) : Int) := zAnd_nat (b := 63) (by omega)
  rw [F, fin]
