/-! The model's small methods. -/
/-- how much can be made -/
def mBo (m : MBd) : Prop := (0 ≤ m.1 ∧ m.1 ≤ 502) ∧ (0 ≤ m.2.1 ∧ m.2.1 ≤ 502) ∧ (0 ≤ m.2.2 ∧ m.2.2 ≤ 4299)
/-- a kind and what is told -/
def mNu (x : Int) : Prop := ∃ v k, x = 8 * v + k ∧ rg v ∧ (0 ≤ k ∧ k < 8)
section MSML
variable {h h' : mHp} {σ σ' : Mem} {d : Nat} {P : Tr → List Int → Int → Prop} {m : MBd}
theorem r_kind {v k : Int} (hk : 0 ≤ k ∧ k < 8) : Rh (d + 2) yMo_kind [vlg (8 * v + k)] h σ (.inl (some (vi k))) h σ := M_Mo_kind (by unfold B_Mo_kind; rw [zk_7 hk]; exact ⟨rfl, rfl, rfl⟩)
theorem r_told {v k : Int} (hv : rg v) (hk : 0 ≤ k ∧ k < 8) : Rh (d + 2) yMo_told [vlg (8 * v + k)] h σ (.inl (some (vi v))) h σ := M_Mo_told (by unfold B_Mo_told; rw [zk_3 hv hk]; exact ⟨rfl, rfl, rfl⟩)
theorem r_mfail {c : Int} (hc : rg c) : Rh (d + 2) yMo_fail [.ref 58, vi c] h σ (.inl none) h (mup (mup σ 58 65 3) 58 66 c) := M_Mo_fail hc ⟨rfl, rfl, rfl⟩
theorem r_known {k v n : Int} (gk : rg k) (gv : rg v) (e : σ 58 51 = n) (hn : 0 ≤ n ∧ n < 200) : Rh (d + 3) yMo_known [.ref 58, vi k, vi v] h σ (.inl none) (hSet h 89 n.toNat (vlg (8 * v + k))) (mup σ 58 51 (n + 1)) := M_Mo_known gk gv (by
  unfold B_Mo_known
  rw [e, if_pos (by omega)]
  exact ⟨by unfold rg; omega, hn, by unfold rg; omega, rfl, rfl, rfl⟩)
theorem r_known5 {k v : Int} (gk : rg k) (gv : rg v) (e : σ 58 51 = 200) : Rh (d + 3) yMo_known [.ref 58, vi k, vi v] h σ (.inl none) h (mup (mup σ 58 65 3) 58 66 5) := M_Mo_known gk gv (by
  unfold B_Mo_known
  rw [e, if_neg (by decide)]
  exact ⟨rgk rfl, _, _, r_mfail (rgk rfl), rfl, rfl, rfl⟩)
theorem r_knownV {x n : Int} (hx : mNu x) (e : σ 58 51 = n) (hn : 0 ≤ n ∧ n < 200) : Rh (d + 4) yMo_knownValue [.ref 58, vlg x] h σ (.inl none) (hSet h 89 n.toNat (vlg x)) (mup σ 58 51 (n + 1)) := by
  obtain ⟨v, k, rfl, gv, hk⟩ := hx
  refine M_Mo_knownValue ?_
  unfold B_Mo_knownValue
  rw [zk_7 hk, zk_3 gv hk]
  exact ⟨_, _, r_known (by unfold rg; omega) gv e hn, rfl, rfl, rfl⟩
theorem r_knownV5 {x : Int} (hx : mNu x) (e : σ 58 51 = 200) : Rh (d + 4) yMo_knownValue [.ref 58, vlg x] h σ (.inl none) h (mup (mup σ 58 65 3) 58 66 5) := by
  obtain ⟨v, k, rfl, gv, hk⟩ := hx
  refine M_Mo_knownValue ?_
  unfold B_Mo_knownValue
  rw [zk_7 hk, zk_3 gv hk]
  exact ⟨_, _, r_known5 (by unfold rg; omega) gv e, rfl, rfl, rfl⟩
/-- a real is made -/
theorem r_mreal {b : UInt64} {n r : Int} (e : σ 58 51 = n) (hn : 0 ≤ n ∧ n < 200) (er : σ 58 63 = r) (hr : 0 ≤ r ∧ r < 502) : Rh (d + 4) yMo_knownReal [.ref 58, .double b] h σ (.inl none) (hSet (hSet h 96 r.toNat (.double b)) 89 n.toNat (vlg (8 * r + 2))) (mup (mup σ 58 63 (r + 1)) 58 51 (n + 1)) := by
  refine M_Mo_knownReal ?_
  unfold B_Mo_knownReal
  rw [er, mup_eq, show r + 1 - 1 = r by omega]
  exact ⟨by unfold rg; omega, hr, by unfold rg; omega, by unfold rg; omega, _, _, r_known (rgk rfl) (by unfold rg; omega) ((mup_nk (by decide)).trans e) hn, rfl, rfl, rfl⟩
/-- a name gets a value -/
theorem r_worth {y e n : Int} (b : σ 58 57 = n) (hn : 0 ≤ n ∧ n < 4299) (ge : rg e) : Rh (d + 2) yMo_worthIs [.ref 58, vlg y, vi e] h σ (.inl none) (hSet h 92 (n + 1).toNat (vlg y)) (mup (mup (mup σ 58 57 (n + 1)) 93 (n + 1) e) 58 58 (n + 1)) := by
  refine M_Mo_worthIs ge ?_
  unfold B_Mo_worthIs
  have q : (mup (mup σ 58 57 (n + 1)) 93 (n + 1) e) 58 57 = n + 1 := (mup_ne (by decide)).trans mup_eq
  rw [b, mup_eq, q]
  exact ⟨by unfold rg; omega, by unfold rg; omega, by unfold rg; omega, by omega, by omega, by unfold rg; omega, rfl, rfl, rfl⟩
/-- what a number can be -/
theorem RMv.ra (w : mBo m) {f : Std.Format} {b : Bool} : ∀ {x : Int}, RMv h σ P m f b x → (b = false → mNu x) ∧ (b = true → 0 ≤ x ∧ x ≤ m.2.2) := by
  obtain ⟨w1, w2, w3⟩ := w
  fun_induction RMv h σ P m f b with
  | case1 => intro x r; exact ⟨fun e => (by cases e), fun _ => by omega⟩
  | case2 z v ρ ih1 ih2 => intro x r; exact ⟨fun e => (by cases e), fun _ => ⟨by have := r.1.1; omega, r.1.2⟩⟩
  | case3 z f => intro x r; exact ⟨fun _ => ⟨z, 0, by have := r.1; omega, r.2, by omega⟩, fun e => by cases e⟩
  | case4 z f => intro x r; exact ⟨fun _ => ⟨z, 0, by have := r.1; omega, r.2, by omega⟩, fun e => by cases e⟩
  | case5 z f =>
    intro x r
    refine ⟨fun _ => ?_, fun e => by cases e⟩
    rcases r with ⟨y, e, hy, -⟩ | ⟨k, e, hk, -⟩
    · exact ⟨y, 1, e, by unfold rg; omega, by omega⟩
    · exact ⟨k, 2, e, by unfold rg; omega, by omega⟩
  | case6 f => intro x r; have r : x = 3 := r; exact ⟨fun _ => ⟨0, 3, by omega, rgk rfl, by omega⟩, fun e => by cases e⟩
  | case7 a w ih1 ih2 =>
    intro x ⟨k, y, z, e, r, _⟩
    exact ⟨fun _ => ⟨k, 4, e, by unfold rg; omega, by omega⟩, fun e => by cases e⟩
  | case8 z f => intro x r; have r : x = 8 * z + 5 ∧ rg z := r; exact ⟨fun _ => ⟨z, 5, r.1, r.2, by omega⟩, fun e => by cases e⟩
  | case9 lam ρ ih =>
    intro x ⟨p, e, a, r, q, _⟩
    exact ⟨fun _ => ⟨8192 * p + e, 6, a, by unfold rg; omega, by omega⟩, fun e => by cases e⟩
  | case10 f lam ρ ih =>
    intro x ⟨p, e, a, r, q, _⟩
    exact ⟨fun _ => ⟨8192 * p + e, 6, a, by unfold rg; omega, by omega⟩, fun e => by cases e⟩
  | case11 => intro x r; exact r.elim
theorem RMv.nu (w : mBo m) {v : Va} {x : Int} (r : RMv h σ P m v false x) : mNu x := (r.ra w).1 rfl
theorem RMv.pl (w : mBo m) {ρ : En} {x : Int} (r : RMv h σ P m ρ true x) : 0 ≤ x ∧ x ≤ m.2.2 := (r.ra w).2 rfl
/-- further out -/
theorem r_fur (w : mBo m) {n : Int} (hn : n ≤ 2147483647) : ∀ (j : Nat) (ρ : En) (x i : Int), RMv h σ P m ρ true x → j ≤ (nmEn ρ).length → i + j = n → 0 ≤ i → ∃ y, Lh (d + 1) yMo_further 7 [(0, .ref 58), (1, vi n), (2, vi x), (3, vi i)] [] h σ (.inl (some (vi y))) h σ ∧ RMv h σ P m (drp j ρ) true y
  | 0, ρ, x, i, r, _, e, h0 => by
    have p := r.pl w
    have w3 := w.2.2
    refine ⟨x, K_Mo_further_7 (by unfold rg; omega) (by unfold rg; omega) (by unfold rg; omega) ?_, r⟩
    unfold B_Mo_further_7
    rw [if_pos (by omega)]
    exact ⟨rfl, rfl, rfl⟩
  | j + 1, ρ, x, i, r, hl, e, h0 => by
    have p := r.pl w
    have w3 := w.2.2
    unfold nmEn at hl
    split at hl
    · next z v ρ' =>
      obtain ⟨r1, y, e1, r2, r3⟩ := r
      have hl : j ≤ (nmEn ρ').length := Nat.le_of_succ_le_succ hl
      obtain ⟨y', L, r'⟩ := r_fur w hn j ρ' (σ 93 x) (i + 1) r3 hl (by omega) (by omega)
      have p3 := r3.pl w
      refine ⟨y', K_Mo_further_7 (by unfold rg; omega) (by unfold rg; omega) (by unfold rg; omega) ?_, r'⟩
      unfold B_Mo_further_7
      rw [if_neg (by omega)]
      exact ⟨by omega, by unfold rg; omega, by unfold rg; omega, L⟩
    · cases hl
theorem r_further (w : mBo m) {n : Int} {ρ : En} (h0 : 0 ≤ n) (hn : n ≤ 2147483647) (r : RMv h σ P m ρ true (σ 58 58)) (hl : n ≤ (nmEn ρ).length) : ∃ y, Rh (d + 2) yMo_further [.ref 58, vi n] h σ (.inl (some (vi y))) h σ ∧ RMv h σ P m (drp n.toNat ρ) true y := by
  have p := r.pl w
  have w3 := w.2.2
  obtain ⟨y, L, r'⟩ := r_fur (d := d) w hn n.toNat ρ (σ 58 58) 0 r (by omega) (by omega) (Int.le_refl _)
  exact ⟨y, M_Mo_further (by unfold rg; omega) ⟨by unfold rg; omega, L⟩, r'⟩
theorem ix_drp {z : Int} : ∀ {ρ : En}, z ∈ nmEn ρ → ∃ ρ', drp (ix z (nmEn ρ)).toNat ρ = eC z (lkp z ρ) ρ' ∧ 0 ≤ ix z (nmEn ρ) ∧ ix z (nmEn ρ) < (nmEn ρ).length := by
  intro ρ
  fun_induction lkp z ρ with
  | case1 v ρ =>
    intro _
    have e : ix z (nmEn (.nest z (.append v ρ))) = 0 := if_pos rfl
    have l : (nmEn (.nest z (.append v ρ))).length = (nmEn ρ).length + 1 := rfl
    rw [e, l]
    exact ⟨ρ, rfl, Int.le_refl _, by omega⟩
  | case2 y v ρ hy ih =>
    intro hm
    have hm : z ∈ y :: nmEn ρ := hm
    rcases List.mem_cons.mp hm with e | e
    · exact absurd e.symm hy
    · obtain ⟨ρ', a, b, c⟩ := ih e
      have e : ix z (nmEn (.nest y (.append v ρ))) = 1 + ix z (nmEn ρ) := if_neg hy
      have l : (nmEn (.nest y (.append v ρ))).length = (nmEn ρ).length + 1 := rfl
      rw [e, l, show (1 + ix z (nmEn ρ)).toNat = (ix z (nmEn ρ)).toNat + 1 by omega]
      exact ⟨ρ', a, by omega, by omega⟩
  | case3 ρ hx =>
    intro hm
    unfold nmEn at hm
    split at hm
    · exact (hx _ _ _ rfl).elim
    · cases hm
/-- a name's value -/
theorem r_mlk (w : mBo m) {z : Int} {ρ : En} (hz : z ∈ nmEn ρ) (hl : rg (ix z (nmEn ρ))) (r : RMv h σ P m ρ true (σ 58 58)) : ∃ e y, Rh (d + 2) yMo_further [.ref 58, vi (ix z (nmEn ρ))] h σ (.inl (some (vi e))) h σ ∧ (1 ≤ e ∧ e ≤ 4299) ∧ hAt h 92 e.toNat = vlg y ∧ RMv h σ P m (lkp z ρ) false y := by
  obtain ⟨ρ', a, b, c⟩ := ix_drp hz
  obtain ⟨e, R, r'⟩ := r_further (d := d) w b (by unfold rg at hl; omega) r (by omega)
  rw [a] at r'
  obtain ⟨r1, y, e1, r2, -⟩ := r'
  exact ⟨e, y, R, ⟨r1.1, Int.le_trans r1.2 w.2.2.2⟩, e1, r2⟩
/-- a real's bits -/
theorem r_realOf {b : UInt64} {x : Int} (w : mBo m) (r : RMv h σ P m (vR b) false x) : Rh (d + 3) yMo_realOf [.ref 58, vlg x] h σ (.inl (some (.double b))) h σ := by
  obtain ⟨-, w2, -⟩ := w
  have eb : UInt64.ofNat ((b.toNat : Int)).toNat = b := vR_at
  refine M_Mo_realOf ?_
  unfold B_Mo_realOf
  rcases r with ⟨y, rfl, hy, e⟩ | ⟨k, rfl, hk, e⟩
  · rw [eb] at e
    have gy : rg y := by unfold rg; omega
    refine ⟨1, h, σ, r_kind (by omega), rgk rfl, ?_⟩
    rw [if_neg (by decide)]
    refine ⟨y, h, σ, r_told gy (by omega), gy, ?_⟩
    rw [k1000, ← e]
    exact ⟨by rw [e]; exact wk_lit hy, rfl, rfl, rfl⟩
  · rw [eb] at e
    have gk : rg k := by unfold rg; omega
    refine ⟨2, h, σ, r_kind (by omega), rgk rfl, ?_⟩
    rw [if_pos (by decide)]
    refine ⟨2, h, σ, r_kind (by omega), rgk rfl, ?_⟩
    rw [if_neg (by decide)]
    exact ⟨k, h, σ, r_told gk (by omega), gk, ⟨by omega, by omega⟩, b, e, rfl, rfl, rfl⟩
end MSML
