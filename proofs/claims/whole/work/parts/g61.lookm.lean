/-! What is looked at, in the model. -/
section LOKM
variable {h h' : mHp} {σ σ' : Mem} {d n : Nat} {P : Tr → List Int → Int → Prop} {m : MBd} {v w : Va} {x y z : Int} {PR : UInt64 → Prop}
/-- a number's kind -/
theorem RMv.kd0 {b : Bool} : ∀ {y : Int}, RMv h σ P m v b y → b = false → (∃ u, y = 8 * u + 0 ∧ rg u ∧ knd v ≤ 1 ∧ 0 ≤ knd v ∧ u = numV v) ∨ (∃ u k, y = 8 * u + k ∧ (k = 1 ∨ k = 2) ∧ knd v = 2 ∧ ∃ z f, v = .tag 2 (.nest z f)) ∨ (y = 8 * 0 + 3 ∧ knd v = 3 ∧ llen v = 0) ∨ (∃ u a b, y = 8 * u + 4 ∧ v = vC a b) ∨ ∃ u k, y = 8 * u + k ∧ (k = 5 ∨ k = 6) ∧ knd v = 4 := by
  fun_induction RMv h σ P m v b with
  | case1 => intro y r q; cases q
  | case2 => intro y r q; cases q
  | case3 z f => intro y r _; exact Or.inl ⟨z, by have := r.1; omega, r.2, (show (0 : Int) ≤ 1 by decide), (show (0 : Int) ≤ 0 by decide), rfl⟩
  | case4 z f => intro y r _; exact Or.inl ⟨z, by have := r.1; omega, r.2, (show (1 : Int) ≤ 1 by decide), (show (0 : Int) ≤ 1 by decide), rfl⟩
  | case5 z f =>
    intro y r _
    rcases r with ⟨u, e, -⟩ | ⟨k, e, -⟩
    · exact Or.inr (Or.inl ⟨u, 1, e, Or.inl rfl, rfl, _, _, rfl⟩)
    · exact Or.inr (Or.inl ⟨k, 2, e, Or.inr rfl, rfl, _, _, rfl⟩)
  | case6 f => intro y r _; exact Or.inr (Or.inr (Or.inl ⟨r, rfl, rfl⟩))
  | case7 a w ih1 ih2 => intro y ⟨k, _, _, e, _⟩ _; exact Or.inr (Or.inr (Or.inr (Or.inl ⟨k, _, _, e, rfl⟩)))
  | case8 z f => intro y r _; exact Or.inr (Or.inr (Or.inr (Or.inr ⟨_, 5, r.1, Or.inl rfl, rfl⟩)))
  | case9 lam ρ ih => intro y ⟨p, e, a, _⟩ _; exact Or.inr (Or.inr (Or.inr (Or.inr ⟨_, 6, a, Or.inr rfl, rfl⟩)))
  | case10 f lam ρ ih => intro y ⟨p, e, a, _⟩ _; exact Or.inr (Or.inr (Or.inr (Or.inr ⟨_, 6, a, Or.inr rfl, rfl⟩)))
  | case11 => intro y r _; exact r.elim
theorem RMv.kd (r : RMv h σ P m v false y) : (∃ u, y = 8 * u + 0 ∧ rg u ∧ knd v ≤ 1 ∧ 0 ≤ knd v ∧ u = numV v) ∨ (∃ u k, y = 8 * u + k ∧ (k = 1 ∨ k = 2) ∧ knd v = 2 ∧ ∃ z f, v = .tag 2 (.nest z f)) ∨ (y = 8 * 0 + 3 ∧ knd v = 3 ∧ llen v = 0) ∨ (∃ u a b, y = 8 * u + 4 ∧ v = vC a b) ∨ ∃ u k, y = 8 * u + k ∧ (k = 5 ∨ k = 6) ∧ knd v = 4 := r.kd0 rfl
theorem RMv.kind (r : RMv h σ P m v false y) : ∃ k, (∀ (d : Nat) (h2 : mHp) (σ2 : Mem), Rh (d + 2) yMo_kind [vlg y] h2 σ2 (.inl (some (vi k))) h2 σ2) ∧ (0 ≤ k ∧ k < 8) ∧ (k = 0 ↔ knd v ≤ 1) ∧ ((k = 1 ∨ k = 2) ↔ knd v = 2) ∧ ((k = 3 ∨ k = 4) ↔ knd v = 3) ∧ (k = 4 ↔ ∃ a b, v = vC a b) ∧ (5 ≤ k ↔ knd v = 4) := by
  have nc : ∀ {a b : Va}, v = vC a b → knd v = 3 := fun e => by rw [e]; rfl
  have nl : ∀ {a b : Va}, v = vC a b → llen v ≠ 0 := fun {a b} e => by rw [e]; show llen b + 1 ≠ 0; omega
  rcases r.kd with ⟨u, e, -, a, b, -⟩ | ⟨u, k, e, hk, a, -⟩ | ⟨e, a, b⟩ | ⟨u, a, b, e, c⟩ | ⟨u, k, e, hk, a⟩
  · subst e
    exact ⟨0, fun d h2 σ2 => r_kind (by omega), by omega, by omega, by omega, by omega, ⟨fun q => by omega, fun ⟨a, b, q⟩ => by have := nc q; omega⟩, by omega⟩
  · subst e
    exact ⟨k, fun d h2 σ2 => r_kind (by omega), by omega, by omega, by omega, by omega, ⟨fun q => by omega, fun ⟨a, b, q⟩ => by have := nc q; omega⟩, by omega⟩
  · subst e
    exact ⟨3, fun d h2 σ2 => r_kind (by omega), by omega, by omega, by omega, by omega, ⟨fun q => by omega, fun ⟨_, _, q⟩ => absurd b (nl q)⟩, by omega⟩
  · subst e
    have := nc c
    exact ⟨4, fun d h2 σ2 => r_kind (by omega), by omega, by omega, by omega, by omega, ⟨fun _ => ⟨a, b, c⟩, fun _ => rfl⟩, by omega⟩
  · subst e
    exact ⟨k, fun d h2 σ2 => r_kind (by omega), by omega, by omega, by omega, by omega, ⟨fun q => by omega, fun ⟨a, b, q⟩ => by have := nc q; omega⟩, by omega⟩
/-- how many items -/
theorem r_its (bo : mBo m) : ∀ (n : Nat) (v : Va) (y i : Int), llen v = n → RMv h σ P m v false y → 0 ≤ i → i + n ≤ 2000000000 → Lh (d + 2) yMo_items 5 [(0, .ref 58), (3, vi i), (4, vlg y)] [] h σ (.inl (some (vi (i + n)))) h σ
  | 0, v, y, i, hl, r, h0, h1 => by
    obtain ⟨k, K, kr, -, -, -, k4, -⟩ := r.kind
    have n4 : k ≠ 4 := fun e => by
      obtain ⟨a, b, e⟩ := k4.mp e
      subst e
      exact absurd hl (by show llen b + 1 ≠ 0; omega)
    refine K_Mo_items_5 (by unfold rg; omega) ?_
    unfold B_Mo_items_5
    refine ⟨k, h, σ, K d h σ, by unfold rg; omega, ?_⟩
    rw [if_pos n4, show i + ((0 : Nat) : Int) = i by omega]
    exact ⟨rfl, rfl, rfl⟩
  | n + 1, v, y, i, hl, r, h0, h1 => by
    obtain ⟨a, b, rfl⟩ := llen_3 (v := v) (by omega)
    have hl : llen b + 1 = n + 1 := hl
    obtain ⟨k, u, w, rfl, hk, e1, e2, ra, rb⟩ := r
    have bo0 := bo
    obtain ⟨b1, -⟩ := bo
    refine K_Mo_items_5 (by unfold rg; omega) ?_
    unfold B_Mo_items_5
    refine ⟨4, h, σ, r_kind (by omega), rgk rfl, ?_⟩
    rw [if_neg (by decide)]
    refine ⟨k, h, σ, r_told (by unfold rg; omega) (by omega), by unfold rg; omega, ⟨by omega, by omega⟩, w, e2, by unfold rg; omega, ?_⟩
    rw [show i + ((n + 1 : Nat) : Int) = i + 1 + (n : Nat) by omega]
    exact r_its bo0 n b w (i + 1) (by omega) rb (by omega) (by omega)
theorem r_items (bo : mBo m) (r : RMv h σ P m v false y) (hl : (llen v : Int) ≤ 2000000000) : Rh (d + 3) yMo_items [.ref 58, vlg y] h σ (.inl (some (vi (llen v)))) h σ := by
  have L := r_its (d := d) bo (llen v) v y 0 rfl r (Int.le_refl _) (by omega)
  rw [Int.zero_add] at L
  exact M_Mo_items L
theorem RMv.m0 (r : RMv h σ P (mOf σ) v false y) : RMv h (mup σ 58 0 z) P (mOf (mup σ 58 0 z)) v false y := (keM.m8 (h := h) (by omega)).rv r
theorem mo0 : mOf (mup σ 58 0 z) = mOf σ := by unfold mOf; rw [mup_nk (by decide), mup_nk (by decide), mup_nk (by decide)]
/-- value -/
theorem m_val0 (bo : mBo (mOf σ)) (e65 : σ 58 65 = 2) (ey : hAt h 58 69 = vlg y) (r : RMv h σ P (mOf σ) v false y) (hl : (llen v : Int) ≤ 2000000000) (h70 : 0 ≤ σ 58 70 ∧ σ 58 70 < 80) (t : tellC PR (σ 88 (σ 58 70)) v) (gx : rg x) (hx : 0 ≤ x ∧ x ≤ 2) : Rh (d + 5) yMo_value [.ref 58, vi x] h σ (.inl (some (vi (vlW v x)))) h (mup σ 58 0 0) := rh_s fun M _ => by
  have e0 : (mup σ 58 0 0) 58 0 = 0 := mup_eq
  have e70 : (mup σ 58 0 0) 58 70 = σ 58 70 := mup_nk (by decide)
  have e88 : (mup σ 58 0 0) 88 = σ 88 := mup_obj (by decide)
  obtain ⟨k, K, kr, c0, c2, c3, c4, c5⟩ := r.kind
  have g88 : rg (σ 88 (σ 58 70)) := M 88 _
  refine M_Mo_value (d := d + 1) gx ?_
  unfold B_Mo_value
  rw [e65, if_pos rfl, if_neg (by omega), if_pos hx.2]
  refine ⟨rgk rfl, ?_⟩
  unfold B_Mo_value_27
  rw [e0, if_pos (by decide)]
  refine ⟨rgk rfl, y, ey, k, h, mup σ 58 0 0, K _ _ _, by unfold rg; omega, ?_⟩
  unfold vlW
  by_cases a0 : x = 0
  · rw [if_pos (by omega), if_pos a0]
    by_cases b0 : k = 0
    · rw [if_neg (fun e => e b0), e70, e88]
      refine ⟨by unfold rg; omega, h70, g88, ?_⟩
      have kv := c0.mp b0
      have kk : knd v = 0 ∨ knd v = 1 := by
        rcases r.kd with ⟨u, -, -, a, b, -⟩ | ⟨u, k, -, -, a, -⟩ | ⟨-, a, -⟩ | ⟨u, a, b, -, c⟩ | ⟨u, k, -, -, a⟩
        · omega
        · omega
        · omega
        · subst c; exact absurd kv (by show ¬ (3 : Int) ≤ 1; decide)
        · omega
      rcases kk with q | q
      · rw [if_pos (t.1 q), q]; exact ⟨rfl, rfl, rfl⟩
      · rw [if_neg (fun e => e (t.2.1 q)), q]; exact ⟨rfl, rfl, rfl⟩
    · rw [if_pos b0]
      by_cases b3 : k ≥ 3
      · rw [if_pos b3]
        by_cases b5 : k ≥ 5
        · rw [if_pos b5, c5.mp b5]; exact ⟨rfl, rfl, rfl⟩
        · rw [if_neg b5, c3.mp (by omega)]; exact ⟨rfl, rfl, rfl⟩
      · rw [if_neg b3, c2.mp (by omega)]; exact ⟨rfl, rfl, rfl⟩
  rw [if_neg (by omega), if_neg a0]
  by_cases a1 : x = 1
  · rw [if_pos (by omega), if_pos a1]
    by_cases b0 : k = 0
    · rw [if_neg (fun e => e b0)]
      obtain ⟨u, ye, gu, un⟩ : ∃ u, y = 8 * u + 0 ∧ rg u ∧ u = numV v := by
        have kv := c0.mp b0
        rcases r.kd with ⟨u, e, g, a, b, c⟩ | ⟨u, k, -, -, a, -⟩ | ⟨-, a, -⟩ | ⟨u, a, b, -, c⟩ | ⟨u, k, -, -, a⟩
        · exact ⟨u, e, g, c⟩
        · omega
        · omega
        · subst c; exact absurd kv (by show ¬ (3 : Int) ≤ 1; decide)
        · omega
      refine ⟨y, ey, u, h, mup σ 58 0 0, ?_, gu, by rw [un], rfl, rfl⟩
      rw [ye]; exact r_told gu (by omega)
    · rw [if_pos b0, numV_0 (fun e => b0 (c0.mpr e))]
      exact ⟨rfl, rfl, rfl⟩
  · rw [if_neg (by omega), if_neg a1]
    exact ⟨y, ey, _, h, mup σ 58 0 0, r_items (d := d + 1) (by rw [mo0]; exact bo) r.m0 hl, by unfold rg; omega, rfl, rfl, rfl⟩
theorem m_valE (c : Int) (hc : (σ 58 65 = 2 ∧ c = 2 ∧ (x < 0 ∨ 2 < x)) ∨ (σ 58 65 ≠ 2 ∧ c = 1)) (gx : rg x) : Rh (d + 5) yMo_value [.ref 58, vi x] h σ (.inl (some (vi 0))) h (mup σ 58 0 c) := rh_s fun M _ => by
  have e0 : (mup σ 58 0 c) 58 0 = c := mup_eq
  have g65 : rg (σ 58 65) := M 58 65
  have fin : B_Mo_value_27 (d + 1) x c h σ (.inl (some (vi 0))) h (mup σ 58 0 c) := by
    unfold B_Mo_value_27
    rw [e0, if_neg (by omega)]
    exact ⟨by unfold rg; omega, rfl, rfl, rfl⟩
  refine M_Mo_value (d := d + 1) gx ?_
  unfold B_Mo_value
  refine ⟨g65, ?_⟩
  rcases hc with ⟨a, rfl, b⟩ | ⟨a, rfl⟩
  · rw [if_pos a]
    by_cases x0 : x < 0
    · rw [if_pos x0]; exact fin
    · rw [if_neg x0, if_neg (by omega)]; exact fin
  · rw [if_neg a]; exact fin
/-- real -/
theorem r_realV (bo : mBo m) (r : RMv h σ P m v false y) : Rh (d + 3) yMo_realOf [.ref 58, vlg y] h σ (.inl (some (.double (relV v)))) h σ := by
  by_cases b2 : knd v = 2
  · have e : ∃ z f, v = .tag 2 (.nest z f) := by
      rcases r.kd with ⟨u, -, -, a, b, -⟩ | ⟨u, k, -, -, a, q⟩ | ⟨-, a, -⟩ | ⟨u, a, b, -, c⟩ | ⟨u, k, -, -, a⟩
      · omega
      · exact q
      · omega
      · subst c; exact absurd b2 (show ¬ (3 : Int) = 2 by decide)
      · omega
    obtain ⟨z, f, rfl⟩ := e
    have r1 : RMv h σ P m (vR (relV (.tag 2 (.nest z f)))) false y := by
      have e : UInt64.ofNat (((UInt64.ofNat z.toNat).toNat : Int)).toNat = UInt64.ofNat z.toNat := vR_at
      rcases r with ⟨u, e1, e2, e3⟩ | ⟨k, e1, e2, e3⟩
      · exact Or.inl ⟨u, e1, e2, e.trans e3⟩
      · exact Or.inr ⟨k, e1, e2, e3.trans (congrArg Value.double e.symm)⟩
    exact r_realOf bo r1
  · obtain ⟨k, K, kr, c0, c2, c3, c4, c5⟩ := r.kind
    have e : relV v = FP.dconst0 := by
      unfold relV
      split
      · exact absurd rfl b2
      · rfl
    rw [e]
    refine M_Mo_realOf ?_
    unfold B_Mo_realOf
    have n : k ≠ 1 ∧ k ≠ 2 := ⟨fun q => b2 (c2.mp (Or.inl q)), fun q => b2 (c2.mp (Or.inr q))⟩
    refine ⟨k, h, σ, K _ _ _, by unfold rg; omega, ?_⟩
    rw [if_pos n.1]
    refine ⟨k, h, σ, K _ _ _, by unfold rg; omega, ?_⟩
    rw [if_pos n.2]
    exact ⟨rfl, rfl, rfl⟩
theorem m_rea (bo : mBo (mOf σ)) (e65 : σ 58 65 = 2) (ey : hAt h 58 69 = vlg y) (r : RMv h σ P (mOf σ) v false y) : Rh (d + 5) yMo_real [.ref 58] h σ (.inl (some (.double (relV v)))) h (mup σ 58 0 0) := by
  have e0 : (mup σ 58 0 0) 58 0 = 0 := mup_eq
  refine M_Mo_real (d := d + 1) ?_
  unfold B_Mo_real
  rw [e65, if_pos rfl]
  refine ⟨rgk rfl, ?_⟩
  unfold B_Mo_real_14
  rw [e0, if_neg (by decide)]
  exact ⟨rgk rfl, y, ey, _, h, _, r_realV (d := d + 1) (by rw [mo0]; exact bo) r.m0, rfl, rfl, rfl⟩
theorem m_reaE (e65 : σ 58 65 ≠ 2) : Rh (d + 5) yMo_real [.ref 58] h σ (.inl (some (.double FP.dconst0))) h (mup σ 58 0 1) := rh_s fun M _ => by
  have e0 : (mup σ 58 0 1) 58 0 = 1 := mup_eq
  have g65 : rg (σ 58 65) := M 58 65
  refine M_Mo_real (d := d + 1) ?_
  unfold B_Mo_real
  rw [if_neg e65]
  refine ⟨g65, ?_⟩
  unfold B_Mo_real_14
  rw [e0, if_pos (by decide)]
  exact ⟨rgk rfl, rfl, rfl, rfl⟩
/-- top -/
theorem m_top (e65 : σ 58 65 = 2) (ey : hAt h 89 0 = vlg y) : Rh (d + 5) yMo_top [.ref 58] h σ (.inl none) (hSet h 58 69 (vlg y)) (mup (mup σ 58 0 0) 58 70 0) := by
  have e0 : (mup σ 58 0 0) 58 0 = 0 := mup_eq
  refine M_Mo_top (d := d + 1) ?_
  unfold B_Mo_top
  rw [e65, if_pos rfl]
  refine ⟨rgk rfl, ?_⟩
  unfold B_Mo_top_14
  rw [e0, if_neg (by decide)]
  exact ⟨rgk rfl, ⟨by decide, by decide⟩, y, ey, rfl, rfl, rfl⟩
theorem m_topE (e65 : σ 58 65 ≠ 2) : Rh (d + 5) yMo_top [.ref 58] h σ (.inl none) h (mup σ 58 0 1) := rh_s fun M _ => by
  have e0 : (mup σ 58 0 1) 58 0 = 1 := mup_eq
  have g65 : rg (σ 58 65) := M 58 65
  refine M_Mo_top (d := d + 1) ?_
  unfold B_Mo_top
  rw [if_neg e65]
  refine ⟨g65, ?_⟩
  unfold B_Mo_top_14
  rw [e0, if_pos (by decide)]
  exact ⟨rgk rfl, rfl, rfl, rfl⟩
/-- item -/
theorem r_itk (bo : mBo (mOf σ)) (gx : rg x) (h70 : 0 ≤ σ 58 70 ∧ σ 58 70 ≤ 1000) : ∀ (j : Nat) (v : Va) (y i : Int), RMv h σ P (mOf σ) v false y → j < llen v → i + j = x → 0 ≤ i → ∃ w u, itmK v j = some w ∧ RMv h σ P (mOf σ) w false u ∧ Lh (d + 3) yMo_item 53 [(0, .ref 58), (1, vi x), (2, vlg y), (4, vi i)] [] h σ (.inl none) (hSet h 58 69 (vlg u)) (mup σ 58 70 (σ 58 70 + 1))
  | 0, v, y, i, r, hl, e, h0 => by
    obtain ⟨a, b, rfl⟩ := llen_3 (v := v) (by omega)
    obtain ⟨k, u, w, rfl, hk, e1, e2, ra, rb⟩ := r
    have b1 := bo.1
    unfold rg at gx
    have hk2 : k < 502 := by omega
    refine ⟨a, u, rfl, ra, K_Mo_item_53 (by unfold rg; omega) (by unfold rg; omega) ?_⟩
    unfold B_Mo_item_53
    rw [if_pos (by omega)]
    exact ⟨k, h, σ, r_told (d := d + 1) (by unfold rg; omega) (by omega), by unfold rg; omega, ⟨hk.1, hk2⟩, u, e1, by unfold rg; omega, by unfold rg; omega, rfl, rfl, rfl⟩
  | j + 1, v, y, i, r, hl, e, h0 => by
    obtain ⟨a, b, rfl⟩ := llen_3 (v := v) (by omega)
    obtain ⟨k, u, w, rfl, hk, e1, e2, ra, rb⟩ := r
    have b1 := bo.1
    have hl : j + 1 < llen b + 1 := hl
    have gx2 := gx
    unfold rg at gx2
    have hk2 : k < 502 := by omega
    obtain ⟨w', u', ei, rw', L⟩ := r_itk bo gx h70 j b w (i + 1) rb (by omega) (by omega) (by omega)
    refine ⟨w', u', ei, rw', K_Mo_item_53 gx (by unfold rg; omega) ?_⟩
    unfold B_Mo_item_53
    rw [if_neg (by omega)]
    exact ⟨k, h, σ, r_told (d := d + 1) (by unfold rg; omega) (by omega), by unfold rg; omega, ⟨hk.1, hk2⟩, w, e2, by unfold rg; omega, L⟩
theorem m_itm (bo : mBo (mOf σ)) (e65 : σ 58 65 = 2) (ey : hAt h 58 69 = vlg y) (r : RMv h σ P (mOf σ) v false y) (hl : (llen v : Int) ≤ 2000000000) (h70 : 0 ≤ σ 58 70 ∧ σ 58 70 ≤ 1000) (gx : rg x) (hx : 0 ≤ x ∧ x < llen v) : ∃ w u, itmK v x.toNat = some w ∧ RMv h (mup σ 58 0 0) P (mOf (mup σ 58 0 0)) w false u ∧ Rh (d + 5) yMo_item [.ref 58, vi x] h σ (.inl none) (hSet h 58 69 (vlg u)) (mup (mup σ 58 0 0) 58 70 (σ 58 70 + 1)) := by
  have e0 : (mup σ 58 0 0) 58 0 = 0 := mup_eq
  have e70 : (mup σ 58 0 0) 58 70 = σ 58 70 := mup_nk (by decide)
  obtain ⟨w, u, ei, rw', L⟩ := r_itk (d := d + 1) (by rw [mo0]; exact bo) gx (by rw [e70]; exact h70) x.toNat v y 0 (r.m0 (z := 0)) (by omega) (by omega) (Int.le_refl _)
  rw [e70] at L
  refine ⟨w, u, ei, rw', M_Mo_item (d := d + 1) gx ?_⟩
  unfold B_Mo_item
  rw [e65, if_pos rfl, if_neg (by omega)]
  refine ⟨rgk rfl, y, ey, _, h, σ, r_items (d := d + 1) bo r hl, by unfold rg; omega, ?_⟩
  rw [if_pos (by omega)]
  unfold B_Mo_item_34
  rw [e0, if_pos (by decide)]
  exact ⟨rgk rfl, y, ey, L⟩
theorem m_itmE (bo : mBo (mOf σ)) (e65 : σ 58 65 = 2) (ey : hAt h 58 69 = vlg y) (r : RMv h σ P (mOf σ) v false y) (hl : (llen v : Int) ≤ 2000000000) (gx : rg x) (hx : x < 0 ∨ (llen v : Int) ≤ x) : Rh (d + 5) yMo_item [.ref 58, vi x] h σ (.inl none) h (mup σ 58 0 2) := by
  have e0 : (mup σ 58 0 2) 58 0 = 2 := mup_eq
  have fin : B_Mo_item_29 (d + 1) x h σ (.inl none) h (mup σ 58 0 2) := by
    unfold B_Mo_item_29 B_Mo_item_34
    rw [e0, if_neg (by decide)]
    exact ⟨rgk rfl, rfl, rfl, rfl⟩
  refine M_Mo_item (d := d + 1) gx ?_
  unfold B_Mo_item
  rw [e65, if_pos rfl]
  refine ⟨rgk rfl, ?_⟩
  by_cases x0 : x < 0
  · rw [if_pos x0]; exact fin
  · rw [if_neg x0]
    refine ⟨y, ey, _, h, σ, r_items (d := d + 1) bo r hl, by unfold rg; omega, ?_⟩
    rw [if_neg (by omega)]; exact fin
theorem m_itm1 (e65 : σ 58 65 ≠ 2) (gx : rg x) : Rh (d + 5) yMo_item [.ref 58, vi x] h σ (.inl none) h (mup σ 58 0 1) := rh_s fun M _ => by
  have e0 : (mup σ 58 0 1) 58 0 = 1 := mup_eq
  have g65 : rg (σ 58 65) := M 58 65
  refine M_Mo_item (d := d + 1) gx ?_
  unfold B_Mo_item
  rw [if_neg e65]
  refine ⟨g65, ?_⟩
  unfold B_Mo_item_34
  rw [e0, if_neg (by decide)]
  exact ⟨rgk rfl, rfl, rfl, rfl⟩
theorem itmK_in : ∀ {j : Nat} {v w : Va}, itmK v j = some w → inIt v w
  | 0, v, w, e => by
    unfold itmK at e
    split at e
    · cases e; exact Or.inl rfl
    · rename_i h; cases h
    · cases e
  | j + 1, v, w, e => by
    unfold itmK at e
    split at e
    · rename_i h; cases h
    · next h => cases h; exact Or.inr (itmK_in e)
    · cases e
end LOKM
