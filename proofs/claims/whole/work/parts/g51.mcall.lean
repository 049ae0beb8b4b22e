/-! The model's run: a function is called. -/
section MCAL
variable {h h' h1 : mHp} {σ0 σ σ' σ1 : Mem} {d : Nat} {p z s b y k u e r : Int} {A B C T : Tr} {ρ ρ' : En} {cx : Cx} {fs : List (Cx × En)} {vs : List Va} {v x : Va} {S' : WkS}
theorem zd_8 (hp : 0 ≤ p ∧ p ≤ 124) (he : 0 ≤ e ∧ e ≤ 8191) : zDiv (8192 * p + e) 8192 = p := by
  rw [zDiv_32 (by unfold rg; omega) (rgk rfl), Int.tdiv_eq_ediv_of_nonneg (by omega), show (8192 * p + e) / 8192 = p by omega]
  unfold i32
  exact Int32.toInt_ofInt_of_le (by omega) (by omega)
theorem zr_8 (hp : 0 ≤ p ∧ p ≤ 124) (he : 0 ≤ e ∧ e ≤ 8191) : zRem (8192 * p + e) 8192 = e := by
  have hd := zd_8 hp he
  unfold zDiv at hd
  have hd2 : Int32.ofInt (8192 * p + e) / Int32.ofInt 8192 = Int32.ofInt p := by
    have q := congrArg Int32.ofInt hd
    rw [Int32.ofInt_toInt] at q
    exact q
  unfold zRem
  rw [hd2, ← Int32.ofInt_mul, ← Int32.ofInt_sub, show 8192 * p + e - p * 8192 = e by omega]
  exact Int32.toInt_ofInt_of_le (by omega) (by omega)
/-- a function's body is entered -/
theorem m_call (q : mB σ0 h σ ρ fs s) (va : vaM h σ0 σ (mOf σ) vs) (hl : vs.length ≤ 200) (hb : σ 58 57 + 1 ≤ 4299) (ry : RMv h σ (pfM σ0) (mOf σ) x false y) (re : RMv h σ (pfM σ0) (mOf σ) ρ' true e) (c : nC σ0 T (z :: nmEn ρ') p) (cp : cxM σ0 true [] (z :: nmEn ρ') (p + ln T)) (cr : cxM σ0 (!fs.isEmpty) cx (nmEn ρ) r) : mOut σ0 h σ (s + 1) 1 (hSet h 92 (σ 58 57 + 1).toNat (vlg y)) (mup (mup (mup (mup (mup (mup (mup (mup (mup σ 58 64 r) 58 51 vs.length) 90 fs.length r) 91 fs.length (σ 58 58)) 58 54 (fs.length + 1)) 58 57 (σ 58 57 + 1)) 93 (σ 58 57 + 1) e) 58 58 (σ 58 57 + 1)) 58 64 p) (0, T, [], eC z x ρ', vs, (cx, ρ) :: fs) := by
  obtain ⟨⟨q1, q0⟩, ⟨q2, q3, q4, q5⟩, q6, q7, q8⟩ := q
  have w3 : 0 ≤ σ 58 57 ∧ σ 58 57 ≤ 4299 := q2.2.2
  generalize hσ : mup (mup (mup (mup (mup (mup (mup (mup (mup σ 58 64 r) 58 51 vs.length) 90 fs.length r) 91 fs.length (σ 58 58)) 58 54 (fs.length + 1)) 58 57 (σ 58 57 + 1)) 93 (σ 58 57 + 1) e) 58 58 (σ 58 57 + 1)) 58 64 p = σ1
  generalize hh : hSet h 92 (σ 58 57 + 1).toNat (vlg y) = h1
  have f : frWm h h1 σ σ1 := by
    rw [← hσ, ← hh]
    have g9 : ∀ {τ : Mem} {i : Nat} {k z : Int}, i = 90 ∨ i = 91 ∨ i = 93 → frWm (hSet h 92 (σ 58 57 + 1).toNat (vlg y)) (hSet h 92 (σ 58 57 + 1).toNat (vlg y)) τ (mup τ i k z) := fun {τ i k z} hi => ⟨⟨rfl, rfl⟩, fun _ _ _ _ => rfl, fun _ => ⟨rfl, rfl⟩, fun j _ _ _ _ => mup_obj (by omega), fun _ _ _ _ _ _ _ _ _ _ => mup_ne (by omega)⟩
    exact (((((((((frWm.hs (by omega)).tr (frWm.m8 (by omega))).tr (frWm.m8 (by omega))).tr (g9 (by omega))).tr (g9 (by omega))).tr (frWm.m8 (by omega))).tr (frWm.m8 (by omega))).tr (g9 (by omega))).tr (frWm.m8 (by omega))).tr (frWm.m8 (by omega))
  have kk : ∀ k : Int, k ≠ 64 → k ≠ 51 → k ≠ 54 → k ≠ 57 → k ≠ 58 → σ1 58 k = σ 58 k := fun k a b c d e => by rw [← hσ, mup_nk a, mup_nk e, mup_ne (by decide), mup_nk d, mup_nk c, mup_ne (by decide), mup_ne (by decide), mup_nk b, mup_nk a]
  have k57 : σ1 58 57 = σ 58 57 + 1 := by rw [← hσ, mup_nk (by decide), mup_nk (by decide), mup_ne (by decide), mup_eq]
  have k58 : σ1 58 58 = σ 58 57 + 1 := by rw [← hσ, mup_nk (by decide), mup_eq]
  have k64 : σ1 58 64 = p := by rw [← hσ, mup_eq]
  have k54 : σ1 58 54 = fs.length + 1 := by rw [← hσ, mup_nk (by decide), mup_nk (by decide), mup_ne (by decide), mup_nk (by decide), mup_eq]
  have k51 : σ1 58 51 = vs.length := by rw [← hσ, mup_nk (by decide), mup_nk (by decide), mup_ne (by decide), mup_nk (by decide), mup_nk (by decide), mup_ne (by decide), mup_ne (by decide), mup_eq]
  have k93 : σ1 93 (σ 58 57 + 1) = e := by rw [← hσ, mup_ne (by decide), mup_ne (by decide), mup_eq]
  have n93 : ∀ k : Int, k ≠ σ 58 57 + 1 → σ1 93 k = σ 93 k := fun k hk => by rw [← hσ, mup_ne (by decide), mup_ne (by decide), mup_nk hk, mup_ne (by decide), mup_ne (by decide), mup_ne (by decide), mup_ne (by decide), mup_ne (by decide), mup_ne (by decide)]
  have k90 : σ1 90 fs.length = r := by rw [← hσ, mup_ne (by decide), mup_ne (by decide), mup_ne (by decide), mup_ne (by decide), mup_ne (by decide), mup_ne (by decide), mup_eq]
  have k91 : σ1 91 fs.length = σ 58 58 := by rw [← hσ, mup_ne (by decide), mup_ne (by decide), mup_ne (by decide), mup_ne (by decide), mup_ne (by decide), mup_eq]
  have k9 : ∀ i : Nat, i < fs.length → σ1 90 i = σ 90 i ∧ σ1 91 i = σ 91 i := fun i hi => by
    rw [← hσ]
    exact ⟨by rw [mup_ne (by decide), mup_ne (by decide), mup_ne (by decide), mup_ne (by decide), mup_ne (by decide), mup_ne (by decide), mup_nk (by omega), mup_ne (by decide), mup_ne (by decide)], by rw [mup_ne (by decide), mup_ne (by decide), mup_ne (by decide), mup_ne (by decide), mup_ne (by decide), mup_nk (by omega), mup_ne (by decide), mup_ne (by decide), mup_ne (by decide)]⟩
  have w : smM (mOf σ) h h1 σ σ1 := by
    rw [← hh]
    refine ⟨fun _ _ _ => ⟨at_ne (by decide) _, at_ne (by decide) _⟩, fun _ _ _ => at_ne (by decide) _, fun k a b => ?_⟩
    have b : k ≤ σ 58 57 := b
    exact ⟨at_nk (by omega), n93 k (by omega)⟩
  have k61 := kk 61 (by decide) (by decide) (by decide) (by decide) (by decide)
  have k63 := kk 63 (by decide) (by decide) (by decide) (by decide) (by decide)
  have m1 : (mOf σ).1 ≤ (mOf σ1).1 := by show σ 58 61 ≤ σ1 58 61; omega
  have m2 : (mOf σ).2.1 ≤ (mOf σ1).2.1 := by show σ 58 63 ≤ σ1 58 63; omega
  have m3 : (mOf σ).2.2 ≤ (mOf σ1).2.2 := by show σ 58 57 ≤ σ1 58 57; omega
  have a92 : hAt h1 92 (σ 58 57 + 1).toNat = vlg y := by rw [← hh]; exact at_eq
  have r1 : RMv h1 σ1 (pfM σ0) (mOf σ1) (eC z x ρ') true (σ1 58 58) := by
    rw [k58]
    refine ⟨⟨by omega, by show σ 58 57 + 1 ≤ σ1 58 57; omega⟩, y, a92, ry.mv w m1 m2 m3, ?_⟩
    rw [k93]; exact re.mv w m1 m2 m3
  have b1 : 0 ≤ σ 58 61 ∧ σ 58 61 ≤ 502 := q2.1
  have b2 : 0 ≤ σ 58 63 ∧ σ 58 63 ≤ 502 := q2.2.1
  have bo : mBo (mOf σ1) := ⟨by show 0 ≤ σ1 58 61 ∧ σ1 58 61 ≤ 502; omega, by show 0 ≤ σ1 58 63 ∧ σ1 58 63 ≤ 502; omega, by show 0 ≤ σ1 58 57 ∧ σ1 58 57 ≤ 4299; omega⟩
  have bk : bkM h1 σ0 σ1 (mOf σ1) ((cx, ρ) :: fs) := by
    refine ⟨⟨?_, ?_⟩, q8.mv w m1 m2 m3 k9⟩
    · show cxM σ0 (!fs.isEmpty) cx (nmEn ρ) (σ1 90 fs.length)
      rw [k90]; exact cr
    · show RMv h1 σ1 (pfM σ0) (mOf σ1) ρ true (σ1 91 fs.length)
      rw [k91]; exact q6.mv w m1 m2 m3
  refine ⟨f, Or.inr ⟨hl, ⟨hl, ⟨⟨q1.tr f.pg, q0⟩, ⟨bo, by omega, by omega, by show ((fs.length + 1 : Nat) : Int) ≤ s + 1; omega⟩, r1, by rw [k54]; rfl, bk⟩, k51, ?_, vtM_0.mpr (va.mv w m1 m2 m3 (fun i _ => by rw [← hh]; exact at_ne (by decide) _))⟩, k57, kk 65 (by decide) (by decide) (by decide) (by decide) (by decide), kk 66 (by decide) (by decide) (by decide) (by decide) (by decide)⟩⟩
  unfold psM
  rw [if_pos rfl, k64]
  exact ⟨c, cp⟩
theorem mOC.one (q : mB σ0 h σ ρ fs s) (va : vaM h σ0 σ (mOf σ) vs) (hl : vs.length < 200) (h14 : hd14 cx = none) (hs : s + 1 ≤ 500) (cp : cxM σ0 (!fs.isEmpty) cx (nmEn ρ) p) : mOC σ0 h σ (mup (mup σ 58 64 p) 58 51 vs.length) cx ρ vs fs s := by
  have := mOC.two (a := vs.length) q va hl h14 hs cp
  rw [mup_2] at this
  exact this
/-- the place of a function's body -/
theorem pfM.bd {bd : Tr} {G : List Int} (c : pfM σ0 (nd 12 z bd nl nl) G p) : nC σ0 bd (z :: G) p ∧ cxM σ0 true [] (z :: G) (p + ln bd) := by
  obtain ⟨c, -⟩ := c
  have c2 := c.f
  rw [show p - 1 + 1 = p by omega] at c2
  refine ⟨c2, ?_⟩
  obtain ⟨⟨t, ic, -⟩, -, p0, p1⟩ := c
  have a1 := ln_ge (T := bd)
  have p1 : p - 1 + (ln bd + 2) ≤ σ0 58 11 := p1
  obtain ⟨x1, x2, -⟩ : σ0 63 (p - 1 + ln bd + 1) = 7 ∧ σ0 64 (p - 1 + ln bd + 1) = 0 ∧ _ := ic.2.2
  rw [show p - 1 + ln bd + 1 = p + ln bd by omega] at x1 x2
  unfold cxM
  rw [if_pos rfl]
  exact ⟨⟨by omega, by omega⟩, x1, x2⟩
end MCAL
