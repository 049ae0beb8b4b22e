/-! The model's names: they are found exactly when the class's reader found none unbound. -/
section NFM
variable {σ τ : Mem} {p a b s z : Int} {G : List Int}
def mb (G : List Int) : Int → Bool := fun c => decide (c ∈ G)
theorem adde_mb : adde (mb G) z = mb (z :: G) := by
  funext c
  unfold adde mb
  simp only [List.mem_cons, Bool.decide_or]
theorem addl_mb {L : List Int} : addl (mb G) L = mb (L.reverse ++ G) := by
  funext c
  unfold addl mb
  simp only [List.mem_append, List.mem_reverse, Bool.decide_or, List.contains_eq_mem]
/-- found, or not -/
def NFm (T : Tr) (σ : Mem) (a : Int) (G : List Int) : Prop := (clo T (mb G) = true ∧ ∃ σ', NFt σ σ' a (a + ln T) ∧ nmE σ' G ∧ isN σ' T a G) ∨ (clo T (mb G) = false ∧ NFz σ a)
theorem nf_leaf {k : Nat} (hp : 0 ≤ p ∧ p < σ 58 7) (h7 : σ 58 7 ≤ 124) (hE : nmE σ G) (hl : (G.length : Int) ≤ 60) (hk : k ≤ 4) (hc : σ 60 p ≤ 4) : NFm (nd k z nl nl nl) σ p G := by
  refine Or.inl ⟨?_, σ, ?_, hE, ?_⟩
  · rw [clo_nd, if_neg (by omega), if_neg (by omega), if_neg (by omega), if_neg (by omega), if_neg (by omega)]; rfl
  · have e : ln (nd k z nl nl nl) = 1 := (lf_l (by omega)).1
    rw [e]
    exact nf_plain hp h7 hE hl (by omega)
  · match k, hk with
    | 0, _ => trivial
    | 1, _ => trivial
    | 2, _ => trivial
    | 3, _ => trivial
    | 4, _ => trivial
theorem isN.nf {T : Tr} {u : Int} {σ1 : Mem} (h : NFt σ σ1 a b) (hu : u + ln T ≤ a) (c : isN σ T u G) : isN σ1 T u G :=
  isN.mv (fun x _ h2 => h.2.1 x (Or.inl (by omega))) c
/-- two parts and what joins them -/
theorem nf_two {A B : Tr} (ha : 0 ≤ a) (hb : a + ln A + ln B < σ 58 7) (h7 : σ 58 7 ≤ 124) (hl : (G.length : Int) ≤ 60) (hc : σ 60 (a + ln A + ln B) = 8 ∨ σ 60 (a + ln A + ln B) = 9) (i1 : NFm A σ a G) (i2 : ∀ σ1, NFt σ σ1 a (a + ln A) → nmE σ1 G → NFm B σ1 (a + ln A) G) : ((clo A (mb G) && (clo B (mb G) && true)) = true ∧ ∃ σ', NFt σ σ' a (a + (ln A + ln B + 1)) ∧ nmE σ' G ∧ (isN σ' A a G ∧ isN σ' B (a + ln A) G)) ∨ ((clo A (mb G) && (clo B (mb G) && true)) = false ∧ NFz σ a) := by
  have g1 := ln_ge (T := A)
  have g2 := ln_ge (T := B)
  rcases i1 with ⟨c1, σ1, t1, n1, m1⟩ | ⟨c1, z1⟩
  · rcases i2 σ1 t1 n1 with ⟨c2, σ2, t2, n2, m2⟩ | ⟨c2, z2⟩
    · refine Or.inl ⟨by rw [c1, c2]; rfl, σ2, ?_, n2, m1.nf t2 (Int.le_refl _), m2⟩
      have t := t1.tr t2 (by omega) (by omega)
      have e60 := t.1.r60.1
      have t3 := nf_plain (σ := σ2) (p := a + ln A + ln B) ⟨by omega, by rw [t.s7]; exact hb⟩ (by rw [t.s7]; exact h7) n2 hl (by rw [e60]; omega)
      rw [show a + (ln A + ln B + 1) = a + ln A + ln B + 1 by omega]
      exact t.tr t3 (by omega) (by omega)
    · exact Or.inr ⟨by rw [c1, c2]; rfl, t1.zz z2⟩
  · exact Or.inr ⟨by rw [c1]; rfl, z1⟩
theorem nf_l : ∀ (T : Tr) (a s : Int) (G : List Int) (σ : Mem), wf T → isC σ T a s → 0 ≤ a → a + ln T ≤ σ 58 7 → σ 58 7 ≤ 124 → 0 ≤ s → s + sn T ≤ 80 → (G.length : Int) + tb T ≤ 60 → nmE σ G → NFm T σ a G := by
  intro T
  induction T using wf.induct with
  | case1 z A B C | case2 z A B C | case3 z A B C | case4 z A B C | case5 z A B C =>
    intro a s G σ hw hC ha hb h7 hs hs2 hl hE
    obtain ⟨-, rfl, rfl, rfl⟩ := hw
    have el : a + 1 ≤ σ 58 7 := hb
    have hl : (G.length : Int) + (0 + 0 + 0) ≤ 60 := hl
    have c0 := hC.1
    exact nf_leaf ⟨ha, by omega⟩ h7 hE (by omega) (by decide) (by rw [c0]; decide)
  | case6 z A B C =>
    intro a s G σ hw hC ha hb h7 hs hs2 hl hE
    obtain ⟨hz, rfl, rfl, rfl⟩ := hw
    have el : a + 1 ≤ σ 58 7 := hb
    have hl : (G.length : Int) + (0 + 0 + 0) ≤ 60 := hl
    obtain ⟨c1, c2⟩ : σ 60 a = 5 ∧ σ 62 a = z := hC
    obtain ⟨f1, f2⟩ := nf_name (p := a) ⟨ha, by omega⟩ h7 c1 c2 hE (by omega)
    have ec : clo (nd 5 z nl nl nl) (mb G) = decide (z ∈ G) := by rw [clo_nd, if_pos rfl]; rfl
    by_cases m : z ∈ G
    · refine Or.inl ⟨ec.trans (decide_eq_true m), mup σ 61 a (ix z G), ⟨?_, ?_, f1 m⟩, ?_, ?_⟩
      · exact ⟨fun i _ h _ _ _ => mup_obj h, fun k _ => mup_ne (by decide)⟩
      · intro x hx
        have hx : x < a ∨ a + 1 ≤ x ∨ σ 60 x ≠ 5 := hx
        exact mup_nk (fun e => by rcases hx with h | h | h; omega; omega; exact h (by rw [e]; exact c1))
      · exact ⟨(mup_ne (by decide)).trans hE.1, nmR.mv (fun x _ _ => mup_ne (by decide)) hE.2⟩
      · exact mup_eq
    · exact Or.inr ⟨ec.trans (decide_eq_false m), σ, f2 m, frN.rf⟩
  | case7 z A B C iA =>
    intro a s G σ hw hC ha hb h7 hs hs2 hl hE
    obtain ⟨-, -, wA, rfl, rfl⟩ := hw
    have el : a + (ln A + 1) ≤ σ 58 7 := hb
    have hl : (G.length : Int) + (tb A + 0 + 0) ≤ 60 := hl
    have hs2 : s + (sn A + 0 + 0) ≤ 80 := hs2
    have g1 := ln_ge (T := A)
    have gt := tb_ge (T := A)
    obtain ⟨c1, c2⟩ := hC
    have ec : clo (nd 8 z A nl nl) (mb G) = clo A (mb G) := by rw [clo_nd, if_neg (by decide), if_neg (by decide), if_neg (by decide), if_neg (by decide), if_neg (by decide), clo_nl]; simp
    rcases iA a s G σ wA c1 ha (by omega) h7 hs (by omega) (by omega) hE with ⟨d1, σ1, t1, n1, m1⟩ | ⟨d1, z1⟩
    · refine Or.inl ⟨ec.trans d1, σ1, ?_, n1, m1⟩
      have e60 := t1.1.r60.1
      have t3 := nf_plain (σ := σ1) (p := a + ln A) ⟨by omega, by rw [t1.s7]; omega⟩ (by rw [t1.s7]; exact h7) n1 (by omega) (by rw [e60, c2.1]; decide)
      show NFt σ σ1 a (a + (ln A + 1))
      rw [show a + (ln A + 1) = a + ln A + 1 by omega]
      exact t1.tr t3 (by omega) (by omega)
    · exact Or.inr ⟨ec.trans d1, z1⟩
  | case8 z A B C iA iB | case9 z A B C iA iB | case10 z A B C iA iB =>
    intro a s G σ hw hC ha hb h7 hs hs2 hl hE
    obtain ⟨-, -, wA, -, wB, rfl⟩ := hw
    have el : a + (ln A + ln B + 1) ≤ σ 58 7 := hb
    have hl : (G.length : Int) + (tb A + tb B + 0) ≤ 60 := hl
    have hs2 : s + (sn A + sn B + 0) ≤ 80 := hs2
    have g1 := ln_ge (T := A)
    have g2 := ln_ge (T := B)
    have s1 := sn_ge (T := A)
    have s2 := sn_ge (T := B)
    have gt := tb_ge (T := A)
    have gt2 := tb_ge (T := B)
    obtain ⟨c1, c2, c3⟩ := hC
    have c0 := c3.1
    exact nf_two (a := a) ha (by omega) h7 (by omega) (by omega) (iA a s G σ wA c1 ha (by omega) h7 hs (by omega) (by omega) hE) (fun σ1 t1 n1 => iB _ _ G σ1 wB (t1.isC c2) (by omega) (by rw [t1.s7]; omega) (by rw [t1.s7]; exact h7) (by omega) (by omega) (by omega) n1)
  | case11 z A B C iA =>
    intro a s G σ hw hC ha hb h7 hs hs2 hl hE
    obtain ⟨hz, -, wA, rfl, rfl⟩ := hw
    have el : a + (ln A + 2) ≤ σ 58 7 := hb
    have hl : (G.length : Int) + (tb A + 1) ≤ 60 := hl
    have hs2 : s + (sn A + 0 + 0) ≤ 80 := hs2
    have g1 := ln_ge (T := A)
    have gt := tb_ge (T := A)
    obtain ⟨c1, c2, c3⟩ := hC
    unfold ltZ at hz
    have lz : ((z :: G).length : Int) = G.length + 1 := by simp
    have ec : clo (nd 12 z A nl nl) (mb G) = clo A (mb (z :: G)) := by rw [clo_nd, if_neg (by decide), if_pos rfl, adde_mb]
    obtain ⟨t0, n0⟩ := nf_bind (p := a) (z := z) ⟨ha, by omega⟩ h7 hE (by omega) (Or.inl c1.1) c1.2.2 ⟨by omega, by omega⟩
    rcases iA (a + 1) s (z :: G) _ wA (t0.isC c2) (by omega) (by rw [t0.s7]; omega) (by rw [t0.s7]; exact h7) hs (by omega) (by omega) n0 with ⟨d1, σ1, t1, n1, m1⟩ | ⟨d1, z1⟩
    · have t := t0.tr t1 (by omega) (by omega)
      have e60 := t.1.r60.1
      obtain ⟨t3, n3⟩ := nf_un (σ := σ1) (p := a + 1 + ln A) (L := [z]) (G := G) (n := 1) ⟨by omega, by rw [t.s7]; omega⟩ (by rw [t.s7]; exact h7) n1 (by show ((z :: G).length : Int) ≤ 60; omega) rfl (Or.inl ⟨by rw [e60, show a + 1 + ln A = a + ln A + 1 by omega]; exact c3.1, rfl⟩)
      refine Or.inl ⟨ec.trans d1, _, ?_, n3, (show isN (unM σ1 1) A (a + 1) (z :: G) from m1.nf t3 (Int.le_refl _))⟩
      show NFt σ (unM σ1 1) a (a + (ln A + 2))
      rw [show a + (ln A + 2) = a + 1 + ln A + 1 by omega]
      exact t.tr t3 (by omega) (by omega)
    · exact Or.inr ⟨ec.trans d1, t0.zz z1⟩
  | case12 z A B C iA iB =>
    intro a s G σ hw hC ha hb h7 hs hs2 hl hE
    obtain ⟨hz, -, wA, -, wB, rfl⟩ := hw
    have el : a + (ln A + ln B + 2) ≤ σ 58 7 := hb
    have hl : (G.length : Int) + (tb A + tb B + 1) ≤ 60 := hl
    have hs2 : s + (sn A + sn B + 0) ≤ 80 := hs2
    have g1 := ln_ge (T := A)
    have g2 := ln_ge (T := B)
    have s1 := sn_ge (T := A)
    have s2 := sn_ge (T := B)
    have gt := tb_ge (T := A)
    have gt2 := tb_ge (T := B)
    obtain ⟨c1, c2, c3, c4⟩ := hC
    unfold ltZ at hz
    have lz : ((z :: G).length : Int) = G.length + 1 := by simp
    have ec : clo (nd 13 z A B nl) (mb G) = (clo A (mb G) && clo B (mb (z :: G))) := by rw [clo_nd, if_neg (by decide), if_neg (by decide), if_pos rfl, adde_mb]
    rcases iA a s G σ wA c1 ha (by omega) h7 hs (by omega) (by omega) hE with ⟨d1, σ1, t1, n1, m1⟩ | ⟨d1, z1⟩
    · have c2' := t1.cell (by decide) c2
      obtain ⟨t2, n2⟩ := nf_bind (σ := σ1) (p := a + ln A) (z := z) ⟨by omega, by rw [t1.s7]; omega⟩ (by rw [t1.s7]; exact h7) n1 (by omega) (Or.inr (Or.inl c2'.1)) c2'.2.2 ⟨by omega, by omega⟩
      have t12 := t1.tr t2 (by omega) (by omega)
      rcases iB (a + ln A + 1) (s + sn A) (z :: G) _ wB (t12.isC c3) (by omega) (by rw [t12.s7]; omega) (by rw [t12.s7]; exact h7) (by omega) (by omega) (by omega) n2 with ⟨d2, σ3, t3, n3, m3⟩ | ⟨d2, z2⟩
      · have t13 := t12.tr t3 (by omega) (by omega)
        have c4' := t13.cell (by decide) c4
        rw [show a + ln A + ln B + 1 = a + ln A + 1 + ln B by omega] at c4'
        obtain ⟨t4, n4⟩ := nf_un (σ := σ3) (p := a + ln A + 1 + ln B) (L := [z]) (G := G) (n := 1) ⟨by omega, by rw [t13.s7]; omega⟩ (by rw [t13.s7]; exact h7) n3 (by show ((z :: G).length : Int) ≤ 60; omega) rfl (Or.inr ⟨c4'.1, c4'.2.1⟩)
        refine Or.inl ⟨ec.trans (by rw [d1, d2]; rfl), _, ?_, n4, ⟨((m1.nf t2 (Int.le_refl _)).nf t3 (by omega)).nf t4 (by omega), m3.nf t4 (Int.le_refl _)⟩⟩
        show NFt σ (unM σ3 1) a (a + (ln A + ln B + 2))
        rw [show a + (ln A + ln B + 2) = a + ln A + 1 + ln B + 1 by omega]
        exact t13.tr t4 (by omega) (by omega)
      · exact Or.inr ⟨ec.trans (by rw [d1, d2]; rfl), t12.zz z2⟩
    · exact Or.inr ⟨ec.trans (by rw [d1]; rfl), z1⟩
  | case13 z A B C iA iB =>
    intro a s G σ hw hC ha hb h7 hs hs2 hl hE
    obtain ⟨hz, -, wA, -, wB, rfl⟩ := hw
    have el : a + (ln A + ln B + 3) ≤ σ 58 7 := hb
    have hl : (G.length : Int) + (tb A + tb B + 1) ≤ 60 := hl
    have hs2 : s + (sn A + sn B + 0) ≤ 80 := hs2
    have g1 := ln_ge (T := A)
    have g2 := ln_ge (T := B)
    have s1 := sn_ge (T := A)
    have s2 := sn_ge (T := B)
    have gt := tb_ge (T := A)
    have gt2 := tb_ge (T := B)
    obtain ⟨c1, c2, c3, c4, c5⟩ := hC
    unfold ltZ at hz
    have lz : ((z :: G).length : Int) = G.length + 1 := by simp
    have ec : clo (nd 14 z A B nl) (mb G) = (clo A (mb (z :: G)) && clo B (mb (z :: G))) := by rw [clo_nd, if_neg (by decide), if_neg (by decide), if_neg (by decide), if_pos rfl, adde_mb]
    obtain ⟨t0, n0⟩ := nf_bind (p := a) (z := z) ⟨ha, by omega⟩ h7 hE (by omega) (Or.inr (Or.inr c1.1)) c1.2.2 ⟨by omega, by omega⟩
    rcases iA (a + 1) s (z :: G) _ wA (t0.isC c2) (by omega) (by rw [t0.s7]; omega) (by rw [t0.s7]; exact h7) hs (by omega) (by omega) n0 with ⟨d1, σ1, t1, n1, m1⟩ | ⟨d1, z1⟩
    · have t01 := t0.tr t1 (by omega) (by omega)
      have c3' := t01.cell (by decide) c3
      rw [show a + ln A + 1 = a + 1 + ln A by omega] at c3'
      have t2 := nf_plain (σ := σ1) (p := a + 1 + ln A) ⟨by omega, by rw [t01.s7]; omega⟩ (by rw [t01.s7]; exact h7) n1 (by omega) (by rw [c3'.1]; decide)
      have t12 := t01.tr t2 (by omega) (by omega)
      rw [show a + 1 + ln A + 1 = a + ln A + 2 by omega] at t12 t2
      rcases iB (a + ln A + 2) (s + sn A) (z :: G) _ wB (t12.isC c4) (by omega) (by rw [t12.s7]; omega) (by rw [t12.s7]; exact h7) (by omega) (by omega) (by omega) n1 with ⟨d2, σ3, t3, n3, m3⟩ | ⟨d2, z2⟩
      · have t13 := t12.tr t3 (by omega) (by omega)
        have c5' := t13.cell (by decide) c5
        rw [show a + ln A + ln B + 2 = a + ln A + 2 + ln B by omega] at c5'
        obtain ⟨t4, n4⟩ := nf_un (σ := σ3) (p := a + ln A + 2 + ln B) (L := [z]) (G := G) (n := 1) ⟨by omega, by rw [t13.s7]; omega⟩ (by rw [t13.s7]; exact h7) n3 (by show ((z :: G).length : Int) ≤ 60; omega) rfl (Or.inr ⟨c5'.1, c5'.2.1⟩)
        refine Or.inl ⟨ec.trans (by rw [d1, d2]; rfl), _, ?_, n4, ⟨(m1.nf t3 (by omega)).nf t4 (by omega), m3.nf t4 (Int.le_refl _)⟩⟩
        show NFt σ (unM σ3 1) a (a + (ln A + ln B + 3))
        rw [show a + (ln A + ln B + 3) = a + ln A + 2 + ln B + 1 by omega]
        exact t13.tr t4 (by omega) (by omega)
      · exact Or.inr ⟨ec.trans (by rw [d1, d2]; rfl), t12.zz z2⟩
    · exact Or.inr ⟨ec.trans (by rw [d1]; rfl), t0.zz z1⟩
  | case14 z A B C iA iB iC =>
    intro a s G σ hw hC ha hb h7 hs hs2 hl hE
    obtain ⟨-, -, wA, -, wB, -, wC⟩ := hw
    have el : a + (ln A + ln B + ln C + 3) ≤ σ 58 7 := hb
    have hl : (G.length : Int) + (tb A + tb B + tb C) ≤ 60 := hl
    have hs2 : s + (sn A + sn B + sn C) ≤ 80 := hs2
    have g1 := ln_ge (T := A)
    have g2 := ln_ge (T := B)
    have g3 := ln_ge (T := C)
    have s1 := sn_ge (T := A)
    have s2 := sn_ge (T := B)
    have s3 := sn_ge (T := C)
    have gt := tb_ge (T := A)
    have gt2 := tb_ge (T := B)
    have gt3 := tb_ge (T := C)
    obtain ⟨c1, c2, c3, c4, c5, c6⟩ := hC
    have ec : clo (nd 15 z A B C) (mb G) = (clo A (mb G) && (clo B (mb G) && clo C (mb G))) := by rw [clo_nd, if_neg (by decide), if_neg (by decide), if_neg (by decide), if_neg (by decide), if_neg (by decide)]
    rcases iA a s G σ wA c1 ha (by omega) h7 hs (by omega) (by omega) hE with ⟨d1, σ1, t1, n1, m1⟩ | ⟨d1, z1⟩
    · have e1 := t1.1.r60.1
      have t2 := nf_plain (σ := σ1) (p := a + ln A) ⟨by omega, by rw [t1.s7]; omega⟩ (by rw [t1.s7]; exact h7) n1 (by omega) (by rw [e1, c2.1]; decide)
      have t12 := t1.tr t2 (by omega) (by omega)
      rcases iB (a + ln A + 1) (s + sn A) G σ1 wB (t12.isC c3) (by omega) (by rw [t12.s7]; omega) (by rw [t12.s7]; exact h7) (by omega) (by omega) (by omega) n1 with ⟨d2, σ3, t3, n3, m3⟩ | ⟨d2, z2⟩
      · have t13 := t12.tr t3 (by omega) (by omega)
        have e3 := t13.1.r60.1
        have t4 := nf_plain (σ := σ3) (p := a + ln A + 1 + ln B) ⟨by omega, by rw [t13.s7]; omega⟩ (by rw [t13.s7]; exact h7) n3 (by omega) (by rw [e3, show a + ln A + 1 + ln B = a + ln A + ln B + 1 by omega, c4.1]; decide)
        have t14 := t13.tr t4 (by omega) (by omega)
        rw [show a + ln A + 1 + ln B + 1 = a + ln A + ln B + 2 by omega] at t14 t4
        rcases iC (a + ln A + ln B + 2) (s + sn A + sn B) G σ3 wC (t14.isC c5) (by omega) (by rw [t14.s7]; omega) (by rw [t14.s7]; exact h7) (by omega) (by omega) (by omega) n3 with ⟨d3, σ5, t5, n5, m5⟩ | ⟨d3, z3⟩
        · have t15 := t14.tr t5 (by omega) (by omega)
          have e5 := t15.1.r60.1
          have t6 := nf_plain (σ := σ5) (p := a + ln A + ln B + 2 + ln C) ⟨by omega, by rw [t15.s7]; omega⟩ (by rw [t15.s7]; exact h7) n5 (by omega) (by rw [e5, show a + ln A + ln B + 2 + ln C = a + ln A + ln B + ln C + 2 by omega, c6.1]; decide)
          refine Or.inl ⟨ec.trans (by rw [d1, d2, d3]; rfl), _, ?_, n5, ⟨(m1.nf t3 (by omega)).nf t5 (by omega), m3.nf t5 (by omega), m5⟩⟩
          show NFt σ σ5 a (a + (ln A + ln B + ln C + 3))
          rw [show a + (ln A + ln B + ln C + 3) = a + ln A + ln B + 2 + ln C + 1 by omega]
          exact t15.tr t6 (by omega) (by omega)
        · exact Or.inr ⟨ec.trans (by rw [d1, d2, d3]; rfl), t14.zz z3⟩
      · exact Or.inr ⟨ec.trans (by rw [d1, d2]; rfl), t12.zz z2⟩
    · exact Or.inr ⟨ec.trans (by rw [d1]; rfl), z1⟩
  | case15 z A B C iA iB =>
    intro a s G σ hw hC ha hb h7 hs hs2 hl hE
    obtain ⟨-, -, wA, -, wB, rfl⟩ := hw
    have el : a + (ln A + ln B + 2) ≤ σ 58 7 := hb
    have hl : (G.length : Int) + (tb A + tb B + 0) ≤ 60 := hl
    have hs2 : s + (sn A + sn B + 0) ≤ 80 := hs2
    have g1 := ln_ge (T := A)
    have g2 := ln_ge (T := B)
    have s1 := sn_ge (T := A)
    have s2 := sn_ge (T := B)
    have gt := tb_ge (T := A)
    have gt2 := tb_ge (T := B)
    obtain ⟨c1, c2, c3, c4⟩ := hC
    have ec : clo (nd 16 z A B nl) (mb G) = (clo A (mb G) && clo B (mb G)) := by rw [clo_nd, if_neg (by decide), if_neg (by decide), if_neg (by decide), if_neg (by decide), if_neg (by decide), clo_nl]; simp
    rcases iA a s G σ wA c1 ha (by omega) h7 hs (by omega) (by omega) hE with ⟨d1, σ1, t1, n1, m1⟩ | ⟨d1, z1⟩
    · have e1 := t1.1.r60.1
      have t2 := nf_plain (σ := σ1) (p := a + ln A) ⟨by omega, by rw [t1.s7]; omega⟩ (by rw [t1.s7]; exact h7) n1 (by omega) (by rw [e1, c2.1]; decide)
      have t12 := t1.tr t2 (by omega) (by omega)
      rcases iB (a + ln A + 1) (s + sn A) G σ1 wB (t12.isC c3) (by omega) (by rw [t12.s7]; omega) (by rw [t12.s7]; exact h7) (by omega) (by omega) (by omega) n1 with ⟨d2, σ3, t3, n3, m3⟩ | ⟨d2, z2⟩
      · have t13 := t12.tr t3 (by omega) (by omega)
        have e3 := t13.1.r60.1
        have t4 := nf_plain (σ := σ3) (p := a + ln A + 1 + ln B) ⟨by omega, by rw [t13.s7]; omega⟩ (by rw [t13.s7]; exact h7) n3 (by omega) (by rw [e3, show a + ln A + 1 + ln B = a + ln A + ln B + 1 by omega, c4.1]; decide)
        refine Or.inl ⟨ec.trans (by rw [d1, d2]; rfl), _, ?_, n3, ⟨m1.nf t3 (by omega), m3⟩⟩
        show NFt σ σ3 a (a + (ln A + ln B + 2))
        rw [show a + (ln A + ln B + 2) = a + ln A + 1 + ln B + 1 by omega]
        exact t13.tr t4 (by omega) (by omega)
      · exact Or.inr ⟨ec.trans (by rw [d1, d2]; rfl), t12.zz z2⟩
    · exact Or.inr ⟨ec.trans (by rw [d1]; rfl), z1⟩
  | case16 z A B C iB iC =>
    intro a s G σ hw hC ha hb h7 hs hs2 hl hE
    obtain ⟨⟨hz, -⟩, wA, -, wB, wC⟩ := hw
    have el : a + (ln B + ln C + 3) ≤ σ 58 7 := hb
    have hl : (G.length : Int) + ((bnd A).length + tb B + tb C) ≤ 60 := hl
    have hs2 : s + (pn A + sn B + sn C) ≤ 80 := hs2
    have g2 := ln_ge (T := B)
    have g3 := ln_ge (T := C)
    have p1 := pn_ge (T := A)
    have s2 := sn_ge (T := B)
    have s3 := sn_ge (T := C)
    have gt2 := tb_ge (T := B)
    have gt3 := tb_ge (T := C)
    obtain ⟨c1, -, c3, c4, c5, c6, c7⟩ := hC
    have ll : (((bnd A).reverse ++ G).length : Int) = (bnd A).length + G.length := by simp
    have ec : clo (nd 17 z A B C) (mb G) = (clo B (mb ((bnd A).reverse ++ G)) && clo C (mb G)) := by rw [clo_nd, if_neg (by decide), if_neg (by decide), if_neg (by decide), if_neg (by decide), if_pos rfl, addl_mb]
    obtain ⟨σ0, f0, e0, n0, R0⟩ := s_bindPattern (d := 0) (T := A) (G := G) (w := a) (s := s) ⟨ha, by omega⟩ c1 hs (by omega) wA c3 hE (by omega)
    have S0 : Rn 6 yMo_scope [.ref 58, vi a] σ none σ0 := by
      refine M_Mo_scope (d := 2) ⟨by omega, by omega⟩ ⟨⟨by omega, by omega⟩, ?_⟩
      rw [c1.1, if_neg (by decide), if_neg (by decide), if_pos (by decide)]
      unfold B_Mo_scope_36
      rw [if_neg (by decide)]
      refine ⟨σ0, R0, ?_⟩
      unfold B_Mo_scope_47
      rw [if_pos (by decide), if_pos (by decide)]
      have := sc78 (d := 0) (σ := σ0) (n := 0) (by rw [n0.1, ll]; omega) (by decide)
      rwa [unM_0] at this
    have t0 : NFt σ σ0 a (a + 1) := nf_one ⟨ha, by omega⟩ h7 (by rw [c1.1]; decide) S0 f0 e0
    rcases iB (a + 1) (s + pn A) ((bnd A).reverse ++ G) σ0 wB (t0.isC c4) (by omega) (by rw [t0.s7]; omega) (by rw [t0.s7]; exact h7) (by omega) (by omega) (by omega) n0 with ⟨d1, σ1, t1, n1, m1⟩ | ⟨d1, z1⟩
    · have t01 := t0.tr t1 (by omega) (by omega)
      have c5' := t01.cell (by decide) c5
      rw [show a + ln B + 1 = a + 1 + ln B by omega] at c5'
      obtain ⟨t2, n2⟩ := nf_un (σ := σ1) (p := a + 1 + ln B) (L := (bnd A).reverse) (G := G) (n := z) ⟨by omega, by rw [t01.s7]; omega⟩ (by rw [t01.s7]; exact h7) n1 (by omega) (by rw [List.length_reverse]; exact hz) (Or.inr ⟨c5'.1, c5'.2.1⟩)
      have t02 := t01.tr t2 (by omega) (by omega)
      have e2 := t02.1.r60.1
      have t3 := nf_plain (σ := unM σ1 z) (p := a + 1 + ln B + 1) ⟨by omega, by rw [t02.s7]; omega⟩ (by rw [t02.s7]; exact h7) n2 (by omega) (by rw [e2, show a + 1 + ln B + 1 = a + ln B + 2 by omega, c6.1]; decide)
      have t03 := t02.tr t3 (by omega) (by omega)
      rw [show a + 1 + ln B + 1 + 1 = a + ln B + 3 by omega] at t03
      rcases wC with rfl | ⟨-, wC⟩
      · refine Or.inl ⟨ec.trans (by rw [d1, clo_nl]; rfl), _, ?_, n2, ⟨m1.nf t2 (Int.le_refl _), trivial⟩⟩
        show NFt σ (unM σ1 z) a (a + (ln B + 0 + 3))
        rw [show a + (ln B + 0 + 3) = a + ln B + 3 by omega]
        exact t03
      · rcases iC (a + ln B + 3) (s + pn A + sn B) G _ wC (t03.isC c7) (by omega) (by rw [t03.s7]; omega) (by rw [t03.s7]; exact h7) (by omega) (by omega) (by omega) n2 with ⟨d4, σ4, t4, n4, m4⟩ | ⟨d4, z4⟩
        · refine Or.inl ⟨ec.trans (by rw [d1, d4]; rfl), _, ?_, n4, ⟨(m1.nf t2 (Int.le_refl _)).nf t4 (by omega), m4⟩⟩
          show NFt σ σ4 a (a + (ln B + ln C + 3))
          rw [show a + (ln B + ln C + 3) = a + ln B + 3 + ln C by omega]
          exact t03.tr t4 (by omega) (by omega)
        · exact Or.inr ⟨ec.trans (by rw [d1, d4]; rfl), t03.zz z4⟩
    · exact Or.inr ⟨ec.trans (by rw [d1]; rfl), t0.zz z1⟩
  | case17 => intro a s G σ hw; exfalso; revert hw; unfold wf; split <;> simp_all
  | case18 t hx =>
    intro a s G σ hw
    exfalso; revert hw; unfold wf; split
    · exact (hx _ _ _ _ _ rfl).elim
    · exact id
end NFM
