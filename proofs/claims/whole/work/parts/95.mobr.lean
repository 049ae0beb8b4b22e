/-! The model's reader: the clauses of a choice. -/
section CLL
variable {σ τ ρ : Mem} {D : Int}
theorem chn.pos : ∀ {J : List Int} {l : Int}, chn ρ l J → ∀ j ∈ J, 0 < j
  | [], _, _, _, hj => by cases hj
  | j :: J, l, ⟨h1, h2, h3, h4⟩, i, hi => by
    rcases List.mem_cons.mp hi with e | e
    · rw [e]; exact h2.1
    · exact chn.pos h4 i e
/-- the clauses are read, and the jumps filled in -/
def BrD (σ τ τ' : Mem) (a b : Int) (J : List Int) (T : Tr) (q : Int) : Prop := frM σ τ' ∧ τ' 58 24 = 0 ∧ τ' 58 3 = q ∧ (σ 58 3 ≤ q ∧ q ≤ σ 58 2) ∧ τ' 58 21 = σ 58 21 - 1 ∧ τ' 58 22 = σ 58 22 ∧ kpG (σ 58 21 - 1) σ τ' ∧ kpS (σ 58 14 + b) τ τ' ∧ τ' 58 7 = σ 58 7 + a + ln T + 1 ∧ τ' 58 14 = σ 58 14 + b + sn T ∧ isC τ' T (σ 58 7 + a) (σ 58 14 + b) ∧ cell τ' (σ 58 7 + a + ln T) 17 0 0 ∧ (∀ x, 0 ≤ x → x < σ 58 7 + a → τ' 60 x = τ 60 x ∧ (x ∉ J → τ' 61 x = τ 61 x) ∧ τ' 62 x = τ 62 x ∧ τ' 74 x = τ 74 x) ∧ ∀ j ∈ J, τ' 61 j = σ 58 7 + a + ln T + 1
def BrM (Q : Option (Tr × Int)) (σ τ : Mem) (a b : Int) (J : List Int) : Prop := match Q with
  | none => Fl σ
  | some (T, q) => ∃ τ', Sim σ τ' ∧ BrD σ τ τ' a b J T q
theorem br_join {τ' : Mem} {s7 s14 z last NN : Int} {Pt B C : Tr} {J : List Int} (h7 : 0 ≤ s7) (h14 : 0 ≤ s14) (F1 : cell ρ s7 16 s14 (s14 + pn Pt)) (F2 : ρ 74 s7 = s7 + ln B + 3) (F3 : isP ρ Pt s14) (F4 : isC ρ B (s7 + 1) (s14 + pn Pt)) (F5 : cell ρ (s7 + ln B + 1) 12 z 0) (F6 : cell ρ (s7 + ln B + 2) 14 last 0) (hJ : ∀ j ∈ J, j < s7)
    (R : ∀ x, 0 ≤ x → x < s7 + ln B + 3 → τ' 60 x = ρ 60 x ∧ (x ∉ (s7 + ln B + 2) :: J → τ' 61 x = ρ 61 x) ∧ τ' 62 x = ρ 62 x ∧ τ' 74 x = ρ 74 x) (RJ : ∀ j ∈ (s7 + ln B + 2) :: J, τ' 61 j = NN) (hN : NN = s7 + ln B + ln C + 4) (kS : kpS (s14 + pn Pt + sn B) ρ τ') (hC : isC τ' C (s7 + ln B + 3) (s14 + pn Pt + sn B)) : isC τ' (nd 17 z Pt B C) s7 s14 := by
  have g1 := ln_ge (T := B)
  have g2 := sn_ge (T := B)
  have g3 := pn_ge (T := Pt)
  have nin : ∀ {x : Int}, s7 ≤ x → x ≠ s7 + ln B + 2 → x ∉ (s7 + ln B + 2) :: J := fun {x} h1 h2 h3 => by
    rcases List.mem_cons.mp h3 with e | e
    · exact h2 e
    · have := hJ x e; omega
  have cc : ∀ {x u v w : Int}, s7 ≤ x → x < s7 + ln B + 2 → cell ρ x u v w → cell τ' x u v w := fun {x u v w} h1 h2 h => by
    obtain ⟨e1, e2, e3, e4⟩ := R x (by omega) (by omega)
    exact ⟨e1.trans h.1, (e2 (nin h1 (by omega))).trans h.2.1, e3.trans h.2.2⟩
  refine ⟨cc (Int.le_refl _) (by omega) F1, ?_, F3.kp h14 (by omega) kS, ?_, cc (by omega) (by omega) F5, ?_, hC⟩
  · obtain ⟨e1, e2, e3, e4⟩ := R s7 h7 (by omega)
    exact e4.trans F2
  · refine isC.mv (fun x h1 h2 => ?_) (fun x h1 h2 => kS x (by omega) (by omega)) F4
    obtain ⟨e1, e2, e3, e4⟩ := R x (by omega) (by omega)
    exact ⟨e1, fun _ => e2 (nin (by omega) (by omega)), e3, e4⟩
  · obtain ⟨e1, e2, e3, e4⟩ := R (s7 + ln B + 2) (by omega) (by omega)
    exact ⟨e1.trans F6.1, (RJ _ (List.mem_cons_self ..)).trans hN, e3.trans F6.2.2⟩
theorem br_bar (H : GI σ 0) {n : Nat} {q4 a b last : Int} {J : List Int} {U V : Tr} {τ5 τ6 : Mem} (S6 : Pg σ τ6 q4 1 (a + 1 + ln V + 1 + 1) (b + pn U + sn V)) (Sm5 : Sim σ τ5) (K6 : ∀ m, (∃ (v11 : Int) (m11 : Mem), Rn 13 yMo_eat [.ref 58, vi 124] τ6 (some v11) m11 ∧ (if v11 = 0 then (∃ (m13 : Mem), Rn 13 yMo_want [.ref 58, vi 125] m11 none m13 ∧ (∃ (m14 : Mem), Rn 13 yMo_put [.ref 58, vi 17, vi 0, vi 0] m13 none m14 ∧ (((0 : Int) ≤ (σ 58 21 - 1) ∧ (σ 58 21 - 1) < (180 : Int)) ∧ (Lb 13 yMo_clauseEnds 170 [(0, .ref 58), (4, vi (zAnd (m14 73 (σ 58 21 - 1)) 65535))] [] m14 none m)))) else (∃ (m16 : Mem), Rn 13 yMo_clauseBegins [.ref 58, vi (σ 58 21 - 1)] m11 none m16 ∧ ((none : Option Int) = none ∧ m = m16)))) → Sim τ5 m) (ha : 0 ≤ a) (hb : 0 ≤ b)
    (F1 : cell τ6 (σ 58 7 + a) 16 (σ 58 14 + b) (σ 58 14 + b + pn U)) (F2 : τ6 74 (σ 58 7 + a) = σ 58 7 + a + ln V + 3) (F3 : isP τ6 U (σ 58 14 + b)) (F4 : isC τ6 V (σ 58 7 + a + 1) (σ 58 14 + b + pn U)) (F5 : cell τ6 (σ 58 7 + a + ln V + 1) 12 (bnP U) 0) (F6 : cell τ6 (σ 58 7 + a + ln V + 2) 14 last 0) (kD7 : kpD (σ 58 7 + a) τ τ6) (kS7 : kpS (σ 58 14 + b) τ τ6) (s73 : τ6 73 (σ 58 21 - 1) = (5 - (n : Int)) * 65536 + (σ 58 7 + a + ln V + 2)) (hc6 : chn τ6 (σ 58 7 + a + ln V + 2) ((σ 58 7 + a + ln V + 2) :: J)) (hJ2 : ∀ j ∈ J, j < σ 58 7 + a) (l8 : a + ln V + 2 ≤ 2 * (q4 - σ 58 3)) (l9 : b + pn U + sn V ≤ q4 - σ 58 3) (hn : n + 1 ≤ 5) {Q : Option (Tr × Int)} (I : ∀ (τ7 : Mem), (∀ m, (∀ d : Nat, Rn (d + 6) yMo_clauseBegins [.ref 58, vi (σ 58 21 - 1)] τ7 none m) → Sim τ5 m) → Pg σ τ7 (sk (mch σ) q4 + 1) 1 (a + 1 + ln V + 1 + 1) (b + pn U + sn V) → τ7 73 (σ 58 21 - 1) = (5 - (n : Int)) * 65536 + (σ 58 7 + a + ln V + 2) → chn τ7 (σ 58 7 + a + ln V + 2) ((σ 58 7 + a + ln V + 2) :: J) → BrM Q σ τ7 (a + 1 + ln V + 1 + 1) (b + pn U + sn V) ((σ 58 7 + a + ln V + 2) :: J)) (w6 : nx (mch σ) q4 = 124) : BrM (Q.map (fun x => (nd 17 (bnP U) U V x.1, x.2))) σ τ a b J := by
  have HM := H.1
  have h60 := HM.2.1
  obtain ⟨-, h24, h3, h7, h14, h22, h21, h70, -⟩ := H
  have ug := gu_0
  have g1 := pn_ge (T := U)
  have g3 := ln_ge (T := V)
  have g4 := sn_ge (T := V)
  have ge6 := sk_ge (ch := mch σ) (p := q4)
  have q6 := S6.2.2.2.1
  have Ea := s_eat (d := 7) (b := 0) (σ := τ6) (q := q4) (c := 124) (S6.1.mi HM) ⟨by omega, by omega⟩ (rgk rfl) (by decide) (by decide)
  rw [S6.id, S6.1.ch] at Ea
  have e7' := S6.2.2.2.2.2.2.2.2.2.1
  have e14' := S6.2.2.2.2.2.2.2.2.2.2.1
  rw [if_pos w6, if_pos w6] at Ea
  have sl6 := mch_lt (σ := σ) (x := sk (mch σ) q4) (fun v => by have v' : nx (mch σ) q4 = -1 := v; omega)
  have S7 := S6.Z (q' := sk (mch σ) q4 + 1) ⟨by omega, by omega⟩
  have I := I (Zm τ6 (sk (mch σ) q4 + 1) 0) (fun m hm => K6 m ⟨_, _, Ea, by rw [if_neg (by decide)]; exact ⟨_, hm 7, rfl, rfl⟩⟩) S7 (by rw [Zm_o (by decide)]; exact s73) (chn.mv (fun j _ => by rw [Zm_o (by decide)]) hc6)
  cases Q with
  | none => exact I
  | some t =>
    obtain ⟨T, q8⟩ := t
    obtain ⟨τ', sm', i1, i2, i3, i4, i5, i6, i7, i8, i9, i10, i11, i12, i13, i14⟩ := I
    have g5 := ln_ge (T := T)
    have eT : ln (nd 17 (bnP U) U V T) = ln V + ln T + 3 := rfl
    have eS : sn (nd 17 (bnP U) U V T) = pn U + sn V + sn T := rfl
    rw [show σ 58 7 + (a + 1 + ln V + 1 + 1) = σ 58 7 + a + ln V + 3 by omega] at i9 i11 i12 i13 i14
    rw [show σ 58 14 + (b + pn U + sn V) = σ 58 14 + b + pn U + sn V by omega] at i8 i10 i11
    have R : ∀ x, 0 ≤ x → x < σ 58 7 + a + ln V + 3 → τ' 60 x = τ6 60 x ∧ (x ∉ (σ 58 7 + a + ln V + 2) :: J → τ' 61 x = τ6 61 x) ∧ τ' 62 x = τ6 62 x ∧ τ' 74 x = τ6 74 x := fun x h0 h1 => by
      have := i13 x h0 h1
      rwa [Zm_o (by decide), Zm_o (by decide), Zm_o (by decide), Zm_o (by decide)] at this
    have kS8 : kpS (σ 58 14 + b + pn U + sn V) τ6 τ' := fun x h0 h1 => by
      have := i8 x h0 h1
      rwa [Zm_o (by decide), Zm_o (by decide)] at this
    show BrM (some (nd 17 (bnP U) U V T, q8)) σ τ a b J
    refine ⟨τ', sm', i1, i2, i3, i4, i5, i6, i7, ?_, by omega, by omega, ?_, ?_, ?_, ?_⟩
    · exact kS7.tr kS8 (by omega)
    · exact br_join (by omega) (by omega) F1 F2 F3 F4 F5 F6 hJ2 R i14 (by omega) kS8 i11
    · rwa [show σ 58 7 + a + ln V + 3 + ln T = σ 58 7 + a + ln (nd 17 (bnP U) U V T) by omega] at i12
    · intro x h0 h1
      obtain ⟨r1, r2, r3, r4⟩ := R x h0 (by omega)
      obtain ⟨t1, t2, t3, t4⟩ := kD7 x h0 h1
      refine ⟨r1.trans t1, fun hx => (r2 (fun hm => ?_)).trans t2, r3.trans t3, r4.trans t4⟩
      rcases List.mem_cons.mp hm with e | e
      · omega
      · exact hx e
    · intro j hj
      rw [i14 j (List.mem_cons_of_mem _ hj)]; omega
theorem br_end (H : GI σ 0) {n : Nat} {q4 a b last : Int} {J : List Int} {U V : Tr} {τ5 τ6 : Mem} (S6 : Pg σ τ6 q4 1 (a + 1 + ln V + 1 + 1) (b + pn U + sn V)) (Sm5 : Sim σ τ5) (K6 : ∀ m, (∃ (v11 : Int) (m11 : Mem), Rn 13 yMo_eat [.ref 58, vi 124] τ6 (some v11) m11 ∧ (if v11 = 0 then (∃ (m13 : Mem), Rn 13 yMo_want [.ref 58, vi 125] m11 none m13 ∧ (∃ (m14 : Mem), Rn 13 yMo_put [.ref 58, vi 17, vi 0, vi 0] m13 none m14 ∧ (((0 : Int) ≤ (σ 58 21 - 1) ∧ (σ 58 21 - 1) < (180 : Int)) ∧ (Lb 13 yMo_clauseEnds 170 [(0, .ref 58), (4, vi (zAnd (m14 73 (σ 58 21 - 1)) 65535))] [] m14 none m)))) else (∃ (m16 : Mem), Rn 13 yMo_clauseBegins [.ref 58, vi (σ 58 21 - 1)] m11 none m16 ∧ ((none : Option Int) = none ∧ m = m16)))) → Sim τ5 m) (ha : 0 ≤ a) (hb : 0 ≤ b)
    (F1 : cell τ6 (σ 58 7 + a) 16 (σ 58 14 + b) (σ 58 14 + b + pn U)) (F2 : τ6 74 (σ 58 7 + a) = σ 58 7 + a + ln V + 3) (F3 : isP τ6 U (σ 58 14 + b)) (F4 : isC τ6 V (σ 58 7 + a + 1) (σ 58 14 + b + pn U)) (F5 : cell τ6 (σ 58 7 + a + ln V + 1) 12 (bnP U) 0) (F6 : cell τ6 (σ 58 7 + a + ln V + 2) 14 last 0) (kD7 : kpD (σ 58 7 + a) τ τ6) (kS7 : kpS (σ 58 14 + b) τ τ6) (s73 : τ6 73 (σ 58 21 - 1) = (5 - (n : Int)) * 65536 + (σ 58 7 + a + ln V + 2)) (hc6 : chn τ6 (σ 58 7 + a + ln V + 2) ((σ 58 7 + a + ln V + 2) :: J)) (hJ2 : ∀ j ∈ J, j < σ 58 7 + a) (l8 : a + ln V + 2 ≤ 2 * (q4 - σ 58 3)) (l9 : b + pn U + sn V ≤ q4 - σ 58 3) (hn : n + 1 ≤ 5) (w6 : nx (mch σ) q4 ≠ 124) : BrM ((pEx (mch σ) 125 q4).map (fun t => (nd 17 (bnP U) U V nl, t))) σ τ a b J := by
  have HM := H.1
  have h60 := HM.2.1
  obtain ⟨-, h24, h3, h7, h14, h22, h21, h70, -⟩ := H
  have ug := gu_0
  have g1 := pn_ge (T := U)
  have g3 := ln_ge (T := V)
  have g4 := sn_ge (T := V)
  have ge6 := sk_ge (ch := mch σ) (p := q4)
  have q6 := S6.2.2.2.1
  have Ea := s_eat (d := 7) (b := 0) (σ := τ6) (q := q4) (c := 124) (S6.1.mi HM) ⟨by omega, by omega⟩ (rgk rfl) (by decide) (by decide)
  rw [S6.id, S6.1.ch] at Ea
  have e7' := S6.2.2.2.2.2.2.2.2.2.1
  have e14' := S6.2.2.2.2.2.2.2.2.2.2.1
  obtain ⟨ny1, ny2, ny3⟩ := yy1 (c := 5 - (n : Int)) (j := σ 58 7 + a + ln V + 2) (by omega) ⟨by omega, by omega⟩
  rw [if_neg w6, if_neg w6] at Ea
  have sin : sk (mch σ) q4 ≤ σ 58 2 := skf_in (fun x e => (mch_lt (by omega)).2) 60 q4 (by omega)
  have S7 := S6.Z (q' := sk (mch σ) q4) ⟨by omega, sin⟩
  have W := s_want (d := 6) (b := 0) (σ := τ6) (q := sk (mch σ) q4) (c := 125) (S6.1.mi HM) ⟨by omega, by omega⟩ (rgk rfl) (by decide) (by decide)
  rw [S6.1.ch] at W
  have W : Rn 13 yMo_want [.ref 58, vi 125] (Zm τ6 (sk (mch σ) q4) 0) none (Zm τ6 (wtP (mch σ) 125 (sk (mch σ) q4)) (wtB (mch σ) 125 0 (sk (mch σ) q4))) := W
  have en : nx (mch σ) (sk (mch σ) q4) = nx (mch σ) q4 := by unfold nx; rw [HM.sk_sk (by omega)]
  have esk : sk (mch σ) (sk (mch σ) q4) = sk (mch σ) q4 := HM.sk_sk (by omega)
  -- behind the last draft, any place and flag
  have fin : ∀ z c, Zm τ6 (wtP (mch σ) 125 (sk (mch σ) q4)) (wtB (mch σ) 125 0 (sk (mch σ) q4)) = Zm τ6 z c → ∃ τ', Sim σ (eDp τ') ∧ (∀ i, i ≠ 61 → τ' i = (dft (Zm τ6 z c) 17 0 0) i) ∧ (∀ x, x ∉ (σ 58 7 + a + ln V + 2) :: J → τ' 61 x = (dft (Zm τ6 z c) 17 0 0) 61 x) ∧ ∀ x ∈ (σ 58 7 + a + ln V + 2) :: J, τ' 61 x = σ 58 7 + a + ln V + 4 := by
    intro z c ez
    rw [ez] at W
    have y7 : (Zm τ6 z c) 58 7 = σ 58 7 + a + ln V + 3 := by rw [Zm_f (by decide) (by decide)]; omega
    have x7 : (dft (Zm τ6 z c) 17 0 0) 58 7 = σ 58 7 + a + ln V + 4 := by rw [dft_at.2.1]; omega
    have x73 : (dft (Zm τ6 z c) 17 0 0) 73 (σ 58 21 - 1) = (5 - (n : Int)) * 65536 + (σ 58 7 + a + ln V + 2) := by
      rw [dft_at.2.2.2.2 73 (by decide) (by decide) (by decide) (by decide), Zm_o (by decide)]; exact s73
    have x22 : (dft (Zm τ6 z c) 17 0 0) 58 22 = σ 58 22 + 1 := (dft_at.1 22 (by decide)).trans ((Zm_f (by decide) (by decide)).trans S6.2.2.2.2.2.1)
    have x21 : (dft (Zm τ6 z c) 17 0 0) 58 21 = σ 58 21 := (dft_at.1 21 (by decide)).trans ((Zm_f (by decide) (by decide)).trans S6.2.2.2.2.1)
    have hc7 : chn (dft (Zm τ6 z c) 17 0 0) (σ 58 7 + a + ln V + 2) ((σ 58 7 + a + ln V + 2) :: J) := by
      refine chn.mv (fun j hj => ?_) hc6
      have hj2 : j < σ 58 7 + a + ln V + 3 := by
        rcases List.mem_cons.mp hj with e | e
        · omega
        · have := hJ2 j e; omega
      rw [(dft_at.2.2.2.1 j (by omega)).2.1, Zm_o (by decide)]
    obtain ⟨τ', hL, t1, t2, t3⟩ := chn_l (d := 9) (ρ := σ) (N := σ 58 7 + a + ln V + 4) ⟨by omega, by omega⟩ (by omega) (by omega) _ _ _ hc7 x7 (by omega) (by omega)
    refine ⟨τ', Sm5.tr (K6 _ ⟨_, _, Ea, ?_⟩), t1, t2, t3⟩
    rw [if_pos rfl]
    refine ⟨_, W, _, s_put (d := 9) (rgk rfl) (rgk rfl) (rgk rfl) (by omega), ⟨by omega, by omega⟩, ?_⟩
    rw [x73, ny1]; exact hL
  have f17 : ∀ {z c : Int} {τ' : Mem}, (∀ i, i ≠ 61 → τ' i = (dft (Zm τ6 z c) 17 0 0) i) → frM σ (eDp τ') := by
    intro z c τ' t1
    have f1 : frM (dft (Zm τ6 z c) 17 0 0) τ' := ⟨fun i hi => t1 i (fun e => by rw [e] at hi; cases hi), fun k _ => by rw [t1 58 (by decide)]⟩
    exact (((S6.1.tr frM.Z).tr frM.dft).tr f1).tr frM.eDp
  by_cases w7 : nx (mch σ) q4 = 125
  · have eY : pEx (mch σ) 125 q4 = some (sk (mch σ) q4 + 1) := by unfold pEx; rw [if_pos w7]
    rw [eY, Option.map_some]
    have sl7 := mch_lt (σ := σ) (x := sk (mch σ) q4) (fun v => by have v' : nx (mch σ) q4 = -1 := v; omega)
    obtain ⟨τ', sm', t1, t2, t3⟩ := fin (sk (mch σ) q4 + 1) 0 (by unfold wtP wtB; rw [en, if_pos w7, if_pos ⟨w7, rfl⟩, esk])
    have fr := f17 t1
    have S8 := (S6.Z (q' := sk (mch σ) q4 + 1) ⟨by omega, by omega⟩).put (x := 17) (y := 0) (z := 0) (by omega)
    obtain ⟨f, s24, s3, s3b, s21, s22, k1, k2, k3, s7, s14, s70⟩ := S8
    have o : ∀ {i : Nat}, i ≠ 58 → (eDp τ') i = τ' i := fun h => (mup_obj h).trans (mup_obj h)
    have e58 : τ' 58 = (dft (Zm τ6 (sk (mch σ) q4 + 1) 0) 17 0 0) 58 := t1 58 (by decide)
    have u : ∀ {k : Int}, k ≠ 21 → k ≠ 22 → (eDp τ') 58 k = (dft (Zm τ6 (sk (mch σ) q4 + 1) 0) 17 0 0) 58 k := fun {k} h h' => ((mup_nk h).trans (mup_nk h')).trans (by rw [e58])
    have eT : ln (nd 17 (bnP U) U V nl) = ln V + 3 := by show ln V + 0 + 3 = _; omega
    have eS : sn (nd 17 (bnP U) U V nl) = pn U + sn V := by show pn U + sn V + 0 = _; omega
    have y7 : (Zm τ6 (sk (mch σ) q4 + 1) 0) 58 7 = σ 58 7 + a + ln V + 3 := by rw [Zm_f (by decide) (by decide)]; omega
    have R : ∀ x, 0 ≤ x → x < σ 58 7 + a + ln V + 3 → (eDp τ') 60 x = τ6 60 x ∧ (x ∉ (σ 58 7 + a + ln V + 2) :: J → (eDp τ') 61 x = τ6 61 x) ∧ (eDp τ') 62 x = τ6 62 x ∧ (eDp τ') 74 x = τ6 74 x := by
      intro x h0 h1
      obtain ⟨j1, j2, j3⟩ := (dft_at (τ := Zm τ6 (sk (mch σ) q4 + 1) 0) (x := 17) (y := 0) (z := 0)).2.2.2.1 x (by omega)
      rw [Zm_o (by decide)] at j1 j2 j3
      refine ⟨?_, fun hx => ?_, ?_, ?_⟩
      · rw [o (by decide), t1 60 (by decide)]; exact j1
      · rw [o (by decide), t2 x hx]; exact j2
      · rw [o (by decide), t1 62 (by decide)]; exact j3
      · rw [o (by decide), t1 74 (by decide), dft_at.2.2.2.2 74 (by decide) (by decide) (by decide) (by decide), Zm_o (by decide)]
    have kS8 : ∀ n', kpS n' τ6 (eDp τ') := fun n' x _ _ => by
      rw [o (by decide), o (by decide), t1 66 (by decide), t1 67 (by decide), dft_at.2.2.2.2 66 (by decide) (by decide) (by decide) (by decide), dft_at.2.2.2.2 67 (by decide) (by decide) (by decide) (by decide), Zm_o (by decide), Zm_o (by decide)]; exact ⟨rfl, rfl⟩
    refine ⟨eDp τ', sm', fr, (u (by decide) (by decide)).trans s24, (u (by decide) (by decide)).trans s3, s3b, ?_, ?_, ?_, kS7.tr (kS8 _) (Int.le_refl _), ?_, ?_, ?_, ?_, ?_, ?_⟩
    · unfold eDp; rw [mup_eq, e58, s21]
    · unfold eDp; rw [mup_nk (by decide), mup_eq, e58, s22]; omega
    · intro x h0 h1
      rw [o (by decide), o (by decide), o (by decide), o (by decide), t1 70 (by decide), t1 71 (by decide), t1 72 (by decide), t1 73 (by decide)]; exact k1 x h0 h1
    · rw [u (by decide) (by decide), s7]; omega
    · rw [u (by decide) (by decide), s14]; omega
    · exact br_join (by omega) (by omega) F1 F2 F3 F4 F5 F6 hJ2 R (fun j hj => by rw [o (by decide)]; exact t3 j hj) (by show _ = σ 58 7 + a + ln V + 0 + 4; omega) (kS8 _) trivial
    · have := (dft_at (τ := Zm τ6 (sk (mch σ) q4 + 1) 0) (x := 17) (y := 0) (z := 0)).2.2.1
      rw [y7] at this
      rw [show σ 58 7 + a + ln (nd 17 (bnP U) U V nl) = σ 58 7 + a + ln V + 3 by omega]
      refine ⟨?_, ?_, ?_⟩
      · rw [o (by decide), t1 60 (by decide)]; exact this.1
      · rw [o (by decide), t2 _ (fun hm => by
          rcases List.mem_cons.mp hm with e | e
          · omega
          · have := hJ2 _ e; omega)]
        exact this.2.1
      · rw [o (by decide), t1 62 (by decide)]; exact this.2.2
    · intro x h0 h1
      obtain ⟨r1, r2, r3, r4⟩ := R x h0 (by omega)
      obtain ⟨p1, p2, p3, p4⟩ := kD7 x h0 h1
      refine ⟨r1.trans p1, fun hx => (r2 (fun hm => ?_)).trans p2, r3.trans p3, r4.trans p4⟩
      rcases List.mem_cons.mp hm with e | e
      · omega
      · exact hx e
    · intro j hj
      rw [o (by decide), t3 j (List.mem_cons_of_mem _ hj)]; omega
  · have eY : pEx (mch σ) 125 q4 = none := by unfold pEx; rw [if_neg w7]
    rw [eY, Option.map_none]
    obtain ⟨τ', sm', t1, t2, t3⟩ := fin (sk (mch σ) q4) 1 (by unfold wtP wtB; rw [en, if_neg w7, if_neg (fun h => w7 h.1), esk])
    refine Fl.of sm' (f17 t1) (Fl.bad ?_)
    have e58 : τ' 58 = (dft (Zm τ6 (sk (mch σ) q4) 1) 17 0 0) 58 := t1 58 (by decide)
    have : (eDp τ') 58 24 = 1 := ((mup_nk (by decide)).trans (mup_nk (by decide))).trans (by rw [e58, dft_at.1 24 (by decide), Zm_bad])
    rw [this]; decide
end CLL
