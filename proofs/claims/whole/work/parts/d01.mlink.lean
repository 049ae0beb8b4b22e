/-! A variable of the model is linked: a step of its store. How many arrows stand in a type. -/
section MLK
variable {S S1 S2 S' : TS} {M M1 : Int → Prop} {h : Int} {ρ : Int → GT}
/-- what may change is told by nodes further out -/
theorem XE.in (x : XE S S' M h) (hh : ∀ m, M m → ∃ m', M1 m' ∧ Oc S.1 m m') : XE S S' M1 h := by
  have im : ∀ u, InM S M u → InM S M1 u := fun u ⟨m, a, b⟩ => by
    obtain ⟨m', c, e⟩ := hh m a
    exact ⟨m', c, b.tr e⟩
  refine ⟨x.1, fun n h0 h1 => ?_, fun n o => ?_, x.2.2.2.1, x.2.2.2.2.1, fun l X hl hX hM => x.2.2.2.2.2.1 l X hl hX (fun m a u o oc lt => ?_), fun n u h0 h1 o oc => ?_⟩
  · rcases x.2.1 n h0 h1 with q | q
    · exact Or.inl ⟨q.1, im n q.2.1, q.2.2⟩
    · exact Or.inr q
  · rcases x.2.2.1 n o with q | q
    · exact Or.inl (im n q)
    · exact Or.inr q
  · obtain ⟨m', c, e⟩ := hh m a
    exact hM m' c u o (oc.tr e) lt
  · rcases x.2.2.2.2.2.2 n u h0 h1 o oc with q | ⟨q, w, a, b, c⟩
    · exact Or.inl q
    · refine Or.inr ⟨?_, w, a, im w b, c⟩
      rcases q with q | q
      · exact Or.inl q
      · exact Or.inr ⟨q.1, im u q.2⟩
theorem TSt.in (x : TSt S S' M h) (hh : ∀ m, M m → ∃ m', M1 m' ∧ Oc S.1 m m') : TSt S S' M1 h := ⟨x.1, x.2.1.in hh, x.2.2⟩
/-- a variable that isn't general is linked to a type without general ones -/
theorem lk_T {v o : Int} (W : SO S) (hv : oP S v) (l0 : ∀ u, oP S u → 0 ≤ S.2.2 u) (lv : S.2.2 v ≤ 0) (ho : 0 ≤ o ∧ o < S.2.1) (nl : ¬ lkd S.1 o) (no : ¬ Oc S.1 v o) (lo : lO S 0 o) {ρ0 : Int → GT} (V0 : VS S.1 S.2.1 ρ0) : TSt S (upS S.1 v (0, o, 0), S.2.1, S.2.2) (fun m => m = v ∨ m = o) h ∧ (∀ ρ, VS (upS S.1 v (0, o, 0)) S.2.1 ρ ↔ (VS S.1 S.2.1 ρ ∧ ρ v = ρ o)) ∧ ∃ ρ, VS (upS S.1 v (0, o, 0)) S.2.1 ρ := by
  obtain ⟨W1, ⟨L, st, SSt⟩, lev⟩ := W
  obtain ⟨⟨v0, v1⟩, hk, hl⟩ := hv
  have ne : o ≠ v := fun e => no (by rw [e]; exact Oc.self)
  have iff : ∀ ρ, VS (upS S.1 v (0, o, 0)) S.2.1 ρ ↔ (VS S.1 S.2.1 ρ ∧ ρ v = ρ o) := fun ρ => lk_V ⟨hk, hl⟩ ⟨v0, v1⟩ ho.1
  have oc2 : ∀ {u n : Int}, u ≠ v → (Oc (upS S.1 v (0, o, 0)) u n ↔ (Oc S.1 u n ∨ (Oc S.1 v n ∧ Oc S.1 u o))) := fun hu => oc_lk ⟨hk, hl⟩ ho.1 hu
  have nv : ∀ u, oP (upS S.1 v (0, o, 0), S.2.1, S.2.2) u → u ≠ v ∧ oP S u := fun u ⟨a, b, c⟩ => by
    have c : ¬ lkd (upS S.1 v (0, o, 0)) u := c
    have e : u ≠ v := fun e => c (by subst e; unfold lkd; rw [lk_at]; exact ⟨rfl, ho.1⟩)
    unfold lkd at c
    have b : (upS S.1 v (0, o, 0) u).1 = 0 := b
    rw [lk_ne e] at b c
    exact ⟨e, a, b, c⟩
  have vn : ∀ u, u ≠ v → oP S u → oP (upS S.1 v (0, o, 0), S.2.1, S.2.2) u := fun u e ⟨a, b, c⟩ => by
    refine ⟨a, ?_, ?_⟩
    · show (upS S.1 v (0, o, 0) u).1 = 0
      rw [lk_ne e]; exact b
    · show ¬ lkd (upS S.1 v (0, o, 0)) u
      unfold lkd
      rw [lk_ne e]; exact c
  have ss : SS (upS S.1 v (0, o, 0)) S.2.1 (L + 1) (fun n => if n = v then L + 1 else st n) := by
    intro n h0 h1 q
    by_cases e : n = v
    · subst e
      show 1 ≤ (if n = n then L + 1 else st n) ∧ (if n = n then L + 1 else st n) ≤ L + 1 ∧ _
      rw [if_pos rfl, lk_at]
      refine ⟨by omega, by omega, fun q2 => ?_⟩
      have q2 : lkd (upS S.1 n (0, o, 0)) o := q2
      unfold lkd at q2
      rw [lk_ne ne] at q2
      exact absurd q2 nl
    · unfold lkd at q
      rw [lk_ne e] at q ⊢
      have z := SSt n h0 h1 q
      show 1 ≤ (if n = v then L + 1 else st n) ∧ (if n = v then L + 1 else st n) ≤ L + 1 ∧ (_ → (if n = v then L + 1 else st n) < if (S.1 n).2.1 = v then L + 1 else st (S.1 n).2.1)
      rw [if_neg e]
      refine ⟨z.1, by omega, fun q2 => ?_⟩
      by_cases e2 : (S.1 n).2.1 = v
      · rw [if_pos e2]; omega
      · rw [if_neg e2]
        unfold lkd at q2
        rw [lk_ne e2] at q2
        exact z.2.2 q2
  have ocv : ∀ {u n : Int}, u ≠ v → Oc S.1 u n → Oc (upS S.1 v (0, o, 0)) u n := fun hu a => (oc2 hu).mpr (Or.inl a)
  refine ⟨⟨⟨lk_W W1 ho, ⟨L + 1, _, ss⟩, fun u a => lev u (nv u a).2⟩, ⟨Int.le_refl _, fun n h0 h1 => ?_, fun n _ => Or.inr rfl, fun n _ _ => Int.le_refl _, fun l n h0 h1 q u a oc => ?_, fun l X hl hX hM n h0 h1 q u a oc lt => ?_, fun n u h0 h1 a oc => ?_⟩, fun ρ V => ((iff ρ).mp V).1⟩, iff, ?_⟩
  · by_cases e : n = v
    · subst e
      exact Or.inl ⟨⟨⟨v0, v1⟩, hk, hl⟩, ⟨n, Or.inl rfl, Oc.self⟩, by show (upS S.1 n (0, o, 0) n).1 = 0; rw [lk_at]⟩
    · exact Or.inr (lk_ne e)
  · obtain ⟨e, a'⟩ := nv u a
    rcases (oc2 e).mp oc with z | ⟨z1, z2⟩
    · exact q u a' z
    · have b := lo u a' z2
      have c := q v ⟨⟨v0, v1⟩, hk, hl⟩ z1
      have d := l0 v ⟨⟨v0, v1⟩, hk, hl⟩
      show S.2.2 u ≤ l
      omega
  · obtain ⟨e, a'⟩ := nv u a
    have im : InM S X u := by
      rcases (oc2 e).mp oc with z | ⟨-, z2⟩
      · exact q u a' z lt
      · exact hM o (Or.inr rfl) u a' z2 lt
    obtain ⟨m, b, c⟩ := im
    exact ⟨m, b, ocv e c⟩
  · obtain ⟨e, a'⟩ := nv u a
    rcases (oc2 e).mp oc with z | ⟨z1, z2⟩
    · exact Or.inl ⟨a', z⟩
    · exact Or.inr ⟨Or.inr ⟨a', ⟨o, Or.inr rfl, z2⟩⟩, v, ⟨⟨v0, v1⟩, hk, hl⟩, ⟨v, Or.inl rfl, Oc.self⟩, z1⟩
  · obtain ⟨α, a1, a2⟩ := mixV (fun u => u = v) (fun _ => ρ0 o) ρ0
    obtain ⟨ρ', V', e'⟩ := ev_o ⟨W1, ⟨L, st, SSt⟩, lev⟩ V0 α
    have eo : ρ' o = ρ0 o := val_o ⟨W1, ⟨L, st, SSt⟩, lev⟩ V' V0 ho.1 ho.2 (fun u a b => by
      rw [e' u a]
      exact a2 u (fun e => no (by rw [← e]; exact b)))
    exact ⟨ρ', (iff ρ').mpr ⟨V', by rw [e' v ⟨⟨v0, v1⟩, hk, hl⟩, a1 v rfl, eo]⟩⟩
/-- where links end stands in what they begin at -/
theorem oc_rt {s : Sto} : ∀ (k : Nat) (n : Int), Oc s (rv s k n) n
  | 0, n => Oc.self
  | k + 1, n => by
    unfold rv
    split
    · next q => exact (oc_rt k _).lnk q
    · exact Oc.self
/-- different arrows in a type: each is four characters of it -/
theorem arr_n {s : Sto} {c : Int} {L : Nat} {st : Int → Nat} (W : WS s c) (V : VS s c ρ) (SSt : SS s c L st) : ∀ n, 0 ≤ n → n < c → ∀ l : List Int, l.Nodup → (∀ q ∈ l, (s q).1 = 5 ∧ Oc s q n) → 4 * (l.length : Int) + 1 ≤ gw (ρ n) := by
  refine st_ind W V SSt (fun n h0 h1 i1 i2 i3 l hl hq => ?_)
  have w := W n h0 h1
  have g := V n h0 h1
  by_cases q : lkd s n
  · rw [g.1 q]
    refine i1 q l hl (fun x m => ⟨(hq x m).1, ?_⟩)
    rcases (hq x m).2.cs with z | ⟨-, z⟩ | ⟨z, -⟩ | ⟨z, -⟩
    · have := (hq x m).1; rw [← z] at this; have := q.1; omega
    · exact z
    · have := q.1; omega
    · have := q.1; omega
  by_cases q4 : (s n).1 = 4
  · have := i2 q4 l hl (fun x m => ⟨(hq x m).1, by
      rcases (hq x m).2.cs with z | ⟨z, -⟩ | ⟨-, z⟩ | ⟨z, -⟩
      · have := (hq x m).1; rw [← z] at this; omega
      · exact absurd z q
      · exact z
      · omega⟩)
    rw [g.2.2.1 q4]
    show 4 * (l.length : Int) + 1 ≤ 2 + gw (ρ (s n).2.1)
    omega
  by_cases q5 : (s n).1 = 5
  · obtain ⟨j1, j2⟩ := i3 q5
    -- those in the first part, the others
    have dc : ∀ x, Decidable (Oc s x (s n).2.1) := fun x => Classical.propDecidable _
    have sp : ∀ l : List Int, l.Nodup → (∀ x ∈ l, x ≠ n ∧ (s x).1 = 5 ∧ (Oc s x (s n).2.1 ∨ Oc s x (s n).2.2)) → ∃ l1 l2 : List Int, l1.Nodup ∧ l2.Nodup ∧ (∀ x ∈ l1, (s x).1 = 5 ∧ Oc s x (s n).2.1) ∧ (∀ x ∈ l2, (s x).1 = 5 ∧ Oc s x (s n).2.2) ∧ (∀ x ∈ l1, x ∈ l) ∧ (∀ x ∈ l2, x ∈ l) ∧ l.length = l1.length + l2.length := by
      intro l
      induction l with
      | nil => intro _ _; exact ⟨[], [], List.nodup_nil, List.nodup_nil, fun x m => absurd m List.not_mem_nil, fun x m => absurd m List.not_mem_nil, fun x m => absurd m List.not_mem_nil, fun x m => absurd m List.not_mem_nil, rfl⟩
      | cons y l ih =>
        intro hn hx
        obtain ⟨n1, n2⟩ := List.nodup_cons.mp hn
        obtain ⟨l1, l2, a1, a2, a3, a4, a5, a6, a7⟩ := ih n2 (fun x m => hx x (List.mem_cons_of_mem _ m))
        obtain ⟨-, y5, yo⟩ := hx y List.mem_cons_self
        rcases yo with yo | yo
        · refine ⟨y :: l1, l2, List.nodup_cons.mpr ⟨fun m => n1 (a5 y m), a1⟩, a2, fun x m => ?_, a4, fun x m => ?_, fun x m => List.mem_cons_of_mem _ (a6 x m), by rw [List.length_cons, List.length_cons, a7]; omega⟩
          · rcases List.mem_cons.mp m with m | m
            · rw [m]; exact ⟨y5, yo⟩
            · exact a3 x m
          · rcases List.mem_cons.mp m with m | m
            · rw [m]; exact List.mem_cons_self
            · exact List.mem_cons_of_mem _ (a5 x m)
        · refine ⟨l1, y :: l2, a1, List.nodup_cons.mpr ⟨fun m => n1 (a6 y m), a2⟩, a3, fun x m => ?_, fun x m => List.mem_cons_of_mem _ (a5 x m), fun x m => ?_, by rw [List.length_cons, List.length_cons, a7]; omega⟩
          · rcases List.mem_cons.mp m with m | m
            · rw [m]; exact ⟨y5, yo⟩
            · exact a4 x m
          · rcases List.mem_cons.mp m with m | m
            · rw [m]; exact List.mem_cons_self
            · exact List.mem_cons_of_mem _ (a6 x m)
    have rest : ∀ l : List Int, l.Nodup → (∀ x ∈ l, x ≠ n ∧ (s x).1 = 5 ∧ Oc s x n) → 4 * (l.length : Int) + 2 ≤ gw (ρ (s n).2.1) + gw (ρ (s n).2.2) := fun l hl hx => by
      obtain ⟨l1, l2, a1, a2, a3, a4, -, -, a7⟩ := sp l hl (fun x m => ⟨(hx x m).1, (hx x m).2.1, by
        rcases (hx x m).2.2.cs with z | ⟨z, -⟩ | ⟨z, -⟩ | ⟨-, z⟩
        · exact absurd z.symm (hx x m).1
        · exact absurd z q
        · omega
        · exact z⟩)
      have b1 := j1 l1 a1 a3
      have b2 := j2 l2 a2 a4
      rw [a7]; push_cast; omega
    have eg : gw (ρ n) = 3 + gw (ρ (s n).2.1) + gw (ρ (s n).2.2) := by rw [g.2.2.2 q5]; rfl
    by_cases m : n ∈ l
    · have len : (l.erase n).length + 1 = l.length := by
        have := List.length_erase_of_mem m
        have := List.length_pos_of_mem m
        omega
      have := rest (l.erase n) (hl.erase n) (fun x mx => by
        have hm := (List.Nodup.mem_erase_iff hl).mp mx
        exact ⟨hm.1, hq x hm.2⟩)
      omega
    · have := rest l hl (fun x mx => ⟨fun e => m (e ▸ mx), hq x mx⟩)
      omega
  · -- no parts: no arrow
    have : l = [] := by
      cases l with
      | nil => rfl
      | cons y l =>
        exfalso
        obtain ⟨a, b⟩ := hq y List.mem_cons_self
        rcases b.cs with z | ⟨z, -⟩ | ⟨z, -⟩ | ⟨z, -⟩
        · rw [← z] at a; exact q5 a
        · exact q z
        · exact q4 z
        · exact q5 z
    rw [this]
    have := gw_ge (t := ρ n)
    show 4 * ((0 : Nat) : Int) + 1 ≤ _
    omega
end MLK
