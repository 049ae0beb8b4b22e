/-! Branches that have no types; how many branches a choice has. -/
section CBN
variable {S S1 S2 S3 S4 S' : TS} {M : Int → Prop} {h l r : Int} {ρ : Int → GT} {A B : Tr} {P PA PB : Int → Prop} {nu : Int → Int} {E : List (Int × Int)} {w : Bool}
theorem BRes.F {F F' : Bool → Gm → GT → GT → Prop} {P' : Int → Prop} (R : BRes S S' E M h F P l r) (e : ∀ w G a b, F w G a b ↔ F' w G a b) (p : ∀ x, P x ↔ P' x) : BRes S S' E M h F' P' l r := by
  rw [show P' = P from funext (fun x => propext (p x).symm), show F' = F from funext (fun w => funext (fun G => funext (fun a => funext (fun b => propext (e w G a b).symm))))]
  exact R
/-- up to the branch's expression -/
theorem BR_to {t : Int} {sr : GT} (I : EnvI S h E M) (hh : h ≤ 999) (W : SO S) (hl : M l) (RA : PRes S S1 M h A PA nu t) (u1 : TSt S1 S2 (fun x => x = t ∨ x = l) h) (u1V : ∀ ρ, VS S2.1 S2.2.1 ρ ↔ (VS S1.1 S1.2.1 ρ ∧ ρ t = ρ l)) (V : VS S.1 S.2.1 ρ) (z : brT w (Gam S ρ E) A B (ρ l) sr) : ∃ ρ1, VS S2.1 S2.2.1 ρ1 ∧ (∀ n, 0 ≤ n → n < S.2.1 → ρ1 n = ρ n) ∧ tyE B w (Gam S2 ρ1 (pnE A nu E)) sr := by
  obtain ⟨xa, ra, ca, qa, sa, ka⟩ := RA
  have l1 := xa.2.1.1
  have hR1 : ∀ m, M m → Res S M h S1 m := fun m q => Res.m xa.2.1 I.1 q
  have hU1 : ∀ m, (m = t ∨ m = l) → Res S M h S1 m := fun m q => by
    rcases q with q | q
    · rw [q]; exact ra
    · rw [q]; exact hR1 l hl
  have x2 := xa.tr u1 hU1
  have q2 : ∀ z ∈ bnd A, Res S M h S2 (nu z) := fun z m => (qa z m).up u1.2.1 l1 hU1
  obtain ⟨α, z1, z2⟩ := z
  obtain ⟨ρ1, V1, o1, e1, n1, w1⟩ := ka w α ρ _ V z1
  have il := I.1 l hl
  have V2 := (u1V ρ1).mpr ⟨V1, by rw [e1, o1 l il.1 il.2]⟩
  refine ⟨ρ1, V2, o1, ?_⟩
  rw [Gam_pn x2.1 V2 (fun z m => ⟨(q2 z m).1, lO_mono ((q2 z m).2.2.2 I.2.1) hh⟩), TRes.gam I hh W x2 V2, tyE_ge B w _ _ (GE_rev (D := fun z => is1 (ρ1 (nu z))) (bnd A)), Gam_cg I W V (x2.2.2 _ V2) (fun m q => o1 m (I.1 m q).1 (I.1 m q).2)]
  have e : (bnd A).map (fun z => (z, is1 (ρ1 (nu z)))) = (bnd A).map (fun x => (x, is1 (α x))) := List.map_congr_left (fun z m => by rw [n1 z m])
  rw [e]; exact z2
theorem BR_no1 {t : Int} {sr : GT} (I : EnvI S h E M) (hl : M l) (RA : PRes S S1 M h A PA nu t) (no : ∀ ρ, VS S1.1 S1.2.1 ρ → ρ t = ρ l → ¬ gw (ρ t) ≤ 80) (V : VS S.1 S.2.1 ρ) : ¬ brT true (Gam S ρ E) A B (ρ l) sr := by
  intro ⟨α, z1, z2⟩
  obtain ⟨ρ1, V1, o1, e1, -⟩ := RA.2.2.2.2.2 true α ρ _ V z1
  have il := I.1 l hl
  exact no ρ1 V1 (by rw [e1, o1 l il.1 il.2]) (by rw [e1]; exact tpP_w z1)
theorem BR_no3 {t b : Int} (I : EnvI S h E M) (hh : h ≤ 999) (W : SO S) (hB : isE B) (hl : M l) (hr : M r) (RA : PRes S S1 M h A PA nu t) (u1 : TSt S1 S2 (fun x => x = t ∨ x = l) h) (u1V : ∀ ρ, VS S2.1 S2.2.1 ρ ↔ (VS S1.1 S1.2.1 ρ ∧ ρ t = ρ l)) (RB : TRes S2 S3 (pnE A nu E) (pnM A nu M) h B PB b) (no : ∀ ρ, VS S3.1 S3.2.1 ρ → ρ b = ρ r → ¬ gw (ρ b) ≤ 80) (V : VS S.1 S.2.1 ρ) : ¬ brT true (Gam S ρ E) A B (ρ l) (ρ r) := by
  intro z
  obtain ⟨ρ1, V1, o1, y⟩ := BR_to I hh W hl RA u1 u1V V z
  obtain ⟨ρ3, V3, o3, e3, -⟩ := RB.2.2.2.2 true ρ1 _ V1 y
  have ir := I.1 r hr
  have l1 := RA.1.2.1.1
  have l2 := u1.2.1.1
  refine no ρ3 V3 ?_ (by rw [e3]; exact tyE_w hB y)
  rw [e3, o3 r ir.1 (by omega), o1 r ir.1 ir.2]
theorem BR_no4 {F1 F2 : Bool → Gm → GT → GT → Prop} (I : EnvI S h E M) (hh : h ≤ 999) (W : SO S) (hl : M l) (hr : M r) (R1 : BRes S S1 E M h F1 PA l r) (no : ∀ ρ, VS S1.1 S1.2.1 ρ → ¬ F2 true (Gam S1 ρ E) (ρ l) (ρ r)) (V : VS S.1 S.2.1 ρ) : ¬ (F1 true (Gam S ρ E) (ρ l) (ρ r) ∧ F2 true (Gam S ρ E) (ρ l) (ρ r)) := by
  intro ⟨z1, z2⟩
  obtain ⟨ρ1, V1, o1, -⟩ := R1.2.2.2 true ρ V z1
  have il := I.1 l hl
  have ir := I.1 r hr
  refine no ρ1 V1 ?_
  rw [TRes.gam2 I hh W R1.1 V V1 o1, o1 l il.1 il.2, o1 r ir.1 ir.2]; exact z2
theorem TR_case_no {a t : Int} {C : Tr} {s : GT} (I : EnvI S h E M) (hh : h ≤ 999) (W : SO S) (c0 : 0 ≤ S.2.1) (RA : TRes S S1 E M h A PA a) (e2 : S2 = adT S1 (0, -1, t) h) (no : ∀ ρ, VS S2.1 S2.2.1 ρ → ¬ tyE C true (Gam S2 ρ E) (gA (ρ a) (ρ S1.2.1))) (V : VS S.1 S.2.1 ρ) : ¬ tyE (nd 16 0 A C nl) true (Gam S ρ E) s := by
  intro ⟨z1, a', z2, z3⟩
  obtain ⟨xa, ra, ca, sa, ka⟩ := RA
  have l1 := xa.2.1.1
  have hR1 : ∀ m, M m → Res S M h S1 m := fun m q => Res.m xa.2.1 I.1 q
  have s2 : TSt S1 S2 M h := by rw [e2]; exact ad_S xa.1 (by omega) nw_fr (fun _ => by omega)
  have x2 := xa.tr s2 hR1
  obtain ⟨ρ1, V1, o1, ea, w1⟩ := ka true ρ a' V z2
  obtain ⟨ρ2, V2, o2, er⟩ := ad_x (lv := h) xa.1 (by omega) (nw_fr (t := t)) V1 s (Or.inl ⟨rfl, by show (-1 : Int) < 0; decide⟩)
  rw [← e2] at V2
  have ea2 : ρ2 a = a' := (o2 a ra.1.1 ra.1.2).trans ea
  have o12 : ∀ n, 0 ≤ n → n < S.2.1 → ρ2 n = ρ n := fun n p q => (o2 n p (by omega)).trans (o1 n p q)
  refine no ρ2 V2 ?_
  rw [TRes.gam2 I hh W x2 V V2 o12, ea2, er]; exact z3
theorem EnvI.mo1 {m0 : Int} (I : EnvI S h E M) (r0 : 0 ≤ m0 ∧ m0 < S.2.1) (l0 : lO S h m0) : EnvI S h E (fun m => M m ∨ m = m0) := by
  refine ⟨fun m q => ?_, fun m q => ?_, fun e q => ⟨(I.2.2 e q).1, gO_mo (I.2.2 e q).2 (fun m a => Or.inl a)⟩⟩
  · rcases q with q | q
    · exact I.1 m q
    · rw [q]; exact r0
  · rcases q with q | q
    · exact I.2.1 m q
    · rw [q]; exact l0
end CBN
/-- how many branches -/
def nbr : Tr → Nat
  | .tag 17 (.nest _ (.append _ (.append _ c))) => nbr c + 1
  | _ => 0
/-- every choice has at most five -/
def c5 : Tr → Prop
  | .tag k (.nest _ (.append a (.append b c))) => (k = 16 → nbr b ≤ 5) ∧ c5 a ∧ c5 b ∧ c5 c
  | _ => True
section C5S
variable {ch : Int → Int} {E A : Int → Option (Tr × Int)}
def f5 (f : Int → Option (Tr × Int)) : Prop := ∀ p T q, f p = some (T, q) → c5 T
theorem c5_nd {k : Nat} {z : Int} {a b c : Tr} (hk : k ≠ 16) (ha : c5 a) (hb : c5 b) (hc : c5 c) : c5 (nd k z a b c) := ⟨fun e => absurd e hk, ha, hb, hc⟩
theorem c5_nl : c5 nl := trivial
theorem c5_lf {k : Nat} {z : Int} (hk : k ≠ 16) : c5 (nd k z nl nl nl) := c5_nd hk trivial trivial trivial
theorem pNum_5 : f5 (pNum ch) := by
  intro p T q h
  unfold pNum at h
  split at h
  · cases h
  · split at h
    · split at h
      · cases h
      · cases h; exact c5_lf (by decide)
    · cases h; exact c5_lf (by decide)
theorem pCon_5 : f5 (pCon ch) := by
  intro p T q h
  unfold pCon at h
  split at h
  · cases h; exact c5_lf (by decide)
  split at h
  · cases h; exact c5_lf (by decide)
  split at h
  · cases h; exact c5_lf (by decide)
  · cases h
theorem pPlain_5 (hE : f5 E) : f5 (pPlain ch E) := by
  intro p T q h
  unfold pPlain at h
  split at h
  · cases h; exact c5_lf (by decide)
  split at h
  · exact pNum_5 _ _ _ h
  split at h
  · cases h; exact c5_lf (by decide)
  split at h
  · cases h; exact c5_lf (by decide)
  split at h
  · obtain ⟨t, h1, h⟩ := Option.bind_eq_some_iff.mp h
    obtain ⟨r, h2, h⟩ := Option.map_eq_some_iff.mp h
    have a := hE _ _ _ h1
    cases h; exact a
  · exact pCon_5 _ _ _ h
theorem pAtom_5 (hE : f5 E) : ∀ n, f5 (pAtom ch E n)
  | 0 => pPlain_5 hE
  | n + 1 => by
    intro p T q h
    unfold pAtom at h
    split at h
    · obtain ⟨t, h1, h⟩ := Option.map_eq_some_iff.mp h
      have a := pAtom_5 hE n _ _ _ h1
      cases h
      exact c5_nd (by decide) a trivial trivial
    · exact pPlain_5 hE _ _ _ h
theorem pAppL_5 (hA : f5 A) : ∀ (n : Nat) (T : Tr) (p : Int), c5 T → ∀ U q, pAppL ch A n T p = some (U, q) → c5 U
  | 0, T, p, h1, U, q, h => by cases h; exact h1
  | n + 1, T, p, h1, U, q, h => by
    unfold pAppL at h
    split at h
    · obtain ⟨t, e1, h⟩ := Option.bind_eq_some_iff.mp h
      exact pAppL_5 hA n _ _ (c5_nd (by decide) h1 (hA _ _ _ e1) c5_nl) U q h
    · cases h; exact h1
theorem pApp_5 (hE : f5 E) : f5 (pApp ch E) := by
  intro p T q h
  obtain ⟨t, e1, h⟩ := Option.bind_eq_some_iff.mp h
  exact pAppL_5 (pAtom_5 hE 60) 60 _ _ (pAtom_5 hE 60 _ _ _ e1) T q h
theorem pOpL_5 {u v : Int} (hA : f5 A) : ∀ (n : Nat) (T : Tr) (p : Int), c5 T → ∀ U q, pOpL ch A u v n T p = some (U, q) → c5 U
  | 0, T, p, h1, U, q, h => by cases h
  | n + 1, T, p, h1, U, q, h => by
    unfold pOpL at h
    split at h
    · cases h; exact h1
    · obtain ⟨t, e1, h⟩ := Option.bind_eq_some_iff.mp h
      exact pOpL_5 hA n _ _ (c5_nd (by decide) h1 (hA _ _ _ e1) c5_nl) U q h
theorem pProd_5 (hE : f5 E) : f5 (pProd ch E) := by
  intro p T q h
  obtain ⟨t, e1, h⟩ := Option.bind_eq_some_iff.mp h
  exact pOpL_5 (pApp_5 hE) 60 _ _ (pApp_5 hE _ _ _ e1) T q h
theorem pSum_5 (hE : f5 E) : f5 (pSum ch E) := by
  intro p T q h
  obtain ⟨t, e1, h⟩ := Option.bind_eq_some_iff.mp h
  exact pOpL_5 (pProd_5 hE) 60 _ _ (pProd_5 hE _ _ _ e1) T q h
theorem pCmp_5 (hE : f5 E) : f5 (pCmp ch E) := by
  intro p T q h
  obtain ⟨t, e1, h⟩ := Option.bind_eq_some_iff.mp h
  have a := pSum_5 hE _ _ _ e1
  split at h
  · obtain ⟨r, e2, h⟩ := Option.map_eq_some_iff.mp h
    have b := pSum_5 hE _ _ _ e2
    cases h
    exact c5_nd (by decide) a b trivial
  · split at h
    · cases h; exact a
    · obtain ⟨r, e2, h⟩ := Option.map_eq_some_iff.mp h
      have b := pSum_5 hE _ _ _ e2
      cases h
      exact c5_nd (by decide) a b trivial
theorem pList_5 (hE : f5 E) : ∀ n, f5 (pList ch E n)
  | 0 => by intro p T q h; cases h
  | n + 1 => by
    intro p T q h
    unfold pList at h
    obtain ⟨t, e1, h⟩ := Option.bind_eq_some_iff.mp h
    have a := pCmp_5 hE _ _ _ e1
    split at h
    · obtain ⟨r, e2, h⟩ := Option.map_eq_some_iff.mp h
      have b := pList_5 hE n _ _ _ e2
      cases h
      exact c5_nd (by decide) a b trivial
    · cases h; exact a
theorem wfP_5 : ∀ {A : Tr}, wfP A → c5 A := by
  intro A
  induction A using wfP.induct with
  | case1 z A B C | case2 z A B C | case3 z A B C | case4 z A B C | case5 z A B C => intro ⟨_, h1, h2, h3⟩; subst h1 h2 h3; exact c5_lf (by decide)
  | case6 z A B C iA iB => intro ⟨_, wA, wB, h3⟩; subst h3; exact c5_nd (by decide) (iA wA) (iB wB) trivial
  | case7 k z a b c h1 h2 h3 h4 h5 h6 => intro hw; exfalso; revert hw; unfold wfP; split <;> simp_all
  | case8 t hx =>
    intro hw; exfalso; revert hw; unfold wfP; split
    · exact (hx _ _ _ _ _ rfl).elim
    · exact id
theorem pBr_5 {P : Int → List Int → PaR} (hP : fwp P) (hE : f5 E) : ∀ (n : Nat) (p : Int) (T : Tr) (q : Int), pBr ch P E n p = some (T, q) → c5 T ∧ nbr T ≤ n
  | 0, p, T, q, h => by cases h
  | n + 1, p, T, q, h => by
    unfold pBr at h
    obtain ⟨a, e1, h⟩ := Option.bind_eq_some_iff.mp h
    obtain ⟨r, e2, h⟩ := Option.bind_eq_some_iff.mp h
    obtain ⟨b, e3, h⟩ := Option.bind_eq_some_iff.mp h
    have wa := wfP_5 (hP _ _ _ e1).1
    have wb := hE _ _ _ e3
    split at h
    · obtain ⟨x, e4, h⟩ := Option.map_eq_some_iff.mp h
      obtain ⟨x1, x2⟩ := pBr_5 hP hE n _ _ _ e4
      cases h
      exact ⟨c5_nd (by decide) wa wb x1, Nat.succ_le_succ x2⟩
    · obtain ⟨x, e4, h⟩ := Option.map_eq_some_iff.mp h
      cases h
      exact ⟨c5_nd (by decide) wa wb trivial, Nat.succ_le_succ (Nat.zero_le n)⟩
theorem pE_5 : ∀ k, f5 (pE ch k)
  | 0 => by intro p T q h; cases h
  | k + 1 => by
    have ih := pE_5 k
    intro p T q h
    unfold pE at h
    split at h
    · obtain ⟨a, e1, h⟩ := Option.bind_eq_some_iff.mp h
      obtain ⟨n, e2, h⟩ := Option.bind_eq_some_iff.mp h
      obtain ⟨b, e3, h⟩ := Option.bind_eq_some_iff.mp h
      obtain ⟨x, e4, h⟩ := Option.bind_eq_some_iff.mp h
      obtain ⟨c, e5, h⟩ := Option.bind_eq_some_iff.mp h
      obtain ⟨y, e6, h⟩ := Option.map_eq_some_iff.mp h
      have := ih _ _ _ e4
      have := ih _ _ _ e6
      cases h
      exact c5_nd (by decide) (by assumption) (by assumption) trivial
    split at h
    · obtain ⟨a, e1, h⟩ := Option.bind_eq_some_iff.mp h
      obtain ⟨x, e2, h⟩ := Option.bind_eq_some_iff.mp h
      obtain ⟨b, e3, h⟩ := Option.bind_eq_some_iff.mp h
      obtain ⟨y, e4, h⟩ := Option.map_eq_some_iff.mp h
      have w1 := ih _ _ _ e2
      obtain ⟨w2, w3⟩ := pBr_5 (pPat_w k) ih _ _ _ _ e4
      cases h
      exact ⟨fun _ => w3, w1, w2, trivial⟩
    split at h
    · obtain ⟨a, e1, h⟩ := Option.bind_eq_some_iff.mp h
      obtain ⟨x, e2, h⟩ := Option.bind_eq_some_iff.mp h
      obtain ⟨b, e3, h⟩ := Option.bind_eq_some_iff.mp h
      obtain ⟨y, e4, h⟩ := Option.bind_eq_some_iff.mp h
      obtain ⟨c, e5, h⟩ := Option.bind_eq_some_iff.mp h
      obtain ⟨z, e6, h⟩ := Option.map_eq_some_iff.mp h
      have w1 := ih _ _ _ e2
      have w2 := ih _ _ _ e4
      have w3 := ih _ _ _ e6
      cases h
      exact c5_nd (by decide) w1 w2 w3
    split at h
    · obtain ⟨a, e1, h⟩ := Option.bind_eq_some_iff.mp h
      obtain ⟨n, e2, h⟩ := Option.bind_eq_some_iff.mp h
      obtain ⟨b, e3, h⟩ := Option.bind_eq_some_iff.mp h
      obtain ⟨x, e4, h⟩ := Option.bind_eq_some_iff.mp h
      obtain ⟨c, e5, h⟩ := Option.bind_eq_some_iff.mp h
      obtain ⟨y, e6, h⟩ := Option.map_eq_some_iff.mp h
      have w2 := ih _ _ _ e6
      split at e4
      · have w1 := ih _ _ _ e4
        cases h
        exact c5_nd (by decide) w1 w2 trivial
      · cases e4
    split at h
    · obtain ⟨a, e1, h⟩ := Option.bind_eq_some_iff.mp h
      obtain ⟨n, e2, h⟩ := Option.bind_eq_some_iff.mp h
      obtain ⟨b, e3, h⟩ := Option.bind_eq_some_iff.mp h
      obtain ⟨x, e4, h⟩ := Option.map_eq_some_iff.mp h
      have w1 := ih _ _ _ e4
      cases h
      exact c5_nd (by decide) w1 trivial trivial
    · exact pList_5 ih 60 _ _ _ h
theorem pLine_5 {T : Tr} (h : pLine ch = some T) : c5 T := by
  unfold pLine at h
  split at h
  · cases h
  · next e =>
    split at h
    · cases h; exact pE_5 _ _ _ _ e
    · cases h
end C5S
