/-! An application that has no type; a function. -/
section TAQ
variable {S S1 S2 S3 S4 S5 S' : TS} {M : Int → Prop} {h : Int} {ρ : Int → GT} {E : List (Int × Int)} {A B : Tr} {P PA PB : Int → Prop}
theorem tyE_w {G : Gm} {s : GT} (hA : isE A) (z : tyE A true G s) : gw s ≤ 80 := by
  unfold tyE at z
  split at z
  · next k y a b c =>
    have : k ≤ 16 := hA.1
    exact z.1 (by omega) rfl
  · exact z.elim
theorem TR_app_no {a b t lv : Int} (I : EnvI S h E M) (hh : h ≤ 999) (W : SO S) (c0 : 0 ≤ S.2.1) (hA : isE A) (RA : TRes S S1 E M h A PA a) (RB : TRes S1 S2 E M h B PB b) (e3 : S3 = adT S2 (0, -1, t) h) (e4 : S4 = adT S3 (5, b, S2.2.1) lv) (no : ∀ ρ, VS S4.1 S4.2.1 ρ → ρ a = ρ S3.2.1 → ¬ gw (ρ a) ≤ 80) (s : GT) (V : VS S.1 S.2.1 ρ) : ¬ tyE (nd 11 0 A B nl) true (Gam S ρ E) s := by
  intro z
  obtain ⟨x2, ra, rb, ci, so, co⟩ := TRes.two I hh W RA RB
  have l2 := x2.2.1.1
  have n3 : nwT S2 (0, -1, t) := Or.inl ⟨rfl, by show (-1 : Int) < 0; decide⟩
  have s3 : TSt S2 S3 M h := by rw [e3]; exact ad_S x2.1 (by omega) n3 (fun _ => by omega)
  have c3 : S3.2.1 = S2.2.1 + 1 := by rw [e3]; rfl
  have rr := rb.1
  have n4 : nwT S3 (5, b, S2.2.1) := Or.inr (Or.inr ⟨rfl, ⟨rr.1, by show b < S3.2.1; omega⟩, by show 0 ≤ S2.2.1; omega, by show S2.2.1 < S3.2.1; omega⟩)
  obtain ⟨z1, a', z2, z3⟩ := z
  obtain ⟨ρ2, V2, o2, ea, eb, w2⟩ := co true ρ _ _ V z2 z3
  obtain ⟨ρ3, V3, o3, er⟩ := ad_x (lv := h) x2.1 (by omega) n3 V2 s (Or.inl ⟨rfl, by show (-1 : Int) < 0; decide⟩)
  rw [← e3] at V3
  obtain ⟨ρ4, V4, o4, ek⟩ := ad_x (lv := lv) s3.1 (by omega) n4 V3 _ (Or.inr (Or.inr ⟨rfl, rfl⟩))
  rw [← e4] at V4
  have ra1 := ra.1
  have e4a : ρ4 a = gA a' s := (o4 a ra1.1 (by omega)).trans ((o3 a ra1.1 ra1.2).trans ea)
  have e3b : ρ3 b = a' := (o3 b rr.1 rr.2).trans eb
  refine no ρ4 V4 ?_ (by rw [e4a]; exact tyE_w hA z2)
  rw [e4a, ek]
  show gA a' s = gA (ρ3 b) (ρ3 S2.2.1)
  rw [e3b, er]
/-- a function: a new variable for its name, its body, an arrow -/
theorem TR_fun {z b t lv : Int} (I : EnvI S h E M) (hh : h ≤ 999) (W : SO S) (c0 : 0 ≤ S.2.1) (e1 : S1 = adT S (0, -1, t) h) (RA : TRes S1 S2 ((z, S.2.1) :: E) (fun m => M m ∨ m = S.2.1) h A PA b) (e3 : S3 = adT S2 (5, S.2.1, b) lv) : TRes S S3 E M h (nd 12 z A nl nl) (fun p => PA p ∨ p = S2.2.1) S2.2.1 := by
  have n1 : nwT S (0, -1, t) := Or.inl ⟨rfl, by show (-1 : Int) < 0; decide⟩
  have s1 : TSt S S1 M h := by rw [e1]; exact ad_S W c0 n1 (fun _ => by omega)
  have c1 : S1.2.1 = S.2.1 + 1 := by rw [e1]; rfl
  obtain ⟨x2, rb, ci, so, co⟩ := RA
  have l2 := x2.2.1.1
  have rp : Res S M h S1 S.2.1 := by rw [e1]; exact fresh_r (S1 := S) XE.rf c0
  have hR1 : ∀ m, (M m ∨ m = S.2.1) → Res S M h S1 m := fun m q => by
    rcases q with q | q
    · exact Res.m s1.2.1 I.1 q
    · rw [q]; exact rp
  have x2' := s1.tr x2 hR1
  have rb' := Res.tr s1.2.1 hR1 rb
  have rp' := rp.up x2.2.1 s1.2.1.1 hR1
  have hR2 : ∀ m, M m → Res S M h S2 m := fun m q => Res.m x2'.2.1 I.1 q
  have n3 : nwT S2 (5, S.2.1, b) := Or.inr (Or.inr ⟨rfl, rp'.1, rb'.1⟩)
  have s3 : TSt S2 S3 M h := by rw [e3]; exact ad_S x2.1 (by omega) n3 (fun q => absurd q (by show ¬ (5 : Int) = 0; decide))
  have c3 : S3.2.1 = S2.2.1 + 1 := by rw [e3]; rfl
  have x3 := x2'.tr s3 hR2
  have k3 : S3.1 S2.2.1 = (5, S.2.1, b) := by rw [e3]; exact ad_c
  have rk : Res S M h S3 S2.2.1 := Res.p5 ⟨by omega, by omega⟩ k3 (rp'.up s3.2.1 x2'.2.1.1 hR2) (rb'.up s3.2.1 x2'.2.1.1 hR2)
  have lp : lO S1 999 S.2.1 := fun u o oc => by
    have op : oP S1 S.2.1 := by
      have e : S1.1 S.2.1 = (0, -1, t) := by rw [e1]; exact ad_c
      refine ⟨⟨c0, by omega⟩, by rw [e], fun q => ?_⟩
      have q2 := q.2
      rw [e] at q2
      exact absurd q2 (by show ¬ (0 : Int) ≤ -1; decide)
    have e : S1.2.2 S.2.1 = h := by rw [e1]; exact if_pos rfl
    rw [oP_oc op oc, e]; exact hh
  have gm : ∀ {ρ}, VS S1.1 S1.2.1 ρ → Gam S1 ρ ((z, S.2.1) :: E) = (z, is1 (ρ S.2.1)) :: Gam S ρ E := fun {ρ} V => by
    show (z, fun s => Den S1 S.2.1 ρ s) :: Gam S1 ρ E = _
    rw [TRes.gam I hh W s1 V]
    refine congrArg (fun D : GT → Prop => (z, D) :: Gam S ρ E) ?_
    funext s
    exact propext (den_1 s1.1 V c0 (by omega) lp s)
  have vk : ∀ {ρ}, VS S3.1 S3.2.1 ρ → ρ S2.2.1 = gA (ρ S.2.1) (ρ b) := fun {ρ} V => by
    rw [e3] at V
    exact (ad_r x2.1 (by omega) V).2 rfl
  refine ⟨x3, rk, fun p q => ?_, fun ρ V => ?_, fun w ρ s V y => ?_⟩
  · rcases q with q | q
    · have := ci p q; omega
    · rw [q]; exact rk.1
  · have V2 := s3.2.2 ρ V
    have V1 := x2.2.2 ρ V2
    obtain ⟨q1, q2⟩ := so ρ V2
    rw [gm V1] at q1 q2
    refine ⟨⟨fun _ e => (by cases e), ρ S.2.1, ρ b, vk V, q1⟩, fun hp => ⟨fun _ _ => hp _ (Or.inr rfl), ρ S.2.1, ρ b, vk V, q2 (fun p q => hp p (Or.inl q))⟩⟩
  · obtain ⟨y1, a, b', y2, y3⟩ := y
    obtain ⟨ρ1, V1, o1, ep⟩ := ad_x (lv := h) W c0 n1 V a (Or.inl ⟨rfl, by show (-1 : Int) < 0; decide⟩)
    rw [← e1] at V1
    have eg : Gam S1 ρ1 ((z, S.2.1) :: E) = (z, is1 a) :: Gam S ρ E := by
      rw [gm V1, ep, Gam_cg I W V (s1.2.2 _ V1) (fun m q => o1 m (I.1 m q).1 (I.1 m q).2)]
    obtain ⟨ρ2, V2, o2, eb, w2⟩ := co w ρ1 b' V1 (by rw [eg]; exact y3)
    obtain ⟨ρ3, V3, o3, ek⟩ := ad_x (lv := lv) x2.1 (by omega) n3 V2 _ (Or.inr (Or.inr ⟨rfl, rfl⟩))
    rw [← e3] at V3
    have es : ρ3 S2.2.1 = s := by
      rw [ek, y2]
      show gA (ρ2 S.2.1) (ρ2 b) = gA a b'
      rw [o2 _ c0 (by omega), ep, eb]
    refine ⟨ρ3, V3, fun n p q => (o3 n p (by omega)).trans ((o2 n p (by omega)).trans (o1 n p q)), es, fun e p q => ?_⟩
    rcases q with q | q
    · have := ci p q
      rw [o3 p this.1 this.2]; exact w2 e p q
    · rw [q, es]; exact y1 (by decide) e
end TAQ
