/-! A REC's first part. -/
section TFX
variable {S S1 S2 S3 : TS} {M : Int → Prop} {h : Int} {ρ : Int → GT} {E : List (Int × Int)} {A : Tr} {PA : Int → Prop}
def fxE (z : Int) (A : Tr) : Bool → Gm → GT → Prop := fun w G s => tyE A w ((z, is1 s) :: G) s
theorem TR_fix {z a t : Int} (I : EnvI S h E M) (hh : h ≤ 999) (W : SO S) (c0 : 0 ≤ S.2.1) (e1 : S1 = adT S (0, -1, t) h) (RA : TRes S1 S2 ((z, S.2.1) :: E) (fun m => M m ∨ m = S.2.1) h A PA a) (u : TSt S2 S3 (fun x => x = S.2.1 ∨ x = a) h) (uV : ∀ ρ, VS S3.1 S3.2.1 ρ ↔ (VS S2.1 S2.2.1 ρ ∧ ρ S.2.1 = ρ a)) : TRP S S3 E M h (fxE z A) PA a := by
  have n1 : nwT S (0, -1, t) := Or.inl ⟨rfl, by show (-1 : Int) < 0; decide⟩
  have s1 : TSt S S1 M h := by rw [e1]; exact ad_S W c0 n1 (fun _ => by omega)
  have c1 : S1.2.1 = S.2.1 + 1 := by rw [e1]; rfl
  obtain ⟨x2, rb, ci, so, co⟩ := RA
  have l2 := x2.2.1.1
  have rp : Res S M h S1 S.2.1 := by rw [e1]; exact fresh_r (S1 := S) XE.rf c0
  have hR1 : ∀ m, (M m ∨ m = S.2.1) → Res S M h S1 m := fun m q => by
    rcases q with q | q
    · exact Res.m s1.2.1 I.1 q
    · rw [q]; exact rp
  have x2' := s1.tr x2 hR1
  have rb' := Res.tr s1.2.1 hR1 rb
  have rp' := rp.up x2.2.1 s1.2.1.1 hR1
  have hR2 : ∀ m, (m = S.2.1 ∨ m = a) → Res S M h S2 m := fun m q => by
    rcases q with q | q
    · rw [q]; exact rp'
    · rw [q]; exact rb'
  have x3 := x2'.tr u hR2
  have lu := u.2.1.1
  have lp : lO S1 999 S.2.1 := fun u o oc => by
    have op : oP S1 S.2.1 := by
      have e : S1.1 S.2.1 = (0, -1, t) := by rw [e1]; exact ad_c
      refine ⟨⟨c0, by omega⟩, by rw [e], fun q => ?_⟩
      have q2 := q.2
      rw [e] at q2
      exact absurd q2 (by show ¬ (0 : Int) ≤ -1; decide)
    have e : S1.2.2 S.2.1 = h := by rw [e1]; exact if_pos rfl
    rw [oP_oc op oc, e]; exact hh
  have gm : ∀ {ρ}, VS S1.1 S1.2.1 ρ → Gam S1 ρ ((z, S.2.1) :: E) = (z, is1 (ρ S.2.1)) :: Gam S ρ E := fun {ρ} V => by
    show (z, fun s => Den S1 S.2.1 ρ s) :: Gam S1 ρ E = _
    rw [TRes.gam I hh W s1 V]
    refine congrArg (fun D : GT → Prop => (z, D) :: Gam S ρ E) ?_
    funext s
    exact propext (den_1 s1.1 V c0 (by omega) lp s)
  refine ⟨x3, rb'.up u.2.1 x2'.2.1.1 hR2, fun p q => by have := ci p q; omega, fun ρ V => ?_, fun w ρ s V y => ?_⟩
  · obtain ⟨V2, e⟩ := (uV ρ).mp V
    have V1 := x2.2.2 ρ V2
    obtain ⟨q1, q2⟩ := so ρ V2
    rw [gm V1, e] at q1 q2
    exact ⟨q1, q2⟩
  · have y : tyE A w ((z, is1 s) :: Gam S ρ E) s := y
    obtain ⟨ρ1, V1, o1, ep⟩ := ad_x (lv := h) W c0 n1 V s (Or.inl ⟨rfl, by show (-1 : Int) < 0; decide⟩)
    rw [← e1] at V1
    have eg : Gam S1 ρ1 ((z, S.2.1) :: E) = (z, is1 s) :: Gam S ρ E := by
      rw [gm V1, ep, Gam_cg I W V (s1.2.2 _ V1) (fun m q => o1 m (I.1 m q).1 (I.1 m q).2)]
    obtain ⟨ρ2, V2, o2, eb, w2⟩ := co w ρ1 s V1 (by rw [eg]; exact y)
    exact ⟨ρ2, (uV ρ2).mpr ⟨V2, by rw [eb, o2 _ c0 (by omega), ep]⟩, fun n p q => (o2 n p (by omega)).trans (o1 n p q), eb, w2⟩
end TFX
