def FX0_forget (w : HS) (a0 : Nat) : Option (Unit × HS) :=
  okb (hc w a0 == 0) (bnd (setI w a0 0 (0 : Int32)) fun w1 =>
  (some ((), w1)))
set_option maxHeartbeats 4000000 in
set_option maxRecDepth 100000 in
theorem rX0_forget {ar : Nat → Nat → Nat} {c0 : Nat → Nat} {sz : Nat} {g : PH} {w w' : HS} {a0 : Nat} {r : Unit} (P : Rel ar c0 sz g w) (hF : FX0_forget w a0 = some (r, w')) : GR ar c0 sz r w' (fX0_forget g a0) := by
  unfold FX0_forget at hF
  unfold fX0_forget
  replace hF := okb_some hF
  obtain ⟨h0, hF⟩ := hF
  replace h0 := P.cls h0
  refine GR.ok (P.rO h0 (by decide)) ?_
  replace hF := bnd_e hF
  obtain ⟨w1, e2, hF⟩ := hF
  obtain ⟨g3, e4, P⟩ := P.putI (k := 0) h0 (by decide) (by decide) (by decide) e2
  refine GR.bind e4 ?_
  obtain ⟨f1, f2⟩ := finW hF
  subst f1
  subst f2
  exact GR.ret P
def FX0_restore_18  (w : HS) (v0 : Nat) (v1 : Nat) (s0 : Int32) : Option (Int32 × HS) :=
  okb (inb s0 20) (if (hi w v0 0) ≤ 0 then (some ((0 : Int32), w)) else
  ((hq w v0 2 (s0.toNatClampNeg)).elim (some ((0 : Int32), w)) (fun p3 =>
  (FX3_copyFrom w v1 p3).bind fun q5 =>
  (bnd (setI q5.2 v0 1 s0) fun w9 =>
  (bnd (setI w9 v0 0 ((hi w9 v0 0) - (1 : Int32))) fun w13 =>
  (some ((1 : Int32), w13)))))))
set_option maxHeartbeats 4000000 in
set_option maxRecDepth 100000 in
theorem rX0_restore_18 {ar : Nat → Nat → Nat} {c0 : Nat → Nat} {sz : Nat} {r : Int32} {w' : HS}   {g : PH} {w : HS} {v0 : Nat} {v1 : Nat} {s0 : Int32} (h0 : c0 v0 = 0) (P : Rel ar c0 sz g w) (hF : FX0_restore_18  w v0 v1 s0 = some (r, w')) : GR ar c0 sz r w' (fX0_restore_18  g v0 v1 s0) := by
  unfold FX0_restore_18 at hF
  unfold fX0_restore_18
  refine GR.bind (P.getRa (k := 2) h0 (by decide) (by decide) (by decide)) ?_
  replace hF := okb_some hF
  obtain ⟨h1, hF⟩ := hF
  refine GR.bind (P.dQ (k := 2) (n := s0.toNatClampNeg) h0 (by decide) (by decide) (by decide) (by decide) h1 rfl) ?_
  refine GR.bind (P.rI (k := 0) h0 (by decide) (by decide) (by decide)) ?_
  by_cases c2 : (hi w v0 0) ≤ 0
  · replace hF := ite_t c2 hF
    refine GR.t c2 ?_
    obtain ⟨f1, f2⟩ := finW hF
    subst f1
    subst f2
    exact GR.ret P
  replace hF := ite_f c2 hF
  refine GR.f c2 ?_
  by_cases h4 : (hq w v0 2 (s0.toNatClampNeg)) = none
  · replace hF := el_n h4 hF
    refine GR.en h4 ?_
    obtain ⟨f1, f2⟩ := finW hF
    subst f1
    subst f2
    exact GR.ret P
  obtain ⟨p3, h4⟩ := Option.ne_none_iff_exists'.mp h4
  replace hF := el_s h4 hF
  refine GR.es h4 ?_
  replace hF := ob_some hF
  obtain ⟨q5, h6, hF⟩ := hF
  obtain ⟨g7, e8, P⟩ := rX3_copyFrom (r := q5.1) (w' := q5.2) P h6
  refine GR.bind e8 ?_
  replace hF := bnd_e hF
  obtain ⟨w9, e10, hF⟩ := hF
  obtain ⟨g11, e12, P⟩ := P.putI (k := 1) h0 (by decide) (by decide) (by decide) e10
  refine GR.bind e12 ?_
  refine GR.bind (P.rI (k := 0) h0 (by decide) (by decide) (by decide)) ?_
  replace hF := bnd_e hF
  obtain ⟨w13, e14, hF⟩ := hF
  obtain ⟨g15, e16, P⟩ := P.putI (k := 0) h0 (by decide) (by decide) (by decide) e14
  refine GR.bind e16 ?_
  obtain ⟨f1, f2⟩ := finW hF
  subst f1
  subst f2
  exact GR.ret P
def FX0_restore (w : HS) (a0 : Nat) (a1 : Nat) : Option (Int32 × HS) :=
  okb (hc w a0 == 0) (if (hi w a0 1) ≤ 0 then (FX0_restore_18 w a0 a1 (19 : Int32)) else
  (FX0_restore_18 w a0 a1 ((hi w a0 1) - (1 : Int32))))
set_option maxHeartbeats 4000000 in
set_option maxRecDepth 100000 in
theorem rX0_restore {ar : Nat → Nat → Nat} {c0 : Nat → Nat} {sz : Nat} {g : PH} {w w' : HS} {a0 : Nat} {a1 : Nat} {r : Int32} (P : Rel ar c0 sz g w) (hF : FX0_restore w a0 a1 = some (r, w')) : GR ar c0 sz r w' (fX0_restore g a0 a1) := by
  unfold FX0_restore at hF
  unfold fX0_restore
  replace hF := okb_some hF
  obtain ⟨h0, hF⟩ := hF
  replace h0 := P.cls h0
  refine GR.ok (P.rO h0 (by decide)) ?_
  refine GR.bind (P.rI (k := 1) h0 (by decide) (by decide) (by decide)) ?_
  by_cases c1 : (hi w a0 1) ≤ 0
  · replace hF := ite_t c1 hF
    refine GR.t c1 ?_
    exact rX0_restore_18  h0 P hF
  replace hF := ite_f c1 hF
  refine GR.f c1 ?_
  refine GR.bind (P.rI (k := 1) h0 (by decide) (by decide) (by decide)) ?_
  exact rX0_restore_18  h0 P hF
